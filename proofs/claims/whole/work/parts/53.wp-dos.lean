/-! what each block of the code asks (printed by wpgen.py) -/
theorem p_Dos_dropAll_0 {S : rz_S} {K : rz_S → Prop} (w : rz mDos_dropAll 2 [(0, .ref 39), (1, .int 0)] [] S (rz_v K)) : rz mDos_dropAll 0 [(0, .ref 39)] [] S (rz_v K) := by
  refine rz_iconst (v := 0) d_Dos_dropAll_0 (by decide) ?_
  refine rz_pure (pc' := 2) (l' := [(1, .int 0), (0, .ref 39)]) d_Dos_dropAll_1 rfl ?_
  exact rz_pick (ks := [0, 1]) (l := [(0, .ref 39), (1, .int 0)]) rfl rfl (by decide) rfl w
theorem p_Dos_dropAll_2 {S : rz_S} {K : rz_S → Prop} {a1 : Int32} (w : ((15 ≤ a1 → K S) ∧ (¬ 15 ≤ a1 → rx_in a1 15 = true ∧ rz mDos_dropAll 2 [(0, .ref 39), (1, .int (a1 + 1))] [] (rz_uI S (48 + 4 * a1.toNatClampNeg) 0 0) (rz_v K)))) : rz mDos_dropAll 2 [(0, .ref 39), (1, .int a1)] [] S (rz_v K) := by
  refine rz_pure (pc' := 3) d_Dos_dropAll_2 rfl ?_
  refine rz_bipush (v := 15) d_Dos_dropAll_3 (by decide) ?_
  refine rz_icmpge (tgt := 24) d_Dos_dropAll_5 rfl (fun b1 => ?_) (fun b1 => ?_)
  · skip
    exact rz_vretv d_Dos_dropAll_24 rfl (w.1 b1)
  · skip
    refine rz_pure (pc' := 9) d_Dos_dropAll_8 rfl ?_
    refine rz_getr d_Dos_dropAll_9 f_5_19 rfl rfl ?_
    refine rz_pure (pc' := 13) d_Dos_dropAll_12 rfl ?_
    have e2 := chI (w.2 b1).1
    have ze2 := chZ e2
    refine rz_aldC d_Dos_dropAll_13 rfl (w.2 b1).1 ?_
    refine rz_iconst (v := 0) d_Dos_dropAll_14 (by decide) ?_
    refine rz_puti d_Dos_dropAll_15 f_5_61 (chTP e2) rfl rfl ?_
    refine rz_pure (pc' := 21) (l' := [(1, .int (a1 + 1)), (0, .ref 39)]) d_Dos_dropAll_18 rfl ?_
    refine rz_pure (pc' := 2) d_Dos_dropAll_21 rfl ?_
    exact rz_pick (ks := [0, 1]) (l := [(0, .ref 39), (1, .int (a1 + 1))]) rfl rfl (by decide) rfl (w.2 b1).2
theorem d_Directory_writeEmpty_0 : decode (rm_code mDirectory_writeEmpty) 0 = .ok (.aload_n 0, 1) := by decide +kernel
theorem d_Directory_writeEmpty_1 : decode (rm_code mDirectory_writeEmpty) 1 = .ok (.getfield 9, 3) := by decide +kernel
theorem d_Directory_writeEmpty_4 : decode (rm_code mDirectory_writeEmpty) 4 = .ok (.iconst 0, 1) := by decide +kernel
theorem d_Directory_writeEmpty_5 : decode (rm_code mDirectory_writeEmpty) 5 = .ok (.invokestatic 99, 3) := by decide +kernel
theorem d_Directory_writeEmpty_8 : decode (rm_code mDirectory_writeEmpty) 8 = .ok (.aload_n 0, 1) := by decide +kernel
theorem d_Directory_writeEmpty_9 : decode (rm_code mDirectory_writeEmpty) 9 = .ok (.getfield 9, 3) := by decide +kernel
theorem d_Directory_writeEmpty_12 : decode (rm_code mDirectory_writeEmpty) 12 = .ok (.iconst 1, 1) := by decide +kernel
theorem d_Directory_writeEmpty_13 : decode (rm_code mDirectory_writeEmpty) 13 = .ok (.sipush (255), 3) := by decide +kernel
theorem d_Directory_writeEmpty_16 : decode (rm_code mDirectory_writeEmpty) 16 = .ok (.iastore, 1) := by decide +kernel
theorem d_Directory_writeEmpty_17 : decode (rm_code mDirectory_writeEmpty) 17 = .ok (.aload_n 0, 1) := by decide +kernel
theorem d_Directory_writeEmpty_18 : decode (rm_code mDirectory_writeEmpty) 18 = .ok (.iconst 0, 1) := by decide +kernel
theorem d_Directory_writeEmpty_19 : decode (rm_code mDirectory_writeEmpty) 19 = .ok (.putfield 40, 3) := by decide +kernel
theorem d_Directory_writeEmpty_22 : decode (rm_code mDirectory_writeEmpty) 22 = .ok (.aload_n 0, 1) := by decide +kernel
theorem d_Directory_writeEmpty_23 : decode (rm_code mDirectory_writeEmpty) 23 = .ok (.getfield 15, 3) := by decide +kernel
theorem d_Directory_writeEmpty_26 : decode (rm_code mDirectory_writeEmpty) 26 = .ok (.iload_n 1, 1) := by decide +kernel
theorem d_Directory_writeEmpty_27 : decode (rm_code mDirectory_writeEmpty) 27 = .ok (.iload_n 2, 1) := by decide +kernel
theorem d_Directory_writeEmpty_28 : decode (rm_code mDirectory_writeEmpty) 28 = .ok (.aload_n 0, 1) := by decide +kernel
theorem d_Directory_writeEmpty_29 : decode (rm_code mDirectory_writeEmpty) 29 = .ok (.getfield 9, 3) := by decide +kernel
theorem d_Directory_writeEmpty_32 : decode (rm_code mDirectory_writeEmpty) 32 = .ok (.invokevirtual 88, 3) := by decide +kernel
theorem d_Directory_writeEmpty_35 : decode (rm_code mDirectory_writeEmpty) 35 = .ok (.ireturn, 1) := by decide +kernel
theorem p_Directory_writeEmpty_0 {S : rz_S} {K : Int32 → rz_S → Prop} {a1 : Int32} {a2 : Int32} (w : rz_ev mArr_fill [.ref 47, .int 0] S (rz_v (fun Sq1 => rz_ev mDisk_writeBlock [.ref 6, .int a1, .int a2, .ref 47] (rz_uI (rz_fA Sq1 47 (upd (Sq1.1 47) 1 255)) 46 6 0) (rz_i (fun xq2 Sq2 => K xq2 Sq2))))) : rz mDirectory_writeEmpty 0 [(0, .ref 46), (1, .int a1), (2, .int a2)] [] S (rz_i K) := by
  refine rz_pure (pc' := 1) d_Directory_writeEmpty_0 rfl ?_
  refine rz_getr d_Directory_writeEmpty_1 f_3_9 rfl rfl ?_
  refine rz_iconst (v := 0) d_Directory_writeEmpty_4 (by decide) ?_
  refine rz_callSv (t := [.int 0, .ref 47]) d_Directory_writeEmpty_5 rfl w_3_99 rfl rfl w (fun Sq1 q1 => ?_)
  refine rz_pure (pc' := 9) d_Directory_writeEmpty_8 rfl ?_
  refine rz_getr d_Directory_writeEmpty_9 f_3_9 rfl rfl ?_
  refine rz_iconst (v := 1) d_Directory_writeEmpty_12 (by decide) ?_
  refine rz_sipush (v := 255) d_Directory_writeEmpty_13 (by decide) ?_
  refine rz_iastv (F := Sq1.1 47) (i := 1) d_Directory_writeEmpty_16 rfl (by decide) rfl (by decide) ?_
  refine rz_pure (pc' := 18) d_Directory_writeEmpty_17 rfl ?_
  refine rz_iconst (v := 0) d_Directory_writeEmpty_18 (by decide) ?_
  refine rz_puti d_Directory_writeEmpty_19 f_3_40 rfl rfl (by decide) ?_
  refine rz_pure (pc' := 23) d_Directory_writeEmpty_22 rfl ?_
  refine rz_getr d_Directory_writeEmpty_23 f_3_15 rfl rfl ?_
  refine rz_pure (pc' := 27) d_Directory_writeEmpty_26 rfl ?_
  refine rz_pure (pc' := 28) d_Directory_writeEmpty_27 rfl ?_
  refine rz_pure (pc' := 29) d_Directory_writeEmpty_28 rfl ?_
  refine rz_getr d_Directory_writeEmpty_29 f_3_9 rfl rfl ?_
  refine rz_callVi (t := [.ref 47, .int a2, .int a1]) d_Directory_writeEmpty_32 w_3_88 rfl rfl rfl q1 (fun xq2 Sq2 q2 => ?_)
  exact rz_ireti d_Directory_writeEmpty_35 rfl rfl q2
theorem d_Directory_rewind_0 : decode (rm_code mDirectory_rewind) 0 = .ok (.aload_n 0, 1) := by decide +kernel
theorem d_Directory_rewind_1 : decode (rm_code mDirectory_rewind) 1 = .ok (.bipush (7), 2) := by decide +kernel
theorem d_Directory_rewind_3 : decode (rm_code mDirectory_rewind) 3 = .ok (.iconst 1, 1) := by decide +kernel
theorem d_Directory_rewind_4 : decode (rm_code mDirectory_rewind) 4 = .ok (.iconst 1, 1) := by decide +kernel
theorem d_Directory_rewind_5 : decode (rm_code mDirectory_rewind) 5 = .ok (.iconst (-1), 1) := by decide +kernel
theorem d_Directory_rewind_6 : decode (rm_code mDirectory_rewind) 6 = .ok (.invokevirtual 23, 3) := by decide +kernel
theorem d_Directory_rewind_9 : decode (rm_code mDirectory_rewind) 9 = .ok (.return_, 1) := by decide +kernel
theorem p_Directory_rewind_0 {S : rz_S} {K : rz_S → Prop} (w : rz_ev mDirectory_goTo [.ref 46, .int 7, .int 1, .int 1, .int (-1)] S (rz_v (fun Sq1 => K Sq1))) : rz mDirectory_rewind 0 [(0, .ref 46)] [] S (rz_v K) := by
  refine rz_pure (pc' := 1) d_Directory_rewind_0 rfl ?_
  refine rz_bipush (v := 7) d_Directory_rewind_1 (by decide) ?_
  refine rz_iconst (v := 1) d_Directory_rewind_3 (by decide) ?_
  refine rz_iconst (v := 1) d_Directory_rewind_4 (by decide) ?_
  refine rz_iconst (v := -1) d_Directory_rewind_5 (by decide) ?_
  refine rz_callVv (t := [.int (-1), .int 1, .int 1, .int 7]) d_Directory_rewind_6 w_3_23 rfl rfl rfl w (fun Sq1 q1 => ?_)
  exact rz_vretv d_Directory_rewind_9 rfl q1
theorem d_Directory_goTo_0 : decode (rm_code mDirectory_goTo) 0 = .ok (.aload_n 0, 1) := by decide +kernel
theorem d_Directory_goTo_1 : decode (rm_code mDirectory_goTo) 1 = .ok (.iload_n 1, 1) := by decide +kernel
theorem d_Directory_goTo_2 : decode (rm_code mDirectory_goTo) 2 = .ok (.putfield 27, 3) := by decide +kernel
theorem d_Directory_goTo_5 : decode (rm_code mDirectory_goTo) 5 = .ok (.aload_n 0, 1) := by decide +kernel
theorem d_Directory_goTo_6 : decode (rm_code mDirectory_goTo) 6 = .ok (.iload_n 2, 1) := by decide +kernel
theorem d_Directory_goTo_7 : decode (rm_code mDirectory_goTo) 7 = .ok (.putfield 31, 3) := by decide +kernel
theorem d_Directory_goTo_10 : decode (rm_code mDirectory_goTo) 10 = .ok (.aload_n 0, 1) := by decide +kernel
theorem d_Directory_goTo_11 : decode (rm_code mDirectory_goTo) 11 = .ok (.iload_n 3, 1) := by decide +kernel
theorem d_Directory_goTo_12 : decode (rm_code mDirectory_goTo) 12 = .ok (.putfield 34, 3) := by decide +kernel
theorem d_Directory_goTo_15 : decode (rm_code mDirectory_goTo) 15 = .ok (.aload_n 0, 1) := by decide +kernel
theorem d_Directory_goTo_16 : decode (rm_code mDirectory_goTo) 16 = .ok (.iload 4, 2) := by decide +kernel
theorem d_Directory_goTo_18 : decode (rm_code mDirectory_goTo) 18 = .ok (.putfield 37, 3) := by decide +kernel
theorem d_Directory_goTo_21 : decode (rm_code mDirectory_goTo) 21 = .ok (.aload_n 0, 1) := by decide +kernel
theorem d_Directory_goTo_22 : decode (rm_code mDirectory_goTo) 22 = .ok (.iconst 0, 1) := by decide +kernel
theorem d_Directory_goTo_23 : decode (rm_code mDirectory_goTo) 23 = .ok (.putfield 40, 3) := by decide +kernel
theorem d_Directory_goTo_26 : decode (rm_code mDirectory_goTo) 26 = .ok (.return_, 1) := by decide +kernel
theorem p_Directory_goTo_0 {S : rz_S} {K : rz_S → Prop} {a1 : Int32} {a2 : Int32} {a3 : Int32} {a4 : Int32} (w : K (rz_uI (rz_uI (rz_uI (rz_uI (rz_uI S 46 1 a1) 46 2 a2) 46 3 a3) 46 4 a4) 46 6 0)) : rz mDirectory_goTo 0 [(0, .ref 46), (1, .int a1), (2, .int a2), (3, .int a3), (4, .int a4)] [] S (rz_v K) := by
  refine rz_pure (pc' := 1) d_Directory_goTo_0 rfl ?_
  refine rz_pure (pc' := 2) d_Directory_goTo_1 rfl ?_
  refine rz_puti d_Directory_goTo_2 f_3_27 rfl rfl rfl ?_
  refine rz_pure (pc' := 6) d_Directory_goTo_5 rfl ?_
  refine rz_pure (pc' := 7) d_Directory_goTo_6 rfl ?_
  refine rz_puti d_Directory_goTo_7 f_3_31 rfl rfl rfl ?_
  refine rz_pure (pc' := 11) d_Directory_goTo_10 rfl ?_
  refine rz_pure (pc' := 12) d_Directory_goTo_11 rfl ?_
  refine rz_puti d_Directory_goTo_12 f_3_34 rfl rfl rfl ?_
  refine rz_pure (pc' := 16) d_Directory_goTo_15 rfl ?_
  refine rz_pure (pc' := 18) d_Directory_goTo_16 rfl ?_
  refine rz_puti d_Directory_goTo_18 f_3_37 rfl rfl rfl ?_
  refine rz_pure (pc' := 22) d_Directory_goTo_21 rfl ?_
  refine rz_iconst (v := 0) d_Directory_goTo_22 (by decide) ?_
  refine rz_puti d_Directory_goTo_23 f_3_40 rfl rfl (by decide) ?_
  exact rz_vretv d_Directory_goTo_26 rfl w
theorem d_Directory_find_0 : decode (rm_code mDirectory_find) 0 = .ok (.aload_n 0, 1) := by decide +kernel
theorem d_Directory_find_1 : decode (rm_code mDirectory_find) 1 = .ok (.iconst 0, 1) := by decide +kernel
theorem d_Directory_find_2 : decode (rm_code mDirectory_find) 2 = .ok (.putfield 44, 3) := by decide +kernel
theorem d_Directory_find_5 : decode (rm_code mDirectory_find) 5 = .ok (.iconst 0, 1) := by decide +kernel
theorem d_Directory_find_6 : decode (rm_code mDirectory_find) 6 = .ok (.istore_n 3, 1) := by decide +kernel
theorem d_Directory_find_7 : decode (rm_code mDirectory_find) 7 = .ok (.iload_n 3, 1) := by decide +kernel
theorem d_Directory_find_8 : decode (rm_code mDirectory_find) 8 = .ok (.bipush (30), 2) := by decide +kernel
theorem d_Directory_find_10 : decode (rm_code mDirectory_find) 10 = .ok (.if_icmp .ge (160), 3) := by decide +kernel
theorem d_Directory_find_13 : decode (rm_code mDirectory_find) 13 = .ok (.aload_n 0, 1) := by decide +kernel
theorem d_Directory_find_14 : decode (rm_code mDirectory_find) 14 = .ok (.getfield 40, 3) := by decide +kernel
theorem d_Directory_find_17 : decode (rm_code mDirectory_find) 17 = .ok (.ifCond .eq (7), 3) := by decide +kernel
theorem d_Directory_find_20 : decode (rm_code mDirectory_find) 20 = .ok (.iconst 0, 1) := by decide +kernel
theorem d_Directory_find_21 : decode (rm_code mDirectory_find) 21 = .ok (.goto (22), 3) := by decide +kernel
theorem d_Directory_find_24 : decode (rm_code mDirectory_find) 24 = .ok (.aload_n 0, 1) := by decide +kernel
theorem d_Directory_find_25 : decode (rm_code mDirectory_find) 25 = .ok (.getfield 15, 3) := by decide +kernel
theorem d_Directory_find_28 : decode (rm_code mDirectory_find) 28 = .ok (.aload_n 0, 1) := by decide +kernel
theorem d_Directory_find_29 : decode (rm_code mDirectory_find) 29 = .ok (.getfield 27, 3) := by decide +kernel
theorem d_Directory_find_32 : decode (rm_code mDirectory_find) 32 = .ok (.aload_n 0, 1) := by decide +kernel
theorem d_Directory_find_33 : decode (rm_code mDirectory_find) 33 = .ok (.getfield 31, 3) := by decide +kernel
theorem d_Directory_find_36 : decode (rm_code mDirectory_find) 36 = .ok (.aload_n 0, 1) := by decide +kernel
theorem d_Directory_find_37 : decode (rm_code mDirectory_find) 37 = .ok (.getfield 9, 3) := by decide +kernel
theorem d_Directory_find_40 : decode (rm_code mDirectory_find) 40 = .ok (.invokevirtual 47, 3) := by decide +kernel
theorem d_Directory_find_43 : decode (rm_code mDirectory_find) 43 = .ok (.istore 4, 2) := by decide +kernel
theorem d_Directory_find_45 : decode (rm_code mDirectory_find) 45 = .ok (.iload 4, 2) := by decide +kernel
theorem d_Directory_find_47 : decode (rm_code mDirectory_find) 47 = .ok (.ifCond .eq (6), 3) := by decide +kernel
theorem d_Directory_find_50 : decode (rm_code mDirectory_find) 50 = .ok (.iload 4, 2) := by decide +kernel
theorem d_Directory_find_52 : decode (rm_code mDirectory_find) 52 = .ok (.ireturn, 1) := by decide +kernel
theorem d_Directory_find_53 : decode (rm_code mDirectory_find) 53 = .ok (.aload_n 0, 1) := by decide +kernel
theorem d_Directory_find_54 : decode (rm_code mDirectory_find) 54 = .ok (.iconst 1, 1) := by decide +kernel
theorem d_Directory_find_55 : decode (rm_code mDirectory_find) 55 = .ok (.putfield 40, 3) := by decide +kernel
theorem d_Directory_find_58 : decode (rm_code mDirectory_find) 58 = .ok (.aload_n 0, 1) := by decide +kernel
theorem d_Directory_find_59 : decode (rm_code mDirectory_find) 59 = .ok (.dup, 1) := by decide +kernel
theorem d_Directory_find_60 : decode (rm_code mDirectory_find) 60 = .ok (.getfield 37, 3) := by decide +kernel
theorem d_Directory_find_63 : decode (rm_code mDirectory_find) 63 = .ok (.iconst 1, 1) := by decide +kernel
theorem d_Directory_find_64 : decode (rm_code mDirectory_find) 64 = .ok (.iadd, 1) := by decide +kernel
theorem d_Directory_find_65 : decode (rm_code mDirectory_find) 65 = .ok (.putfield 37, 3) := by decide +kernel
theorem d_Directory_find_68 : decode (rm_code mDirectory_find) 68 = .ok (.aload_n 0, 1) := by decide +kernel
theorem d_Directory_find_69 : decode (rm_code mDirectory_find) 69 = .ok (.getfield 37, 3) := by decide +kernel
theorem d_Directory_find_72 : decode (rm_code mDirectory_find) 72 = .ok (.iconst 4, 1) := by decide +kernel
theorem d_Directory_find_73 : decode (rm_code mDirectory_find) 73 = .ok (.if_icmp .ge (19), 3) := by decide +kernel
theorem d_Directory_find_76 : decode (rm_code mDirectory_find) 76 = .ok (.aload_n 0, 1) := by decide +kernel
theorem d_Directory_find_77 : decode (rm_code mDirectory_find) 77 = .ok (.iload_n 1, 1) := by decide +kernel
theorem d_Directory_find_78 : decode (rm_code mDirectory_find) 78 = .ok (.aload_n 2, 1) := by decide +kernel
theorem d_Directory_find_79 : decode (rm_code mDirectory_find) 79 = .ok (.invokevirtual 51, 3) := by decide +kernel
theorem d_Directory_find_82 : decode (rm_code mDirectory_find) 82 = .ok (.ifCond .eq (82), 3) := by decide +kernel
theorem d_Directory_find_85 : decode (rm_code mDirectory_find) 85 = .ok (.aload_n 0, 1) := by decide +kernel
theorem d_Directory_find_86 : decode (rm_code mDirectory_find) 86 = .ok (.iconst 1, 1) := by decide +kernel
theorem d_Directory_find_87 : decode (rm_code mDirectory_find) 87 = .ok (.putfield 44, 3) := by decide +kernel
theorem d_Directory_find_90 : decode (rm_code mDirectory_find) 90 = .ok (.iconst 0, 1) := by decide +kernel
theorem d_Directory_find_91 : decode (rm_code mDirectory_find) 91 = .ok (.ireturn, 1) := by decide +kernel
theorem d_Directory_find_92 : decode (rm_code mDirectory_find) 92 = .ok (.aload_n 0, 1) := by decide +kernel
theorem d_Directory_find_93 : decode (rm_code mDirectory_find) 93 = .ok (.invokevirtual 55, 3) := by decide +kernel
theorem d_Directory_find_96 : decode (rm_code mDirectory_find) 96 = .ok (.ifCond .eq (5), 3) := by decide +kernel
theorem d_Directory_find_99 : decode (rm_code mDirectory_find) 99 = .ok (.iconst 0, 1) := by decide +kernel
theorem d_Directory_find_100 : decode (rm_code mDirectory_find) 100 = .ok (.ireturn, 1) := by decide +kernel
theorem d_Directory_find_101 : decode (rm_code mDirectory_find) 101 = .ok (.aload_n 0, 1) := by decide +kernel
theorem d_Directory_find_102 : decode (rm_code mDirectory_find) 102 = .ok (.getfield 9, 3) := by decide +kernel
theorem d_Directory_find_105 : decode (rm_code mDirectory_find) 105 = .ok (.iconst 0, 1) := by decide +kernel
theorem d_Directory_find_106 : decode (rm_code mDirectory_find) 106 = .ok (.iaload, 1) := by decide +kernel
theorem d_Directory_find_107 : decode (rm_code mDirectory_find) 107 = .ok (.aload_n 0, 1) := by decide +kernel
theorem d_Directory_find_108 : decode (rm_code mDirectory_find) 108 = .ok (.getfield 9, 3) := by decide +kernel
theorem d_Directory_find_111 : decode (rm_code mDirectory_find) 111 = .ok (.iconst 1, 1) := by decide +kernel
theorem d_Directory_find_112 : decode (rm_code mDirectory_find) 112 = .ok (.iaload, 1) := by decide +kernel
theorem d_Directory_find_113 : decode (rm_code mDirectory_find) 113 = .ok (.invokestatic 59, 3) := by decide +kernel
theorem d_Directory_find_116 : decode (rm_code mDirectory_find) 116 = .ok (.ifCond .ne (25), 3) := by decide +kernel
theorem d_Directory_find_119 : decode (rm_code mDirectory_find) 119 = .ok (.aload_n 0, 1) := by decide +kernel
theorem d_Directory_find_120 : decode (rm_code mDirectory_find) 120 = .ok (.getfield 19, 3) := by decide +kernel
theorem d_Directory_find_123 : decode (rm_code mDirectory_find) 123 = .ok (.bipush (71), 2) := by decide +kernel
theorem d_Directory_find_125 : decode (rm_code mDirectory_find) 125 = .ok (.aload_n 0, 1) := by decide +kernel
theorem d_Directory_find_126 : decode (rm_code mDirectory_find) 126 = .ok (.getfield 9, 3) := by decide +kernel
theorem d_Directory_find_129 : decode (rm_code mDirectory_find) 129 = .ok (.iconst 0, 1) := by decide +kernel
theorem d_Directory_find_130 : decode (rm_code mDirectory_find) 130 = .ok (.iaload, 1) := by decide +kernel
theorem d_Directory_find_131 : decode (rm_code mDirectory_find) 131 = .ok (.aload_n 0, 1) := by decide +kernel
theorem d_Directory_find_132 : decode (rm_code mDirectory_find) 132 = .ok (.getfield 9, 3) := by decide +kernel
theorem d_Directory_find_135 : decode (rm_code mDirectory_find) 135 = .ok (.iconst 1, 1) := by decide +kernel
theorem d_Directory_find_136 : decode (rm_code mDirectory_find) 136 = .ok (.iaload, 1) := by decide +kernel
theorem d_Directory_find_137 : decode (rm_code mDirectory_find) 137 = .ok (.invokevirtual 63, 3) := by decide +kernel
theorem d_Directory_find_140 : decode (rm_code mDirectory_find) 140 = .ok (.ireturn, 1) := by decide +kernel
theorem d_Directory_find_141 : decode (rm_code mDirectory_find) 141 = .ok (.aload_n 0, 1) := by decide +kernel
theorem d_Directory_find_142 : decode (rm_code mDirectory_find) 142 = .ok (.aload_n 0, 1) := by decide +kernel
theorem d_Directory_find_143 : decode (rm_code mDirectory_find) 143 = .ok (.getfield 9, 3) := by decide +kernel
theorem d_Directory_find_146 : decode (rm_code mDirectory_find) 146 = .ok (.iconst 0, 1) := by decide +kernel
theorem d_Directory_find_147 : decode (rm_code mDirectory_find) 147 = .ok (.iaload, 1) := by decide +kernel
theorem d_Directory_find_148 : decode (rm_code mDirectory_find) 148 = .ok (.aload_n 0, 1) := by decide +kernel
theorem d_Directory_find_149 : decode (rm_code mDirectory_find) 149 = .ok (.getfield 9, 3) := by decide +kernel
theorem d_Directory_find_152 : decode (rm_code mDirectory_find) 152 = .ok (.iconst 1, 1) := by decide +kernel
theorem d_Directory_find_153 : decode (rm_code mDirectory_find) 153 = .ok (.iaload, 1) := by decide +kernel
theorem d_Directory_find_154 : decode (rm_code mDirectory_find) 154 = .ok (.aload_n 0, 1) := by decide +kernel
theorem d_Directory_find_155 : decode (rm_code mDirectory_find) 155 = .ok (.getfield 34, 3) := by decide +kernel
theorem d_Directory_find_158 : decode (rm_code mDirectory_find) 158 = .ok (.iconst 1, 1) := by decide +kernel
theorem d_Directory_find_159 : decode (rm_code mDirectory_find) 159 = .ok (.iadd, 1) := by decide +kernel
theorem d_Directory_find_160 : decode (rm_code mDirectory_find) 160 = .ok (.iconst (-1), 1) := by decide +kernel
theorem d_Directory_find_161 : decode (rm_code mDirectory_find) 161 = .ok (.invokevirtual 23, 3) := by decide +kernel
theorem d_Directory_find_164 : decode (rm_code mDirectory_find) 164 = .ok (.iinc 3 (1), 3) := by decide +kernel
theorem d_Directory_find_167 : decode (rm_code mDirectory_find) 167 = .ok (.goto (-160), 3) := by decide +kernel
theorem d_Directory_find_170 : decode (rm_code mDirectory_find) 170 = .ok (.iconst 0, 1) := by decide +kernel
theorem d_Directory_find_171 : decode (rm_code mDirectory_find) 171 = .ok (.ireturn, 1) := by decide +kernel
theorem p_Directory_find_0 {S : rz_S} {K : Int32 → rz_S → Prop} {a1 : Int32} {a2 : Nat} (ha2 : ptP a2) (w : rz mDirectory_find 7 [(0, .ref 46), (1, .int a1), (2, .ref a2), (3, .int 0)] [] (rz_uI S 46 5 0) (rz_i K)) : rz mDirectory_find 0 [(0, .ref 46), (1, .int a1), (2, .ref a2)] [] S (rz_i K) := by
  refine rz_pure (pc' := 1) d_Directory_find_0 rfl ?_
  refine rz_iconst (v := 0) d_Directory_find_1 (by decide) ?_
  refine rz_puti d_Directory_find_2 f_3_44 rfl rfl (by decide) ?_
  refine rz_iconst (v := 0) d_Directory_find_5 (by decide) ?_
  refine rz_pure (pc' := 7) (l' := [(3, .int 0), (0, .ref 46), (1, .int a1), (2, .ref a2)]) d_Directory_find_6 rfl ?_
  exact rz_pick (ks := [0, 1, 2, 3]) (l := [(0, .ref 46), (1, .int a1), (2, .ref a2), (3, .int 0)]) rfl rfl (by decide) rfl w
theorem p_Directory_find_7 {S : rz_S} {K : Int32 → rz_S → Prop} {a1 : Int32} {a2 : Nat} (ha2 : ptP a2) {a3 : Int32} (w : ((30 ≤ a3 → K 0 S) ∧ (¬ 30 ≤ a3 → ((S.2 46 6 = 0 → rz_ev mDisk_readBlock [.ref 6, .int (S.2 46 1), .int (S.2 46 2), .ref 47] S (rz_i (fun xq3 Sq3 => rz mDirectory_find 43 [(0, .ref 46), (1, .int a1), (2, .ref a2), (3, .int a3)] [.int xq3] Sq3 (rz_i K)))) ∧ (¬ S.2 46 6 = 0 → rz mDirectory_find 43 [(0, .ref 46), (1, .int a1), (2, .ref a2), (3, .int a3)] [.int 0] S (rz_i K)))))) : rz mDirectory_find 7 [(0, .ref 46), (1, .int a1), (2, .ref a2), (3, .int a3)] [] S (rz_i K) := by
  refine rz_pure (pc' := 8) d_Directory_find_7 rfl ?_
  refine rz_bipush (v := 30) d_Directory_find_8 (by decide) ?_
  refine rz_icmpge (tgt := 170) d_Directory_find_10 rfl (fun b1 => ?_) (fun b1 => ?_)
  · skip
    refine rz_iconst (v := 0) d_Directory_find_170 (by decide) ?_
    exact rz_ireti d_Directory_find_171 rfl rfl (w.1 b1)
  · skip
    refine rz_pure (pc' := 14) d_Directory_find_13 rfl ?_
    refine rz_getiv (v := S.2 46 6) d_Directory_find_14 f_3_40 rfl rfl rfl ?_
    refine rz_ifeq (tgt := 24) d_Directory_find_17 rfl (fun b2 => ?_) (fun b2 => ?_)
    · skip
      refine rz_pure (pc' := 25) d_Directory_find_24 rfl ?_
      refine rz_getr d_Directory_find_25 f_3_15 rfl rfl ?_
      refine rz_pure (pc' := 29) d_Directory_find_28 rfl ?_
      refine rz_getiv (v := S.2 46 1) d_Directory_find_29 f_3_27 rfl rfl rfl ?_
      refine rz_pure (pc' := 33) d_Directory_find_32 rfl ?_
      refine rz_getiv (v := S.2 46 2) d_Directory_find_33 f_3_31 rfl rfl rfl ?_
      refine rz_pure (pc' := 37) d_Directory_find_36 rfl ?_
      refine rz_getr d_Directory_find_37 f_3_9 rfl rfl ?_
      refine rz_callVi (t := [.ref 47, .int (S.2 46 2), .int (S.2 46 1)]) d_Directory_find_40 w_3_47 rfl rfl rfl ((w.2 b1).1 b2) (fun xq3 Sq3 q3 => ?_)
      exact rz_pick (ks := [0, 1, 2, 3]) (l := [(0, .ref 46), (1, .int a1), (2, .ref a2), (3, .int a3)]) rfl rfl (by decide) rfl q3
    · skip
      refine rz_iconst (v := 0) d_Directory_find_20 (by decide) ?_
      refine rz_pure (pc' := 43) d_Directory_find_21 rfl ?_
      exact rz_pick (ks := [0, 1, 2, 3]) (l := [(0, .ref 46), (1, .int a1), (2, .ref a2), (3, .int a3)]) rfl rfl (by decide) rfl ((w.2 b1).2 b2)
theorem p_Directory_find_43 {S : rz_S} {K : Int32 → rz_S → Prop} {a1 : Int32} {a2 : Nat} (ha2 : ptP a2) {a3 : Int32} {s0 : Int32} (w : ((s0 = 0 → ((4 ≤ (S.2 46 4) + 1 → rz_ev mDirectory_isLast [.ref 46] (rz_uI (rz_uI S 46 6 1) 46 4 ((S.2 46 4) + 1)) (rz_i (fun xq3 Sq3 => ((xq3 = 0 → rz_ev mDisk_isLegal [.int (Sq3.1 47 0), .int (Sq3.1 47 1)] Sq3 (rz_i (fun xq5 Sq5 => ((xq5 = 0 → rz_ev mStatus_set [.ref 3, .int 71, .int (Sq5.1 47 0), .int (Sq5.1 47 1)] Sq5 (rz_i (fun xq8 Sq8 => K xq8 Sq8))) ∧ (¬ xq5 = 0 → rz_ev mDirectory_goTo [.ref 46, .int (Sq5.1 47 0), .int (Sq5.1 47 1), .int ((Sq5.2 46 3) + 1), .int (-1)] Sq5 (rz_v (fun Sq7 => rz mDirectory_find 7 [(0, .ref 46), (1, .int a1), (2, .ref a2), (3, .int (a3 + 1))] [] Sq7 (rz_i K)))))))) ∧ (¬ xq3 = 0 → K 0 Sq3))))) ∧ (¬ 4 ≤ (S.2 46 4) + 1 → rz_ev mDirectory_isWanted [.ref 46, .int a1, .ref a2] (rz_uI (rz_uI S 46 6 1) 46 4 ((S.2 46 4) + 1)) (rz_i (fun xq9 Sq9 => ((xq9 = 0 → rz mDirectory_find 7 [(0, .ref 46), (1, .int a1), (2, .ref a2), (3, .int (a3 + 1))] [] Sq9 (rz_i K)) ∧ (¬ xq9 = 0 → K 0 (rz_uI Sq9 46 5 1)))))))) ∧ (¬ s0 = 0 → K s0 S))) : rz mDirectory_find 43 [(0, .ref 46), (1, .int a1), (2, .ref a2), (3, .int a3)] [.int s0] S (rz_i K) := by
  refine rz_pure (pc' := 45) (l' := [(4, .int s0), (0, .ref 46), (1, .int a1), (2, .ref a2), (3, .int a3)]) d_Directory_find_43 rfl ?_
  refine rz_pure (pc' := 47) d_Directory_find_45 rfl ?_
  refine rz_ifeq (tgt := 53) d_Directory_find_47 rfl (fun b1 => ?_) (fun b1 => ?_)
  · skip
    refine rz_pure (pc' := 54) d_Directory_find_53 rfl ?_
    refine rz_iconst (v := 1) d_Directory_find_54 (by decide) ?_
    refine rz_puti d_Directory_find_55 f_3_40 rfl rfl (by decide) ?_
    refine rz_pure (pc' := 59) d_Directory_find_58 rfl ?_
    refine rz_pure (pc' := 60) d_Directory_find_59 rfl ?_
    refine rz_getiv (v := S.2 46 4) d_Directory_find_60 f_3_37 rfl rfl ((rz_uI_n (fun h => absurd h.2 (by decide))).trans rfl) ?_
    refine rz_iconst (v := 1) d_Directory_find_63 (by decide) ?_
    refine rz_iadd d_Directory_find_64 ?_
    refine rz_puti d_Directory_find_65 f_3_37 rfl rfl rfl ?_
    refine rz_pure (pc' := 69) d_Directory_find_68 rfl ?_
    refine rz_getiv (v := (S.2 46 4) + 1) d_Directory_find_69 f_3_37 rfl rfl rz_uI_s ?_
    refine rz_iconst (v := 4) d_Directory_find_72 (by decide) ?_
    refine rz_icmpge (tgt := 92) d_Directory_find_73 rfl (fun b2 => ?_) (fun b2 => ?_)
    · skip
      refine rz_pure (pc' := 93) d_Directory_find_92 rfl ?_
      refine rz_callVi (t := []) d_Directory_find_93 w_3_55 rfl rfl rfl ((w.1 b1).1 b2) (fun xq3 Sq3 q3 => ?_)
      refine rz_ifeq (tgt := 101) d_Directory_find_96 rfl (fun b4 => ?_) (fun b4 => ?_)
      · skip
        refine rz_pure (pc' := 102) d_Directory_find_101 rfl ?_
        refine rz_getr d_Directory_find_102 f_3_9 rfl rfl ?_
        refine rz_iconst (v := 0) d_Directory_find_105 (by decide) ?_
        refine rz_ialdv (F := Sq3.1 47) (i := 0) d_Directory_find_106 rfl (by decide) rfl (by decide) ?_
        refine rz_pure (pc' := 108) d_Directory_find_107 rfl ?_
        refine rz_getr d_Directory_find_108 f_3_9 rfl rfl ?_
        refine rz_iconst (v := 1) d_Directory_find_111 (by decide) ?_
        refine rz_ialdv (F := Sq3.1 47) (i := 1) d_Directory_find_112 rfl (by decide) rfl (by decide) ?_
        refine rz_callSi (t := [.int (Sq3.1 47 1), .int (Sq3.1 47 0)]) d_Directory_find_113 rfl w_3_59 rfl rfl (q3.1 b4) (fun xq5 Sq5 q5 => ?_)
        refine rz_ifne (tgt := 141) d_Directory_find_116 rfl (fun b6 => ?_) (fun b6 => ?_)
        · skip
          refine rz_pure (pc' := 142) d_Directory_find_141 rfl ?_
          refine rz_pure (pc' := 143) d_Directory_find_142 rfl ?_
          refine rz_getr d_Directory_find_143 f_3_9 rfl rfl ?_
          refine rz_iconst (v := 0) d_Directory_find_146 (by decide) ?_
          refine rz_ialdv (F := Sq5.1 47) (i := 0) d_Directory_find_147 rfl (by decide) rfl (by decide) ?_
          refine rz_pure (pc' := 149) d_Directory_find_148 rfl ?_
          refine rz_getr d_Directory_find_149 f_3_9 rfl rfl ?_
          refine rz_iconst (v := 1) d_Directory_find_152 (by decide) ?_
          refine rz_ialdv (F := Sq5.1 47) (i := 1) d_Directory_find_153 rfl (by decide) rfl (by decide) ?_
          refine rz_pure (pc' := 155) d_Directory_find_154 rfl ?_
          refine rz_getiv (v := Sq5.2 46 3) d_Directory_find_155 f_3_34 rfl rfl rfl ?_
          refine rz_iconst (v := 1) d_Directory_find_158 (by decide) ?_
          refine rz_iadd d_Directory_find_159 ?_
          refine rz_iconst (v := -1) d_Directory_find_160 (by decide) ?_
          refine rz_callVv (t := [.int (-1), .int ((Sq5.2 46 3) + 1), .int (Sq5.1 47 1), .int (Sq5.1 47 0)]) d_Directory_find_161 w_3_23 rfl rfl rfl (q5.2 b6) (fun Sq7 q7 => ?_)
          refine rz_pure (pc' := 167) (l' := [(3, .int (a3 + 1)), (4, .int s0), (0, .ref 46), (1, .int a1), (2, .ref a2)]) d_Directory_find_164 rfl ?_
          refine rz_pure (pc' := 7) d_Directory_find_167 rfl ?_
          exact rz_pick (ks := [0, 1, 2, 3]) (l := [(0, .ref 46), (1, .int a1), (2, .ref a2), (3, .int (a3 + 1))]) rfl rfl (by decide) rfl q7
        · skip
          refine rz_pure (pc' := 120) d_Directory_find_119 rfl ?_
          refine rz_getr d_Directory_find_120 f_3_19 rfl rfl ?_
          refine rz_bipush (v := 71) d_Directory_find_123 (by decide) ?_
          refine rz_pure (pc' := 126) d_Directory_find_125 rfl ?_
          refine rz_getr d_Directory_find_126 f_3_9 rfl rfl ?_
          refine rz_iconst (v := 0) d_Directory_find_129 (by decide) ?_
          refine rz_ialdv (F := Sq5.1 47) (i := 0) d_Directory_find_130 rfl (by decide) rfl (by decide) ?_
          refine rz_pure (pc' := 132) d_Directory_find_131 rfl ?_
          refine rz_getr d_Directory_find_132 f_3_9 rfl rfl ?_
          refine rz_iconst (v := 1) d_Directory_find_135 (by decide) ?_
          refine rz_ialdv (F := Sq5.1 47) (i := 1) d_Directory_find_136 rfl (by decide) rfl (by decide) ?_
          refine rz_callVi (t := [.int (Sq5.1 47 1), .int (Sq5.1 47 0), .int 71]) d_Directory_find_137 w_3_63 rfl rfl rfl (q5.1 b6) (fun xq8 Sq8 q8 => ?_)
          exact rz_ireti d_Directory_find_140 rfl rfl q8
      · skip
        refine rz_iconst (v := 0) d_Directory_find_99 (by decide) ?_
        exact rz_ireti d_Directory_find_100 rfl rfl (q3.2 b4)
    · skip
      refine rz_pure (pc' := 77) d_Directory_find_76 rfl ?_
      refine rz_pure (pc' := 78) d_Directory_find_77 rfl ?_
      refine rz_pure (pc' := 79) d_Directory_find_78 rfl ?_
      refine rz_callVi (t := [.ref a2, .int a1]) d_Directory_find_79 w_3_51 rfl rfl rfl ((w.1 b1).2 b2) (fun xq9 Sq9 q9 => ?_)
      refine rz_ifeq (tgt := 164) d_Directory_find_82 rfl (fun b10 => ?_) (fun b10 => ?_)
      · skip
        refine rz_pure (pc' := 167) (l' := [(3, .int (a3 + 1)), (4, .int s0), (0, .ref 46), (1, .int a1), (2, .ref a2)]) d_Directory_find_164 rfl ?_
        refine rz_pure (pc' := 7) d_Directory_find_167 rfl ?_
        exact rz_pick (ks := [0, 1, 2, 3]) (l := [(0, .ref 46), (1, .int a1), (2, .ref a2), (3, .int (a3 + 1))]) rfl rfl (by decide) rfl (q9.1 b10)
      · skip
        refine rz_pure (pc' := 86) d_Directory_find_85 rfl ?_
        refine rz_iconst (v := 1) d_Directory_find_86 (by decide) ?_
        refine rz_puti d_Directory_find_87 f_3_44 rfl rfl (by decide) ?_
        refine rz_iconst (v := 0) d_Directory_find_90 (by decide) ?_
        exact rz_ireti d_Directory_find_91 rfl rfl (q9.2 b10)
  · skip
    refine rz_pure (pc' := 52) d_Directory_find_50 rfl ?_
    exact rz_ireti d_Directory_find_52 rfl rfl (w.2 b1)
theorem d_Directory_isWanted_0 : decode (rm_code mDirectory_isWanted) 0 = .ok (.aload_n 0, 1) := by decide +kernel
theorem d_Directory_isWanted_1 : decode (rm_code mDirectory_isWanted) 1 = .ok (.invokevirtual 72, 3) := by decide +kernel
theorem d_Directory_isWanted_4 : decode (rm_code mDirectory_isWanted) 4 = .ok (.iconst 5, 1) := by decide +kernel
theorem d_Directory_isWanted_5 : decode (rm_code mDirectory_isWanted) 5 = .ok (.iadd, 1) := by decide +kernel
theorem d_Directory_isWanted_6 : decode (rm_code mDirectory_isWanted) 6 = .ok (.istore_n 3, 1) := by decide +kernel
theorem d_Directory_isWanted_7 : decode (rm_code mDirectory_isWanted) 7 = .ok (.iload_n 1, 1) := by decide +kernel
theorem d_Directory_isWanted_8 : decode (rm_code mDirectory_isWanted) 8 = .ok (.lookupswitch (66) #[((1), (41)), ((2), (28))], 28) := by decide +kernel
theorem d_Directory_isWanted_36 : decode (rm_code mDirectory_isWanted) 36 = .ok (.aload_n 0, 1) := by decide +kernel
theorem d_Directory_isWanted_37 : decode (rm_code mDirectory_isWanted) 37 = .ok (.invokevirtual 76, 3) := by decide +kernel
theorem d_Directory_isWanted_40 : decode (rm_code mDirectory_isWanted) 40 = .ok (.ifCond .ne (7), 3) := by decide +kernel
theorem d_Directory_isWanted_43 : decode (rm_code mDirectory_isWanted) 43 = .ok (.iconst 1, 1) := by decide +kernel
theorem d_Directory_isWanted_44 : decode (rm_code mDirectory_isWanted) 44 = .ok (.goto (4), 3) := by decide +kernel
theorem d_Directory_isWanted_47 : decode (rm_code mDirectory_isWanted) 47 = .ok (.iconst 0, 1) := by decide +kernel
theorem d_Directory_isWanted_48 : decode (rm_code mDirectory_isWanted) 48 = .ok (.ireturn, 1) := by decide +kernel
theorem d_Directory_isWanted_49 : decode (rm_code mDirectory_isWanted) 49 = .ok (.aload_n 0, 1) := by decide +kernel
theorem d_Directory_isWanted_50 : decode (rm_code mDirectory_isWanted) 50 = .ok (.invokevirtual 76, 3) := by decide +kernel
theorem d_Directory_isWanted_53 : decode (rm_code mDirectory_isWanted) 53 = .ok (.ifCond .eq (19), 3) := by decide +kernel
theorem d_Directory_isWanted_56 : decode (rm_code mDirectory_isWanted) 56 = .ok (.aload_n 2, 1) := by decide +kernel
theorem d_Directory_isWanted_57 : decode (rm_code mDirectory_isWanted) 57 = .ok (.aload_n 0, 1) := by decide +kernel
theorem d_Directory_isWanted_58 : decode (rm_code mDirectory_isWanted) 58 = .ok (.getfield 9, 3) := by decide +kernel
theorem d_Directory_isWanted_61 : decode (rm_code mDirectory_isWanted) 61 = .ok (.iload_n 3, 1) := by decide +kernel
theorem d_Directory_isWanted_62 : decode (rm_code mDirectory_isWanted) 62 = .ok (.invokevirtual 79, 3) := by decide +kernel
theorem d_Directory_isWanted_65 : decode (rm_code mDirectory_isWanted) 65 = .ok (.ifCond .eq (7), 3) := by decide +kernel
theorem d_Directory_isWanted_68 : decode (rm_code mDirectory_isWanted) 68 = .ok (.iconst 1, 1) := by decide +kernel
theorem d_Directory_isWanted_69 : decode (rm_code mDirectory_isWanted) 69 = .ok (.goto (4), 3) := by decide +kernel
theorem d_Directory_isWanted_72 : decode (rm_code mDirectory_isWanted) 72 = .ok (.iconst 0, 1) := by decide +kernel
theorem d_Directory_isWanted_73 : decode (rm_code mDirectory_isWanted) 73 = .ok (.ireturn, 1) := by decide +kernel
theorem d_Directory_isWanted_74 : decode (rm_code mDirectory_isWanted) 74 = .ok (.aload_n 0, 1) := by decide +kernel
theorem d_Directory_isWanted_75 : decode (rm_code mDirectory_isWanted) 75 = .ok (.invokevirtual 76, 3) := by decide +kernel
theorem d_Directory_isWanted_78 : decode (rm_code mDirectory_isWanted) 78 = .ok (.ifCond .eq (19), 3) := by decide +kernel
theorem d_Directory_isWanted_81 : decode (rm_code mDirectory_isWanted) 81 = .ok (.aload_n 2, 1) := by decide +kernel
theorem d_Directory_isWanted_82 : decode (rm_code mDirectory_isWanted) 82 = .ok (.aload_n 0, 1) := by decide +kernel
theorem d_Directory_isWanted_83 : decode (rm_code mDirectory_isWanted) 83 = .ok (.getfield 9, 3) := by decide +kernel
theorem d_Directory_isWanted_86 : decode (rm_code mDirectory_isWanted) 86 = .ok (.iload_n 3, 1) := by decide +kernel
theorem d_Directory_isWanted_87 : decode (rm_code mDirectory_isWanted) 87 = .ok (.invokevirtual 85, 3) := by decide +kernel
theorem d_Directory_isWanted_90 : decode (rm_code mDirectory_isWanted) 90 = .ok (.ifCond .eq (7), 3) := by decide +kernel
theorem d_Directory_isWanted_93 : decode (rm_code mDirectory_isWanted) 93 = .ok (.iconst 1, 1) := by decide +kernel
theorem d_Directory_isWanted_94 : decode (rm_code mDirectory_isWanted) 94 = .ok (.goto (4), 3) := by decide +kernel
theorem d_Directory_isWanted_97 : decode (rm_code mDirectory_isWanted) 97 = .ok (.iconst 0, 1) := by decide +kernel
theorem d_Directory_isWanted_98 : decode (rm_code mDirectory_isWanted) 98 = .ok (.ireturn, 1) := by decide +kernel
theorem p_Directory_isWanted_0 {S : rz_S} {K : Int32 → rz_S → Prop} {a1 : Int32} {a2 : Nat} (ha2 : ptP a2) (w : rz_ev mDirectory_base [.ref 46] S (rz_i (fun xq1 Sq1 => ((a1 = 1 → rz_ev mDirectory_type [.ref 46] Sq1 (rz_i (fun xq3 Sq3 => ((xq3 = 0 → K 0 Sq3) ∧ (¬ xq3 = 0 → rz_ev mPattern_isSame [.ref a2, .ref 47, .int (xq1 + 5)] Sq3 (rz_i (fun xq5 Sq5 => ((xq5 = 0 → K 0 Sq5) ∧ (¬ xq5 = 0 → K 1 Sq5))))))))) ∧ (a1 = 2 → rz_ev mDirectory_type [.ref 46] Sq1 (rz_i (fun xq8 Sq8 => ((xq8 = 0 → K 1 Sq8) ∧ (¬ xq8 = 0 → K 0 Sq8))))) ∧ (¬ a1 = 1 → ¬ a1 = 2 → rz_ev mDirectory_type [.ref 46] Sq1 (rz_i (fun xq10 Sq10 => ((xq10 = 0 → K 0 Sq10) ∧ (¬ xq10 = 0 → rz_ev mPattern_fits [.ref a2, .ref 47, .int (xq1 + 5)] Sq10 (rz_i (fun xq12 Sq12 => ((xq12 = 0 → K 0 Sq12) ∧ (¬ xq12 = 0 → K 1 Sq12))))))))))))) : rz mDirectory_isWanted 0 [(0, .ref 46), (1, .int a1), (2, .ref a2)] [] S (rz_i K) := by
  refine rz_pure (pc' := 1) d_Directory_isWanted_0 rfl ?_
  refine rz_callVi (t := []) d_Directory_isWanted_1 w_3_72 rfl rfl rfl w (fun xq1 Sq1 q1 => ?_)
  refine rz_iconst (v := 5) d_Directory_isWanted_4 (by decide) ?_
  refine rz_iadd d_Directory_isWanted_5 ?_
  refine rz_pure (pc' := 7) (l' := [(3, .int (xq1 + 5)), (0, .ref 46), (1, .int a1), (2, .ref a2)]) d_Directory_isWanted_6 rfl ?_
  refine rz_pure (pc' := 8) d_Directory_isWanted_7 rfl ?_
  by_cases b2 : a1 = 1
  · refine rz_lsj (v := 1) (tgt := 49) d_Directory_isWanted_8 b2 rfl ?_
    refine rz_pure (pc' := 50) d_Directory_isWanted_49 rfl ?_
    refine rz_callVi (t := []) d_Directory_isWanted_50 w_3_76 rfl rfl rfl (q1.1 b2) (fun xq3 Sq3 q3 => ?_)
    refine rz_ifeq (tgt := 72) d_Directory_isWanted_53 rfl (fun b4 => ?_) (fun b4 => ?_)
    · skip
      refine rz_iconst (v := 0) d_Directory_isWanted_72 (by decide) ?_
      exact rz_ireti d_Directory_isWanted_73 rfl (by decide) (q3.1 b4)
    · skip
      refine rz_pure (pc' := 57) d_Directory_isWanted_56 rfl ?_
      refine rz_pure (pc' := 58) d_Directory_isWanted_57 rfl ?_
      refine rz_getr d_Directory_isWanted_58 f_3_9 rfl rfl ?_
      refine rz_pure (pc' := 62) d_Directory_isWanted_61 rfl ?_
      refine rz_callVi (t := [.int (xq1 + 5), .ref 47]) d_Directory_isWanted_62 w_3_79 rfl (ptT ha2) rfl (q3.2 b4) (fun xq5 Sq5 q5 => ?_)
      refine rz_ifeq (tgt := 72) d_Directory_isWanted_65 rfl (fun b6 => ?_) (fun b6 => ?_)
      · skip
        refine rz_iconst (v := 0) d_Directory_isWanted_72 (by decide) ?_
        exact rz_ireti d_Directory_isWanted_73 rfl (by decide) (q5.1 b6)
      · skip
        refine rz_iconst (v := 1) d_Directory_isWanted_68 (by decide) ?_
        refine rz_pure (pc' := 73) d_Directory_isWanted_69 rfl ?_
        exact rz_ireti d_Directory_isWanted_73 rfl (by decide) (q5.2 b6)
  by_cases b7 : a1 = 2
  · refine rz_lsj (v := 2) (tgt := 36) d_Directory_isWanted_8 b7 rfl ?_
    refine rz_pure (pc' := 37) d_Directory_isWanted_36 rfl ?_
    refine rz_callVi (t := []) d_Directory_isWanted_37 w_3_76 rfl rfl rfl (q1.2.1 b7) (fun xq8 Sq8 q8 => ?_)
    refine rz_ifne (tgt := 47) d_Directory_isWanted_40 rfl (fun b9 => ?_) (fun b9 => ?_)
    · skip
      refine rz_iconst (v := 0) d_Directory_isWanted_47 (by decide) ?_
      exact rz_ireti d_Directory_isWanted_48 rfl (by decide) (q8.2 b9)
    · skip
      refine rz_iconst (v := 1) d_Directory_isWanted_43 (by decide) ?_
      refine rz_pure (pc' := 48) d_Directory_isWanted_44 rfl ?_
      exact rz_ireti d_Directory_isWanted_48 rfl (by decide) (q8.1 b9)
  refine rz_lsd (tgt := 74) d_Directory_isWanted_8 rfl ⟨b2, b7, trivial⟩ rfl ?_
  refine rz_pure (pc' := 75) d_Directory_isWanted_74 rfl ?_
  refine rz_callVi (t := []) d_Directory_isWanted_75 w_3_76 rfl rfl rfl (q1.2.2 b2 b7) (fun xq10 Sq10 q10 => ?_)
  refine rz_ifeq (tgt := 97) d_Directory_isWanted_78 rfl (fun b11 => ?_) (fun b11 => ?_)
  · skip
    refine rz_iconst (v := 0) d_Directory_isWanted_97 (by decide) ?_
    exact rz_ireti d_Directory_isWanted_98 rfl (by decide) (q10.1 b11)
  · skip
    refine rz_pure (pc' := 82) d_Directory_isWanted_81 rfl ?_
    refine rz_pure (pc' := 83) d_Directory_isWanted_82 rfl ?_
    refine rz_getr d_Directory_isWanted_83 f_3_9 rfl rfl ?_
    refine rz_pure (pc' := 87) d_Directory_isWanted_86 rfl ?_
    refine rz_callVi (t := [.int (xq1 + 5), .ref 47]) d_Directory_isWanted_87 w_3_85 rfl (ptT ha2) rfl (q10.2 b11) (fun xq12 Sq12 q12 => ?_)
    refine rz_ifeq (tgt := 97) d_Directory_isWanted_90 rfl (fun b13 => ?_) (fun b13 => ?_)
    · skip
      refine rz_iconst (v := 0) d_Directory_isWanted_97 (by decide) ?_
      exact rz_ireti d_Directory_isWanted_98 rfl (by decide) (q12.1 b13)
    · skip
      refine rz_iconst (v := 1) d_Directory_isWanted_93 (by decide) ?_
      refine rz_pure (pc' := 98) d_Directory_isWanted_94 rfl ?_
      exact rz_ireti d_Directory_isWanted_98 rfl (by decide) (q12.2 b13)
theorem d_Directory_base_0 : decode (rm_code mDirectory_base) 0 = .ok (.aload_n 0, 1) := by decide +kernel
theorem d_Directory_base_1 : decode (rm_code mDirectory_base) 1 = .ok (.getfield 37, 3) := by decide +kernel
theorem d_Directory_base_4 : decode (rm_code mDirectory_base) 4 = .ok (.ifCond .lt (21), 3) := by decide +kernel
theorem d_Directory_base_7 : decode (rm_code mDirectory_base) 7 = .ok (.aload_n 0, 1) := by decide +kernel
theorem d_Directory_base_8 : decode (rm_code mDirectory_base) 8 = .ok (.getfield 37, 3) := by decide +kernel
theorem d_Directory_base_11 : decode (rm_code mDirectory_base) 11 = .ok (.iconst 4, 1) := by decide +kernel
theorem d_Directory_base_12 : decode (rm_code mDirectory_base) 12 = .ok (.if_icmp .ge (13), 3) := by decide +kernel
theorem d_Directory_base_15 : decode (rm_code mDirectory_base) 15 = .ok (.bipush (16), 2) := by decide +kernel
theorem d_Directory_base_17 : decode (rm_code mDirectory_base) 17 = .ok (.aload_n 0, 1) := by decide +kernel
theorem d_Directory_base_18 : decode (rm_code mDirectory_base) 18 = .ok (.getfield 37, 3) := by decide +kernel
theorem d_Directory_base_21 : decode (rm_code mDirectory_base) 21 = .ok (.imul, 1) := by decide +kernel
theorem d_Directory_base_22 : decode (rm_code mDirectory_base) 22 = .ok (.goto (4), 3) := by decide +kernel
theorem d_Directory_base_25 : decode (rm_code mDirectory_base) 25 = .ok (.iconst 0, 1) := by decide +kernel
theorem d_Directory_base_26 : decode (rm_code mDirectory_base) 26 = .ok (.ireturn, 1) := by decide +kernel
theorem p_Directory_base_0 {S : rz_S} {K : Int32 → rz_S → Prop} (w : ((S.2 46 4 < 0 → K 0 S) ∧ (¬ S.2 46 4 < 0 → ((4 ≤ S.2 46 4 → K 0 S) ∧ (¬ 4 ≤ S.2 46 4 → K (16 * (S.2 46 4)) S))))) : rz mDirectory_base 0 [(0, .ref 46)] [] S (rz_i K) := by
  refine rz_pure (pc' := 1) d_Directory_base_0 rfl ?_
  refine rz_getiv (v := S.2 46 4) d_Directory_base_1 f_3_37 rfl rfl rfl ?_
  refine rz_iflt (tgt := 25) d_Directory_base_4 rfl (fun b1 => ?_) (fun b1 => ?_)
  · skip
    refine rz_iconst (v := 0) d_Directory_base_25 (by decide) ?_
    exact rz_ireti d_Directory_base_26 rfl rfl (w.1 b1)
  · skip
    refine rz_pure (pc' := 8) d_Directory_base_7 rfl ?_
    refine rz_getiv (v := S.2 46 4) d_Directory_base_8 f_3_37 rfl rfl rfl ?_
    refine rz_iconst (v := 4) d_Directory_base_11 (by decide) ?_
    refine rz_icmpge (tgt := 25) d_Directory_base_12 rfl (fun b2 => ?_) (fun b2 => ?_)
    · skip
      refine rz_iconst (v := 0) d_Directory_base_25 (by decide) ?_
      exact rz_ireti d_Directory_base_26 rfl rfl ((w.2 b1).1 b2)
    · skip
      refine rz_bipush (v := 16) d_Directory_base_15 (by decide) ?_
      refine rz_pure (pc' := 18) d_Directory_base_17 rfl ?_
      refine rz_getiv (v := S.2 46 4) d_Directory_base_18 f_3_37 rfl rfl rfl ?_
      refine rz_imul d_Directory_base_21 ?_
      refine rz_pure (pc' := 26) d_Directory_base_22 rfl ?_
      exact rz_ireti d_Directory_base_26 rfl rfl ((w.2 b1).2 b2)
theorem d_Directory_type_0 : decode (rm_code mDirectory_type) 0 = .ok (.aload_n 0, 1) := by decide +kernel
theorem d_Directory_type_1 : decode (rm_code mDirectory_type) 1 = .ok (.getfield 9, 3) := by decide +kernel
theorem d_Directory_type_4 : decode (rm_code mDirectory_type) 4 = .ok (.aload_n 0, 1) := by decide +kernel
theorem d_Directory_type_5 : decode (rm_code mDirectory_type) 5 = .ok (.invokevirtual 72, 3) := by decide +kernel
theorem d_Directory_type_8 : decode (rm_code mDirectory_type) 8 = .ok (.iconst 2, 1) := by decide +kernel
theorem d_Directory_type_9 : decode (rm_code mDirectory_type) 9 = .ok (.iadd, 1) := by decide +kernel
theorem d_Directory_type_10 : decode (rm_code mDirectory_type) 10 = .ok (.iaload, 1) := by decide +kernel
theorem d_Directory_type_11 : decode (rm_code mDirectory_type) 11 = .ok (.ireturn, 1) := by decide +kernel
theorem p_Directory_type_0 {S : rz_S} {K : Int32 → rz_S → Prop} (w : rz_ev mDirectory_base [.ref 46] S (rz_i (fun xq1 Sq1 => rx_in (xq1 + 2) 64 = true ∧ K (Sq1.1 47 ((xq1 + 2).toNatClampNeg)) Sq1))) : rz mDirectory_type 0 [(0, .ref 46)] [] S (rz_i K) := by
  refine rz_pure (pc' := 1) d_Directory_type_0 rfl ?_
  refine rz_getr d_Directory_type_1 f_3_9 rfl rfl ?_
  refine rz_pure (pc' := 5) d_Directory_type_4 rfl ?_
  refine rz_callVi (t := []) d_Directory_type_5 w_3_72 rfl rfl rfl w (fun xq1 Sq1 q1 => ?_)
  refine rz_iconst (v := 2) d_Directory_type_8 (by decide) ?_
  refine rz_iadd d_Directory_type_9 ?_
  refine rz_ialdv (F := Sq1.1 47) (i := (xq1 + 2).toNatClampNeg) d_Directory_type_10 rfl q1.1 rfl rfl ?_
  exact rz_ireti d_Directory_type_11 rfl rfl q1.2
theorem d_Directory_isLast_0 : decode (rm_code mDirectory_isLast) 0 = .ok (.aload_n 0, 1) := by decide +kernel
theorem d_Directory_isLast_1 : decode (rm_code mDirectory_isLast) 1 = .ok (.getfield 9, 3) := by decide +kernel
theorem d_Directory_isLast_4 : decode (rm_code mDirectory_isLast) 4 = .ok (.iconst 0, 1) := by decide +kernel
theorem d_Directory_isLast_5 : decode (rm_code mDirectory_isLast) 5 = .ok (.iaload, 1) := by decide +kernel
theorem d_Directory_isLast_6 : decode (rm_code mDirectory_isLast) 6 = .ok (.ifCond .eq (10), 3) := by decide +kernel
theorem d_Directory_isLast_9 : decode (rm_code mDirectory_isLast) 9 = .ok (.aload_n 0, 1) := by decide +kernel
theorem d_Directory_isLast_10 : decode (rm_code mDirectory_isLast) 10 = .ok (.invokevirtual 69, 3) := by decide +kernel
theorem d_Directory_isLast_13 : decode (rm_code mDirectory_isLast) 13 = .ok (.ifCond .eq (7), 3) := by decide +kernel
theorem d_Directory_isLast_16 : decode (rm_code mDirectory_isLast) 16 = .ok (.iconst 1, 1) := by decide +kernel
theorem d_Directory_isLast_17 : decode (rm_code mDirectory_isLast) 17 = .ok (.goto (4), 3) := by decide +kernel
theorem d_Directory_isLast_20 : decode (rm_code mDirectory_isLast) 20 = .ok (.iconst 0, 1) := by decide +kernel
theorem d_Directory_isLast_21 : decode (rm_code mDirectory_isLast) 21 = .ok (.ireturn, 1) := by decide +kernel
theorem p_Directory_isLast_0 {S : rz_S} {K : Int32 → rz_S → Prop} (w : ((S.1 47 0 = 0 → K 1 S) ∧ (¬ S.1 47 0 = 0 → rz_ev mDirectory_isFull [.ref 46] S (rz_i (fun xq2 Sq2 => ((xq2 = 0 → K 0 Sq2) ∧ (¬ xq2 = 0 → K 1 Sq2))))))) : rz mDirectory_isLast 0 [(0, .ref 46)] [] S (rz_i K) := by
  refine rz_pure (pc' := 1) d_Directory_isLast_0 rfl ?_
  refine rz_getr d_Directory_isLast_1 f_3_9 rfl rfl ?_
  refine rz_iconst (v := 0) d_Directory_isLast_4 (by decide) ?_
  refine rz_ialdv (F := S.1 47) (i := 0) d_Directory_isLast_5 rfl (by decide) rfl (by decide) ?_
  refine rz_ifeq (tgt := 16) d_Directory_isLast_6 rfl (fun b1 => ?_) (fun b1 => ?_)
  · skip
    refine rz_iconst (v := 1) d_Directory_isLast_16 (by decide) ?_
    refine rz_pure (pc' := 21) d_Directory_isLast_17 rfl ?_
    exact rz_ireti d_Directory_isLast_21 rfl (by decide) (w.1 b1)
  · skip
    refine rz_pure (pc' := 10) d_Directory_isLast_9 rfl ?_
    refine rz_callVi (t := []) d_Directory_isLast_10 w_3_69 rfl rfl rfl (w.2 b1) (fun xq2 Sq2 q2 => ?_)
    refine rz_ifeq (tgt := 20) d_Directory_isLast_13 rfl (fun b3 => ?_) (fun b3 => ?_)
    · skip
      refine rz_iconst (v := 0) d_Directory_isLast_20 (by decide) ?_
      exact rz_ireti d_Directory_isLast_21 rfl (by decide) (q2.1 b3)
    · skip
      refine rz_iconst (v := 1) d_Directory_isLast_16 (by decide) ?_
      refine rz_pure (pc' := 21) d_Directory_isLast_17 rfl ?_
      exact rz_ireti d_Directory_isLast_21 rfl (by decide) (q2.2 b3)
theorem d_Directory_isFull_0 : decode (rm_code mDirectory_isFull) 0 = .ok (.aload_n 0, 1) := by decide +kernel
theorem d_Directory_isFull_1 : decode (rm_code mDirectory_isFull) 1 = .ok (.getfield 34, 3) := by decide +kernel
theorem d_Directory_isFull_4 : decode (rm_code mDirectory_isFull) 4 = .ok (.bipush (6), 2) := by decide +kernel
theorem d_Directory_isFull_6 : decode (rm_code mDirectory_isFull) 6 = .ok (.if_icmp .lt (7), 3) := by decide +kernel
theorem d_Directory_isFull_9 : decode (rm_code mDirectory_isFull) 9 = .ok (.iconst 1, 1) := by decide +kernel
theorem d_Directory_isFull_10 : decode (rm_code mDirectory_isFull) 10 = .ok (.goto (4), 3) := by decide +kernel
theorem d_Directory_isFull_13 : decode (rm_code mDirectory_isFull) 13 = .ok (.iconst 0, 1) := by decide +kernel
theorem d_Directory_isFull_14 : decode (rm_code mDirectory_isFull) 14 = .ok (.ireturn, 1) := by decide +kernel
theorem p_Directory_isFull_0 {S : rz_S} {K : Int32 → rz_S → Prop} (w : ((S.2 46 3 < 6 → K 0 S) ∧ (¬ S.2 46 3 < 6 → K 1 S))) : rz mDirectory_isFull 0 [(0, .ref 46)] [] S (rz_i K) := by
  refine rz_pure (pc' := 1) d_Directory_isFull_0 rfl ?_
  refine rz_getiv (v := S.2 46 3) d_Directory_isFull_1 f_3_34 rfl rfl rfl ?_
  refine rz_bipush (v := 6) d_Directory_isFull_4 (by decide) ?_
  refine rz_icmplt (tgt := 13) d_Directory_isFull_6 rfl (fun b1 => ?_) (fun b1 => ?_)
  · skip
    refine rz_iconst (v := 0) d_Directory_isFull_13 (by decide) ?_
    exact rz_ireti d_Directory_isFull_14 rfl (by decide) (w.1 b1)
  · skip
    refine rz_iconst (v := 1) d_Directory_isFull_9 (by decide) ?_
    refine rz_pure (pc' := 14) d_Directory_isFull_10 rfl ?_
    exact rz_ireti d_Directory_isFull_14 rfl (by decide) (w.2 b1)
theorem d_Dos_scratchFound_0 : decode (rm_code mDos_scratchFound) 0 = .ok (.aload_n 0, 1) := by decide +kernel
theorem d_Dos_scratchFound_1 : decode (rm_code mDos_scratchFound) 1 = .ok (.getfield 47, 3) := by decide +kernel
theorem d_Dos_scratchFound_4 : decode (rm_code mDos_scratchFound) 4 = .ok (.invokevirtual 231, 3) := by decide +kernel
theorem d_Dos_scratchFound_7 : decode (rm_code mDos_scratchFound) 7 = .ok (.istore_n 1, 1) := by decide +kernel
theorem d_Dos_scratchFound_8 : decode (rm_code mDos_scratchFound) 8 = .ok (.iload_n 1, 1) := by decide +kernel
theorem d_Dos_scratchFound_9 : decode (rm_code mDos_scratchFound) 9 = .ok (.ifCond .eq (5), 3) := by decide +kernel
theorem d_Dos_scratchFound_12 : decode (rm_code mDos_scratchFound) 12 = .ok (.iload_n 1, 1) := by decide +kernel
theorem d_Dos_scratchFound_13 : decode (rm_code mDos_scratchFound) 13 = .ok (.ireturn, 1) := by decide +kernel
theorem d_Dos_scratchFound_14 : decode (rm_code mDos_scratchFound) 14 = .ok (.aload_n 0, 1) := by decide +kernel
theorem d_Dos_scratchFound_15 : decode (rm_code mDos_scratchFound) 15 = .ok (.aload_n 0, 1) := by decide +kernel
theorem d_Dos_scratchFound_16 : decode (rm_code mDos_scratchFound) 16 = .ok (.getfield 56, 3) := by decide +kernel
theorem d_Dos_scratchFound_19 : decode (rm_code mDos_scratchFound) 19 = .ok (.invokevirtual 206, 3) := by decide +kernel
theorem d_Dos_scratchFound_22 : decode (rm_code mDos_scratchFound) 22 = .ok (.aload_n 0, 1) := by decide +kernel
theorem d_Dos_scratchFound_23 : decode (rm_code mDos_scratchFound) 23 = .ok (.getfield 56, 3) := by decide +kernel
theorem d_Dos_scratchFound_26 : decode (rm_code mDos_scratchFound) 26 = .ok (.invokevirtual 209, 3) := by decide +kernel
theorem d_Dos_scratchFound_29 : decode (rm_code mDos_scratchFound) 29 = .ok (.invokevirtual 234, 3) := by decide +kernel
theorem d_Dos_scratchFound_32 : decode (rm_code mDos_scratchFound) 32 = .ok (.istore_n 1, 1) := by decide +kernel
theorem d_Dos_scratchFound_33 : decode (rm_code mDos_scratchFound) 33 = .ok (.aload_n 0, 1) := by decide +kernel
theorem d_Dos_scratchFound_34 : decode (rm_code mDos_scratchFound) 34 = .ok (.getfield 30, 3) := by decide +kernel
theorem d_Dos_scratchFound_37 : decode (rm_code mDos_scratchFound) 37 = .ok (.getfield 237, 3) := by decide +kernel
theorem d_Dos_scratchFound_40 : decode (rm_code mDos_scratchFound) 40 = .ok (.istore_n 2, 1) := by decide +kernel
theorem d_Dos_scratchFound_41 : decode (rm_code mDos_scratchFound) 41 = .ok (.aload_n 0, 1) := by decide +kernel
theorem d_Dos_scratchFound_42 : decode (rm_code mDos_scratchFound) 42 = .ok (.getfield 30, 3) := by decide +kernel
theorem d_Dos_scratchFound_45 : decode (rm_code mDos_scratchFound) 45 = .ok (.getfield 238, 3) := by decide +kernel
theorem d_Dos_scratchFound_48 : decode (rm_code mDos_scratchFound) 48 = .ok (.istore_n 3, 1) := by decide +kernel
theorem d_Dos_scratchFound_49 : decode (rm_code mDos_scratchFound) 49 = .ok (.aload_n 0, 1) := by decide +kernel
theorem d_Dos_scratchFound_50 : decode (rm_code mDos_scratchFound) 50 = .ok (.getfield 47, 3) := by decide +kernel
theorem d_Dos_scratchFound_53 : decode (rm_code mDos_scratchFound) 53 = .ok (.invokevirtual 239, 3) := by decide +kernel
theorem d_Dos_scratchFound_56 : decode (rm_code mDos_scratchFound) 56 = .ok (.istore 4, 2) := by decide +kernel
theorem d_Dos_scratchFound_58 : decode (rm_code mDos_scratchFound) 58 = .ok (.iload_n 1, 1) := by decide +kernel
theorem d_Dos_scratchFound_59 : decode (rm_code mDos_scratchFound) 59 = .ok (.ifCond .eq (14), 3) := by decide +kernel
theorem d_Dos_scratchFound_62 : decode (rm_code mDos_scratchFound) 62 = .ok (.aload_n 0, 1) := by decide +kernel
theorem d_Dos_scratchFound_63 : decode (rm_code mDos_scratchFound) 63 = .ok (.getfield 30, 3) := by decide +kernel
theorem d_Dos_scratchFound_66 : decode (rm_code mDos_scratchFound) 66 = .ok (.iload_n 1, 1) := by decide +kernel
theorem d_Dos_scratchFound_67 : decode (rm_code mDos_scratchFound) 67 = .ok (.iload_n 2, 1) := by decide +kernel
theorem d_Dos_scratchFound_68 : decode (rm_code mDos_scratchFound) 68 = .ok (.iload_n 3, 1) := by decide +kernel
theorem d_Dos_scratchFound_69 : decode (rm_code mDos_scratchFound) 69 = .ok (.invokevirtual 116, 3) := by decide +kernel
theorem d_Dos_scratchFound_72 : decode (rm_code mDos_scratchFound) 72 = .ok (.ireturn, 1) := by decide +kernel
theorem d_Dos_scratchFound_73 : decode (rm_code mDos_scratchFound) 73 = .ok (.iload 4, 2) := by decide +kernel
theorem d_Dos_scratchFound_75 : decode (rm_code mDos_scratchFound) 75 = .ok (.ifCond .eq (8), 3) := by decide +kernel
theorem d_Dos_scratchFound_78 : decode (rm_code mDos_scratchFound) 78 = .ok (.iload 4, 2) := by decide +kernel
theorem d_Dos_scratchFound_80 : decode (rm_code mDos_scratchFound) 80 = .ok (.goto (11), 3) := by decide +kernel
theorem d_Dos_scratchFound_83 : decode (rm_code mDos_scratchFound) 83 = .ok (.aload_n 0, 1) := by decide +kernel
theorem d_Dos_scratchFound_84 : decode (rm_code mDos_scratchFound) 84 = .ok (.getfield 56, 3) := by decide +kernel
theorem d_Dos_scratchFound_87 : decode (rm_code mDos_scratchFound) 87 = .ok (.iconst 0, 1) := by decide +kernel
theorem d_Dos_scratchFound_88 : decode (rm_code mDos_scratchFound) 88 = .ok (.invokevirtual 242, 3) := by decide +kernel
theorem d_Dos_scratchFound_91 : decode (rm_code mDos_scratchFound) 91 = .ok (.ireturn, 1) := by decide +kernel
theorem p_Dos_scratchFound_0 {S : rz_S} {K : Int32 → rz_S → Prop} (w : rz_ev mBlockMap_load [.ref 44] S (rz_i (fun xq1 Sq1 => ((xq1 = 0 → rz_ev mDirectory_firstTrack [.ref 46] Sq1 (rz_i (fun xq3 Sq3 => rz_ev mDirectory_firstSector [.ref 46] Sq3 (rz_i (fun xq4 Sq4 => rz_ev mDos_giveBackChain [.ref 39, .int xq3, .int xq4] Sq4 (rz_i (fun xq5 Sq5 => rz_ev mBlockMap_store [.ref 44] Sq5 (rz_i (fun xq6 Sq6 => ((xq5 = 0 → ((xq6 = 0 → rz_ev mDirectory_changeType [.ref 46, .int 0] Sq6 (rz_i (fun xq9 Sq9 => K xq9 Sq9))) ∧ (¬ xq6 = 0 → K xq6 Sq6))) ∧ (¬ xq5 = 0 → rz_ev mStatus_set [.ref 3, .int xq5, .int (Sq5.2 3 1), .int (Sq5.2 3 2)] Sq6 (rz_i (fun xq10 Sq10 => K xq10 Sq10))))))))))))) ∧ (¬ xq1 = 0 → K xq1 Sq1))))) : rz mDos_scratchFound 0 [(0, .ref 39)] [] S (rz_i K) := by
  refine rz_pure (pc' := 1) d_Dos_scratchFound_0 rfl ?_
  refine rz_getr d_Dos_scratchFound_1 f_5_47 rfl rfl ?_
  refine rz_callVi (t := []) d_Dos_scratchFound_4 w_5_231 rfl rfl rfl w (fun xq1 Sq1 q1 => ?_)
  refine rz_pure (pc' := 8) (l' := [(1, .int xq1), (0, .ref 39)]) d_Dos_scratchFound_7 rfl ?_
  refine rz_pure (pc' := 9) d_Dos_scratchFound_8 rfl ?_
  refine rz_ifeq (tgt := 14) d_Dos_scratchFound_9 rfl (fun b2 => ?_) (fun b2 => ?_)
  · skip
    refine rz_pure (pc' := 15) d_Dos_scratchFound_14 rfl ?_
    refine rz_pure (pc' := 16) d_Dos_scratchFound_15 rfl ?_
    refine rz_getr d_Dos_scratchFound_16 f_5_56 rfl rfl ?_
    refine rz_callVi (t := []) d_Dos_scratchFound_19 w_5_206 rfl rfl rfl (q1.1 b2) (fun xq3 Sq3 q3 => ?_)
    refine rz_pure (pc' := 23) d_Dos_scratchFound_22 rfl ?_
    refine rz_getr d_Dos_scratchFound_23 f_5_56 rfl rfl ?_
    refine rz_callVi (t := []) d_Dos_scratchFound_26 w_5_209 rfl rfl rfl q3 (fun xq4 Sq4 q4 => ?_)
    refine rz_callVi (t := [.int xq4, .int xq3]) d_Dos_scratchFound_29 w_5_234 rfl rfl rfl q4 (fun xq5 Sq5 q5 => ?_)
    refine rz_pure (pc' := 33) (l' := [(1, .int xq5), (0, .ref 39)]) d_Dos_scratchFound_32 rfl ?_
    refine rz_pure (pc' := 34) d_Dos_scratchFound_33 rfl ?_
    refine rz_getr d_Dos_scratchFound_34 f_5_30 rfl rfl ?_
    refine rz_getiv (v := Sq5.2 3 1) d_Dos_scratchFound_37 f_5_237 rfl rfl rfl ?_
    refine rz_pure (pc' := 41) (l' := [(2, .int (Sq5.2 3 1)), (1, .int xq5), (0, .ref 39)]) d_Dos_scratchFound_40 rfl ?_
    refine rz_pure (pc' := 42) d_Dos_scratchFound_41 rfl ?_
    refine rz_getr d_Dos_scratchFound_42 f_5_30 rfl rfl ?_
    refine rz_getiv (v := Sq5.2 3 2) d_Dos_scratchFound_45 f_5_238 rfl rfl rfl ?_
    refine rz_pure (pc' := 49) (l' := [(3, .int (Sq5.2 3 2)), (2, .int (Sq5.2 3 1)), (1, .int xq5), (0, .ref 39)]) d_Dos_scratchFound_48 rfl ?_
    refine rz_pure (pc' := 50) d_Dos_scratchFound_49 rfl ?_
    refine rz_getr d_Dos_scratchFound_50 f_5_47 rfl rfl ?_
    refine rz_callVi (t := []) d_Dos_scratchFound_53 w_5_239 rfl rfl rfl q5 (fun xq6 Sq6 q6 => ?_)
    refine rz_pure (pc' := 58) (l' := [(4, .int xq6), (3, .int (Sq5.2 3 2)), (2, .int (Sq5.2 3 1)), (1, .int xq5), (0, .ref 39)]) d_Dos_scratchFound_56 rfl ?_
    refine rz_pure (pc' := 59) d_Dos_scratchFound_58 rfl ?_
    refine rz_ifeq (tgt := 73) d_Dos_scratchFound_59 rfl (fun b7 => ?_) (fun b7 => ?_)
    · skip
      refine rz_pure (pc' := 75) d_Dos_scratchFound_73 rfl ?_
      refine rz_ifeq (tgt := 83) d_Dos_scratchFound_75 rfl (fun b8 => ?_) (fun b8 => ?_)
      · skip
        refine rz_pure (pc' := 84) d_Dos_scratchFound_83 rfl ?_
        refine rz_getr d_Dos_scratchFound_84 f_5_56 rfl rfl ?_
        refine rz_iconst (v := 0) d_Dos_scratchFound_87 (by decide) ?_
        refine rz_callVi (t := [.int 0]) d_Dos_scratchFound_88 w_5_242 rfl rfl rfl ((q6.1 b7).1 b8) (fun xq9 Sq9 q9 => ?_)
        exact rz_ireti d_Dos_scratchFound_91 rfl rfl q9
      · skip
        refine rz_pure (pc' := 80) d_Dos_scratchFound_78 rfl ?_
        refine rz_pure (pc' := 91) d_Dos_scratchFound_80 rfl ?_
        exact rz_ireti d_Dos_scratchFound_91 rfl rfl ((q6.1 b7).2 b8)
    · skip
      refine rz_pure (pc' := 63) d_Dos_scratchFound_62 rfl ?_
      refine rz_getr d_Dos_scratchFound_63 f_5_30 rfl rfl ?_
      refine rz_pure (pc' := 67) d_Dos_scratchFound_66 rfl ?_
      refine rz_pure (pc' := 68) d_Dos_scratchFound_67 rfl ?_
      refine rz_pure (pc' := 69) d_Dos_scratchFound_68 rfl ?_
      refine rz_callVi (t := [.int (Sq5.2 3 2), .int (Sq5.2 3 1), .int xq5]) d_Dos_scratchFound_69 w_5_116 rfl rfl rfl (q6.2 b7) (fun xq10 Sq10 q10 => ?_)
      exact rz_ireti d_Dos_scratchFound_72 rfl rfl q10
  · skip
    refine rz_pure (pc' := 13) d_Dos_scratchFound_12 rfl ?_
    exact rz_ireti d_Dos_scratchFound_13 rfl rfl (q1.2 b2)
theorem d_Directory_firstTrack_0 : decode (rm_code mDirectory_firstTrack) 0 = .ok (.aload_n 0, 1) := by decide +kernel
theorem d_Directory_firstTrack_1 : decode (rm_code mDirectory_firstTrack) 1 = .ok (.getfield 9, 3) := by decide +kernel
theorem d_Directory_firstTrack_4 : decode (rm_code mDirectory_firstTrack) 4 = .ok (.aload_n 0, 1) := by decide +kernel
theorem d_Directory_firstTrack_5 : decode (rm_code mDirectory_firstTrack) 5 = .ok (.invokevirtual 72, 3) := by decide +kernel
theorem d_Directory_firstTrack_8 : decode (rm_code mDirectory_firstTrack) 8 = .ok (.iconst 3, 1) := by decide +kernel
theorem d_Directory_firstTrack_9 : decode (rm_code mDirectory_firstTrack) 9 = .ok (.iadd, 1) := by decide +kernel
theorem d_Directory_firstTrack_10 : decode (rm_code mDirectory_firstTrack) 10 = .ok (.iaload, 1) := by decide +kernel
theorem d_Directory_firstTrack_11 : decode (rm_code mDirectory_firstTrack) 11 = .ok (.ireturn, 1) := by decide +kernel
theorem p_Directory_firstTrack_0 {S : rz_S} {K : Int32 → rz_S → Prop} (w : rz_ev mDirectory_base [.ref 46] S (rz_i (fun xq1 Sq1 => rx_in (xq1 + 3) 64 = true ∧ K (Sq1.1 47 ((xq1 + 3).toNatClampNeg)) Sq1))) : rz mDirectory_firstTrack 0 [(0, .ref 46)] [] S (rz_i K) := by
  refine rz_pure (pc' := 1) d_Directory_firstTrack_0 rfl ?_
  refine rz_getr d_Directory_firstTrack_1 f_3_9 rfl rfl ?_
  refine rz_pure (pc' := 5) d_Directory_firstTrack_4 rfl ?_
  refine rz_callVi (t := []) d_Directory_firstTrack_5 w_3_72 rfl rfl rfl w (fun xq1 Sq1 q1 => ?_)
  refine rz_iconst (v := 3) d_Directory_firstTrack_8 (by decide) ?_
  refine rz_iadd d_Directory_firstTrack_9 ?_
  refine rz_ialdv (F := Sq1.1 47) (i := (xq1 + 3).toNatClampNeg) d_Directory_firstTrack_10 rfl q1.1 rfl rfl ?_
  exact rz_ireti d_Directory_firstTrack_11 rfl rfl q1.2
theorem d_Directory_firstSector_0 : decode (rm_code mDirectory_firstSector) 0 = .ok (.aload_n 0, 1) := by decide +kernel
theorem d_Directory_firstSector_1 : decode (rm_code mDirectory_firstSector) 1 = .ok (.getfield 9, 3) := by decide +kernel
theorem d_Directory_firstSector_4 : decode (rm_code mDirectory_firstSector) 4 = .ok (.aload_n 0, 1) := by decide +kernel
theorem d_Directory_firstSector_5 : decode (rm_code mDirectory_firstSector) 5 = .ok (.invokevirtual 72, 3) := by decide +kernel
theorem d_Directory_firstSector_8 : decode (rm_code mDirectory_firstSector) 8 = .ok (.iconst 3, 1) := by decide +kernel
theorem d_Directory_firstSector_9 : decode (rm_code mDirectory_firstSector) 9 = .ok (.iadd, 1) := by decide +kernel
theorem d_Directory_firstSector_10 : decode (rm_code mDirectory_firstSector) 10 = .ok (.iconst 1, 1) := by decide +kernel
theorem d_Directory_firstSector_11 : decode (rm_code mDirectory_firstSector) 11 = .ok (.iadd, 1) := by decide +kernel
theorem d_Directory_firstSector_12 : decode (rm_code mDirectory_firstSector) 12 = .ok (.iaload, 1) := by decide +kernel
theorem d_Directory_firstSector_13 : decode (rm_code mDirectory_firstSector) 13 = .ok (.ireturn, 1) := by decide +kernel
theorem p_Directory_firstSector_0 {S : rz_S} {K : Int32 → rz_S → Prop} (w : rz_ev mDirectory_base [.ref 46] S (rz_i (fun xq1 Sq1 => rx_in ((xq1 + 3) + 1) 64 = true ∧ K (Sq1.1 47 (((xq1 + 3) + 1).toNatClampNeg)) Sq1))) : rz mDirectory_firstSector 0 [(0, .ref 46)] [] S (rz_i K) := by
  refine rz_pure (pc' := 1) d_Directory_firstSector_0 rfl ?_
  refine rz_getr d_Directory_firstSector_1 f_3_9 rfl rfl ?_
  refine rz_pure (pc' := 5) d_Directory_firstSector_4 rfl ?_
  refine rz_callVi (t := []) d_Directory_firstSector_5 w_3_72 rfl rfl rfl w (fun xq1 Sq1 q1 => ?_)
  refine rz_iconst (v := 3) d_Directory_firstSector_8 (by decide) ?_
  refine rz_iadd d_Directory_firstSector_9 ?_
  refine rz_iconst (v := 1) d_Directory_firstSector_10 (by decide) ?_
  refine rz_iadd d_Directory_firstSector_11 ?_
  refine rz_ialdv (F := Sq1.1 47) (i := ((xq1 + 3) + 1).toNatClampNeg) d_Directory_firstSector_12 rfl q1.1 rfl rfl ?_
  exact rz_ireti d_Directory_firstSector_13 rfl rfl q1.2
theorem d_Dos_giveBackChain_0 : decode (rm_code mDos_giveBackChain) 0 = .ok (.iload_n 1, 1) := by decide +kernel
theorem d_Dos_giveBackChain_1 : decode (rm_code mDos_giveBackChain) 1 = .ok (.istore_n 3, 1) := by decide +kernel
theorem d_Dos_giveBackChain_2 : decode (rm_code mDos_giveBackChain) 2 = .ok (.iload_n 2, 1) := by decide +kernel
theorem d_Dos_giveBackChain_3 : decode (rm_code mDos_giveBackChain) 3 = .ok (.istore 4, 2) := by decide +kernel
theorem d_Dos_giveBackChain_5 : decode (rm_code mDos_giveBackChain) 5 = .ok (.iconst 0, 1) := by decide +kernel
theorem d_Dos_giveBackChain_6 : decode (rm_code mDos_giveBackChain) 6 = .ok (.istore 5, 2) := by decide +kernel
theorem d_Dos_giveBackChain_8 : decode (rm_code mDos_giveBackChain) 8 = .ok (.iload 5, 2) := by decide +kernel
theorem d_Dos_giveBackChain_10 : decode (rm_code mDos_giveBackChain) 10 = .ok (.bipush (72), 2) := by decide +kernel
theorem d_Dos_giveBackChain_12 : decode (rm_code mDos_giveBackChain) 12 = .ok (.if_icmp .ge (89), 3) := by decide +kernel
theorem d_Dos_giveBackChain_15 : decode (rm_code mDos_giveBackChain) 15 = .ok (.iload_n 3, 1) := by decide +kernel
theorem d_Dos_giveBackChain_16 : decode (rm_code mDos_giveBackChain) 16 = .ok (.iload 4, 2) := by decide +kernel
theorem d_Dos_giveBackChain_18 : decode (rm_code mDos_giveBackChain) 18 = .ok (.invokestatic 212, 3) := by decide +kernel
theorem d_Dos_giveBackChain_21 : decode (rm_code mDos_giveBackChain) 21 = .ok (.ifCond .ne (16), 3) := by decide +kernel
theorem d_Dos_giveBackChain_24 : decode (rm_code mDos_giveBackChain) 24 = .ok (.aload_n 0, 1) := by decide +kernel
theorem d_Dos_giveBackChain_25 : decode (rm_code mDos_giveBackChain) 25 = .ok (.getfield 30, 3) := by decide +kernel
theorem d_Dos_giveBackChain_28 : decode (rm_code mDos_giveBackChain) 28 = .ok (.bipush (71), 2) := by decide +kernel
theorem d_Dos_giveBackChain_30 : decode (rm_code mDos_giveBackChain) 30 = .ok (.iload_n 3, 1) := by decide +kernel
theorem d_Dos_giveBackChain_31 : decode (rm_code mDos_giveBackChain) 31 = .ok (.iload 4, 2) := by decide +kernel
theorem d_Dos_giveBackChain_33 : decode (rm_code mDos_giveBackChain) 33 = .ok (.invokevirtual 116, 3) := by decide +kernel
theorem d_Dos_giveBackChain_36 : decode (rm_code mDos_giveBackChain) 36 = .ok (.ireturn, 1) := by decide +kernel
theorem d_Dos_giveBackChain_37 : decode (rm_code mDos_giveBackChain) 37 = .ok (.aload_n 0, 1) := by decide +kernel
theorem d_Dos_giveBackChain_38 : decode (rm_code mDos_giveBackChain) 38 = .ok (.getfield 47, 3) := by decide +kernel
theorem d_Dos_giveBackChain_41 : decode (rm_code mDos_giveBackChain) 41 = .ok (.iload_n 3, 1) := by decide +kernel
theorem d_Dos_giveBackChain_42 : decode (rm_code mDos_giveBackChain) 42 = .ok (.iload 4, 2) := by decide +kernel
theorem d_Dos_giveBackChain_44 : decode (rm_code mDos_giveBackChain) 44 = .ok (.invokevirtual 245, 3) := by decide +kernel
theorem d_Dos_giveBackChain_47 : decode (rm_code mDos_giveBackChain) 47 = .ok (.aload_n 0, 1) := by decide +kernel
theorem d_Dos_giveBackChain_48 : decode (rm_code mDos_giveBackChain) 48 = .ok (.getfield 34, 3) := by decide +kernel
theorem d_Dos_giveBackChain_51 : decode (rm_code mDos_giveBackChain) 51 = .ok (.iload_n 3, 1) := by decide +kernel
theorem d_Dos_giveBackChain_52 : decode (rm_code mDos_giveBackChain) 52 = .ok (.iload 4, 2) := by decide +kernel
theorem d_Dos_giveBackChain_54 : decode (rm_code mDos_giveBackChain) 54 = .ok (.aload_n 0, 1) := by decide +kernel
theorem d_Dos_giveBackChain_55 : decode (rm_code mDos_giveBackChain) 55 = .ok (.getfield 11, 3) := by decide +kernel
theorem d_Dos_giveBackChain_58 : decode (rm_code mDos_giveBackChain) 58 = .ok (.invokevirtual 216, 3) := by decide +kernel
theorem d_Dos_giveBackChain_61 : decode (rm_code mDos_giveBackChain) 61 = .ok (.istore 6, 2) := by decide +kernel
theorem d_Dos_giveBackChain_63 : decode (rm_code mDos_giveBackChain) 63 = .ok (.iload 6, 2) := by decide +kernel
theorem d_Dos_giveBackChain_65 : decode (rm_code mDos_giveBackChain) 65 = .ok (.ifCond .ne (12), 3) := by decide +kernel
theorem d_Dos_giveBackChain_68 : decode (rm_code mDos_giveBackChain) 68 = .ok (.aload_n 0, 1) := by decide +kernel
theorem d_Dos_giveBackChain_69 : decode (rm_code mDos_giveBackChain) 69 = .ok (.getfield 11, 3) := by decide +kernel
theorem d_Dos_giveBackChain_72 : decode (rm_code mDos_giveBackChain) 72 = .ok (.iconst 0, 1) := by decide +kernel
theorem d_Dos_giveBackChain_73 : decode (rm_code mDos_giveBackChain) 73 = .ok (.iaload, 1) := by decide +kernel
theorem d_Dos_giveBackChain_74 : decode (rm_code mDos_giveBackChain) 74 = .ok (.ifCond .ne (6), 3) := by decide +kernel
theorem d_Dos_giveBackChain_77 : decode (rm_code mDos_giveBackChain) 77 = .ok (.iload 6, 2) := by decide +kernel
theorem d_Dos_giveBackChain_79 : decode (rm_code mDos_giveBackChain) 79 = .ok (.ireturn, 1) := by decide +kernel
theorem d_Dos_giveBackChain_80 : decode (rm_code mDos_giveBackChain) 80 = .ok (.aload_n 0, 1) := by decide +kernel
theorem d_Dos_giveBackChain_81 : decode (rm_code mDos_giveBackChain) 81 = .ok (.getfield 11, 3) := by decide +kernel
theorem d_Dos_giveBackChain_84 : decode (rm_code mDos_giveBackChain) 84 = .ok (.iconst 0, 1) := by decide +kernel
theorem d_Dos_giveBackChain_85 : decode (rm_code mDos_giveBackChain) 85 = .ok (.iaload, 1) := by decide +kernel
theorem d_Dos_giveBackChain_86 : decode (rm_code mDos_giveBackChain) 86 = .ok (.istore_n 3, 1) := by decide +kernel
theorem d_Dos_giveBackChain_87 : decode (rm_code mDos_giveBackChain) 87 = .ok (.aload_n 0, 1) := by decide +kernel
theorem d_Dos_giveBackChain_88 : decode (rm_code mDos_giveBackChain) 88 = .ok (.getfield 11, 3) := by decide +kernel
theorem d_Dos_giveBackChain_91 : decode (rm_code mDos_giveBackChain) 91 = .ok (.iconst 1, 1) := by decide +kernel
theorem d_Dos_giveBackChain_92 : decode (rm_code mDos_giveBackChain) 92 = .ok (.iaload, 1) := by decide +kernel
theorem d_Dos_giveBackChain_93 : decode (rm_code mDos_giveBackChain) 93 = .ok (.istore 4, 2) := by decide +kernel
theorem d_Dos_giveBackChain_95 : decode (rm_code mDos_giveBackChain) 95 = .ok (.iinc 5 (1), 3) := by decide +kernel
theorem d_Dos_giveBackChain_98 : decode (rm_code mDos_giveBackChain) 98 = .ok (.goto (-90), 3) := by decide +kernel
theorem d_Dos_giveBackChain_101 : decode (rm_code mDos_giveBackChain) 101 = .ok (.aload_n 0, 1) := by decide +kernel
theorem d_Dos_giveBackChain_102 : decode (rm_code mDos_giveBackChain) 102 = .ok (.getfield 30, 3) := by decide +kernel
theorem d_Dos_giveBackChain_105 : decode (rm_code mDos_giveBackChain) 105 = .ok (.bipush (71), 2) := by decide +kernel
theorem d_Dos_giveBackChain_107 : decode (rm_code mDos_giveBackChain) 107 = .ok (.iload_n 3, 1) := by decide +kernel
theorem d_Dos_giveBackChain_108 : decode (rm_code mDos_giveBackChain) 108 = .ok (.iload 4, 2) := by decide +kernel
theorem d_Dos_giveBackChain_110 : decode (rm_code mDos_giveBackChain) 110 = .ok (.invokevirtual 116, 3) := by decide +kernel
theorem d_Dos_giveBackChain_113 : decode (rm_code mDos_giveBackChain) 113 = .ok (.ireturn, 1) := by decide +kernel
theorem p_Dos_giveBackChain_0 {S : rz_S} {K : Int32 → rz_S → Prop} {a1 : Int32} {a2 : Int32} (w : rz mDos_giveBackChain 8 [(0, .ref 39), (3, .int a1), (4, .int a2), (5, .int 0)] [] S (rz_i K)) : rz mDos_giveBackChain 0 [(0, .ref 39), (1, .int a1), (2, .int a2)] [] S (rz_i K) := by
  refine rz_pure (pc' := 1) d_Dos_giveBackChain_0 rfl ?_
  refine rz_pure (pc' := 2) (l' := [(3, .int a1), (0, .ref 39), (1, .int a1), (2, .int a2)]) d_Dos_giveBackChain_1 rfl ?_
  refine rz_pure (pc' := 3) d_Dos_giveBackChain_2 rfl ?_
  refine rz_pure (pc' := 5) (l' := [(4, .int a2), (3, .int a1), (0, .ref 39), (1, .int a1), (2, .int a2)]) d_Dos_giveBackChain_3 rfl ?_
  refine rz_iconst (v := 0) d_Dos_giveBackChain_5 (by decide) ?_
  refine rz_pure (pc' := 8) (l' := [(5, .int 0), (4, .int a2), (3, .int a1), (0, .ref 39), (1, .int a1), (2, .int a2)]) d_Dos_giveBackChain_6 rfl ?_
  exact rz_pick (ks := [0, 3, 4, 5]) (l := [(0, .ref 39), (3, .int a1), (4, .int a2), (5, .int 0)]) rfl rfl (by decide) rfl w
theorem p_Dos_giveBackChain_8 {S : rz_S} {K : Int32 → rz_S → Prop} {a3 : Int32} {a4 : Int32} {a5 : Int32} (w : ((72 ≤ a5 → rz_ev mStatus_set [.ref 3, .int 71, .int a3, .int a4] S (rz_i (fun xq2 Sq2 => K xq2 Sq2))) ∧ (¬ 72 ≤ a5 → rz_ev mDisk_isLegal [.int a3, .int a4] S (rz_i (fun xq3 Sq3 => ((xq3 = 0 → rz_ev mStatus_set [.ref 3, .int 71, .int a3, .int a4] Sq3 (rz_i (fun xq9 Sq9 => K xq9 Sq9))) ∧ (¬ xq3 = 0 → rz_ev mBlockMap_giveBack [.ref 44, .int a3, .int a4] Sq3 (rz_v (fun Sq5 => rz_ev mDisk_readBlock [.ref 6, .int a3, .int a4, .ref 40] Sq5 (rz_i (fun xq6 Sq6 => ((xq6 = 0 → ((Sq6.1 40 0 = 0 → K xq6 Sq6) ∧ (¬ Sq6.1 40 0 = 0 → rz mDos_giveBackChain 8 [(0, .ref 39), (3, .int (Sq6.1 40 0)), (4, .int (Sq6.1 40 1)), (5, .int (a5 + 1))] [] Sq6 (rz_i K)))) ∧ (¬ xq6 = 0 → K xq6 Sq6))))))))))))) : rz mDos_giveBackChain 8 [(0, .ref 39), (3, .int a3), (4, .int a4), (5, .int a5)] [] S (rz_i K) := by
  refine rz_pure (pc' := 10) d_Dos_giveBackChain_8 rfl ?_
  refine rz_bipush (v := 72) d_Dos_giveBackChain_10 (by decide) ?_
  refine rz_icmpge (tgt := 101) d_Dos_giveBackChain_12 rfl (fun b1 => ?_) (fun b1 => ?_)
  · skip
    refine rz_pure (pc' := 102) d_Dos_giveBackChain_101 rfl ?_
    refine rz_getr d_Dos_giveBackChain_102 f_5_30 rfl rfl ?_
    refine rz_bipush (v := 71) d_Dos_giveBackChain_105 (by decide) ?_
    refine rz_pure (pc' := 108) d_Dos_giveBackChain_107 rfl ?_
    refine rz_pure (pc' := 110) d_Dos_giveBackChain_108 rfl ?_
    refine rz_callVi (t := [.int a4, .int a3, .int 71]) d_Dos_giveBackChain_110 w_5_116 rfl rfl rfl (w.1 b1) (fun xq2 Sq2 q2 => ?_)
    exact rz_ireti d_Dos_giveBackChain_113 rfl rfl q2
  · skip
    refine rz_pure (pc' := 16) d_Dos_giveBackChain_15 rfl ?_
    refine rz_pure (pc' := 18) d_Dos_giveBackChain_16 rfl ?_
    refine rz_callSi (t := [.int a4, .int a3]) d_Dos_giveBackChain_18 rfl w_5_212 rfl rfl (w.2 b1) (fun xq3 Sq3 q3 => ?_)
    refine rz_ifne (tgt := 37) d_Dos_giveBackChain_21 rfl (fun b4 => ?_) (fun b4 => ?_)
    · skip
      refine rz_pure (pc' := 38) d_Dos_giveBackChain_37 rfl ?_
      refine rz_getr d_Dos_giveBackChain_38 f_5_47 rfl rfl ?_
      refine rz_pure (pc' := 42) d_Dos_giveBackChain_41 rfl ?_
      refine rz_pure (pc' := 44) d_Dos_giveBackChain_42 rfl ?_
      refine rz_callVv (t := [.int a4, .int a3]) d_Dos_giveBackChain_44 w_5_245 rfl rfl rfl (q3.2 b4) (fun Sq5 q5 => ?_)
      refine rz_pure (pc' := 48) d_Dos_giveBackChain_47 rfl ?_
      refine rz_getr d_Dos_giveBackChain_48 f_5_34 rfl rfl ?_
      refine rz_pure (pc' := 52) d_Dos_giveBackChain_51 rfl ?_
      refine rz_pure (pc' := 54) d_Dos_giveBackChain_52 rfl ?_
      refine rz_pure (pc' := 55) d_Dos_giveBackChain_54 rfl ?_
      refine rz_getr d_Dos_giveBackChain_55 f_5_11 rfl rfl ?_
      refine rz_callVi (t := [.ref 40, .int a4, .int a3]) d_Dos_giveBackChain_58 w_5_216 rfl rfl rfl q5 (fun xq6 Sq6 q6 => ?_)
      refine rz_pure (pc' := 63) (l' := [(6, .int xq6), (0, .ref 39), (3, .int a3), (4, .int a4), (5, .int a5)]) d_Dos_giveBackChain_61 rfl ?_
      refine rz_pure (pc' := 65) d_Dos_giveBackChain_63 rfl ?_
      refine rz_ifne (tgt := 77) d_Dos_giveBackChain_65 rfl (fun b7 => ?_) (fun b7 => ?_)
      · skip
        refine rz_pure (pc' := 79) d_Dos_giveBackChain_77 rfl ?_
        exact rz_ireti d_Dos_giveBackChain_79 rfl rfl (q6.2 b7)
      · skip
        refine rz_pure (pc' := 69) d_Dos_giveBackChain_68 rfl ?_
        refine rz_getr d_Dos_giveBackChain_69 f_5_11 rfl rfl ?_
        refine rz_iconst (v := 0) d_Dos_giveBackChain_72 (by decide) ?_
        refine rz_ialdv (F := Sq6.1 40) (i := 0) d_Dos_giveBackChain_73 rfl (by decide) rfl (by decide) ?_
        refine rz_ifne (tgt := 80) d_Dos_giveBackChain_74 rfl (fun b8 => ?_) (fun b8 => ?_)
        · skip
          refine rz_pure (pc' := 81) d_Dos_giveBackChain_80 rfl ?_
          refine rz_getr d_Dos_giveBackChain_81 f_5_11 rfl rfl ?_
          refine rz_iconst (v := 0) d_Dos_giveBackChain_84 (by decide) ?_
          refine rz_ialdv (F := Sq6.1 40) (i := 0) d_Dos_giveBackChain_85 rfl (by decide) rfl (by decide) ?_
          refine rz_pure (pc' := 87) (l' := [(3, .int (Sq6.1 40 0)), (6, .int xq6), (0, .ref 39), (4, .int a4), (5, .int a5)]) d_Dos_giveBackChain_86 rfl ?_
          refine rz_pure (pc' := 88) d_Dos_giveBackChain_87 rfl ?_
          refine rz_getr d_Dos_giveBackChain_88 f_5_11 rfl rfl ?_
          refine rz_iconst (v := 1) d_Dos_giveBackChain_91 (by decide) ?_
          refine rz_ialdv (F := Sq6.1 40) (i := 1) d_Dos_giveBackChain_92 rfl (by decide) rfl (by decide) ?_
          refine rz_pure (pc' := 95) (l' := [(4, .int (Sq6.1 40 1)), (3, .int (Sq6.1 40 0)), (6, .int xq6), (0, .ref 39), (5, .int a5)]) d_Dos_giveBackChain_93 rfl ?_
          refine rz_pure (pc' := 98) (l' := [(5, .int (a5 + 1)), (4, .int (Sq6.1 40 1)), (3, .int (Sq6.1 40 0)), (6, .int xq6), (0, .ref 39)]) d_Dos_giveBackChain_95 rfl ?_
          refine rz_pure (pc' := 8) d_Dos_giveBackChain_98 rfl ?_
          exact rz_pick (ks := [0, 3, 4, 5]) (l := [(0, .ref 39), (3, .int (Sq6.1 40 0)), (4, .int (Sq6.1 40 1)), (5, .int (a5 + 1))]) rfl rfl (by decide) rfl ((q6.1 b7).2 b8)
        · skip
          refine rz_pure (pc' := 79) d_Dos_giveBackChain_77 rfl ?_
          exact rz_ireti d_Dos_giveBackChain_79 rfl rfl ((q6.1 b7).1 b8)
    · skip
      refine rz_pure (pc' := 25) d_Dos_giveBackChain_24 rfl ?_
      refine rz_getr d_Dos_giveBackChain_25 f_5_30 rfl rfl ?_
      refine rz_bipush (v := 71) d_Dos_giveBackChain_28 (by decide) ?_
      refine rz_pure (pc' := 31) d_Dos_giveBackChain_30 rfl ?_
      refine rz_pure (pc' := 33) d_Dos_giveBackChain_31 rfl ?_
      refine rz_callVi (t := [.int a4, .int a3, .int 71]) d_Dos_giveBackChain_33 w_5_116 rfl rfl rfl (q3.1 b4) (fun xq9 Sq9 q9 => ?_)
      exact rz_ireti d_Dos_giveBackChain_36 rfl rfl q9
theorem d_Directory_changeType_0 : decode (rm_code mDirectory_changeType) 0 = .ok (.aload_n 0, 1) := by decide +kernel
theorem d_Directory_changeType_1 : decode (rm_code mDirectory_changeType) 1 = .ok (.getfield 15, 3) := by decide +kernel
theorem d_Directory_changeType_4 : decode (rm_code mDirectory_changeType) 4 = .ok (.aload_n 0, 1) := by decide +kernel
theorem d_Directory_changeType_5 : decode (rm_code mDirectory_changeType) 5 = .ok (.getfield 27, 3) := by decide +kernel
theorem d_Directory_changeType_8 : decode (rm_code mDirectory_changeType) 8 = .ok (.aload_n 0, 1) := by decide +kernel
theorem d_Directory_changeType_9 : decode (rm_code mDirectory_changeType) 9 = .ok (.getfield 31, 3) := by decide +kernel
theorem d_Directory_changeType_12 : decode (rm_code mDirectory_changeType) 12 = .ok (.aload_n 0, 1) := by decide +kernel
theorem d_Directory_changeType_13 : decode (rm_code mDirectory_changeType) 13 = .ok (.getfield 9, 3) := by decide +kernel
theorem d_Directory_changeType_16 : decode (rm_code mDirectory_changeType) 16 = .ok (.invokevirtual 47, 3) := by decide +kernel
theorem d_Directory_changeType_19 : decode (rm_code mDirectory_changeType) 19 = .ok (.istore_n 2, 1) := by decide +kernel
theorem d_Directory_changeType_20 : decode (rm_code mDirectory_changeType) 20 = .ok (.iload_n 2, 1) := by decide +kernel
theorem d_Directory_changeType_21 : decode (rm_code mDirectory_changeType) 21 = .ok (.ifCond .eq (5), 3) := by decide +kernel
theorem d_Directory_changeType_24 : decode (rm_code mDirectory_changeType) 24 = .ok (.iload_n 2, 1) := by decide +kernel
theorem d_Directory_changeType_25 : decode (rm_code mDirectory_changeType) 25 = .ok (.ireturn, 1) := by decide +kernel
theorem d_Directory_changeType_26 : decode (rm_code mDirectory_changeType) 26 = .ok (.aload_n 0, 1) := by decide +kernel
theorem d_Directory_changeType_27 : decode (rm_code mDirectory_changeType) 27 = .ok (.getfield 9, 3) := by decide +kernel
theorem d_Directory_changeType_30 : decode (rm_code mDirectory_changeType) 30 = .ok (.aload_n 0, 1) := by decide +kernel
theorem d_Directory_changeType_31 : decode (rm_code mDirectory_changeType) 31 = .ok (.invokevirtual 72, 3) := by decide +kernel
theorem d_Directory_changeType_34 : decode (rm_code mDirectory_changeType) 34 = .ok (.iconst 2, 1) := by decide +kernel
theorem d_Directory_changeType_35 : decode (rm_code mDirectory_changeType) 35 = .ok (.iadd, 1) := by decide +kernel
theorem d_Directory_changeType_36 : decode (rm_code mDirectory_changeType) 36 = .ok (.iload_n 1, 1) := by decide +kernel
theorem d_Directory_changeType_37 : decode (rm_code mDirectory_changeType) 37 = .ok (.iastore, 1) := by decide +kernel
theorem d_Directory_changeType_38 : decode (rm_code mDirectory_changeType) 38 = .ok (.aload_n 0, 1) := by decide +kernel
theorem d_Directory_changeType_39 : decode (rm_code mDirectory_changeType) 39 = .ok (.getfield 15, 3) := by decide +kernel
theorem d_Directory_changeType_42 : decode (rm_code mDirectory_changeType) 42 = .ok (.aload_n 0, 1) := by decide +kernel
theorem d_Directory_changeType_43 : decode (rm_code mDirectory_changeType) 43 = .ok (.getfield 27, 3) := by decide +kernel
theorem d_Directory_changeType_46 : decode (rm_code mDirectory_changeType) 46 = .ok (.aload_n 0, 1) := by decide +kernel
theorem d_Directory_changeType_47 : decode (rm_code mDirectory_changeType) 47 = .ok (.getfield 31, 3) := by decide +kernel
theorem d_Directory_changeType_50 : decode (rm_code mDirectory_changeType) 50 = .ok (.aload_n 0, 1) := by decide +kernel
theorem d_Directory_changeType_51 : decode (rm_code mDirectory_changeType) 51 = .ok (.getfield 9, 3) := by decide +kernel
theorem d_Directory_changeType_54 : decode (rm_code mDirectory_changeType) 54 = .ok (.invokevirtual 88, 3) := by decide +kernel
theorem d_Directory_changeType_57 : decode (rm_code mDirectory_changeType) 57 = .ok (.ireturn, 1) := by decide +kernel
theorem p_Directory_changeType_0 {S : rz_S} {K : Int32 → rz_S → Prop} {a1 : Int32} (w : rz_ev mDisk_readBlock [.ref 6, .int (S.2 46 1), .int (S.2 46 2), .ref 47] S (rz_i (fun xq1 Sq1 => ((xq1 = 0 → rz_ev mDirectory_base [.ref 46] Sq1 (rz_i (fun xq3 Sq3 => rx_in (xq3 + 2) 64 = true ∧ rz_ev mDisk_writeBlock [.ref 6, .int (Sq3.2 46 1), .int (Sq3.2 46 2), .ref 47] (rz_fA Sq3 47 (upd (Sq3.1 47) ((xq3 + 2).toNatClampNeg) a1)) (rz_i (fun xq4 Sq4 => K xq4 Sq4))))) ∧ (¬ xq1 = 0 → K xq1 Sq1))))) : rz mDirectory_changeType 0 [(0, .ref 46), (1, .int a1)] [] S (rz_i K) := by
  refine rz_pure (pc' := 1) d_Directory_changeType_0 rfl ?_
  refine rz_getr d_Directory_changeType_1 f_3_15 rfl rfl ?_
  refine rz_pure (pc' := 5) d_Directory_changeType_4 rfl ?_
  refine rz_getiv (v := S.2 46 1) d_Directory_changeType_5 f_3_27 rfl rfl rfl ?_
  refine rz_pure (pc' := 9) d_Directory_changeType_8 rfl ?_
  refine rz_getiv (v := S.2 46 2) d_Directory_changeType_9 f_3_31 rfl rfl rfl ?_
  refine rz_pure (pc' := 13) d_Directory_changeType_12 rfl ?_
  refine rz_getr d_Directory_changeType_13 f_3_9 rfl rfl ?_
  refine rz_callVi (t := [.ref 47, .int (S.2 46 2), .int (S.2 46 1)]) d_Directory_changeType_16 w_3_47 rfl rfl rfl w (fun xq1 Sq1 q1 => ?_)
  refine rz_pure (pc' := 20) (l' := [(2, .int xq1), (0, .ref 46), (1, .int a1)]) d_Directory_changeType_19 rfl ?_
  refine rz_pure (pc' := 21) d_Directory_changeType_20 rfl ?_
  refine rz_ifeq (tgt := 26) d_Directory_changeType_21 rfl (fun b2 => ?_) (fun b2 => ?_)
  · skip
    refine rz_pure (pc' := 27) d_Directory_changeType_26 rfl ?_
    refine rz_getr d_Directory_changeType_27 f_3_9 rfl rfl ?_
    refine rz_pure (pc' := 31) d_Directory_changeType_30 rfl ?_
    refine rz_callVi (t := []) d_Directory_changeType_31 w_3_72 rfl rfl rfl (q1.1 b2) (fun xq3 Sq3 q3 => ?_)
    refine rz_iconst (v := 2) d_Directory_changeType_34 (by decide) ?_
    refine rz_iadd d_Directory_changeType_35 ?_
    refine rz_pure (pc' := 37) d_Directory_changeType_36 rfl ?_
    refine rz_iastv (F := Sq3.1 47) (i := (xq3 + 2).toNatClampNeg) d_Directory_changeType_37 rfl q3.1 rfl rfl ?_
    refine rz_pure (pc' := 39) d_Directory_changeType_38 rfl ?_
    refine rz_getr d_Directory_changeType_39 f_3_15 rfl rfl ?_
    refine rz_pure (pc' := 43) d_Directory_changeType_42 rfl ?_
    refine rz_getiv (v := Sq3.2 46 1) d_Directory_changeType_43 f_3_27 rfl rfl rfl ?_
    refine rz_pure (pc' := 47) d_Directory_changeType_46 rfl ?_
    refine rz_getiv (v := Sq3.2 46 2) d_Directory_changeType_47 f_3_31 rfl rfl rfl ?_
    refine rz_pure (pc' := 51) d_Directory_changeType_50 rfl ?_
    refine rz_getr d_Directory_changeType_51 f_3_9 rfl rfl ?_
    refine rz_callVi (t := [.ref 47, .int (Sq3.2 46 2), .int (Sq3.2 46 1)]) d_Directory_changeType_54 w_3_88 rfl rfl rfl q3.2 (fun xq4 Sq4 q4 => ?_)
    exact rz_ireti d_Directory_changeType_57 rfl rfl q4
  · skip
    refine rz_pure (pc' := 25) d_Directory_changeType_24 rfl ?_
    exact rz_ireti d_Directory_changeType_25 rfl rfl (q1.2 b2)
theorem d_Directory_changeName_0 : decode (rm_code mDirectory_changeName) 0 = .ok (.aload_n 0, 1) := by decide +kernel
theorem d_Directory_changeName_1 : decode (rm_code mDirectory_changeName) 1 = .ok (.getfield 15, 3) := by decide +kernel
theorem d_Directory_changeName_4 : decode (rm_code mDirectory_changeName) 4 = .ok (.aload_n 0, 1) := by decide +kernel
theorem d_Directory_changeName_5 : decode (rm_code mDirectory_changeName) 5 = .ok (.getfield 27, 3) := by decide +kernel
theorem d_Directory_changeName_8 : decode (rm_code mDirectory_changeName) 8 = .ok (.aload_n 0, 1) := by decide +kernel
theorem d_Directory_changeName_9 : decode (rm_code mDirectory_changeName) 9 = .ok (.getfield 31, 3) := by decide +kernel
theorem d_Directory_changeName_12 : decode (rm_code mDirectory_changeName) 12 = .ok (.aload_n 0, 1) := by decide +kernel
theorem d_Directory_changeName_13 : decode (rm_code mDirectory_changeName) 13 = .ok (.getfield 9, 3) := by decide +kernel
theorem d_Directory_changeName_16 : decode (rm_code mDirectory_changeName) 16 = .ok (.invokevirtual 47, 3) := by decide +kernel
theorem d_Directory_changeName_19 : decode (rm_code mDirectory_changeName) 19 = .ok (.istore_n 2, 1) := by decide +kernel
theorem d_Directory_changeName_20 : decode (rm_code mDirectory_changeName) 20 = .ok (.iload_n 2, 1) := by decide +kernel
theorem d_Directory_changeName_21 : decode (rm_code mDirectory_changeName) 21 = .ok (.ifCond .eq (5), 3) := by decide +kernel
theorem d_Directory_changeName_24 : decode (rm_code mDirectory_changeName) 24 = .ok (.iload_n 2, 1) := by decide +kernel
theorem d_Directory_changeName_25 : decode (rm_code mDirectory_changeName) 25 = .ok (.ireturn, 1) := by decide +kernel
theorem d_Directory_changeName_26 : decode (rm_code mDirectory_changeName) 26 = .ok (.aload_n 1, 1) := by decide +kernel
theorem d_Directory_changeName_27 : decode (rm_code mDirectory_changeName) 27 = .ok (.aload_n 0, 1) := by decide +kernel
theorem d_Directory_changeName_28 : decode (rm_code mDirectory_changeName) 28 = .ok (.getfield 9, 3) := by decide +kernel
theorem d_Directory_changeName_31 : decode (rm_code mDirectory_changeName) 31 = .ok (.aload_n 0, 1) := by decide +kernel
theorem d_Directory_changeName_32 : decode (rm_code mDirectory_changeName) 32 = .ok (.invokevirtual 72, 3) := by decide +kernel
theorem d_Directory_changeName_35 : decode (rm_code mDirectory_changeName) 35 = .ok (.iconst 5, 1) := by decide +kernel
theorem d_Directory_changeName_36 : decode (rm_code mDirectory_changeName) 36 = .ok (.iadd, 1) := by decide +kernel
theorem d_Directory_changeName_37 : decode (rm_code mDirectory_changeName) 37 = .ok (.invokevirtual 91, 3) := by decide +kernel
theorem d_Directory_changeName_40 : decode (rm_code mDirectory_changeName) 40 = .ok (.aload_n 0, 1) := by decide +kernel
theorem d_Directory_changeName_41 : decode (rm_code mDirectory_changeName) 41 = .ok (.getfield 15, 3) := by decide +kernel
theorem d_Directory_changeName_44 : decode (rm_code mDirectory_changeName) 44 = .ok (.aload_n 0, 1) := by decide +kernel
theorem d_Directory_changeName_45 : decode (rm_code mDirectory_changeName) 45 = .ok (.getfield 27, 3) := by decide +kernel
theorem d_Directory_changeName_48 : decode (rm_code mDirectory_changeName) 48 = .ok (.aload_n 0, 1) := by decide +kernel
theorem d_Directory_changeName_49 : decode (rm_code mDirectory_changeName) 49 = .ok (.getfield 31, 3) := by decide +kernel
theorem d_Directory_changeName_52 : decode (rm_code mDirectory_changeName) 52 = .ok (.aload_n 0, 1) := by decide +kernel
theorem d_Directory_changeName_53 : decode (rm_code mDirectory_changeName) 53 = .ok (.getfield 9, 3) := by decide +kernel
theorem d_Directory_changeName_56 : decode (rm_code mDirectory_changeName) 56 = .ok (.invokevirtual 88, 3) := by decide +kernel
theorem d_Directory_changeName_59 : decode (rm_code mDirectory_changeName) 59 = .ok (.ireturn, 1) := by decide +kernel
theorem p_Directory_changeName_0 {S : rz_S} {K : Int32 → rz_S → Prop} {a1 : Nat} (ha1 : ptP a1) (w : rz_ev mDisk_readBlock [.ref 6, .int (S.2 46 1), .int (S.2 46 2), .ref 47] S (rz_i (fun xq1 Sq1 => ((xq1 = 0 → rz_ev mDirectory_base [.ref 46] Sq1 (rz_i (fun xq3 Sq3 => rz_ev mPattern_putInto [.ref a1, .ref 47, .int (xq3 + 5)] Sq3 (rz_v (fun Sq4 => rz_ev mDisk_writeBlock [.ref 6, .int (Sq4.2 46 1), .int (Sq4.2 46 2), .ref 47] Sq4 (rz_i (fun xq5 Sq5 => K xq5 Sq5))))))) ∧ (¬ xq1 = 0 → K xq1 Sq1))))) : rz mDirectory_changeName 0 [(0, .ref 46), (1, .ref a1)] [] S (rz_i K) := by
  refine rz_pure (pc' := 1) d_Directory_changeName_0 rfl ?_
  refine rz_getr d_Directory_changeName_1 f_3_15 rfl rfl ?_
  refine rz_pure (pc' := 5) d_Directory_changeName_4 rfl ?_
  refine rz_getiv (v := S.2 46 1) d_Directory_changeName_5 f_3_27 rfl rfl rfl ?_
  refine rz_pure (pc' := 9) d_Directory_changeName_8 rfl ?_
  refine rz_getiv (v := S.2 46 2) d_Directory_changeName_9 f_3_31 rfl rfl rfl ?_
  refine rz_pure (pc' := 13) d_Directory_changeName_12 rfl ?_
  refine rz_getr d_Directory_changeName_13 f_3_9 rfl rfl ?_
  refine rz_callVi (t := [.ref 47, .int (S.2 46 2), .int (S.2 46 1)]) d_Directory_changeName_16 w_3_47 rfl rfl rfl w (fun xq1 Sq1 q1 => ?_)
  refine rz_pure (pc' := 20) (l' := [(2, .int xq1), (0, .ref 46), (1, .ref a1)]) d_Directory_changeName_19 rfl ?_
  refine rz_pure (pc' := 21) d_Directory_changeName_20 rfl ?_
  refine rz_ifeq (tgt := 26) d_Directory_changeName_21 rfl (fun b2 => ?_) (fun b2 => ?_)
  · skip
    refine rz_pure (pc' := 27) d_Directory_changeName_26 rfl ?_
    refine rz_pure (pc' := 28) d_Directory_changeName_27 rfl ?_
    refine rz_getr d_Directory_changeName_28 f_3_9 rfl rfl ?_
    refine rz_pure (pc' := 32) d_Directory_changeName_31 rfl ?_
    refine rz_callVi (t := []) d_Directory_changeName_32 w_3_72 rfl rfl rfl (q1.1 b2) (fun xq3 Sq3 q3 => ?_)
    refine rz_iconst (v := 5) d_Directory_changeName_35 (by decide) ?_
    refine rz_iadd d_Directory_changeName_36 ?_
    refine rz_callVv (t := [.int (xq3 + 5), .ref 47]) d_Directory_changeName_37 w_3_91 rfl (ptT ha1) rfl q3 (fun Sq4 q4 => ?_)
    refine rz_pure (pc' := 41) d_Directory_changeName_40 rfl ?_
    refine rz_getr d_Directory_changeName_41 f_3_15 rfl rfl ?_
    refine rz_pure (pc' := 45) d_Directory_changeName_44 rfl ?_
    refine rz_getiv (v := Sq4.2 46 1) d_Directory_changeName_45 f_3_27 rfl rfl rfl ?_
    refine rz_pure (pc' := 49) d_Directory_changeName_48 rfl ?_
    refine rz_getiv (v := Sq4.2 46 2) d_Directory_changeName_49 f_3_31 rfl rfl rfl ?_
    refine rz_pure (pc' := 53) d_Directory_changeName_52 rfl ?_
    refine rz_getr d_Directory_changeName_53 f_3_9 rfl rfl ?_
    refine rz_callVi (t := [.ref 47, .int (Sq4.2 46 2), .int (Sq4.2 46 1)]) d_Directory_changeName_56 w_3_88 rfl rfl rfl q4 (fun xq5 Sq5 q5 => ?_)
    exact rz_ireti d_Directory_changeName_59 rfl rfl q5
  · skip
    refine rz_pure (pc' := 25) d_Directory_changeName_24 rfl ?_
    exact rz_ireti d_Directory_changeName_25 rfl rfl (q1.2 b2)
theorem d_Directory_isClosed_0 : decode (rm_code mDirectory_isClosed) 0 = .ok (.aload_n 0, 1) := by decide +kernel
theorem d_Directory_isClosed_1 : decode (rm_code mDirectory_isClosed) 1 = .ok (.invokevirtual 76, 3) := by decide +kernel
theorem d_Directory_isClosed_4 : decode (rm_code mDirectory_isClosed) 4 = .ok (.sipush (128), 3) := by decide +kernel
theorem d_Directory_isClosed_7 : decode (rm_code mDirectory_isClosed) 7 = .ok (.if_icmp .lt (7), 3) := by decide +kernel
theorem d_Directory_isClosed_10 : decode (rm_code mDirectory_isClosed) 10 = .ok (.iconst 1, 1) := by decide +kernel
theorem d_Directory_isClosed_11 : decode (rm_code mDirectory_isClosed) 11 = .ok (.goto (4), 3) := by decide +kernel
theorem d_Directory_isClosed_14 : decode (rm_code mDirectory_isClosed) 14 = .ok (.iconst 0, 1) := by decide +kernel
theorem d_Directory_isClosed_15 : decode (rm_code mDirectory_isClosed) 15 = .ok (.ireturn, 1) := by decide +kernel
theorem p_Directory_isClosed_0 {S : rz_S} {K : Int32 → rz_S → Prop} (w : rz_ev mDirectory_type [.ref 46] S (rz_i (fun xq1 Sq1 => ((xq1 < 128 → K 0 Sq1) ∧ (¬ xq1 < 128 → K 1 Sq1))))) : rz mDirectory_isClosed 0 [(0, .ref 46)] [] S (rz_i K) := by
  refine rz_pure (pc' := 1) d_Directory_isClosed_0 rfl ?_
  refine rz_callVi (t := []) d_Directory_isClosed_1 w_3_76 rfl rfl rfl w (fun xq1 Sq1 q1 => ?_)
  refine rz_sipush (v := 128) d_Directory_isClosed_4 (by decide) ?_
  refine rz_icmplt (tgt := 14) d_Directory_isClosed_7 rfl (fun b2 => ?_) (fun b2 => ?_)
  · skip
    refine rz_iconst (v := 0) d_Directory_isClosed_14 (by decide) ?_
    exact rz_ireti d_Directory_isClosed_15 rfl (by decide) (q1.1 b2)
  · skip
    refine rz_iconst (v := 1) d_Directory_isClosed_10 (by decide) ?_
    refine rz_pure (pc' := 15) d_Directory_isClosed_11 rfl ?_
    exact rz_ireti d_Directory_isClosed_15 rfl (by decide) (q1.2 b2)
theorem d_Dos_buffer_0 : decode (rm_code mDos_buffer) 0 = .ok (.iload_n 1, 1) := by decide +kernel
theorem d_Dos_buffer_1 : decode (rm_code mDos_buffer) 1 = .ok (.ifCond .lt (26), 3) := by decide +kernel
theorem d_Dos_buffer_4 : decode (rm_code mDos_buffer) 4 = .ok (.iload_n 1, 1) := by decide +kernel
theorem d_Dos_buffer_5 : decode (rm_code mDos_buffer) 5 = .ok (.bipush (15), 2) := by decide +kernel
theorem d_Dos_buffer_7 : decode (rm_code mDos_buffer) 7 = .ok (.if_icmp .ge (20), 3) := by decide +kernel
theorem d_Dos_buffer_10 : decode (rm_code mDos_buffer) 10 = .ok (.aload_n 0, 1) := by decide +kernel
theorem d_Dos_buffer_11 : decode (rm_code mDos_buffer) 11 = .ok (.getfield 19, 3) := by decide +kernel
theorem d_Dos_buffer_14 : decode (rm_code mDos_buffer) 14 = .ok (.iload_n 1, 1) := by decide +kernel
theorem d_Dos_buffer_15 : decode (rm_code mDos_buffer) 15 = .ok (.aaload, 1) := by decide +kernel
theorem d_Dos_buffer_16 : decode (rm_code mDos_buffer) 16 = .ok (.getfield 61, 3) := by decide +kernel
theorem d_Dos_buffer_19 : decode (rm_code mDos_buffer) 19 = .ok (.iconst 4, 1) := by decide +kernel
theorem d_Dos_buffer_20 : decode (rm_code mDos_buffer) 20 = .ok (.if_icmp .ne (7), 3) := by decide +kernel
theorem d_Dos_buffer_23 : decode (rm_code mDos_buffer) 23 = .ok (.iconst 1, 1) := by decide +kernel
theorem d_Dos_buffer_24 : decode (rm_code mDos_buffer) 24 = .ok (.goto (4), 3) := by decide +kernel
theorem d_Dos_buffer_27 : decode (rm_code mDos_buffer) 27 = .ok (.iconst 0, 1) := by decide +kernel
theorem d_Dos_buffer_28 : decode (rm_code mDos_buffer) 28 = .ok (.istore_n 2, 1) := by decide +kernel
theorem d_Dos_buffer_29 : decode (rm_code mDos_buffer) 29 = .ok (.iload_n 2, 1) := by decide +kernel
theorem d_Dos_buffer_30 : decode (rm_code mDos_buffer) 30 = .ok (.ifCond .eq (12), 3) := by decide +kernel
theorem d_Dos_buffer_33 : decode (rm_code mDos_buffer) 33 = .ok (.aload_n 0, 1) := by decide +kernel
theorem d_Dos_buffer_34 : decode (rm_code mDos_buffer) 34 = .ok (.getfield 19, 3) := by decide +kernel
theorem d_Dos_buffer_37 : decode (rm_code mDos_buffer) 37 = .ok (.iload_n 1, 1) := by decide +kernel
theorem d_Dos_buffer_38 : decode (rm_code mDos_buffer) 38 = .ok (.aaload, 1) := by decide +kernel
theorem d_Dos_buffer_39 : decode (rm_code mDos_buffer) 39 = .ok (.goto (4), 3) := by decide +kernel
theorem d_Dos_buffer_42 : decode (rm_code mDos_buffer) 42 = .ok (.aconst_null, 1) := by decide +kernel
theorem d_Dos_buffer_43 : decode (rm_code mDos_buffer) 43 = .ok (.areturn, 1) := by decide +kernel
theorem p_Dos_buffer_0 {S : rz_S} {K : Value → rz_S → Prop} {a1 : Int32} (w : ((a1 < 0 → rz mDos_buffer 27 [(0, .ref 39), (1, .int a1)] [] S (rz_r K)) ∧ (¬ a1 < 0 → ((15 ≤ a1 → rz mDos_buffer 27 [(0, .ref 39), (1, .int a1)] [] S (rz_r K)) ∧ (¬ 15 ≤ a1 → rx_in a1 15 = true ∧ ((S.2 (48 + 4 * a1.toNatClampNeg) 0 = 4 → rz mDos_buffer 28 [(0, .ref 39), (1, .int a1)] [.int 1] S (rz_r K)) ∧ (¬ S.2 (48 + 4 * a1.toNatClampNeg) 0 = 4 → rz mDos_buffer 27 [(0, .ref 39), (1, .int a1)] [] S (rz_r K)))))))) : rz mDos_buffer 0 [(0, .ref 39), (1, .int a1)] [] S (rz_r K) := by
  refine rz_pure (pc' := 1) d_Dos_buffer_0 rfl ?_
  refine rz_iflt (tgt := 27) d_Dos_buffer_1 rfl (fun b1 => ?_) (fun b1 => ?_)
  · skip
    exact rz_pick (ks := [0, 1]) (l := [(0, .ref 39), (1, .int a1)]) rfl rfl (by decide) rfl (w.1 b1)
  · skip
    refine rz_pure (pc' := 5) d_Dos_buffer_4 rfl ?_
    refine rz_bipush (v := 15) d_Dos_buffer_5 (by decide) ?_
    refine rz_icmpge (tgt := 27) d_Dos_buffer_7 rfl (fun b2 => ?_) (fun b2 => ?_)
    · skip
      exact rz_pick (ks := [0, 1]) (l := [(0, .ref 39), (1, .int a1)]) rfl rfl (by decide) rfl ((w.2 b1).1 b2)
    · skip
      refine rz_pure (pc' := 11) d_Dos_buffer_10 rfl ?_
      refine rz_getr d_Dos_buffer_11 f_5_19 rfl rfl ?_
      refine rz_pure (pc' := 15) d_Dos_buffer_14 rfl ?_
      have e3 := chI ((w.2 b1).2 b2).1
      have ze3 := chZ e3
      refine rz_aldC d_Dos_buffer_15 rfl ((w.2 b1).2 b2).1 ?_
      refine rz_getiv (v := S.2 (48 + 4 * a1.toNatClampNeg) 0) d_Dos_buffer_16 f_5_61 (chTP e3) rfl rfl ?_
      refine rz_iconst (v := 4) d_Dos_buffer_19 (by decide) ?_
      refine rz_icmpne (tgt := 27) d_Dos_buffer_20 rfl (fun b4 => ?_) (fun b4 => ?_)
      · skip
        exact rz_pick (ks := [0, 1]) (l := [(0, .ref 39), (1, .int a1)]) rfl rfl (by decide) rfl (((w.2 b1).2 b2).2.2 b4)
      · skip
        refine rz_iconst (v := 1) d_Dos_buffer_23 (by decide) ?_
        refine rz_pure (pc' := 28) d_Dos_buffer_24 rfl ?_
        exact rz_pick (ks := [0, 1]) (l := [(0, .ref 39), (1, .int a1)]) rfl rfl (by decide) rfl (((w.2 b1).2 b2).2.1 b4)
theorem p_Dos_buffer_27 {S : rz_S} {K : Value → rz_S → Prop} {a1 : Int32} (w : rz mDos_buffer 28 [(0, .ref 39), (1, .int a1)] [.int 0] S (rz_r K)) : rz mDos_buffer 27 [(0, .ref 39), (1, .int a1)] [] S (rz_r K) := by
  refine rz_iconst (v := 0) d_Dos_buffer_27 (by decide) ?_
  exact rz_pick (ks := [0, 1]) (l := [(0, .ref 39), (1, .int a1)]) rfl rfl (by decide) rfl w
theorem p_Dos_buffer_28 {S : rz_S} {K : Value → rz_S → Prop} {a1 : Int32} {s0 : Int32} (w : ((s0 = 0 → K (.null) S) ∧ (¬ s0 = 0 → rx_in a1 15 = true ∧ K (.ref (48 + 4 * a1.toNatClampNeg)) S))) : rz mDos_buffer 28 [(0, .ref 39), (1, .int a1)] [.int s0] S (rz_r K) := by
  refine rz_pure (pc' := 29) (l' := [(2, .int s0), (0, .ref 39), (1, .int a1)]) d_Dos_buffer_28 rfl ?_
  refine rz_pure (pc' := 30) d_Dos_buffer_29 rfl ?_
  refine rz_ifeq (tgt := 42) d_Dos_buffer_30 rfl (fun b1 => ?_) (fun b1 => ?_)
  · skip
    refine rz_pure (pc' := 43) d_Dos_buffer_42 rfl ?_
    exact rz_anull d_Dos_buffer_43 rfl ⟨_, rfl, (w.1 b1)⟩
  · skip
    refine rz_pure (pc' := 34) d_Dos_buffer_33 rfl ?_
    refine rz_getr d_Dos_buffer_34 f_5_19 rfl rfl ?_
    refine rz_pure (pc' := 38) d_Dos_buffer_37 rfl ?_
    have e2 := chI (w.2 b1).1
    have ze2 := chZ e2
    refine rz_aldC d_Dos_buffer_38 rfl (w.2 b1).1 ?_
    refine rz_pure (pc' := 43) d_Dos_buffer_39 rfl ?_
    exact rz_aret d_Dos_buffer_43 rfl ⟨_, rfl, (w.2 b1).2⟩
theorem d_Dos_openChannel_0 : decode (rm_code mDos_openChannel) 0 = .ok (.iload_n 1, 1) := by decide +kernel
theorem d_Dos_openChannel_1 : decode (rm_code mDos_openChannel) 1 = .ok (.ifCond .lt (9), 3) := by decide +kernel
theorem d_Dos_openChannel_4 : decode (rm_code mDos_openChannel) 4 = .ok (.iload_n 1, 1) := by decide +kernel
theorem d_Dos_openChannel_5 : decode (rm_code mDos_openChannel) 5 = .ok (.bipush (15), 2) := by decide +kernel
theorem d_Dos_openChannel_7 : decode (rm_code mDos_openChannel) 7 = .ok (.if_icmp .lt (5), 3) := by decide +kernel
theorem d_Dos_openChannel_10 : decode (rm_code mDos_openChannel) 10 = .ok (.iconst 0, 1) := by decide +kernel
theorem d_Dos_openChannel_11 : decode (rm_code mDos_openChannel) 11 = .ok (.ireturn, 1) := by decide +kernel
theorem d_Dos_openChannel_12 : decode (rm_code mDos_openChannel) 12 = .ok (.aload_n 0, 1) := by decide +kernel
theorem d_Dos_openChannel_13 : decode (rm_code mDos_openChannel) 13 = .ok (.getfield 19, 3) := by decide +kernel
theorem d_Dos_openChannel_16 : decode (rm_code mDos_openChannel) 16 = .ok (.iload_n 1, 1) := by decide +kernel
theorem d_Dos_openChannel_17 : decode (rm_code mDos_openChannel) 17 = .ok (.aaload, 1) := by decide +kernel
theorem d_Dos_openChannel_18 : decode (rm_code mDos_openChannel) 18 = .ok (.astore_n 2, 1) := by decide +kernel
theorem d_Dos_openChannel_19 : decode (rm_code mDos_openChannel) 19 = .ok (.aload_n 0, 1) := by decide +kernel
theorem d_Dos_openChannel_20 : decode (rm_code mDos_openChannel) 20 = .ok (.iload_n 1, 1) := by decide +kernel
theorem d_Dos_openChannel_21 : decode (rm_code mDos_openChannel) 21 = .ok (.invokevirtual 65, 3) := by decide +kernel
theorem d_Dos_openChannel_24 : decode (rm_code mDos_openChannel) 24 = .ok (.istore_n 3, 1) := by decide +kernel
theorem d_Dos_openChannel_25 : decode (rm_code mDos_openChannel) 25 = .ok (.iload_n 3, 1) := by decide +kernel
theorem d_Dos_openChannel_26 : decode (rm_code mDos_openChannel) 26 = .ok (.ifCond .eq (5), 3) := by decide +kernel
theorem d_Dos_openChannel_29 : decode (rm_code mDos_openChannel) 29 = .ok (.iload_n 3, 1) := by decide +kernel
theorem d_Dos_openChannel_30 : decode (rm_code mDos_openChannel) 30 = .ok (.ireturn, 1) := by decide +kernel
theorem d_Dos_openChannel_31 : decode (rm_code mDos_openChannel) 31 = .ok (.aload_n 0, 1) := by decide +kernel
theorem d_Dos_openChannel_32 : decode (rm_code mDos_openChannel) 32 = .ok (.invokevirtual 112, 3) := by decide +kernel
theorem d_Dos_openChannel_35 : decode (rm_code mDos_openChannel) 35 = .ok (.iconst 3, 1) := by decide +kernel
theorem d_Dos_openChannel_36 : decode (rm_code mDos_openChannel) 36 = .ok (.if_icmp .lt (15), 3) := by decide +kernel
theorem d_Dos_openChannel_39 : decode (rm_code mDos_openChannel) 39 = .ok (.aload_n 0, 1) := by decide +kernel
theorem d_Dos_openChannel_40 : decode (rm_code mDos_openChannel) 40 = .ok (.getfield 30, 3) := by decide +kernel
theorem d_Dos_openChannel_43 : decode (rm_code mDos_openChannel) 43 = .ok (.bipush (70), 2) := by decide +kernel
theorem d_Dos_openChannel_45 : decode (rm_code mDos_openChannel) 45 = .ok (.iconst 0, 1) := by decide +kernel
theorem d_Dos_openChannel_46 : decode (rm_code mDos_openChannel) 46 = .ok (.iconst 0, 1) := by decide +kernel
theorem d_Dos_openChannel_47 : decode (rm_code mDos_openChannel) 47 = .ok (.invokevirtual 116, 3) := by decide +kernel
theorem d_Dos_openChannel_50 : decode (rm_code mDos_openChannel) 50 = .ok (.ireturn, 1) := by decide +kernel
theorem d_Dos_openChannel_51 : decode (rm_code mDos_openChannel) 51 = .ok (.aload_n 0, 1) := by decide +kernel
theorem d_Dos_openChannel_52 : decode (rm_code mDos_openChannel) 52 = .ok (.getfield 38, 3) := by decide +kernel
theorem d_Dos_openChannel_55 : decode (rm_code mDos_openChannel) 55 = .ok (.iconst 0, 1) := by decide +kernel
theorem d_Dos_openChannel_56 : decode (rm_code mDos_openChannel) 56 = .ok (.invokevirtual 122, 3) := by decide +kernel
theorem d_Dos_openChannel_59 : decode (rm_code mDos_openChannel) 59 = .ok (.bipush (35), 2) := by decide +kernel
theorem d_Dos_openChannel_61 : decode (rm_code mDos_openChannel) 61 = .ok (.if_icmp .ne (9), 3) := by decide +kernel
theorem d_Dos_openChannel_64 : decode (rm_code mDos_openChannel) 64 = .ok (.aload_n 0, 1) := by decide +kernel
theorem d_Dos_openChannel_65 : decode (rm_code mDos_openChannel) 65 = .ok (.aload_n 2, 1) := by decide +kernel
theorem d_Dos_openChannel_66 : decode (rm_code mDos_openChannel) 66 = .ok (.invokevirtual 127, 3) := by decide +kernel
theorem d_Dos_openChannel_69 : decode (rm_code mDos_openChannel) 69 = .ok (.ireturn, 1) := by decide +kernel
theorem d_Dos_openChannel_70 : decode (rm_code mDos_openChannel) 70 = .ok (.aload_n 0, 1) := by decide +kernel
theorem d_Dos_openChannel_71 : decode (rm_code mDos_openChannel) 71 = .ok (.getfield 38, 3) := by decide +kernel
theorem d_Dos_openChannel_74 : decode (rm_code mDos_openChannel) 74 = .ok (.iconst 0, 1) := by decide +kernel
theorem d_Dos_openChannel_75 : decode (rm_code mDos_openChannel) 75 = .ok (.invokevirtual 122, 3) := by decide +kernel
theorem d_Dos_openChannel_78 : decode (rm_code mDos_openChannel) 78 = .ok (.bipush (36), 2) := by decide +kernel
theorem d_Dos_openChannel_80 : decode (rm_code mDos_openChannel) 80 = .ok (.if_icmp .ne (9), 3) := by decide +kernel
theorem d_Dos_openChannel_83 : decode (rm_code mDos_openChannel) 83 = .ok (.aload_n 0, 1) := by decide +kernel
theorem d_Dos_openChannel_84 : decode (rm_code mDos_openChannel) 84 = .ok (.aload_n 2, 1) := by decide +kernel
theorem d_Dos_openChannel_85 : decode (rm_code mDos_openChannel) 85 = .ok (.invokevirtual 131, 3) := by decide +kernel
theorem d_Dos_openChannel_88 : decode (rm_code mDos_openChannel) 88 = .ok (.ireturn, 1) := by decide +kernel
theorem d_Dos_openChannel_89 : decode (rm_code mDos_openChannel) 89 = .ok (.aload_n 0, 1) := by decide +kernel
theorem d_Dos_openChannel_90 : decode (rm_code mDos_openChannel) 90 = .ok (.iload_n 1, 1) := by decide +kernel
theorem d_Dos_openChannel_91 : decode (rm_code mDos_openChannel) 91 = .ok (.invokevirtual 134, 3) := by decide +kernel
theorem d_Dos_openChannel_94 : decode (rm_code mDos_openChannel) 94 = .ok (.istore_n 3, 1) := by decide +kernel
theorem d_Dos_openChannel_95 : decode (rm_code mDos_openChannel) 95 = .ok (.iload_n 3, 1) := by decide +kernel
theorem d_Dos_openChannel_96 : decode (rm_code mDos_openChannel) 96 = .ok (.ifCond .eq (14), 3) := by decide +kernel
theorem d_Dos_openChannel_99 : decode (rm_code mDos_openChannel) 99 = .ok (.aload_n 0, 1) := by decide +kernel
theorem d_Dos_openChannel_100 : decode (rm_code mDos_openChannel) 100 = .ok (.getfield 30, 3) := by decide +kernel
theorem d_Dos_openChannel_103 : decode (rm_code mDos_openChannel) 103 = .ok (.iload_n 3, 1) := by decide +kernel
theorem d_Dos_openChannel_104 : decode (rm_code mDos_openChannel) 104 = .ok (.iconst 0, 1) := by decide +kernel
theorem d_Dos_openChannel_105 : decode (rm_code mDos_openChannel) 105 = .ok (.iconst 0, 1) := by decide +kernel
theorem d_Dos_openChannel_106 : decode (rm_code mDos_openChannel) 106 = .ok (.invokevirtual 116, 3) := by decide +kernel
theorem d_Dos_openChannel_109 : decode (rm_code mDos_openChannel) 109 = .ok (.ireturn, 1) := by decide +kernel
theorem d_Dos_openChannel_110 : decode (rm_code mDos_openChannel) 110 = .ok (.aload_n 0, 1) := by decide +kernel
theorem d_Dos_openChannel_111 : decode (rm_code mDos_openChannel) 111 = .ok (.getfield 137, 3) := by decide +kernel
theorem d_Dos_openChannel_114 : decode (rm_code mDos_openChannel) 114 = .ok (.bipush (82), 2) := by decide +kernel
theorem d_Dos_openChannel_116 : decode (rm_code mDos_openChannel) 116 = .ok (.if_icmp .ne (11), 3) := by decide +kernel
theorem d_Dos_openChannel_119 : decode (rm_code mDos_openChannel) 119 = .ok (.aload_n 0, 1) := by decide +kernel
theorem d_Dos_openChannel_120 : decode (rm_code mDos_openChannel) 120 = .ok (.aload_n 2, 1) := by decide +kernel
theorem d_Dos_openChannel_121 : decode (rm_code mDos_openChannel) 121 = .ok (.invokevirtual 140, 3) := by decide +kernel
theorem d_Dos_openChannel_124 : decode (rm_code mDos_openChannel) 124 = .ok (.goto (8), 3) := by decide +kernel
theorem d_Dos_openChannel_127 : decode (rm_code mDos_openChannel) 127 = .ok (.aload_n 0, 1) := by decide +kernel
theorem d_Dos_openChannel_128 : decode (rm_code mDos_openChannel) 128 = .ok (.aload_n 2, 1) := by decide +kernel
theorem d_Dos_openChannel_129 : decode (rm_code mDos_openChannel) 129 = .ok (.invokevirtual 143, 3) := by decide +kernel
theorem d_Dos_openChannel_132 : decode (rm_code mDos_openChannel) 132 = .ok (.ireturn, 1) := by decide +kernel
theorem p_Dos_openChannel_0 {S : rz_S} {K : Int32 → rz_S → Prop} {a1 : Int32} (w : ((a1 < 0 → K 0 S) ∧ (¬ a1 < 0 → ((a1 < 15 → rx_in a1 15 = true ∧ rz_ev mDos_closeChannel [.ref 39, .int a1] S (rz_i (fun xq4 Sq4 => ((xq4 = 0 → rz_ev mDos_countOpen [.ref 39] Sq4 (rz_i (fun xq6 Sq6 => ((xq6 < 3 → rz_ev mTape_byteAt [.ref 1, .int 0] Sq6 (rz_i (fun xq8 Sq8 => ((xq8 = 35 → rz_ev mDos_openBuffer [.ref 39, .ref (48 + 4 * a1.toNatClampNeg)] Sq8 (rz_i (fun xq19 Sq19 => K xq19 Sq19))) ∧ (¬ xq8 = 35 → rz_ev mTape_byteAt [.ref 1, .int 0] Sq8 (rz_i (fun xq10 Sq10 => ((xq10 = 36 → rz_ev mDos_openList [.ref 39, .ref (48 + 4 * a1.toNatClampNeg)] Sq10 (rz_i (fun xq18 Sq18 => K xq18 Sq18))) ∧ (¬ xq10 = 36 → rz_ev mDos_parseFile [.ref 39, .int a1] Sq10 (rz_i (fun xq12 Sq12 => ((xq12 = 0 → ((Sq12.2 39 11 = 82 → rz_ev mDos_openToRead [.ref 39, .ref (48 + 4 * a1.toNatClampNeg)] Sq12 (rz_i (fun xq16 Sq16 => K xq16 Sq16))) ∧ (¬ Sq12.2 39 11 = 82 → rz_ev mDos_openToWrite [.ref 39, .ref (48 + 4 * a1.toNatClampNeg)] Sq12 (rz_i (fun xq15 Sq15 => K xq15 Sq15))))) ∧ (¬ xq12 = 0 → rz_ev mStatus_set [.ref 3, .int xq12, .int 0, .int 0] Sq12 (rz_i (fun xq17 Sq17 => K xq17 Sq17))))))))))))))) ∧ (¬ xq6 < 3 → rz_ev mStatus_set [.ref 3, .int 70, .int 0, .int 0] Sq6 (rz_i (fun xq20 Sq20 => K xq20 Sq20))))))) ∧ (¬ xq4 = 0 → K xq4 Sq4))))) ∧ (¬ a1 < 15 → K 0 S))))) : rz mDos_openChannel 0 [(0, .ref 39), (1, .int a1)] [] S (rz_i K) := by
  refine rz_pure (pc' := 1) d_Dos_openChannel_0 rfl ?_
  refine rz_iflt (tgt := 10) d_Dos_openChannel_1 rfl (fun b1 => ?_) (fun b1 => ?_)
  · skip
    refine rz_iconst (v := 0) d_Dos_openChannel_10 (by decide) ?_
    exact rz_ireti d_Dos_openChannel_11 rfl rfl (w.1 b1)
  · skip
    refine rz_pure (pc' := 5) d_Dos_openChannel_4 rfl ?_
    refine rz_bipush (v := 15) d_Dos_openChannel_5 (by decide) ?_
    refine rz_icmplt (tgt := 12) d_Dos_openChannel_7 rfl (fun b2 => ?_) (fun b2 => ?_)
    · skip
      refine rz_pure (pc' := 13) d_Dos_openChannel_12 rfl ?_
      refine rz_getr d_Dos_openChannel_13 f_5_19 rfl rfl ?_
      refine rz_pure (pc' := 17) d_Dos_openChannel_16 rfl ?_
      have e3 := chI ((w.2 b1).1 b2).1
      have ze3 := chZ e3
      refine rz_aldC d_Dos_openChannel_17 rfl ((w.2 b1).1 b2).1 ?_
      refine rz_pure (pc' := 19) (l' := [(2, .ref (48 + 4 * a1.toNatClampNeg)), (0, .ref 39), (1, .int a1)]) d_Dos_openChannel_18 rfl ?_
      refine rz_pure (pc' := 20) d_Dos_openChannel_19 rfl ?_
      refine rz_pure (pc' := 21) d_Dos_openChannel_20 rfl ?_
      refine rz_callVi (t := [.int a1]) d_Dos_openChannel_21 w_5_65 rfl rfl rfl ((w.2 b1).1 b2).2 (fun xq4 Sq4 q4 => ?_)
      refine rz_pure (pc' := 25) (l' := [(3, .int xq4), (2, .ref (48 + 4 * a1.toNatClampNeg)), (0, .ref 39), (1, .int a1)]) d_Dos_openChannel_24 rfl ?_
      refine rz_pure (pc' := 26) d_Dos_openChannel_25 rfl ?_
      refine rz_ifeq (tgt := 31) d_Dos_openChannel_26 rfl (fun b5 => ?_) (fun b5 => ?_)
      · skip
        refine rz_pure (pc' := 32) d_Dos_openChannel_31 rfl ?_
        refine rz_callVi (t := []) d_Dos_openChannel_32 w_5_112 rfl rfl rfl (q4.1 b5) (fun xq6 Sq6 q6 => ?_)
        refine rz_iconst (v := 3) d_Dos_openChannel_35 (by decide) ?_
        refine rz_icmplt (tgt := 51) d_Dos_openChannel_36 rfl (fun b7 => ?_) (fun b7 => ?_)
        · skip
          refine rz_pure (pc' := 52) d_Dos_openChannel_51 rfl ?_
          refine rz_getr d_Dos_openChannel_52 f_5_38 rfl rfl ?_
          refine rz_iconst (v := 0) d_Dos_openChannel_55 (by decide) ?_
          refine rz_callVi (t := [.int 0]) d_Dos_openChannel_56 w_5_122 rfl rfl rfl (q6.1 b7) (fun xq8 Sq8 q8 => ?_)
          refine rz_bipush (v := 35) d_Dos_openChannel_59 (by decide) ?_
          refine rz_icmpne (tgt := 70) d_Dos_openChannel_61 rfl (fun b9 => ?_) (fun b9 => ?_)
          · skip
            refine rz_pure (pc' := 71) d_Dos_openChannel_70 rfl ?_
            refine rz_getr d_Dos_openChannel_71 f_5_38 rfl rfl ?_
            refine rz_iconst (v := 0) d_Dos_openChannel_74 (by decide) ?_
            refine rz_callVi (t := [.int 0]) d_Dos_openChannel_75 w_5_122 rfl rfl rfl (q8.2 b9) (fun xq10 Sq10 q10 => ?_)
            refine rz_bipush (v := 36) d_Dos_openChannel_78 (by decide) ?_
            refine rz_icmpne (tgt := 89) d_Dos_openChannel_80 rfl (fun b11 => ?_) (fun b11 => ?_)
            · skip
              refine rz_pure (pc' := 90) d_Dos_openChannel_89 rfl ?_
              refine rz_pure (pc' := 91) d_Dos_openChannel_90 rfl ?_
              refine rz_callVi (t := [.int a1]) d_Dos_openChannel_91 w_5_134 rfl rfl rfl (q10.2 b11) (fun xq12 Sq12 q12 => ?_)
              refine rz_pure (pc' := 95) (l' := [(3, .int xq12), (2, .ref (48 + 4 * a1.toNatClampNeg)), (0, .ref 39), (1, .int a1)]) d_Dos_openChannel_94 rfl ?_
              refine rz_pure (pc' := 96) d_Dos_openChannel_95 rfl ?_
              refine rz_ifeq (tgt := 110) d_Dos_openChannel_96 rfl (fun b13 => ?_) (fun b13 => ?_)
              · skip
                refine rz_pure (pc' := 111) d_Dos_openChannel_110 rfl ?_
                refine rz_getiv (v := Sq12.2 39 11) d_Dos_openChannel_111 f_5_137 rfl rfl rfl ?_
                refine rz_bipush (v := 82) d_Dos_openChannel_114 (by decide) ?_
                refine rz_icmpne (tgt := 127) d_Dos_openChannel_116 rfl (fun b14 => ?_) (fun b14 => ?_)
                · skip
                  refine rz_pure (pc' := 128) d_Dos_openChannel_127 rfl ?_
                  refine rz_pure (pc' := 129) d_Dos_openChannel_128 rfl ?_
                  refine rz_callVi (t := [.ref (48 + 4 * a1.toNatClampNeg)]) d_Dos_openChannel_129 w_5_143 rfl rfl rfl ((q12.1 b13).2 b14) (fun xq15 Sq15 q15 => ?_)
                  exact rz_ireti d_Dos_openChannel_132 rfl rfl q15
                · skip
                  refine rz_pure (pc' := 120) d_Dos_openChannel_119 rfl ?_
                  refine rz_pure (pc' := 121) d_Dos_openChannel_120 rfl ?_
                  refine rz_callVi (t := [.ref (48 + 4 * a1.toNatClampNeg)]) d_Dos_openChannel_121 w_5_140 rfl rfl rfl ((q12.1 b13).1 b14) (fun xq16 Sq16 q16 => ?_)
                  refine rz_pure (pc' := 132) d_Dos_openChannel_124 rfl ?_
                  exact rz_ireti d_Dos_openChannel_132 rfl rfl q16
              · skip
                refine rz_pure (pc' := 100) d_Dos_openChannel_99 rfl ?_
                refine rz_getr d_Dos_openChannel_100 f_5_30 rfl rfl ?_
                refine rz_pure (pc' := 104) d_Dos_openChannel_103 rfl ?_
                refine rz_iconst (v := 0) d_Dos_openChannel_104 (by decide) ?_
                refine rz_iconst (v := 0) d_Dos_openChannel_105 (by decide) ?_
                refine rz_callVi (t := [.int 0, .int 0, .int xq12]) d_Dos_openChannel_106 w_5_116 rfl rfl rfl (q12.2 b13) (fun xq17 Sq17 q17 => ?_)
                exact rz_ireti d_Dos_openChannel_109 rfl rfl q17
            · skip
              refine rz_pure (pc' := 84) d_Dos_openChannel_83 rfl ?_
              refine rz_pure (pc' := 85) d_Dos_openChannel_84 rfl ?_
              refine rz_callVi (t := [.ref (48 + 4 * a1.toNatClampNeg)]) d_Dos_openChannel_85 w_5_131 rfl rfl rfl (q10.1 b11) (fun xq18 Sq18 q18 => ?_)
              exact rz_ireti d_Dos_openChannel_88 rfl rfl q18
          · skip
            refine rz_pure (pc' := 65) d_Dos_openChannel_64 rfl ?_
            refine rz_pure (pc' := 66) d_Dos_openChannel_65 rfl ?_
            refine rz_callVi (t := [.ref (48 + 4 * a1.toNatClampNeg)]) d_Dos_openChannel_66 w_5_127 rfl rfl rfl (q8.1 b9) (fun xq19 Sq19 q19 => ?_)
            exact rz_ireti d_Dos_openChannel_69 rfl rfl q19
        · skip
          refine rz_pure (pc' := 40) d_Dos_openChannel_39 rfl ?_
          refine rz_getr d_Dos_openChannel_40 f_5_30 rfl rfl ?_
          refine rz_bipush (v := 70) d_Dos_openChannel_43 (by decide) ?_
          refine rz_iconst (v := 0) d_Dos_openChannel_45 (by decide) ?_
          refine rz_iconst (v := 0) d_Dos_openChannel_46 (by decide) ?_
          refine rz_callVi (t := [.int 0, .int 0, .int 70]) d_Dos_openChannel_47 w_5_116 rfl rfl rfl (q6.2 b7) (fun xq20 Sq20 q20 => ?_)
          exact rz_ireti d_Dos_openChannel_50 rfl rfl q20
      · skip
        refine rz_pure (pc' := 30) d_Dos_openChannel_29 rfl ?_
        exact rz_ireti d_Dos_openChannel_30 rfl rfl (q4.2 b5)
    · skip
      refine rz_iconst (v := 0) d_Dos_openChannel_10 (by decide) ?_
      exact rz_ireti d_Dos_openChannel_11 rfl rfl ((w.2 b1).2 b2)
theorem d_Dos_closeChannel_0 : decode (rm_code mDos_closeChannel) 0 = .ok (.iload_n 1, 1) := by decide +kernel
theorem d_Dos_closeChannel_1 : decode (rm_code mDos_closeChannel) 1 = .ok (.ifCond .lt (9), 3) := by decide +kernel
theorem d_Dos_closeChannel_4 : decode (rm_code mDos_closeChannel) 4 = .ok (.iload_n 1, 1) := by decide +kernel
theorem d_Dos_closeChannel_5 : decode (rm_code mDos_closeChannel) 5 = .ok (.bipush (15), 2) := by decide +kernel
theorem d_Dos_closeChannel_7 : decode (rm_code mDos_closeChannel) 7 = .ok (.if_icmp .lt (5), 3) := by decide +kernel
theorem d_Dos_closeChannel_10 : decode (rm_code mDos_closeChannel) 10 = .ok (.iconst 0, 1) := by decide +kernel
theorem d_Dos_closeChannel_11 : decode (rm_code mDos_closeChannel) 11 = .ok (.ireturn, 1) := by decide +kernel
theorem d_Dos_closeChannel_12 : decode (rm_code mDos_closeChannel) 12 = .ok (.aload_n 0, 1) := by decide +kernel
theorem d_Dos_closeChannel_13 : decode (rm_code mDos_closeChannel) 13 = .ok (.getfield 19, 3) := by decide +kernel
theorem d_Dos_closeChannel_16 : decode (rm_code mDos_closeChannel) 16 = .ok (.iload_n 1, 1) := by decide +kernel
theorem d_Dos_closeChannel_17 : decode (rm_code mDos_closeChannel) 17 = .ok (.aaload, 1) := by decide +kernel
theorem d_Dos_closeChannel_18 : decode (rm_code mDos_closeChannel) 18 = .ok (.astore_n 2, 1) := by decide +kernel
theorem d_Dos_closeChannel_19 : decode (rm_code mDos_closeChannel) 19 = .ok (.iconst 0, 1) := by decide +kernel
theorem d_Dos_closeChannel_20 : decode (rm_code mDos_closeChannel) 20 = .ok (.istore_n 3, 1) := by decide +kernel
theorem d_Dos_closeChannel_21 : decode (rm_code mDos_closeChannel) 21 = .ok (.aload_n 2, 1) := by decide +kernel
theorem d_Dos_closeChannel_22 : decode (rm_code mDos_closeChannel) 22 = .ok (.getfield 61, 3) := by decide +kernel
theorem d_Dos_closeChannel_25 : decode (rm_code mDos_closeChannel) 25 = .ok (.iconst 2, 1) := by decide +kernel
theorem d_Dos_closeChannel_26 : decode (rm_code mDos_closeChannel) 26 = .ok (.if_icmp .ne (63), 3) := by decide +kernel
theorem d_Dos_closeChannel_29 : decode (rm_code mDos_closeChannel) 29 = .ok (.aload_n 2, 1) := by decide +kernel
theorem d_Dos_closeChannel_30 : decode (rm_code mDos_closeChannel) 30 = .ok (.getfield 72, 3) := by decide +kernel
theorem d_Dos_closeChannel_33 : decode (rm_code mDos_closeChannel) 33 = .ok (.iconst 0, 1) := by decide +kernel
theorem d_Dos_closeChannel_34 : decode (rm_code mDos_closeChannel) 34 = .ok (.iconst 0, 1) := by decide +kernel
theorem d_Dos_closeChannel_35 : decode (rm_code mDos_closeChannel) 35 = .ok (.iastore, 1) := by decide +kernel
theorem d_Dos_closeChannel_36 : decode (rm_code mDos_closeChannel) 36 = .ok (.aload_n 2, 1) := by decide +kernel
theorem d_Dos_closeChannel_37 : decode (rm_code mDos_closeChannel) 37 = .ok (.getfield 72, 3) := by decide +kernel
theorem d_Dos_closeChannel_40 : decode (rm_code mDos_closeChannel) 40 = .ok (.iconst 1, 1) := by decide +kernel
theorem d_Dos_closeChannel_41 : decode (rm_code mDos_closeChannel) 41 = .ok (.aload_n 2, 1) := by decide +kernel
theorem d_Dos_closeChannel_42 : decode (rm_code mDos_closeChannel) 42 = .ok (.getfield 73, 3) := by decide +kernel
theorem d_Dos_closeChannel_45 : decode (rm_code mDos_closeChannel) 45 = .ok (.iconst 1, 1) := by decide +kernel
theorem d_Dos_closeChannel_46 : decode (rm_code mDos_closeChannel) 46 = .ok (.isub, 1) := by decide +kernel
theorem d_Dos_closeChannel_47 : decode (rm_code mDos_closeChannel) 47 = .ok (.iastore, 1) := by decide +kernel
theorem d_Dos_closeChannel_48 : decode (rm_code mDos_closeChannel) 48 = .ok (.aload_n 0, 1) := by decide +kernel
theorem d_Dos_closeChannel_49 : decode (rm_code mDos_closeChannel) 49 = .ok (.getfield 34, 3) := by decide +kernel
theorem d_Dos_closeChannel_52 : decode (rm_code mDos_closeChannel) 52 = .ok (.aload_n 2, 1) := by decide +kernel
theorem d_Dos_closeChannel_53 : decode (rm_code mDos_closeChannel) 53 = .ok (.getfield 76, 3) := by decide +kernel
theorem d_Dos_closeChannel_56 : decode (rm_code mDos_closeChannel) 56 = .ok (.aload_n 2, 1) := by decide +kernel
theorem d_Dos_closeChannel_57 : decode (rm_code mDos_closeChannel) 57 = .ok (.getfield 79, 3) := by decide +kernel
theorem d_Dos_closeChannel_60 : decode (rm_code mDos_closeChannel) 60 = .ok (.aload_n 2, 1) := by decide +kernel
theorem d_Dos_closeChannel_61 : decode (rm_code mDos_closeChannel) 61 = .ok (.getfield 72, 3) := by decide +kernel
theorem d_Dos_closeChannel_64 : decode (rm_code mDos_closeChannel) 64 = .ok (.invokevirtual 82, 3) := by decide +kernel
theorem d_Dos_closeChannel_67 : decode (rm_code mDos_closeChannel) 67 = .ok (.istore_n 3, 1) := by decide +kernel
theorem d_Dos_closeChannel_68 : decode (rm_code mDos_closeChannel) 68 = .ok (.iload_n 3, 1) := by decide +kernel
theorem d_Dos_closeChannel_69 : decode (rm_code mDos_closeChannel) 69 = .ok (.ifCond .ne (20), 3) := by decide +kernel
theorem d_Dos_closeChannel_72 : decode (rm_code mDos_closeChannel) 72 = .ok (.aload_n 0, 1) := by decide +kernel
theorem d_Dos_closeChannel_73 : decode (rm_code mDos_closeChannel) 73 = .ok (.aload_n 2, 1) := by decide +kernel
theorem d_Dos_closeChannel_74 : decode (rm_code mDos_closeChannel) 74 = .ok (.invokevirtual 86, 3) := by decide +kernel
theorem d_Dos_closeChannel_77 : decode (rm_code mDos_closeChannel) 77 = .ok (.aload_n 0, 1) := by decide +kernel
theorem d_Dos_closeChannel_78 : decode (rm_code mDos_closeChannel) 78 = .ok (.getfield 56, 3) := by decide +kernel
theorem d_Dos_closeChannel_81 : decode (rm_code mDos_closeChannel) 81 = .ok (.aload_n 2, 1) := by decide +kernel
theorem d_Dos_closeChannel_82 : decode (rm_code mDos_closeChannel) 82 = .ok (.getfield 90, 3) := by decide +kernel
theorem d_Dos_closeChannel_85 : decode (rm_code mDos_closeChannel) 85 = .ok (.invokevirtual 93, 3) := by decide +kernel
theorem d_Dos_closeChannel_88 : decode (rm_code mDos_closeChannel) 88 = .ok (.istore_n 3, 1) := by decide +kernel
theorem d_Dos_closeChannel_89 : decode (rm_code mDos_closeChannel) 89 = .ok (.aload_n 2, 1) := by decide +kernel
theorem d_Dos_closeChannel_90 : decode (rm_code mDos_closeChannel) 90 = .ok (.iconst 0, 1) := by decide +kernel
theorem d_Dos_closeChannel_91 : decode (rm_code mDos_closeChannel) 91 = .ok (.putfield 61, 3) := by decide +kernel
theorem d_Dos_closeChannel_94 : decode (rm_code mDos_closeChannel) 94 = .ok (.iload_n 3, 1) := by decide +kernel
theorem d_Dos_closeChannel_95 : decode (rm_code mDos_closeChannel) 95 = .ok (.ireturn, 1) := by decide +kernel
theorem p_Dos_closeChannel_0 {S : rz_S} {K : Int32 → rz_S → Prop} {a1 : Int32} (w : ((a1 < 0 → K 0 S) ∧ (¬ a1 < 0 → ((a1 < 15 → rx_in a1 15 = true ∧ ((S.2 (48 + 4 * a1.toNatClampNeg) 0 = 2 → rz_ev mDisk_writeBlock [.ref 6, .int (S.2 (48 + 4 * a1.toNatClampNeg) 5), .int (S.2 (48 + 4 * a1.toNatClampNeg) 6), .ref ((48 + 4 * a1.toNatClampNeg) + 1)] (rz_fA (rz_fA S ((48 + 4 * a1.toNatClampNeg) + 1) (upd (S.1 ((48 + 4 * a1.toNatClampNeg) + 1)) 0 0)) ((48 + 4 * a1.toNatClampNeg) + 1) (upd (upd (S.1 ((48 + 4 * a1.toNatClampNeg) + 1)) 0 0) 1 ((S.2 (48 + 4 * a1.toNatClampNeg) 2) - 1))) (rz_i (fun xq5 Sq5 => ((xq5 = 0 → rz_ev mDos_goToEntryOf [.ref 39, .ref (48 + 4 * a1.toNatClampNeg)] Sq5 (rz_v (fun Sq7 => rz_ev mDirectory_changeToClosed [.ref 46, .int (Sq7.2 (48 + 4 * a1.toNatClampNeg) 9)] Sq7 (rz_i (fun xq8 Sq8 => K xq8 (rz_uI Sq8 (48 + 4 * a1.toNatClampNeg) 0 0)))))) ∧ (¬ xq5 = 0 → K xq5 (rz_uI Sq5 (48 + 4 * a1.toNatClampNeg) 0 0)))))) ∧ (¬ S.2 (48 + 4 * a1.toNatClampNeg) 0 = 2 → K 0 (rz_uI S (48 + 4 * a1.toNatClampNeg) 0 0)))) ∧ (¬ a1 < 15 → K 0 S))))) : rz mDos_closeChannel 0 [(0, .ref 39), (1, .int a1)] [] S (rz_i K) := by
  refine rz_pure (pc' := 1) d_Dos_closeChannel_0 rfl ?_
  refine rz_iflt (tgt := 10) d_Dos_closeChannel_1 rfl (fun b1 => ?_) (fun b1 => ?_)
  · skip
    refine rz_iconst (v := 0) d_Dos_closeChannel_10 (by decide) ?_
    exact rz_ireti d_Dos_closeChannel_11 rfl rfl (w.1 b1)
  · skip
    refine rz_pure (pc' := 5) d_Dos_closeChannel_4 rfl ?_
    refine rz_bipush (v := 15) d_Dos_closeChannel_5 (by decide) ?_
    refine rz_icmplt (tgt := 12) d_Dos_closeChannel_7 rfl (fun b2 => ?_) (fun b2 => ?_)
    · skip
      refine rz_pure (pc' := 13) d_Dos_closeChannel_12 rfl ?_
      refine rz_getr d_Dos_closeChannel_13 f_5_19 rfl rfl ?_
      refine rz_pure (pc' := 17) d_Dos_closeChannel_16 rfl ?_
      have e3 := chI ((w.2 b1).1 b2).1
      have ze3 := chZ e3
      refine rz_aldC d_Dos_closeChannel_17 rfl ((w.2 b1).1 b2).1 ?_
      refine rz_pure (pc' := 19) (l' := [(2, .ref (48 + 4 * a1.toNatClampNeg)), (0, .ref 39), (1, .int a1)]) d_Dos_closeChannel_18 rfl ?_
      refine rz_iconst (v := 0) d_Dos_closeChannel_19 (by decide) ?_
      refine rz_pure (pc' := 21) (l' := [(3, .int 0), (2, .ref (48 + 4 * a1.toNatClampNeg)), (0, .ref 39), (1, .int a1)]) d_Dos_closeChannel_20 rfl ?_
      refine rz_pure (pc' := 22) d_Dos_closeChannel_21 rfl ?_
      refine rz_getiv (v := S.2 (48 + 4 * a1.toNatClampNeg) 0) d_Dos_closeChannel_22 f_5_61 (chTP e3) rfl rfl ?_
      refine rz_iconst (v := 2) d_Dos_closeChannel_25 (by decide) ?_
      refine rz_icmpne (tgt := 89) d_Dos_closeChannel_26 rfl (fun b4 => ?_) (fun b4 => ?_)
      · skip
        refine rz_pure (pc' := 90) d_Dos_closeChannel_89 rfl ?_
        refine rz_iconst (v := 0) d_Dos_closeChannel_90 (by decide) ?_
        refine rz_puti d_Dos_closeChannel_91 f_5_61 (chTP e3) rfl rfl ?_
        refine rz_pure (pc' := 95) d_Dos_closeChannel_94 rfl ?_
        exact rz_ireti d_Dos_closeChannel_95 rfl rfl (((w.2 b1).1 b2).2.2 b4)
      · skip
        refine rz_pure (pc' := 30) d_Dos_closeChannel_29 rfl ?_
        refine rz_getr d_Dos_closeChannel_30 f_5_72 (chTP e3) rfl ?_
        refine rz_iconst (v := 0) d_Dos_closeChannel_33 (by decide) ?_
        refine rz_iconst (v := 0) d_Dos_closeChannel_34 (by decide) ?_
        refine rz_iastv (F := S.1 ((48 + 4 * a1.toNatClampNeg) + 1)) (i := 0) d_Dos_closeChannel_35 (chR e3) (by decide) rfl (by decide) ?_
        refine rz_pure (pc' := 37) d_Dos_closeChannel_36 rfl ?_
        refine rz_getr d_Dos_closeChannel_37 f_5_72 (chTP e3) rfl ?_
        refine rz_iconst (v := 1) d_Dos_closeChannel_40 (by decide) ?_
        refine rz_pure (pc' := 42) d_Dos_closeChannel_41 rfl ?_
        refine rz_getiv (v := S.2 (48 + 4 * a1.toNatClampNeg) 2) d_Dos_closeChannel_42 f_5_73 (chTP e3) rfl rfl ?_
        refine rz_iconst (v := 1) d_Dos_closeChannel_45 (by decide) ?_
        refine rz_isub d_Dos_closeChannel_46 ?_
        refine rz_iastv (F := upd (S.1 ((48 + 4 * a1.toNatClampNeg) + 1)) 0 0) (i := 1) d_Dos_closeChannel_47 (chR e3) (by decide) rz_fA_s (by decide) ?_
        refine rz_pure (pc' := 49) d_Dos_closeChannel_48 rfl ?_
        refine rz_getr d_Dos_closeChannel_49 f_5_34 rfl rfl ?_
        refine rz_pure (pc' := 53) d_Dos_closeChannel_52 rfl ?_
        refine rz_getiv (v := S.2 (48 + 4 * a1.toNatClampNeg) 5) d_Dos_closeChannel_53 f_5_76 (chTP e3) rfl rfl ?_
        refine rz_pure (pc' := 57) d_Dos_closeChannel_56 rfl ?_
        refine rz_getiv (v := S.2 (48 + 4 * a1.toNatClampNeg) 6) d_Dos_closeChannel_57 f_5_79 (chTP e3) rfl rfl ?_
        refine rz_pure (pc' := 61) d_Dos_closeChannel_60 rfl ?_
        refine rz_getr d_Dos_closeChannel_61 f_5_72 (chTP e3) rfl ?_
        refine rz_callVi (t := [.ref ((48 + 4 * a1.toNatClampNeg) + 1), .int (S.2 (48 + 4 * a1.toNatClampNeg) 6), .int (S.2 (48 + 4 * a1.toNatClampNeg) 5)]) d_Dos_closeChannel_64 w_5_82 rfl rfl rfl (((w.2 b1).1 b2).2.1 b4) (fun xq5 Sq5 q5 => ?_)
        refine rz_pure (pc' := 68) (l' := [(3, .int xq5), (2, .ref (48 + 4 * a1.toNatClampNeg)), (0, .ref 39), (1, .int a1)]) d_Dos_closeChannel_67 rfl ?_
        refine rz_pure (pc' := 69) d_Dos_closeChannel_68 rfl ?_
        refine rz_ifne (tgt := 89) d_Dos_closeChannel_69 rfl (fun b6 => ?_) (fun b6 => ?_)
        · skip
          refine rz_pure (pc' := 90) d_Dos_closeChannel_89 rfl ?_
          refine rz_iconst (v := 0) d_Dos_closeChannel_90 (by decide) ?_
          refine rz_puti d_Dos_closeChannel_91 f_5_61 (chTP e3) rfl rfl ?_
          refine rz_pure (pc' := 95) d_Dos_closeChannel_94 rfl ?_
          exact rz_ireti d_Dos_closeChannel_95 rfl rfl (q5.2 b6)
        · skip
          refine rz_pure (pc' := 73) d_Dos_closeChannel_72 rfl ?_
          refine rz_pure (pc' := 74) d_Dos_closeChannel_73 rfl ?_
          refine rz_callVv (t := [.ref (48 + 4 * a1.toNatClampNeg)]) d_Dos_closeChannel_74 w_5_86 rfl rfl rfl (q5.1 b6) (fun Sq7 q7 => ?_)
          refine rz_pure (pc' := 78) d_Dos_closeChannel_77 rfl ?_
          refine rz_getr d_Dos_closeChannel_78 f_5_56 rfl rfl ?_
          refine rz_pure (pc' := 82) d_Dos_closeChannel_81 rfl ?_
          refine rz_getiv (v := Sq7.2 (48 + 4 * a1.toNatClampNeg) 9) d_Dos_closeChannel_82 f_5_90 (chTP e3) rfl rfl ?_
          refine rz_callVi (t := [.int (Sq7.2 (48 + 4 * a1.toNatClampNeg) 9)]) d_Dos_closeChannel_85 w_5_93 rfl rfl rfl q7 (fun xq8 Sq8 q8 => ?_)
          refine rz_pure (pc' := 89) (l' := [(3, .int xq8), (2, .ref (48 + 4 * a1.toNatClampNeg)), (0, .ref 39), (1, .int a1)]) d_Dos_closeChannel_88 rfl ?_
          refine rz_pure (pc' := 90) d_Dos_closeChannel_89 rfl ?_
          refine rz_iconst (v := 0) d_Dos_closeChannel_90 (by decide) ?_
          refine rz_puti d_Dos_closeChannel_91 f_5_61 (chTP e3) rfl rfl ?_
          refine rz_pure (pc' := 95) d_Dos_closeChannel_94 rfl ?_
          exact rz_ireti d_Dos_closeChannel_95 rfl rfl q8
    · skip
      refine rz_iconst (v := 0) d_Dos_closeChannel_10 (by decide) ?_
      exact rz_ireti d_Dos_closeChannel_11 rfl rfl ((w.2 b1).2 b2)
theorem d_Dos_goToEntryOf_0 : decode (rm_code mDos_goToEntryOf) 0 = .ok (.aload_n 0, 1) := by decide +kernel
theorem d_Dos_goToEntryOf_1 : decode (rm_code mDos_goToEntryOf) 1 = .ok (.getfield 56, 3) := by decide +kernel
theorem d_Dos_goToEntryOf_4 : decode (rm_code mDos_goToEntryOf) 4 = .ok (.aload_n 1, 1) := by decide +kernel
theorem d_Dos_goToEntryOf_5 : decode (rm_code mDos_goToEntryOf) 5 = .ok (.getfield 96, 3) := by decide +kernel
theorem d_Dos_goToEntryOf_8 : decode (rm_code mDos_goToEntryOf) 8 = .ok (.aload_n 1, 1) := by decide +kernel
theorem d_Dos_goToEntryOf_9 : decode (rm_code mDos_goToEntryOf) 9 = .ok (.getfield 99, 3) := by decide +kernel
theorem d_Dos_goToEntryOf_12 : decode (rm_code mDos_goToEntryOf) 12 = .ok (.aload_n 1, 1) := by decide +kernel
theorem d_Dos_goToEntryOf_13 : decode (rm_code mDos_goToEntryOf) 13 = .ok (.getfield 102, 3) := by decide +kernel
theorem d_Dos_goToEntryOf_16 : decode (rm_code mDos_goToEntryOf) 16 = .ok (.aload_n 1, 1) := by decide +kernel
theorem d_Dos_goToEntryOf_17 : decode (rm_code mDos_goToEntryOf) 17 = .ok (.getfield 105, 3) := by decide +kernel
theorem d_Dos_goToEntryOf_20 : decode (rm_code mDos_goToEntryOf) 20 = .ok (.invokevirtual 108, 3) := by decide +kernel
theorem d_Dos_goToEntryOf_23 : decode (rm_code mDos_goToEntryOf) 23 = .ok (.return_, 1) := by decide +kernel
theorem p_Dos_goToEntryOf_0 {S : rz_S} {K : rz_S → Prop} {a1 : Nat} (ha1 : chP a1) (w : rz_ev mDirectory_goTo [.ref 46, .int (S.2 a1 10), .int (S.2 a1 11), .int (S.2 a1 12), .int (S.2 a1 13)] S (rz_v (fun Sq1 => K Sq1))) : rz mDos_goToEntryOf 0 [(0, .ref 39), (1, .ref a1)] [] S (rz_v K) := by
  have za1 := chZ ha1
  refine rz_pure (pc' := 1) d_Dos_goToEntryOf_0 rfl ?_
  refine rz_getr d_Dos_goToEntryOf_1 f_5_56 rfl rfl ?_
  refine rz_pure (pc' := 5) d_Dos_goToEntryOf_4 rfl ?_
  refine rz_getiv (v := S.2 a1 10) d_Dos_goToEntryOf_5 f_5_96 (chTP ha1) rfl rfl ?_
  refine rz_pure (pc' := 9) d_Dos_goToEntryOf_8 rfl ?_
  refine rz_getiv (v := S.2 a1 11) d_Dos_goToEntryOf_9 f_5_99 (chTP ha1) rfl rfl ?_
  refine rz_pure (pc' := 13) d_Dos_goToEntryOf_12 rfl ?_
  refine rz_getiv (v := S.2 a1 12) d_Dos_goToEntryOf_13 f_5_102 (chTP ha1) rfl rfl ?_
  refine rz_pure (pc' := 17) d_Dos_goToEntryOf_16 rfl ?_
  refine rz_getiv (v := S.2 a1 13) d_Dos_goToEntryOf_17 f_5_105 (chTP ha1) rfl rfl ?_
  refine rz_callVv (t := [.int (S.2 a1 13), .int (S.2 a1 12), .int (S.2 a1 11), .int (S.2 a1 10)]) d_Dos_goToEntryOf_20 w_5_108 rfl rfl rfl w (fun Sq1 q1 => ?_)
  exact rz_vretv d_Dos_goToEntryOf_23 rfl q1
theorem d_Directory_changeToClosed_0 : decode (rm_code mDirectory_changeToClosed) 0 = .ok (.aload_n 0, 1) := by decide +kernel
theorem d_Directory_changeToClosed_1 : decode (rm_code mDirectory_changeToClosed) 1 = .ok (.getfield 15, 3) := by decide +kernel
theorem d_Directory_changeToClosed_4 : decode (rm_code mDirectory_changeToClosed) 4 = .ok (.aload_n 0, 1) := by decide +kernel
theorem d_Directory_changeToClosed_5 : decode (rm_code mDirectory_changeToClosed) 5 = .ok (.getfield 27, 3) := by decide +kernel
theorem d_Directory_changeToClosed_8 : decode (rm_code mDirectory_changeToClosed) 8 = .ok (.aload_n 0, 1) := by decide +kernel
theorem d_Directory_changeToClosed_9 : decode (rm_code mDirectory_changeToClosed) 9 = .ok (.getfield 31, 3) := by decide +kernel
theorem d_Directory_changeToClosed_12 : decode (rm_code mDirectory_changeToClosed) 12 = .ok (.aload_n 0, 1) := by decide +kernel
theorem d_Directory_changeToClosed_13 : decode (rm_code mDirectory_changeToClosed) 13 = .ok (.getfield 9, 3) := by decide +kernel
theorem d_Directory_changeToClosed_16 : decode (rm_code mDirectory_changeToClosed) 16 = .ok (.invokevirtual 47, 3) := by decide +kernel
theorem d_Directory_changeToClosed_19 : decode (rm_code mDirectory_changeToClosed) 19 = .ok (.istore_n 2, 1) := by decide +kernel
theorem d_Directory_changeToClosed_20 : decode (rm_code mDirectory_changeToClosed) 20 = .ok (.iload_n 2, 1) := by decide +kernel
theorem d_Directory_changeToClosed_21 : decode (rm_code mDirectory_changeToClosed) 21 = .ok (.ifCond .eq (5), 3) := by decide +kernel
theorem d_Directory_changeToClosed_24 : decode (rm_code mDirectory_changeToClosed) 24 = .ok (.iload_n 2, 1) := by decide +kernel
theorem d_Directory_changeToClosed_25 : decode (rm_code mDirectory_changeToClosed) 25 = .ok (.ireturn, 1) := by decide +kernel
theorem d_Directory_changeToClosed_26 : decode (rm_code mDirectory_changeToClosed) 26 = .ok (.aload_n 0, 1) := by decide +kernel
theorem d_Directory_changeToClosed_27 : decode (rm_code mDirectory_changeToClosed) 27 = .ok (.getfield 9, 3) := by decide +kernel
theorem d_Directory_changeToClosed_30 : decode (rm_code mDirectory_changeToClosed) 30 = .ok (.aload_n 0, 1) := by decide +kernel
theorem d_Directory_changeToClosed_31 : decode (rm_code mDirectory_changeToClosed) 31 = .ok (.invokevirtual 72, 3) := by decide +kernel
theorem d_Directory_changeToClosed_34 : decode (rm_code mDirectory_changeToClosed) 34 = .ok (.iconst 2, 1) := by decide +kernel
theorem d_Directory_changeToClosed_35 : decode (rm_code mDirectory_changeToClosed) 35 = .ok (.iadd, 1) := by decide +kernel
theorem d_Directory_changeToClosed_36 : decode (rm_code mDirectory_changeToClosed) 36 = .ok (.dup2, 1) := by decide +kernel
theorem d_Directory_changeToClosed_37 : decode (rm_code mDirectory_changeToClosed) 37 = .ok (.iaload, 1) := by decide +kernel
theorem d_Directory_changeToClosed_38 : decode (rm_code mDirectory_changeToClosed) 38 = .ok (.sipush (128), 3) := by decide +kernel
theorem d_Directory_changeToClosed_41 : decode (rm_code mDirectory_changeToClosed) 41 = .ok (.ior, 1) := by decide +kernel
theorem d_Directory_changeToClosed_42 : decode (rm_code mDirectory_changeToClosed) 42 = .ok (.iastore, 1) := by decide +kernel
theorem d_Directory_changeToClosed_43 : decode (rm_code mDirectory_changeToClosed) 43 = .ok (.aload_n 0, 1) := by decide +kernel
theorem d_Directory_changeToClosed_44 : decode (rm_code mDirectory_changeToClosed) 44 = .ok (.getfield 9, 3) := by decide +kernel
theorem d_Directory_changeToClosed_47 : decode (rm_code mDirectory_changeToClosed) 47 = .ok (.aload_n 0, 1) := by decide +kernel
theorem d_Directory_changeToClosed_48 : decode (rm_code mDirectory_changeToClosed) 48 = .ok (.invokevirtual 72, 3) := by decide +kernel
theorem d_Directory_changeToClosed_51 : decode (rm_code mDirectory_changeToClosed) 51 = .ok (.bipush (15), 2) := by decide +kernel
theorem d_Directory_changeToClosed_53 : decode (rm_code mDirectory_changeToClosed) 53 = .ok (.iadd, 1) := by decide +kernel
theorem d_Directory_changeToClosed_54 : decode (rm_code mDirectory_changeToClosed) 54 = .ok (.iload_n 1, 1) := by decide +kernel
theorem d_Directory_changeToClosed_55 : decode (rm_code mDirectory_changeToClosed) 55 = .ok (.sipush (255), 3) := by decide +kernel
theorem d_Directory_changeToClosed_58 : decode (rm_code mDirectory_changeToClosed) 58 = .ok (.iand, 1) := by decide +kernel
theorem d_Directory_changeToClosed_59 : decode (rm_code mDirectory_changeToClosed) 59 = .ok (.iastore, 1) := by decide +kernel
theorem d_Directory_changeToClosed_60 : decode (rm_code mDirectory_changeToClosed) 60 = .ok (.aload_n 0, 1) := by decide +kernel
theorem d_Directory_changeToClosed_61 : decode (rm_code mDirectory_changeToClosed) 61 = .ok (.getfield 15, 3) := by decide +kernel
theorem d_Directory_changeToClosed_64 : decode (rm_code mDirectory_changeToClosed) 64 = .ok (.aload_n 0, 1) := by decide +kernel
theorem d_Directory_changeToClosed_65 : decode (rm_code mDirectory_changeToClosed) 65 = .ok (.getfield 27, 3) := by decide +kernel
theorem d_Directory_changeToClosed_68 : decode (rm_code mDirectory_changeToClosed) 68 = .ok (.aload_n 0, 1) := by decide +kernel
theorem d_Directory_changeToClosed_69 : decode (rm_code mDirectory_changeToClosed) 69 = .ok (.getfield 31, 3) := by decide +kernel
theorem d_Directory_changeToClosed_72 : decode (rm_code mDirectory_changeToClosed) 72 = .ok (.aload_n 0, 1) := by decide +kernel
theorem d_Directory_changeToClosed_73 : decode (rm_code mDirectory_changeToClosed) 73 = .ok (.getfield 9, 3) := by decide +kernel
theorem d_Directory_changeToClosed_76 : decode (rm_code mDirectory_changeToClosed) 76 = .ok (.invokevirtual 88, 3) := by decide +kernel
theorem d_Directory_changeToClosed_79 : decode (rm_code mDirectory_changeToClosed) 79 = .ok (.ireturn, 1) := by decide +kernel
theorem p_Directory_changeToClosed_0 {S : rz_S} {K : Int32 → rz_S → Prop} {a1 : Int32} (w : rz_ev mDisk_readBlock [.ref 6, .int (S.2 46 1), .int (S.2 46 2), .ref 47] S (rz_i (fun xq1 Sq1 => ((xq1 = 0 → rz_ev mDirectory_base [.ref 46] Sq1 (rz_i (fun xq3 Sq3 => rx_in (xq3 + 2) 64 = true ∧ rz_ev mDirectory_base [.ref 46] (rz_fA Sq3 47 (upd (Sq3.1 47) ((xq3 + 2).toNatClampNeg) ((Sq3.1 47 ((xq3 + 2).toNatClampNeg)) ||| 128))) (rz_i (fun xq4 Sq4 => rx_in (xq4 + 15) 64 = true ∧ rz_ev mDisk_writeBlock [.ref 6, .int (Sq4.2 46 1), .int (Sq4.2 46 2), .ref 47] (rz_fA Sq4 47 (upd (Sq4.1 47) ((xq4 + 15).toNatClampNeg) (a1 &&& 255))) (rz_i (fun xq5 Sq5 => K xq5 Sq5))))))) ∧ (¬ xq1 = 0 → K xq1 Sq1))))) : rz mDirectory_changeToClosed 0 [(0, .ref 46), (1, .int a1)] [] S (rz_i K) := by
  refine rz_pure (pc' := 1) d_Directory_changeToClosed_0 rfl ?_
  refine rz_getr d_Directory_changeToClosed_1 f_3_15 rfl rfl ?_
  refine rz_pure (pc' := 5) d_Directory_changeToClosed_4 rfl ?_
  refine rz_getiv (v := S.2 46 1) d_Directory_changeToClosed_5 f_3_27 rfl rfl rfl ?_
  refine rz_pure (pc' := 9) d_Directory_changeToClosed_8 rfl ?_
  refine rz_getiv (v := S.2 46 2) d_Directory_changeToClosed_9 f_3_31 rfl rfl rfl ?_
  refine rz_pure (pc' := 13) d_Directory_changeToClosed_12 rfl ?_
  refine rz_getr d_Directory_changeToClosed_13 f_3_9 rfl rfl ?_
  refine rz_callVi (t := [.ref 47, .int (S.2 46 2), .int (S.2 46 1)]) d_Directory_changeToClosed_16 w_3_47 rfl rfl rfl w (fun xq1 Sq1 q1 => ?_)
  refine rz_pure (pc' := 20) (l' := [(2, .int xq1), (0, .ref 46), (1, .int a1)]) d_Directory_changeToClosed_19 rfl ?_
  refine rz_pure (pc' := 21) d_Directory_changeToClosed_20 rfl ?_
  refine rz_ifeq (tgt := 26) d_Directory_changeToClosed_21 rfl (fun b2 => ?_) (fun b2 => ?_)
  · skip
    refine rz_pure (pc' := 27) d_Directory_changeToClosed_26 rfl ?_
    refine rz_getr d_Directory_changeToClosed_27 f_3_9 rfl rfl ?_
    refine rz_pure (pc' := 31) d_Directory_changeToClosed_30 rfl ?_
    refine rz_callVi (t := []) d_Directory_changeToClosed_31 w_3_72 rfl rfl rfl (q1.1 b2) (fun xq3 Sq3 q3 => ?_)
    refine rz_iconst (v := 2) d_Directory_changeToClosed_34 (by decide) ?_
    refine rz_iadd d_Directory_changeToClosed_35 ?_
    refine rz_pure (pc' := 37) d_Directory_changeToClosed_36 rfl ?_
    refine rz_ialdv (F := Sq3.1 47) (i := (xq3 + 2).toNatClampNeg) d_Directory_changeToClosed_37 rfl q3.1 rfl rfl ?_
    refine rz_sipush (v := 128) d_Directory_changeToClosed_38 (by decide) ?_
    refine rz_ior d_Directory_changeToClosed_41 ?_
    refine rz_iastv (F := Sq3.1 47) (i := (xq3 + 2).toNatClampNeg) d_Directory_changeToClosed_42 rfl q3.1 rfl rfl ?_
    refine rz_pure (pc' := 44) d_Directory_changeToClosed_43 rfl ?_
    refine rz_getr d_Directory_changeToClosed_44 f_3_9 rfl rfl ?_
    refine rz_pure (pc' := 48) d_Directory_changeToClosed_47 rfl ?_
    refine rz_callVi (t := []) d_Directory_changeToClosed_48 w_3_72 rfl rfl rfl q3.2 (fun xq4 Sq4 q4 => ?_)
    refine rz_bipush (v := 15) d_Directory_changeToClosed_51 (by decide) ?_
    refine rz_iadd d_Directory_changeToClosed_53 ?_
    refine rz_pure (pc' := 55) d_Directory_changeToClosed_54 rfl ?_
    refine rz_sipush (v := 255) d_Directory_changeToClosed_55 (by decide) ?_
    refine rz_iand d_Directory_changeToClosed_58 ?_
    refine rz_iastv (F := Sq4.1 47) (i := (xq4 + 15).toNatClampNeg) d_Directory_changeToClosed_59 rfl q4.1 rfl rfl ?_
    refine rz_pure (pc' := 61) d_Directory_changeToClosed_60 rfl ?_
    refine rz_getr d_Directory_changeToClosed_61 f_3_15 rfl rfl ?_
    refine rz_pure (pc' := 65) d_Directory_changeToClosed_64 rfl ?_
    refine rz_getiv (v := Sq4.2 46 1) d_Directory_changeToClosed_65 f_3_27 rfl rfl rfl ?_
    refine rz_pure (pc' := 69) d_Directory_changeToClosed_68 rfl ?_
    refine rz_getiv (v := Sq4.2 46 2) d_Directory_changeToClosed_69 f_3_31 rfl rfl rfl ?_
    refine rz_pure (pc' := 73) d_Directory_changeToClosed_72 rfl ?_
    refine rz_getr d_Directory_changeToClosed_73 f_3_9 rfl rfl ?_
    refine rz_callVi (t := [.ref 47, .int (Sq4.2 46 2), .int (Sq4.2 46 1)]) d_Directory_changeToClosed_76 w_3_88 rfl rfl rfl q4.2 (fun xq5 Sq5 q5 => ?_)
    exact rz_ireti d_Directory_changeToClosed_79 rfl rfl q5
  · skip
    refine rz_pure (pc' := 25) d_Directory_changeToClosed_24 rfl ?_
    exact rz_ireti d_Directory_changeToClosed_25 rfl rfl (q1.2 b2)
theorem p_Dos_countOpen_0 {S : rz_S} {K : Int32 → rz_S → Prop} (w : rz mDos_countOpen 4 [(0, .ref 39), (1, .int 0), (2, .int 0)] [] S (rz_i K)) : rz mDos_countOpen 0 [(0, .ref 39)] [] S (rz_i K) := by
  refine rz_iconst (v := 0) d_Dos_countOpen_0 (by decide) ?_
  refine rz_pure (pc' := 2) (l' := [(1, .int 0), (0, .ref 39)]) d_Dos_countOpen_1 rfl ?_
  refine rz_iconst (v := 0) d_Dos_countOpen_2 (by decide) ?_
  refine rz_pure (pc' := 4) (l' := [(2, .int 0), (1, .int 0), (0, .ref 39)]) d_Dos_countOpen_3 rfl ?_
  exact rz_pick (ks := [0, 1, 2]) (l := [(0, .ref 39), (1, .int 0), (2, .int 0)]) rfl rfl (by decide) rfl w
theorem p_Dos_countOpen_4 {S : rz_S} {K : Int32 → rz_S → Prop} {a1 : Int32} {a2 : Int32} (w : ((15 ≤ a2 → K a1 S) ∧ (¬ 15 ≤ a2 → rx_in a2 15 = true ∧ ((S.2 (48 + 4 * a2.toNatClampNeg) 0 = 0 → rz mDos_countOpen 4 [(0, .ref 39), (1, .int (a1 + 0)), (2, .int (a2 + 1))] [] S (rz_i K)) ∧ (¬ S.2 (48 + 4 * a2.toNatClampNeg) 0 = 0 → rz mDos_countOpen 4 [(0, .ref 39), (1, .int (a1 + 1)), (2, .int (a2 + 1))] [] S (rz_i K)))))) : rz mDos_countOpen 4 [(0, .ref 39), (1, .int a1), (2, .int a2)] [] S (rz_i K) := by
  refine rz_pure (pc' := 5) d_Dos_countOpen_4 rfl ?_
  refine rz_bipush (v := 15) d_Dos_countOpen_5 (by decide) ?_
  refine rz_icmpge (tgt := 36) d_Dos_countOpen_7 rfl (fun b1 => ?_) (fun b1 => ?_)
  · skip
    refine rz_pure (pc' := 37) d_Dos_countOpen_36 rfl ?_
    exact rz_ireti d_Dos_countOpen_37 rfl rfl (w.1 b1)
  · skip
    refine rz_pure (pc' := 11) d_Dos_countOpen_10 rfl ?_
    refine rz_pure (pc' := 12) d_Dos_countOpen_11 rfl ?_
    refine rz_getr d_Dos_countOpen_12 f_5_19 rfl rfl ?_
    refine rz_pure (pc' := 16) d_Dos_countOpen_15 rfl ?_
    have e2 := chI (w.2 b1).1
    have ze2 := chZ e2
    refine rz_aldC d_Dos_countOpen_16 rfl (w.2 b1).1 ?_
    refine rz_getiv (v := S.2 (48 + 4 * a2.toNatClampNeg) 0) d_Dos_countOpen_17 f_5_61 (chTP e2) rfl rfl ?_
    refine rz_ifne (tgt := 27) d_Dos_countOpen_20 rfl (fun b3 => ?_) (fun b3 => ?_)
    · skip
      refine rz_iconst (v := 1) d_Dos_countOpen_27 (by decide) ?_
      refine rz_iadd d_Dos_countOpen_28 ?_
      refine rz_pure (pc' := 30) (l' := [(1, .int (a1 + 1)), (0, .ref 39), (2, .int a2)]) d_Dos_countOpen_29 rfl ?_
      refine rz_pure (pc' := 33) (l' := [(2, .int (a2 + 1)), (1, .int (a1 + 1)), (0, .ref 39)]) d_Dos_countOpen_30 rfl ?_
      refine rz_pure (pc' := 4) d_Dos_countOpen_33 rfl ?_
      exact rz_pick (ks := [0, 1, 2]) (l := [(0, .ref 39), (1, .int (a1 + 1)), (2, .int (a2 + 1))]) rfl rfl (by decide) rfl ((w.2 b1).2.2 b3)
    · skip
      refine rz_iconst (v := 0) d_Dos_countOpen_23 (by decide) ?_
      refine rz_pure (pc' := 28) d_Dos_countOpen_24 rfl ?_
      refine rz_iadd d_Dos_countOpen_28 ?_
      refine rz_pure (pc' := 30) (l' := [(1, .int (a1 + 0)), (0, .ref 39), (2, .int a2)]) d_Dos_countOpen_29 rfl ?_
      refine rz_pure (pc' := 33) (l' := [(2, .int (a2 + 1)), (1, .int (a1 + 0)), (0, .ref 39)]) d_Dos_countOpen_30 rfl ?_
      refine rz_pure (pc' := 4) d_Dos_countOpen_33 rfl ?_
      exact rz_pick (ks := [0, 1, 2]) (l := [(0, .ref 39), (1, .int (a1 + 0)), (2, .int (a2 + 1))]) rfl rfl (by decide) rfl ((w.2 b1).2.1 b3)
theorem d_Dos_openBuffer_0 : decode (rm_code mDos_openBuffer) 0 = .ok (.aload_n 0, 1) := by decide +kernel
theorem d_Dos_openBuffer_1 : decode (rm_code mDos_openBuffer) 1 = .ok (.getfield 38, 3) := by decide +kernel
theorem d_Dos_openBuffer_4 : decode (rm_code mDos_openBuffer) 4 = .ok (.getfield 146, 3) := by decide +kernel
theorem d_Dos_openBuffer_7 : decode (rm_code mDos_openBuffer) 7 = .ok (.iconst 1, 1) := by decide +kernel
theorem d_Dos_openBuffer_8 : decode (rm_code mDos_openBuffer) 8 = .ok (.if_icmp .le (15), 3) := by decide +kernel
theorem d_Dos_openBuffer_11 : decode (rm_code mDos_openBuffer) 11 = .ok (.aload_n 0, 1) := by decide +kernel
theorem d_Dos_openBuffer_12 : decode (rm_code mDos_openBuffer) 12 = .ok (.getfield 30, 3) := by decide +kernel
theorem d_Dos_openBuffer_15 : decode (rm_code mDos_openBuffer) 15 = .ok (.bipush (30), 2) := by decide +kernel
theorem d_Dos_openBuffer_17 : decode (rm_code mDos_openBuffer) 17 = .ok (.iconst 0, 1) := by decide +kernel
theorem d_Dos_openBuffer_18 : decode (rm_code mDos_openBuffer) 18 = .ok (.iconst 0, 1) := by decide +kernel
theorem d_Dos_openBuffer_19 : decode (rm_code mDos_openBuffer) 19 = .ok (.invokevirtual 116, 3) := by decide +kernel
theorem d_Dos_openBuffer_22 : decode (rm_code mDos_openBuffer) 22 = .ok (.ireturn, 1) := by decide +kernel
theorem d_Dos_openBuffer_23 : decode (rm_code mDos_openBuffer) 23 = .ok (.aload_n 1, 1) := by decide +kernel
theorem d_Dos_openBuffer_24 : decode (rm_code mDos_openBuffer) 24 = .ok (.iconst 4, 1) := by decide +kernel
theorem d_Dos_openBuffer_25 : decode (rm_code mDos_openBuffer) 25 = .ok (.invokevirtual 149, 3) := by decide +kernel
theorem d_Dos_openBuffer_28 : decode (rm_code mDos_openBuffer) 28 = .ok (.iconst 0, 1) := by decide +kernel
theorem d_Dos_openBuffer_29 : decode (rm_code mDos_openBuffer) 29 = .ok (.ireturn, 1) := by decide +kernel
theorem p_Dos_openBuffer_0 {S : rz_S} {K : Int32 → rz_S → Prop} {a1 : Nat} (ha1 : chP a1) (w : ((S.2 1 2 ≤ 1 → rz_ev mChannel_begin [.ref a1, .int 4] S (rz_v (fun Sq2 => K 0 Sq2))) ∧ (¬ S.2 1 2 ≤ 1 → rz_ev mStatus_set [.ref 3, .int 30, .int 0, .int 0] S (rz_i (fun xq3 Sq3 => K xq3 Sq3))))) : rz mDos_openBuffer 0 [(0, .ref 39), (1, .ref a1)] [] S (rz_i K) := by
  have za1 := chZ ha1
  refine rz_pure (pc' := 1) d_Dos_openBuffer_0 rfl ?_
  refine rz_getr d_Dos_openBuffer_1 f_5_38 rfl rfl ?_
  refine rz_getiv (v := S.2 1 2) d_Dos_openBuffer_4 f_5_146 rfl rfl rfl ?_
  refine rz_iconst (v := 1) d_Dos_openBuffer_7 (by decide) ?_
  refine rz_icmple (tgt := 23) d_Dos_openBuffer_8 rfl (fun b1 => ?_) (fun b1 => ?_)
  · skip
    refine rz_pure (pc' := 24) d_Dos_openBuffer_23 rfl ?_
    refine rz_iconst (v := 4) d_Dos_openBuffer_24 (by decide) ?_
    refine rz_callVv (t := [.int 4]) d_Dos_openBuffer_25 w_5_149 rfl (chTP ha1) rfl (w.1 b1) (fun Sq2 q2 => ?_)
    refine rz_iconst (v := 0) d_Dos_openBuffer_28 (by decide) ?_
    exact rz_ireti d_Dos_openBuffer_29 rfl rfl q2
  · skip
    refine rz_pure (pc' := 12) d_Dos_openBuffer_11 rfl ?_
    refine rz_getr d_Dos_openBuffer_12 f_5_30 rfl rfl ?_
    refine rz_bipush (v := 30) d_Dos_openBuffer_15 (by decide) ?_
    refine rz_iconst (v := 0) d_Dos_openBuffer_17 (by decide) ?_
    refine rz_iconst (v := 0) d_Dos_openBuffer_18 (by decide) ?_
    refine rz_callVi (t := [.int 0, .int 0, .int 30]) d_Dos_openBuffer_19 w_5_116 rfl rfl rfl (w.2 b1) (fun xq3 Sq3 q3 => ?_)
    exact rz_ireti d_Dos_openBuffer_22 rfl rfl q3
theorem d_Channel_begin_0 : decode (rm_code mChannel_begin) 0 = .ok (.aload_n 0, 1) := by decide +kernel
theorem d_Channel_begin_1 : decode (rm_code mChannel_begin) 1 = .ok (.iload_n 1, 1) := by decide +kernel
theorem d_Channel_begin_2 : decode (rm_code mChannel_begin) 2 = .ok (.putfield 9, 3) := by decide +kernel
theorem d_Channel_begin_5 : decode (rm_code mChannel_begin) 5 = .ok (.aload_n 0, 1) := by decide +kernel
theorem d_Channel_begin_6 : decode (rm_code mChannel_begin) 6 = .ok (.getfield 15, 3) := by decide +kernel
theorem d_Channel_begin_9 : decode (rm_code mChannel_begin) 9 = .ok (.iconst 0, 1) := by decide +kernel
theorem d_Channel_begin_10 : decode (rm_code mChannel_begin) 10 = .ok (.invokestatic 26, 3) := by decide +kernel
theorem d_Channel_begin_13 : decode (rm_code mChannel_begin) 13 = .ok (.aload_n 0, 1) := by decide +kernel
theorem d_Channel_begin_14 : decode (rm_code mChannel_begin) 14 = .ok (.iconst 0, 1) := by decide +kernel
theorem d_Channel_begin_15 : decode (rm_code mChannel_begin) 15 = .ok (.putfield 32, 3) := by decide +kernel
theorem d_Channel_begin_18 : decode (rm_code mChannel_begin) 18 = .ok (.aload_n 0, 1) := by decide +kernel
theorem d_Channel_begin_19 : decode (rm_code mChannel_begin) 19 = .ok (.iconst 0, 1) := by decide +kernel
theorem d_Channel_begin_20 : decode (rm_code mChannel_begin) 20 = .ok (.putfield 35, 3) := by decide +kernel
theorem d_Channel_begin_23 : decode (rm_code mChannel_begin) 23 = .ok (.aload_n 0, 1) := by decide +kernel
theorem d_Channel_begin_24 : decode (rm_code mChannel_begin) 24 = .ok (.iconst 0, 1) := by decide +kernel
theorem d_Channel_begin_25 : decode (rm_code mChannel_begin) 25 = .ok (.putfield 38, 3) := by decide +kernel
theorem d_Channel_begin_28 : decode (rm_code mChannel_begin) 28 = .ok (.aload_n 0, 1) := by decide +kernel
theorem d_Channel_begin_29 : decode (rm_code mChannel_begin) 29 = .ok (.iconst 0, 1) := by decide +kernel
theorem d_Channel_begin_30 : decode (rm_code mChannel_begin) 30 = .ok (.putfield 42, 3) := by decide +kernel
theorem d_Channel_begin_33 : decode (rm_code mChannel_begin) 33 = .ok (.return_, 1) := by decide +kernel
theorem p_Channel_begin_0 {S : rz_S} {K : rz_S → Prop} {a0 : Nat} (ha0 : chP a0) {a1 : Int32} (w : rz_ev mArr_fill [.ref (a0 + 1), .int 0] (rz_uI S a0 0 a1) (rz_v (fun Sq1 => K (rz_uI (rz_uI (rz_uI (rz_uI Sq1 a0 2 0) a0 3 0) a0 4 0) a0 15 0)))) : rz mChannel_begin 0 [(0, .ref a0), (1, .int a1)] [] S (rz_v K) := by
  have za0 := chZ ha0
  refine rz_pure (pc' := 1) d_Channel_begin_0 rfl ?_
  refine rz_pure (pc' := 2) d_Channel_begin_1 rfl ?_
  refine rz_puti d_Channel_begin_2 f_1_9 (chTP ha0) rfl rfl ?_
  refine rz_pure (pc' := 6) d_Channel_begin_5 rfl ?_
  refine rz_getr d_Channel_begin_6 f_1_15 (chTP ha0) rfl ?_
  refine rz_iconst (v := 0) d_Channel_begin_9 (by decide) ?_
  refine rz_callSv (t := [.int 0, .ref (a0 + 1)]) d_Channel_begin_10 rfl w_1_26 rfl rfl w (fun Sq1 q1 => ?_)
  refine rz_pure (pc' := 14) d_Channel_begin_13 rfl ?_
  refine rz_iconst (v := 0) d_Channel_begin_14 (by decide) ?_
  refine rz_puti d_Channel_begin_15 f_1_32 (chTP ha0) rfl rfl ?_
  refine rz_pure (pc' := 19) d_Channel_begin_18 rfl ?_
  refine rz_iconst (v := 0) d_Channel_begin_19 (by decide) ?_
  refine rz_puti d_Channel_begin_20 f_1_35 (chTP ha0) rfl rfl ?_
  refine rz_pure (pc' := 24) d_Channel_begin_23 rfl ?_
  refine rz_iconst (v := 0) d_Channel_begin_24 (by decide) ?_
  refine rz_puti d_Channel_begin_25 f_1_38 (chTP ha0) rfl (by decide) ?_
  refine rz_pure (pc' := 29) d_Channel_begin_28 rfl ?_
  refine rz_iconst (v := 0) d_Channel_begin_29 (by decide) ?_
  refine rz_puti d_Channel_begin_30 f_1_42 (chTP ha0) rfl (by decide) ?_
  exact rz_vretv d_Channel_begin_33 rfl q1
theorem d_Dos_openList_0 : decode (rm_code mDos_openList) 0 = .ok (.aload_n 0, 1) := by decide +kernel
theorem d_Dos_openList_1 : decode (rm_code mDos_openList) 1 = .ok (.getfield 38, 3) := by decide +kernel
theorem d_Dos_openList_4 : decode (rm_code mDos_openList) 4 = .ok (.getfield 146, 3) := by decide +kernel
theorem d_Dos_openList_7 : decode (rm_code mDos_openList) 7 = .ok (.iconst 1, 1) := by decide +kernel
theorem d_Dos_openList_8 : decode (rm_code mDos_openList) 8 = .ok (.if_icmp .le (7), 3) := by decide +kernel
theorem d_Dos_openList_11 : decode (rm_code mDos_openList) 11 = .ok (.iconst 1, 1) := by decide +kernel
theorem d_Dos_openList_12 : decode (rm_code mDos_openList) 12 = .ok (.goto (4), 3) := by decide +kernel
theorem d_Dos_openList_15 : decode (rm_code mDos_openList) 15 = .ok (.iconst 0, 1) := by decide +kernel
theorem d_Dos_openList_16 : decode (rm_code mDos_openList) 16 = .ok (.istore_n 2, 1) := by decide +kernel
theorem d_Dos_openList_17 : decode (rm_code mDos_openList) 17 = .ok (.iload_n 2, 1) := by decide +kernel
theorem d_Dos_openList_18 : decode (rm_code mDos_openList) 18 = .ok (.ifCond .eq (16), 3) := by decide +kernel
theorem d_Dos_openList_21 : decode (rm_code mDos_openList) 21 = .ok (.aload_n 0, 1) := by decide +kernel
theorem d_Dos_openList_22 : decode (rm_code mDos_openList) 22 = .ok (.getfield 38, 3) := by decide +kernel
theorem d_Dos_openList_25 : decode (rm_code mDos_openList) 25 = .ok (.iconst 1, 1) := by decide +kernel
theorem d_Dos_openList_26 : decode (rm_code mDos_openList) 26 = .ok (.invokevirtual 122, 3) := by decide +kernel
theorem d_Dos_openList_29 : decode (rm_code mDos_openList) 29 = .ok (.bipush (58), 2) := by decide +kernel
theorem d_Dos_openList_31 : decode (rm_code mDos_openList) 31 = .ok (.if_icmp .ne (25), 3) := by decide +kernel
theorem d_Dos_openList_34 : decode (rm_code mDos_openList) 34 = .ok (.aload_n 0, 1) := by decide +kernel
theorem d_Dos_openList_35 : decode (rm_code mDos_openList) 35 = .ok (.getfield 26, 3) := by decide +kernel
theorem d_Dos_openList_38 : decode (rm_code mDos_openList) 38 = .ok (.aload_n 0, 1) := by decide +kernel
theorem d_Dos_openList_39 : decode (rm_code mDos_openList) 39 = .ok (.getfield 38, 3) := by decide +kernel
theorem d_Dos_openList_42 : decode (rm_code mDos_openList) 42 = .ok (.iconst 2, 1) := by decide +kernel
theorem d_Dos_openList_43 : decode (rm_code mDos_openList) 43 = .ok (.aload_n 0, 1) := by decide +kernel
theorem d_Dos_openList_44 : decode (rm_code mDos_openList) 44 = .ok (.getfield 38, 3) := by decide +kernel
theorem d_Dos_openList_47 : decode (rm_code mDos_openList) 47 = .ok (.getfield 146, 3) := by decide +kernel
theorem d_Dos_openList_50 : decode (rm_code mDos_openList) 50 = .ok (.invokevirtual 153, 3) := by decide +kernel
theorem d_Dos_openList_53 : decode (rm_code mDos_openList) 53 = .ok (.ifCond .ne (15), 3) := by decide +kernel
theorem d_Dos_openList_56 : decode (rm_code mDos_openList) 56 = .ok (.aload_n 0, 1) := by decide +kernel
theorem d_Dos_openList_57 : decode (rm_code mDos_openList) 57 = .ok (.getfield 30, 3) := by decide +kernel
theorem d_Dos_openList_60 : decode (rm_code mDos_openList) 60 = .ok (.bipush (30), 2) := by decide +kernel
theorem d_Dos_openList_62 : decode (rm_code mDos_openList) 62 = .ok (.iconst 0, 1) := by decide +kernel
theorem d_Dos_openList_63 : decode (rm_code mDos_openList) 63 = .ok (.iconst 0, 1) := by decide +kernel
theorem d_Dos_openList_64 : decode (rm_code mDos_openList) 64 = .ok (.invokevirtual 116, 3) := by decide +kernel
theorem d_Dos_openList_67 : decode (rm_code mDos_openList) 67 = .ok (.ireturn, 1) := by decide +kernel
theorem d_Dos_openList_68 : decode (rm_code mDos_openList) 68 = .ok (.aload_n 0, 1) := by decide +kernel
theorem d_Dos_openList_69 : decode (rm_code mDos_openList) 69 = .ok (.getfield 26, 3) := by decide +kernel
theorem d_Dos_openList_72 : decode (rm_code mDos_openList) 72 = .ok (.invokevirtual 157, 3) := by decide +kernel
theorem d_Dos_openList_75 : decode (rm_code mDos_openList) 75 = .ok (.ifCond .eq (10), 3) := by decide +kernel
theorem d_Dos_openList_78 : decode (rm_code mDos_openList) 78 = .ok (.aload_n 0, 1) := by decide +kernel
theorem d_Dos_openList_79 : decode (rm_code mDos_openList) 79 = .ok (.getfield 26, 3) := by decide +kernel
theorem d_Dos_openList_82 : decode (rm_code mDos_openList) 82 = .ok (.invokevirtual 161, 3) := by decide +kernel
theorem d_Dos_openList_85 : decode (rm_code mDos_openList) 85 = .ok (.aload_n 1, 1) := by decide +kernel
theorem d_Dos_openList_86 : decode (rm_code mDos_openList) 86 = .ok (.iconst 3, 1) := by decide +kernel
theorem d_Dos_openList_87 : decode (rm_code mDos_openList) 87 = .ok (.invokevirtual 149, 3) := by decide +kernel
theorem d_Dos_openList_90 : decode (rm_code mDos_openList) 90 = .ok (.aload_n 1, 1) := by decide +kernel
theorem d_Dos_openList_91 : decode (rm_code mDos_openList) 91 = .ok (.getfield 164, 3) := by decide +kernel
theorem d_Dos_openList_94 : decode (rm_code mDos_openList) 94 = .ok (.aload_n 0, 1) := by decide +kernel
theorem d_Dos_openList_95 : decode (rm_code mDos_openList) 95 = .ok (.getfield 26, 3) := by decide +kernel
theorem d_Dos_openList_98 : decode (rm_code mDos_openList) 98 = .ok (.invokevirtual 167, 3) := by decide +kernel
theorem d_Dos_openList_101 : decode (rm_code mDos_openList) 101 = .ok (.iconst 0, 1) := by decide +kernel
theorem d_Dos_openList_102 : decode (rm_code mDos_openList) 102 = .ok (.ireturn, 1) := by decide +kernel
theorem p_Dos_openList_0 {S : rz_S} {K : Int32 → rz_S → Prop} {a1 : Nat} (ha1 : chP a1) (w : ((S.2 1 2 ≤ 1 → rz mDos_openList 16 [(0, .ref 39), (1, .ref a1)] [.int 0] S (rz_i K)) ∧ (¬ S.2 1 2 ≤ 1 → rz mDos_openList 16 [(0, .ref 39), (1, .ref a1)] [.int 1] S (rz_i K)))) : rz mDos_openList 0 [(0, .ref 39), (1, .ref a1)] [] S (rz_i K) := by
  have za1 := chZ ha1
  refine rz_pure (pc' := 1) d_Dos_openList_0 rfl ?_
  refine rz_getr d_Dos_openList_1 f_5_38 rfl rfl ?_
  refine rz_getiv (v := S.2 1 2) d_Dos_openList_4 f_5_146 rfl rfl rfl ?_
  refine rz_iconst (v := 1) d_Dos_openList_7 (by decide) ?_
  refine rz_icmple (tgt := 15) d_Dos_openList_8 rfl (fun b1 => ?_) (fun b1 => ?_)
  · skip
    refine rz_iconst (v := 0) d_Dos_openList_15 (by decide) ?_
    exact rz_pick (ks := [0, 1]) (l := [(0, .ref 39), (1, .ref a1)]) rfl rfl (by decide) rfl (w.1 b1)
  · skip
    refine rz_iconst (v := 1) d_Dos_openList_11 (by decide) ?_
    refine rz_pure (pc' := 16) d_Dos_openList_12 rfl ?_
    exact rz_pick (ks := [0, 1]) (l := [(0, .ref 39), (1, .ref a1)]) rfl rfl (by decide) rfl (w.2 b1)
theorem p_Dos_openList_16 {S : rz_S} {K : Int32 → rz_S → Prop} {a1 : Nat} (ha1 : chP a1) {s0 : Int32} (w : ((s0 = 0 → rz mDos_openList 34 [(0, .ref 39), (1, .ref a1)] [] S (rz_i K)) ∧ (¬ s0 = 0 → rz_ev mTape_byteAt [.ref 1, .int 1] S (rz_i (fun xq2 Sq2 => ((xq2 = 58 → rz mDos_openList 34 [(0, .ref 39), (1, .ref a1)] [] Sq2 (rz_i K)) ∧ (¬ xq2 = 58 → rz mDos_openList 56 [(0, .ref 39)] [] Sq2 (rz_i K)))))))) : rz mDos_openList 16 [(0, .ref 39), (1, .ref a1)] [.int s0] S (rz_i K) := by
  have za1 := chZ ha1
  refine rz_pure (pc' := 17) (l' := [(2, .int s0), (0, .ref 39), (1, .ref a1)]) d_Dos_openList_16 rfl ?_
  refine rz_pure (pc' := 18) d_Dos_openList_17 rfl ?_
  refine rz_ifeq (tgt := 34) d_Dos_openList_18 rfl (fun b1 => ?_) (fun b1 => ?_)
  · skip
    exact rz_pick (ks := [0, 1]) (l := [(0, .ref 39), (1, .ref a1)]) rfl rfl (by decide) rfl (w.1 b1)
  · skip
    refine rz_pure (pc' := 22) d_Dos_openList_21 rfl ?_
    refine rz_getr d_Dos_openList_22 f_5_38 rfl rfl ?_
    refine rz_iconst (v := 1) d_Dos_openList_25 (by decide) ?_
    refine rz_callVi (t := [.int 1]) d_Dos_openList_26 w_5_122 rfl rfl rfl (w.2 b1) (fun xq2 Sq2 q2 => ?_)
    refine rz_bipush (v := 58) d_Dos_openList_29 (by decide) ?_
    refine rz_icmpne (tgt := 56) d_Dos_openList_31 rfl (fun b3 => ?_) (fun b3 => ?_)
    · skip
      exact rz_pick (ks := [0]) (l := [(0, .ref 39)]) rfl rfl (by decide) rfl (q2.2 b3)
    · skip
      exact rz_pick (ks := [0, 1]) (l := [(0, .ref 39), (1, .ref a1)]) rfl rfl (by decide) rfl (q2.1 b3)
theorem p_Dos_openList_34 {S : rz_S} {K : Int32 → rz_S → Prop} {a1 : Nat} (ha1 : chP a1) (w : rz_ev mPattern_take [.ref 42, .ref 1, .int 2, .int (S.2 1 2)] S (rz_i (fun xq1 Sq1 => ((xq1 = 0 → rz mDos_openList 56 [(0, .ref 39)] [] Sq1 (rz_i K)) ∧ (¬ xq1 = 0 → rz_ev mPattern_isEmpty [.ref 42] Sq1 (rz_i (fun xq3 Sq3 => ((xq3 = 0 → rz mDos_openList 85 [(0, .ref 39), (1, .ref a1)] [] Sq3 (rz_i K)) ∧ (¬ xq3 = 0 → rz_ev mPattern_fitAll [.ref 42] Sq3 (rz_v (fun Sq5 => rz mDos_openList 85 [(0, .ref 39), (1, .ref a1)] [] Sq5 (rz_i K)))))))))))) : rz mDos_openList 34 [(0, .ref 39), (1, .ref a1)] [] S (rz_i K) := by
  have za1 := chZ ha1
  refine rz_pure (pc' := 35) d_Dos_openList_34 rfl ?_
  refine rz_getr d_Dos_openList_35 f_5_26 rfl rfl ?_
  refine rz_pure (pc' := 39) d_Dos_openList_38 rfl ?_
  refine rz_getr d_Dos_openList_39 f_5_38 rfl rfl ?_
  refine rz_iconst (v := 2) d_Dos_openList_42 (by decide) ?_
  refine rz_pure (pc' := 44) d_Dos_openList_43 rfl ?_
  refine rz_getr d_Dos_openList_44 f_5_38 rfl rfl ?_
  refine rz_getiv (v := S.2 1 2) d_Dos_openList_47 f_5_146 rfl rfl rfl ?_
  refine rz_callVi (t := [.int (S.2 1 2), .int 2, .ref 1]) d_Dos_openList_50 w_5_153 rfl rfl rfl w (fun xq1 Sq1 q1 => ?_)
  refine rz_ifne (tgt := 68) d_Dos_openList_53 rfl (fun b2 => ?_) (fun b2 => ?_)
  · skip
    refine rz_pure (pc' := 69) d_Dos_openList_68 rfl ?_
    refine rz_getr d_Dos_openList_69 f_5_26 rfl rfl ?_
    refine rz_callVi (t := []) d_Dos_openList_72 w_5_157 rfl rfl rfl (q1.2 b2) (fun xq3 Sq3 q3 => ?_)
    refine rz_ifeq (tgt := 85) d_Dos_openList_75 rfl (fun b4 => ?_) (fun b4 => ?_)
    · skip
      exact rz_pick (ks := [0, 1]) (l := [(0, .ref 39), (1, .ref a1)]) rfl rfl (by decide) rfl (q3.1 b4)
    · skip
      refine rz_pure (pc' := 79) d_Dos_openList_78 rfl ?_
      refine rz_getr d_Dos_openList_79 f_5_26 rfl rfl ?_
      refine rz_callVv (t := []) d_Dos_openList_82 w_5_161 rfl rfl rfl (q3.2 b4) (fun Sq5 q5 => ?_)
      exact rz_pick (ks := [0, 1]) (l := [(0, .ref 39), (1, .ref a1)]) rfl rfl (by decide) rfl q5
  · skip
    exact rz_pick (ks := [0]) (l := [(0, .ref 39)]) rfl rfl (by decide) rfl (q1.1 b2)
theorem p_Dos_openList_56 {S : rz_S} {K : Int32 → rz_S → Prop} (w : rz_ev mStatus_set [.ref 3, .int 30, .int 0, .int 0] S (rz_i (fun xq1 Sq1 => K xq1 Sq1))) : rz mDos_openList 56 [(0, .ref 39)] [] S (rz_i K) := by
  refine rz_pure (pc' := 57) d_Dos_openList_56 rfl ?_
  refine rz_getr d_Dos_openList_57 f_5_30 rfl rfl ?_
  refine rz_bipush (v := 30) d_Dos_openList_60 (by decide) ?_
  refine rz_iconst (v := 0) d_Dos_openList_62 (by decide) ?_
  refine rz_iconst (v := 0) d_Dos_openList_63 (by decide) ?_
  refine rz_callVi (t := [.int 0, .int 0, .int 30]) d_Dos_openList_64 w_5_116 rfl rfl rfl w (fun xq1 Sq1 q1 => ?_)
  exact rz_ireti d_Dos_openList_67 rfl rfl q1
theorem p_Dos_openList_85 {S : rz_S} {K : Int32 → rz_S → Prop} {a1 : Nat} (ha1 : chP a1) (w : rz_ev mChannel_begin [.ref a1, .int 3] S (rz_v (fun Sq1 => rz_ev mPattern_copyFrom [.ref (a1 + 2), .ref 42] Sq1 (rz_v (fun Sq2 => K 0 Sq2))))) : rz mDos_openList 85 [(0, .ref 39), (1, .ref a1)] [] S (rz_i K) := by
  have za1 := chZ ha1
  refine rz_pure (pc' := 86) d_Dos_openList_85 rfl ?_
  refine rz_iconst (v := 3) d_Dos_openList_86 (by decide) ?_
  refine rz_callVv (t := [.int 3]) d_Dos_openList_87 w_5_149 rfl (chTP ha1) rfl w (fun Sq1 q1 => ?_)
  refine rz_pure (pc' := 91) d_Dos_openList_90 rfl ?_
  refine rz_getr d_Dos_openList_91 f_5_164 (chTP ha1) rfl ?_
  refine rz_pure (pc' := 95) d_Dos_openList_94 rfl ?_
  refine rz_getr d_Dos_openList_95 f_5_26 rfl rfl ?_
  refine rz_callVv (t := [.ref 42]) d_Dos_openList_98 w_5_167 rfl (ptT (chPt ha1)) rfl q1 (fun Sq2 q2 => ?_)
  refine rz_iconst (v := 0) d_Dos_openList_101 (by decide) ?_
  exact rz_ireti d_Dos_openList_102 rfl rfl q2
theorem d_Dos_parseFile_0 : decode (rm_code mDos_parseFile) 0 = .ok (.aload_n 0, 1) := by decide +kernel
theorem d_Dos_parseFile_1 : decode (rm_code mDos_parseFile) 1 = .ok (.aload_n 0, 1) := by decide +kernel
theorem d_Dos_parseFile_2 : decode (rm_code mDos_parseFile) 2 = .ok (.getfield 38, 3) := by decide +kernel
theorem d_Dos_parseFile_5 : decode (rm_code mDos_parseFile) 5 = .ok (.iconst 0, 1) := by decide +kernel
theorem d_Dos_parseFile_6 : decode (rm_code mDos_parseFile) 6 = .ok (.invokevirtual 122, 3) := by decide +kernel
theorem d_Dos_parseFile_9 : decode (rm_code mDos_parseFile) 9 = .ok (.bipush (64), 2) := by decide +kernel
theorem d_Dos_parseFile_11 : decode (rm_code mDos_parseFile) 11 = .ok (.if_icmp .ne (7), 3) := by decide +kernel
theorem d_Dos_parseFile_14 : decode (rm_code mDos_parseFile) 14 = .ok (.iconst 1, 1) := by decide +kernel
theorem d_Dos_parseFile_15 : decode (rm_code mDos_parseFile) 15 = .ok (.goto (4), 3) := by decide +kernel
theorem d_Dos_parseFile_18 : decode (rm_code mDos_parseFile) 18 = .ok (.iconst 0, 1) := by decide +kernel
theorem d_Dos_parseFile_19 : decode (rm_code mDos_parseFile) 19 = .ok (.putfield 171, 3) := by decide +kernel
theorem d_Dos_parseFile_22 : decode (rm_code mDos_parseFile) 22 = .ok (.aload_n 0, 1) := by decide +kernel
theorem d_Dos_parseFile_23 : decode (rm_code mDos_parseFile) 23 = .ok (.getfield 171, 3) := by decide +kernel
theorem d_Dos_parseFile_26 : decode (rm_code mDos_parseFile) 26 = .ok (.ifCond .eq (7), 3) := by decide +kernel
theorem d_Dos_parseFile_29 : decode (rm_code mDos_parseFile) 29 = .ok (.iconst 1, 1) := by decide +kernel
theorem d_Dos_parseFile_30 : decode (rm_code mDos_parseFile) 30 = .ok (.goto (4), 3) := by decide +kernel
theorem d_Dos_parseFile_33 : decode (rm_code mDos_parseFile) 33 = .ok (.iconst 0, 1) := by decide +kernel
theorem d_Dos_parseFile_34 : decode (rm_code mDos_parseFile) 34 = .ok (.istore_n 2, 1) := by decide +kernel
theorem d_Dos_parseFile_35 : decode (rm_code mDos_parseFile) 35 = .ok (.iload_n 2, 1) := by decide +kernel
theorem d_Dos_parseFile_36 : decode (rm_code mDos_parseFile) 36 = .ok (.aload_n 0, 1) := by decide +kernel
theorem d_Dos_parseFile_37 : decode (rm_code mDos_parseFile) 37 = .ok (.getfield 38, 3) := by decide +kernel
theorem d_Dos_parseFile_40 : decode (rm_code mDos_parseFile) 40 = .ok (.iload_n 2, 1) := by decide +kernel
theorem d_Dos_parseFile_41 : decode (rm_code mDos_parseFile) 41 = .ok (.invokevirtual 122, 3) := by decide +kernel
theorem d_Dos_parseFile_44 : decode (rm_code mDos_parseFile) 44 = .ok (.bipush (58), 2) := by decide +kernel
theorem d_Dos_parseFile_46 : decode (rm_code mDos_parseFile) 46 = .ok (.if_icmp .ne (7), 3) := by decide +kernel
theorem d_Dos_parseFile_49 : decode (rm_code mDos_parseFile) 49 = .ok (.iconst 1, 1) := by decide +kernel
theorem d_Dos_parseFile_50 : decode (rm_code mDos_parseFile) 50 = .ok (.goto (4), 3) := by decide +kernel
theorem d_Dos_parseFile_53 : decode (rm_code mDos_parseFile) 53 = .ok (.iconst 0, 1) := by decide +kernel
theorem d_Dos_parseFile_54 : decode (rm_code mDos_parseFile) 54 = .ok (.iadd, 1) := by decide +kernel
theorem d_Dos_parseFile_55 : decode (rm_code mDos_parseFile) 55 = .ok (.istore_n 2, 1) := by decide +kernel
theorem d_Dos_parseFile_56 : decode (rm_code mDos_parseFile) 56 = .ok (.aload_n 0, 1) := by decide +kernel
theorem d_Dos_parseFile_57 : decode (rm_code mDos_parseFile) 57 = .ok (.getfield 38, 3) := by decide +kernel
theorem d_Dos_parseFile_60 : decode (rm_code mDos_parseFile) 60 = .ok (.bipush (44), 2) := by decide +kernel
theorem d_Dos_parseFile_62 : decode (rm_code mDos_parseFile) 62 = .ok (.iload_n 2, 1) := by decide +kernel
theorem d_Dos_parseFile_63 : decode (rm_code mDos_parseFile) 63 = .ok (.invokevirtual 175, 3) := by decide +kernel
theorem d_Dos_parseFile_66 : decode (rm_code mDos_parseFile) 66 = .ok (.istore_n 3, 1) := by decide +kernel
theorem d_Dos_parseFile_67 : decode (rm_code mDos_parseFile) 67 = .ok (.iload_n 3, 1) := by decide +kernel
theorem d_Dos_parseFile_68 : decode (rm_code mDos_parseFile) 68 = .ok (.iconst (-1), 1) := by decide +kernel
theorem d_Dos_parseFile_69 : decode (rm_code mDos_parseFile) 69 = .ok (.if_icmp .ne (13), 3) := by decide +kernel
theorem d_Dos_parseFile_72 : decode (rm_code mDos_parseFile) 72 = .ok (.aload_n 0, 1) := by decide +kernel
theorem d_Dos_parseFile_73 : decode (rm_code mDos_parseFile) 73 = .ok (.getfield 38, 3) := by decide +kernel
theorem d_Dos_parseFile_76 : decode (rm_code mDos_parseFile) 76 = .ok (.getfield 146, 3) := by decide +kernel
theorem d_Dos_parseFile_79 : decode (rm_code mDos_parseFile) 79 = .ok (.goto (4), 3) := by decide +kernel
theorem d_Dos_parseFile_82 : decode (rm_code mDos_parseFile) 82 = .ok (.iload_n 3, 1) := by decide +kernel
theorem d_Dos_parseFile_83 : decode (rm_code mDos_parseFile) 83 = .ok (.istore 4, 2) := by decide +kernel
theorem d_Dos_parseFile_85 : decode (rm_code mDos_parseFile) 85 = .ok (.iload 4, 2) := by decide +kernel
theorem d_Dos_parseFile_87 : decode (rm_code mDos_parseFile) 87 = .ok (.iload_n 2, 1) := by decide +kernel
theorem d_Dos_parseFile_88 : decode (rm_code mDos_parseFile) 88 = .ok (.if_icmp .ne (6), 3) := by decide +kernel
theorem d_Dos_parseFile_91 : decode (rm_code mDos_parseFile) 91 = .ok (.bipush (34), 2) := by decide +kernel
theorem d_Dos_parseFile_93 : decode (rm_code mDos_parseFile) 93 = .ok (.ireturn, 1) := by decide +kernel
theorem d_Dos_parseFile_94 : decode (rm_code mDos_parseFile) 94 = .ok (.aload_n 0, 1) := by decide +kernel
theorem d_Dos_parseFile_95 : decode (rm_code mDos_parseFile) 95 = .ok (.getfield 26, 3) := by decide +kernel
theorem d_Dos_parseFile_98 : decode (rm_code mDos_parseFile) 98 = .ok (.aload_n 0, 1) := by decide +kernel
theorem d_Dos_parseFile_99 : decode (rm_code mDos_parseFile) 99 = .ok (.getfield 38, 3) := by decide +kernel
theorem d_Dos_parseFile_102 : decode (rm_code mDos_parseFile) 102 = .ok (.iload_n 2, 1) := by decide +kernel
theorem d_Dos_parseFile_103 : decode (rm_code mDos_parseFile) 103 = .ok (.iload 4, 2) := by decide +kernel
theorem d_Dos_parseFile_105 : decode (rm_code mDos_parseFile) 105 = .ok (.invokevirtual 153, 3) := by decide +kernel
theorem d_Dos_parseFile_108 : decode (rm_code mDos_parseFile) 108 = .ok (.ifCond .ne (6), 3) := by decide +kernel
theorem d_Dos_parseFile_111 : decode (rm_code mDos_parseFile) 111 = .ok (.bipush (30), 2) := by decide +kernel
theorem d_Dos_parseFile_113 : decode (rm_code mDos_parseFile) 113 = .ok (.ireturn, 1) := by decide +kernel
theorem d_Dos_parseFile_114 : decode (rm_code mDos_parseFile) 114 = .ok (.aload_n 0, 1) := by decide +kernel
theorem d_Dos_parseFile_115 : decode (rm_code mDos_parseFile) 115 = .ok (.aload_n 0, 1) := by decide +kernel
theorem d_Dos_parseFile_116 : decode (rm_code mDos_parseFile) 116 = .ok (.iload 4, 2) := by decide +kernel
theorem d_Dos_parseFile_118 : decode (rm_code mDos_parseFile) 118 = .ok (.invokevirtual 179, 3) := by decide +kernel
theorem d_Dos_parseFile_121 : decode (rm_code mDos_parseFile) 121 = .ok (.putfield 182, 3) := by decide +kernel
theorem d_Dos_parseFile_124 : decode (rm_code mDos_parseFile) 124 = .ok (.iload 4, 2) := by decide +kernel
theorem d_Dos_parseFile_126 : decode (rm_code mDos_parseFile) 126 = .ok (.aload_n 0, 1) := by decide +kernel
theorem d_Dos_parseFile_127 : decode (rm_code mDos_parseFile) 127 = .ok (.getfield 182, 3) := by decide +kernel
theorem d_Dos_parseFile_130 : decode (rm_code mDos_parseFile) 130 = .ok (.ifCond .ne (7), 3) := by decide +kernel
theorem d_Dos_parseFile_133 : decode (rm_code mDos_parseFile) 133 = .ok (.iconst 0, 1) := by decide +kernel
theorem d_Dos_parseFile_134 : decode (rm_code mDos_parseFile) 134 = .ok (.goto (4), 3) := by decide +kernel
theorem d_Dos_parseFile_137 : decode (rm_code mDos_parseFile) 137 = .ok (.iconst 2, 1) := by decide +kernel
theorem d_Dos_parseFile_138 : decode (rm_code mDos_parseFile) 138 = .ok (.iadd, 1) := by decide +kernel
theorem d_Dos_parseFile_139 : decode (rm_code mDos_parseFile) 139 = .ok (.istore 4, 2) := by decide +kernel
theorem d_Dos_parseFile_141 : decode (rm_code mDos_parseFile) 141 = .ok (.aload_n 0, 1) := by decide +kernel
theorem d_Dos_parseFile_142 : decode (rm_code mDos_parseFile) 142 = .ok (.aload_n 0, 1) := by decide +kernel
theorem d_Dos_parseFile_143 : decode (rm_code mDos_parseFile) 143 = .ok (.iload 4, 2) := by decide +kernel
theorem d_Dos_parseFile_145 : decode (rm_code mDos_parseFile) 145 = .ok (.invokevirtual 185, 3) := by decide +kernel
theorem d_Dos_parseFile_148 : decode (rm_code mDos_parseFile) 148 = .ok (.putfield 137, 3) := by decide +kernel
theorem d_Dos_parseFile_151 : decode (rm_code mDos_parseFile) 151 = .ok (.iload 4, 2) := by decide +kernel
theorem d_Dos_parseFile_153 : decode (rm_code mDos_parseFile) 153 = .ok (.aload_n 0, 1) := by decide +kernel
theorem d_Dos_parseFile_154 : decode (rm_code mDos_parseFile) 154 = .ok (.getfield 137, 3) := by decide +kernel
theorem d_Dos_parseFile_157 : decode (rm_code mDos_parseFile) 157 = .ok (.ifCond .ne (7), 3) := by decide +kernel
theorem d_Dos_parseFile_160 : decode (rm_code mDos_parseFile) 160 = .ok (.iconst 0, 1) := by decide +kernel
theorem d_Dos_parseFile_161 : decode (rm_code mDos_parseFile) 161 = .ok (.goto (4), 3) := by decide +kernel
theorem d_Dos_parseFile_164 : decode (rm_code mDos_parseFile) 164 = .ok (.iconst 2, 1) := by decide +kernel
theorem d_Dos_parseFile_165 : decode (rm_code mDos_parseFile) 165 = .ok (.iadd, 1) := by decide +kernel
theorem d_Dos_parseFile_166 : decode (rm_code mDos_parseFile) 166 = .ok (.istore 4, 2) := by decide +kernel
theorem d_Dos_parseFile_168 : decode (rm_code mDos_parseFile) 168 = .ok (.iload 4, 2) := by decide +kernel
theorem d_Dos_parseFile_170 : decode (rm_code mDos_parseFile) 170 = .ok (.aload_n 0, 1) := by decide +kernel
theorem d_Dos_parseFile_171 : decode (rm_code mDos_parseFile) 171 = .ok (.getfield 38, 3) := by decide +kernel
theorem d_Dos_parseFile_174 : decode (rm_code mDos_parseFile) 174 = .ok (.getfield 146, 3) := by decide +kernel
theorem d_Dos_parseFile_177 : decode (rm_code mDos_parseFile) 177 = .ok (.if_icmp .eq (6), 3) := by decide +kernel
theorem d_Dos_parseFile_180 : decode (rm_code mDos_parseFile) 180 = .ok (.bipush (30), 2) := by decide +kernel
theorem d_Dos_parseFile_182 : decode (rm_code mDos_parseFile) 182 = .ok (.ireturn, 1) := by decide +kernel
theorem d_Dos_parseFile_183 : decode (rm_code mDos_parseFile) 183 = .ok (.aload_n 0, 1) := by decide +kernel
theorem d_Dos_parseFile_184 : decode (rm_code mDos_parseFile) 184 = .ok (.getfield 137, 3) := by decide +kernel
theorem d_Dos_parseFile_187 : decode (rm_code mDos_parseFile) 187 = .ok (.ifCond .ne (19), 3) := by decide +kernel
theorem d_Dos_parseFile_190 : decode (rm_code mDos_parseFile) 190 = .ok (.aload_n 0, 1) := by decide +kernel
theorem d_Dos_parseFile_191 : decode (rm_code mDos_parseFile) 191 = .ok (.iload_n 1, 1) := by decide +kernel
theorem d_Dos_parseFile_192 : decode (rm_code mDos_parseFile) 192 = .ok (.iconst 1, 1) := by decide +kernel
theorem d_Dos_parseFile_193 : decode (rm_code mDos_parseFile) 193 = .ok (.if_icmp .ne (8), 3) := by decide +kernel
theorem d_Dos_parseFile_196 : decode (rm_code mDos_parseFile) 196 = .ok (.bipush (87), 2) := by decide +kernel
theorem d_Dos_parseFile_198 : decode (rm_code mDos_parseFile) 198 = .ok (.goto (5), 3) := by decide +kernel
theorem d_Dos_parseFile_201 : decode (rm_code mDos_parseFile) 201 = .ok (.bipush (82), 2) := by decide +kernel
theorem d_Dos_parseFile_203 : decode (rm_code mDos_parseFile) 203 = .ok (.putfield 137, 3) := by decide +kernel
theorem d_Dos_parseFile_206 : decode (rm_code mDos_parseFile) 206 = .ok (.aload_n 0, 1) := by decide +kernel
theorem d_Dos_parseFile_207 : decode (rm_code mDos_parseFile) 207 = .ok (.getfield 182, 3) := by decide +kernel
theorem d_Dos_parseFile_210 : decode (rm_code mDos_parseFile) 210 = .ok (.ifCond .ne (30), 3) := by decide +kernel
theorem d_Dos_parseFile_213 : decode (rm_code mDos_parseFile) 213 = .ok (.aload_n 0, 1) := by decide +kernel
theorem d_Dos_parseFile_214 : decode (rm_code mDos_parseFile) 214 = .ok (.iload_n 1, 1) := by decide +kernel
theorem d_Dos_parseFile_215 : decode (rm_code mDos_parseFile) 215 = .ok (.iconst 1, 1) := by decide +kernel
theorem d_Dos_parseFile_216 : decode (rm_code mDos_parseFile) 216 = .ok (.if_icmp .gt (7), 3) := by decide +kernel
theorem d_Dos_parseFile_219 : decode (rm_code mDos_parseFile) 219 = .ok (.iconst 2, 1) := by decide +kernel
theorem d_Dos_parseFile_220 : decode (rm_code mDos_parseFile) 220 = .ok (.goto (17), 3) := by decide +kernel
theorem d_Dos_parseFile_223 : decode (rm_code mDos_parseFile) 223 = .ok (.aload_n 0, 1) := by decide +kernel
theorem d_Dos_parseFile_224 : decode (rm_code mDos_parseFile) 224 = .ok (.getfield 137, 3) := by decide +kernel
theorem d_Dos_parseFile_227 : decode (rm_code mDos_parseFile) 227 = .ok (.bipush (87), 2) := by decide +kernel
theorem d_Dos_parseFile_229 : decode (rm_code mDos_parseFile) 229 = .ok (.if_icmp .ne (7), 3) := by decide +kernel
theorem d_Dos_parseFile_232 : decode (rm_code mDos_parseFile) 232 = .ok (.iconst 1, 1) := by decide +kernel
theorem d_Dos_parseFile_233 : decode (rm_code mDos_parseFile) 233 = .ok (.goto (4), 3) := by decide +kernel
theorem d_Dos_parseFile_236 : decode (rm_code mDos_parseFile) 236 = .ok (.iconst 0, 1) := by decide +kernel
theorem d_Dos_parseFile_237 : decode (rm_code mDos_parseFile) 237 = .ok (.putfield 182, 3) := by decide +kernel
theorem d_Dos_parseFile_240 : decode (rm_code mDos_parseFile) 240 = .ok (.aload_n 0, 1) := by decide +kernel
theorem d_Dos_parseFile_241 : decode (rm_code mDos_parseFile) 241 = .ok (.getfield 137, 3) := by decide +kernel
theorem d_Dos_parseFile_244 : decode (rm_code mDos_parseFile) 244 = .ok (.bipush (82), 2) := by decide +kernel
theorem d_Dos_parseFile_246 : decode (rm_code mDos_parseFile) 246 = .ok (.if_icmp .ne (17), 3) := by decide +kernel
theorem d_Dos_parseFile_249 : decode (rm_code mDos_parseFile) 249 = .ok (.aload_n 0, 1) := by decide +kernel
theorem d_Dos_parseFile_250 : decode (rm_code mDos_parseFile) 250 = .ok (.getfield 171, 3) := by decide +kernel
theorem d_Dos_parseFile_253 : decode (rm_code mDos_parseFile) 253 = .ok (.ifCond .eq (8), 3) := by decide +kernel
theorem d_Dos_parseFile_256 : decode (rm_code mDos_parseFile) 256 = .ok (.bipush (30), 2) := by decide +kernel
theorem d_Dos_parseFile_258 : decode (rm_code mDos_parseFile) 258 = .ok (.goto (4), 3) := by decide +kernel
theorem d_Dos_parseFile_261 : decode (rm_code mDos_parseFile) 261 = .ok (.iconst 0, 1) := by decide +kernel
theorem d_Dos_parseFile_262 : decode (rm_code mDos_parseFile) 262 = .ok (.ireturn, 1) := by decide +kernel
theorem d_Dos_parseFile_263 : decode (rm_code mDos_parseFile) 263 = .ok (.aload_n 0, 1) := by decide +kernel
theorem d_Dos_parseFile_264 : decode (rm_code mDos_parseFile) 264 = .ok (.getfield 26, 3) := by decide +kernel
theorem d_Dos_parseFile_267 : decode (rm_code mDos_parseFile) 267 = .ok (.invokevirtual 188, 3) := by decide +kernel
theorem d_Dos_parseFile_270 : decode (rm_code mDos_parseFile) 270 = .ok (.ifCond .eq (8), 3) := by decide +kernel
theorem d_Dos_parseFile_273 : decode (rm_code mDos_parseFile) 273 = .ok (.bipush (33), 2) := by decide +kernel
theorem d_Dos_parseFile_275 : decode (rm_code mDos_parseFile) 275 = .ok (.goto (4), 3) := by decide +kernel
theorem d_Dos_parseFile_278 : decode (rm_code mDos_parseFile) 278 = .ok (.iconst 0, 1) := by decide +kernel
theorem d_Dos_parseFile_279 : decode (rm_code mDos_parseFile) 279 = .ok (.ireturn, 1) := by decide +kernel
theorem p_Dos_parseFile_0 {S : rz_S} {K : Int32 → rz_S → Prop} {a1 : Int32} (w : rz_ev mTape_byteAt [.ref 1, .int 0] S (rz_i (fun xq1 Sq1 => ((xq1 = 64 → rz mDos_parseFile 19 [(0, .ref 39), (1, .int a1)] [.int 1, .ref 39] Sq1 (rz_i K)) ∧ (¬ xq1 = 64 → rz mDos_parseFile 19 [(0, .ref 39), (1, .int a1)] [.int 0, .ref 39] Sq1 (rz_i K)))))) : rz mDos_parseFile 0 [(0, .ref 39), (1, .int a1)] [] S (rz_i K) := by
  refine rz_pure (pc' := 1) d_Dos_parseFile_0 rfl ?_
  refine rz_pure (pc' := 2) d_Dos_parseFile_1 rfl ?_
  refine rz_getr d_Dos_parseFile_2 f_5_38 rfl rfl ?_
  refine rz_iconst (v := 0) d_Dos_parseFile_5 (by decide) ?_
  refine rz_callVi (t := [.int 0]) d_Dos_parseFile_6 w_5_122 rfl rfl rfl w (fun xq1 Sq1 q1 => ?_)
  refine rz_bipush (v := 64) d_Dos_parseFile_9 (by decide) ?_
  refine rz_icmpne (tgt := 18) d_Dos_parseFile_11 rfl (fun b2 => ?_) (fun b2 => ?_)
  · skip
    refine rz_iconst (v := 0) d_Dos_parseFile_18 (by decide) ?_
    exact rz_pick (ks := [0, 1]) (l := [(0, .ref 39), (1, .int a1)]) rfl rfl (by decide) rfl (q1.2 b2)
  · skip
    refine rz_iconst (v := 1) d_Dos_parseFile_14 (by decide) ?_
    refine rz_pure (pc' := 19) d_Dos_parseFile_15 rfl ?_
    exact rz_pick (ks := [0, 1]) (l := [(0, .ref 39), (1, .int a1)]) rfl rfl (by decide) rfl (q1.1 b2)
theorem p_Dos_parseFile_19 {S : rz_S} {K : Int32 → rz_S → Prop} {a1 : Int32} {s0 : Int32} (w : (s0 = 0 ∨ s0 = 1) ∧ ((s0 = 0 → rz mDos_parseFile 34 [(0, .ref 39), (1, .int a1)] [.int 0] (rz_uI S 39 9 s0) (rz_i K)) ∧ (¬ s0 = 0 → rz mDos_parseFile 34 [(0, .ref 39), (1, .int a1)] [.int 1] (rz_uI S 39 9 s0) (rz_i K)))) : rz mDos_parseFile 19 [(0, .ref 39), (1, .int a1)] [.int s0, .ref 39] S (rz_i K) := by
  refine rz_puti d_Dos_parseFile_19 f_5_171 rfl rfl (rz_bfit w.1) ?_
  refine rz_pure (pc' := 23) d_Dos_parseFile_22 rfl ?_
  refine rz_getiv (v := s0) d_Dos_parseFile_23 f_5_171 rfl rfl rz_uI_s ?_
  refine rz_ifeq (tgt := 33) d_Dos_parseFile_26 rfl (fun b1 => ?_) (fun b1 => ?_)
  · skip
    refine rz_iconst (v := 0) d_Dos_parseFile_33 (by decide) ?_
    exact rz_pick (ks := [0, 1]) (l := [(0, .ref 39), (1, .int a1)]) rfl rfl (by decide) rfl (w.2.1 b1)
  · skip
    refine rz_iconst (v := 1) d_Dos_parseFile_29 (by decide) ?_
    refine rz_pure (pc' := 34) d_Dos_parseFile_30 rfl ?_
    exact rz_pick (ks := [0, 1]) (l := [(0, .ref 39), (1, .int a1)]) rfl rfl (by decide) rfl (w.2.2 b1)
theorem p_Dos_parseFile_34 {S : rz_S} {K : Int32 → rz_S → Prop} {a1 : Int32} {s0 : Int32} (w : rz_ev mTape_byteAt [.ref 1, .int s0] S (rz_i (fun xq1 Sq1 => ((xq1 = 58 → rz mDos_parseFile 54 [(0, .ref 39), (1, .int a1)] [.int 1, .int s0] Sq1 (rz_i K)) ∧ (¬ xq1 = 58 → rz mDos_parseFile 54 [(0, .ref 39), (1, .int a1)] [.int 0, .int s0] Sq1 (rz_i K)))))) : rz mDos_parseFile 34 [(0, .ref 39), (1, .int a1)] [.int s0] S (rz_i K) := by
  refine rz_pure (pc' := 35) (l' := [(2, .int s0), (0, .ref 39), (1, .int a1)]) d_Dos_parseFile_34 rfl ?_
  refine rz_pure (pc' := 36) d_Dos_parseFile_35 rfl ?_
  refine rz_pure (pc' := 37) d_Dos_parseFile_36 rfl ?_
  refine rz_getr d_Dos_parseFile_37 f_5_38 rfl rfl ?_
  refine rz_pure (pc' := 41) d_Dos_parseFile_40 rfl ?_
  refine rz_callVi (t := [.int s0]) d_Dos_parseFile_41 w_5_122 rfl rfl rfl w (fun xq1 Sq1 q1 => ?_)
  refine rz_bipush (v := 58) d_Dos_parseFile_44 (by decide) ?_
  refine rz_icmpne (tgt := 53) d_Dos_parseFile_46 rfl (fun b2 => ?_) (fun b2 => ?_)
  · skip
    refine rz_iconst (v := 0) d_Dos_parseFile_53 (by decide) ?_
    exact rz_pick (ks := [0, 1]) (l := [(0, .ref 39), (1, .int a1)]) rfl rfl (by decide) rfl (q1.2 b2)
  · skip
    refine rz_iconst (v := 1) d_Dos_parseFile_49 (by decide) ?_
    refine rz_pure (pc' := 54) d_Dos_parseFile_50 rfl ?_
    exact rz_pick (ks := [0, 1]) (l := [(0, .ref 39), (1, .int a1)]) rfl rfl (by decide) rfl (q1.1 b2)
theorem p_Dos_parseFile_54 {S : rz_S} {K : Int32 → rz_S → Prop} {a1 : Int32} {s0 : Int32} {s1 : Int32} (w : rz_ev mTape_find [.ref 1, .int 44, .int (s1 + s0)] S (rz_i (fun xq1 Sq1 => ((xq1 = (-1) → rz mDos_parseFile 83 [(0, .ref 39), (1, .int a1), (2, .int (s1 + s0))] [.int (Sq1.2 1 2)] Sq1 (rz_i K)) ∧ (¬ xq1 = (-1) → rz mDos_parseFile 83 [(0, .ref 39), (1, .int a1), (2, .int (s1 + s0))] [.int xq1] Sq1 (rz_i K)))))) : rz mDos_parseFile 54 [(0, .ref 39), (1, .int a1)] [.int s0, .int s1] S (rz_i K) := by
  refine rz_iadd d_Dos_parseFile_54 ?_
  refine rz_pure (pc' := 56) (l' := [(2, .int (s1 + s0)), (0, .ref 39), (1, .int a1)]) d_Dos_parseFile_55 rfl ?_
  refine rz_pure (pc' := 57) d_Dos_parseFile_56 rfl ?_
  refine rz_getr d_Dos_parseFile_57 f_5_38 rfl rfl ?_
  refine rz_bipush (v := 44) d_Dos_parseFile_60 (by decide) ?_
  refine rz_pure (pc' := 63) d_Dos_parseFile_62 rfl ?_
  refine rz_callVi (t := [.int (s1 + s0), .int 44]) d_Dos_parseFile_63 w_5_175 rfl rfl rfl w (fun xq1 Sq1 q1 => ?_)
  refine rz_pure (pc' := 67) (l' := [(3, .int xq1), (2, .int (s1 + s0)), (0, .ref 39), (1, .int a1)]) d_Dos_parseFile_66 rfl ?_
  refine rz_pure (pc' := 68) d_Dos_parseFile_67 rfl ?_
  refine rz_iconst (v := -1) d_Dos_parseFile_68 (by decide) ?_
  refine rz_icmpne (tgt := 82) d_Dos_parseFile_69 rfl (fun b2 => ?_) (fun b2 => ?_)
  · skip
    refine rz_pure (pc' := 83) d_Dos_parseFile_82 rfl ?_
    exact rz_pick (ks := [0, 1, 2]) (l := [(0, .ref 39), (1, .int a1), (2, .int (s1 + s0))]) rfl rfl (by decide) rfl (q1.2 b2)
  · skip
    refine rz_pure (pc' := 73) d_Dos_parseFile_72 rfl ?_
    refine rz_getr d_Dos_parseFile_73 f_5_38 rfl rfl ?_
    refine rz_getiv (v := Sq1.2 1 2) d_Dos_parseFile_76 f_5_146 rfl rfl rfl ?_
    refine rz_pure (pc' := 83) d_Dos_parseFile_79 rfl ?_
    exact rz_pick (ks := [0, 1, 2]) (l := [(0, .ref 39), (1, .int a1), (2, .int (s1 + s0))]) rfl rfl (by decide) rfl (q1.1 b2)
theorem p_Dos_parseFile_83 {S : rz_S} {K : Int32 → rz_S → Prop} {a1 : Int32} {a2 : Int32} {s0 : Int32} (w : ((s0 = a2 → K 34 S) ∧ (¬ s0 = a2 → rz_ev mPattern_take [.ref 42, .ref 1, .int a2, .int s0] S (rz_i (fun xq2 Sq2 => ((xq2 = 0 → K 30 Sq2) ∧ (¬ xq2 = 0 → rz_ev mDos_sortTold [.ref 39, .int s0] Sq2 (rz_i (fun xq4 Sq4 => ((xq4 = 0 → rz mDos_parseFile 138 [(0, .ref 39), (1, .int a1)] [.int 0, .int s0] (rz_uI Sq4 39 10 xq4) (rz_i K)) ∧ (¬ xq4 = 0 → rz mDos_parseFile 138 [(0, .ref 39), (1, .int a1)] [.int 2, .int s0] (rz_uI Sq4 39 10 xq4) (rz_i K)))))))))))) : rz mDos_parseFile 83 [(0, .ref 39), (1, .int a1), (2, .int a2)] [.int s0] S (rz_i K) := by
  refine rz_pure (pc' := 85) (l' := [(4, .int s0), (0, .ref 39), (1, .int a1), (2, .int a2)]) d_Dos_parseFile_83 rfl ?_
  refine rz_pure (pc' := 87) d_Dos_parseFile_85 rfl ?_
  refine rz_pure (pc' := 88) d_Dos_parseFile_87 rfl ?_
  refine rz_icmpne (tgt := 94) d_Dos_parseFile_88 rfl (fun b1 => ?_) (fun b1 => ?_)
  · skip
    refine rz_pure (pc' := 95) d_Dos_parseFile_94 rfl ?_
    refine rz_getr d_Dos_parseFile_95 f_5_26 rfl rfl ?_
    refine rz_pure (pc' := 99) d_Dos_parseFile_98 rfl ?_
    refine rz_getr d_Dos_parseFile_99 f_5_38 rfl rfl ?_
    refine rz_pure (pc' := 103) d_Dos_parseFile_102 rfl ?_
    refine rz_pure (pc' := 105) d_Dos_parseFile_103 rfl ?_
    refine rz_callVi (t := [.int s0, .int a2, .ref 1]) d_Dos_parseFile_105 w_5_153 rfl rfl rfl (w.2 b1) (fun xq2 Sq2 q2 => ?_)
    refine rz_ifne (tgt := 114) d_Dos_parseFile_108 rfl (fun b3 => ?_) (fun b3 => ?_)
    · skip
      refine rz_pure (pc' := 115) d_Dos_parseFile_114 rfl ?_
      refine rz_pure (pc' := 116) d_Dos_parseFile_115 rfl ?_
      refine rz_pure (pc' := 118) d_Dos_parseFile_116 rfl ?_
      refine rz_callVi (t := [.int s0]) d_Dos_parseFile_118 w_5_179 rfl rfl rfl (q2.2 b3) (fun xq4 Sq4 q4 => ?_)
      refine rz_puti d_Dos_parseFile_121 f_5_182 rfl rfl rfl ?_
      refine rz_pure (pc' := 126) d_Dos_parseFile_124 rfl ?_
      refine rz_pure (pc' := 127) d_Dos_parseFile_126 rfl ?_
      refine rz_getiv (v := xq4) d_Dos_parseFile_127 f_5_182 rfl rfl rz_uI_s ?_
      refine rz_ifne (tgt := 137) d_Dos_parseFile_130 rfl (fun b5 => ?_) (fun b5 => ?_)
      · skip
        refine rz_iconst (v := 2) d_Dos_parseFile_137 (by decide) ?_
        exact rz_pick (ks := [0, 1]) (l := [(0, .ref 39), (1, .int a1)]) rfl rfl (by decide) rfl (q4.2 b5)
      · skip
        refine rz_iconst (v := 0) d_Dos_parseFile_133 (by decide) ?_
        refine rz_pure (pc' := 138) d_Dos_parseFile_134 rfl ?_
        exact rz_pick (ks := [0, 1]) (l := [(0, .ref 39), (1, .int a1)]) rfl rfl (by decide) rfl (q4.1 b5)
    · skip
      refine rz_bipush (v := 30) d_Dos_parseFile_111 (by decide) ?_
      exact rz_ireti d_Dos_parseFile_113 rfl rfl (q2.1 b3)
  · skip
    refine rz_bipush (v := 34) d_Dos_parseFile_91 (by decide) ?_
    exact rz_ireti d_Dos_parseFile_93 rfl rfl (w.1 b1)
theorem p_Dos_parseFile_138 {S : rz_S} {K : Int32 → rz_S → Prop} {a1 : Int32} {s0 : Int32} {s1 : Int32} (w : rz_ev mDos_wayTold [.ref 39, .int (s1 + s0)] S (rz_i (fun xq1 Sq1 => ((xq1 = 0 → rz mDos_parseFile 165 [(0, .ref 39), (1, .int a1)] [.int 0, .int (s1 + s0)] (rz_uI Sq1 39 11 xq1) (rz_i K)) ∧ (¬ xq1 = 0 → rz mDos_parseFile 165 [(0, .ref 39), (1, .int a1)] [.int 2, .int (s1 + s0)] (rz_uI Sq1 39 11 xq1) (rz_i K)))))) : rz mDos_parseFile 138 [(0, .ref 39), (1, .int a1)] [.int s0, .int s1] S (rz_i K) := by
  refine rz_iadd d_Dos_parseFile_138 ?_
  refine rz_pure (pc' := 141) (l' := [(4, .int (s1 + s0)), (0, .ref 39), (1, .int a1)]) d_Dos_parseFile_139 rfl ?_
  refine rz_pure (pc' := 142) d_Dos_parseFile_141 rfl ?_
  refine rz_pure (pc' := 143) d_Dos_parseFile_142 rfl ?_
  refine rz_pure (pc' := 145) d_Dos_parseFile_143 rfl ?_
  refine rz_callVi (t := [.int (s1 + s0)]) d_Dos_parseFile_145 w_5_185 rfl rfl rfl w (fun xq1 Sq1 q1 => ?_)
  refine rz_puti d_Dos_parseFile_148 f_5_137 rfl rfl rfl ?_
  refine rz_pure (pc' := 153) d_Dos_parseFile_151 rfl ?_
  refine rz_pure (pc' := 154) d_Dos_parseFile_153 rfl ?_
  refine rz_getiv (v := xq1) d_Dos_parseFile_154 f_5_137 rfl rfl rz_uI_s ?_
  refine rz_ifne (tgt := 164) d_Dos_parseFile_157 rfl (fun b2 => ?_) (fun b2 => ?_)
  · skip
    refine rz_iconst (v := 2) d_Dos_parseFile_164 (by decide) ?_
    exact rz_pick (ks := [0, 1]) (l := [(0, .ref 39), (1, .int a1)]) rfl rfl (by decide) rfl (q1.2 b2)
  · skip
    refine rz_iconst (v := 0) d_Dos_parseFile_160 (by decide) ?_
    refine rz_pure (pc' := 165) d_Dos_parseFile_161 rfl ?_
    exact rz_pick (ks := [0, 1]) (l := [(0, .ref 39), (1, .int a1)]) rfl rfl (by decide) rfl (q1.1 b2)
theorem p_Dos_parseFile_165 {S : rz_S} {K : Int32 → rz_S → Prop} {a1 : Int32} {s0 : Int32} {s1 : Int32} (w : ((s1 + s0 = S.2 1 2 → ((S.2 39 11 = 0 → ((a1 = 1 → rz mDos_parseFile 203 [(0, .ref 39), (1, .int a1)] [.int 87, .ref 39] S (rz_i K)) ∧ (¬ a1 = 1 → rz mDos_parseFile 203 [(0, .ref 39), (1, .int a1)] [.int 82, .ref 39] S (rz_i K)))) ∧ (¬ S.2 39 11 = 0 → rz mDos_parseFile 206 [(0, .ref 39), (1, .int a1)] [] S (rz_i K)))) ∧ (¬ s1 + s0 = S.2 1 2 → K 30 S))) : rz mDos_parseFile 165 [(0, .ref 39), (1, .int a1)] [.int s0, .int s1] S (rz_i K) := by
  refine rz_iadd d_Dos_parseFile_165 ?_
  refine rz_pure (pc' := 168) (l' := [(4, .int (s1 + s0)), (0, .ref 39), (1, .int a1)]) d_Dos_parseFile_166 rfl ?_
  refine rz_pure (pc' := 170) d_Dos_parseFile_168 rfl ?_
  refine rz_pure (pc' := 171) d_Dos_parseFile_170 rfl ?_
  refine rz_getr d_Dos_parseFile_171 f_5_38 rfl rfl ?_
  refine rz_getiv (v := S.2 1 2) d_Dos_parseFile_174 f_5_146 rfl rfl rfl ?_
  refine rz_icmpeq (tgt := 183) d_Dos_parseFile_177 rfl (fun b1 => ?_) (fun b1 => ?_)
  · skip
    refine rz_pure (pc' := 184) d_Dos_parseFile_183 rfl ?_
    refine rz_getiv (v := S.2 39 11) d_Dos_parseFile_184 f_5_137 rfl rfl rfl ?_
    refine rz_ifne (tgt := 206) d_Dos_parseFile_187 rfl (fun b2 => ?_) (fun b2 => ?_)
    · skip
      exact rz_pick (ks := [0, 1]) (l := [(0, .ref 39), (1, .int a1)]) rfl rfl (by decide) rfl ((w.1 b1).2 b2)
    · skip
      refine rz_pure (pc' := 191) d_Dos_parseFile_190 rfl ?_
      refine rz_pure (pc' := 192) d_Dos_parseFile_191 rfl ?_
      refine rz_iconst (v := 1) d_Dos_parseFile_192 (by decide) ?_
      refine rz_icmpne (tgt := 201) d_Dos_parseFile_193 rfl (fun b3 => ?_) (fun b3 => ?_)
      · skip
        refine rz_bipush (v := 82) d_Dos_parseFile_201 (by decide) ?_
        exact rz_pick (ks := [0, 1]) (l := [(0, .ref 39), (1, .int a1)]) rfl rfl (by decide) rfl (((w.1 b1).1 b2).2 b3)
      · skip
        refine rz_bipush (v := 87) d_Dos_parseFile_196 (by decide) ?_
        refine rz_pure (pc' := 203) d_Dos_parseFile_198 rfl ?_
        exact rz_pick (ks := [0, 1]) (l := [(0, .ref 39), (1, .int a1)]) rfl rfl (by decide) rfl (((w.1 b1).1 b2).1 b3)
  · skip
    refine rz_bipush (v := 30) d_Dos_parseFile_180 (by decide) ?_
    exact rz_ireti d_Dos_parseFile_182 rfl rfl (w.2 b1)
theorem p_Dos_parseFile_206 {S : rz_S} {K : Int32 → rz_S → Prop} {a1 : Int32} (w : ((S.2 39 10 = 0 → ((1 < a1 → ((S.2 39 11 = 87 → rz mDos_parseFile 237 [(0, .ref 39)] [.int 1, .ref 39] S (rz_i K)) ∧ (¬ S.2 39 11 = 87 → rz mDos_parseFile 237 [(0, .ref 39)] [.int 0, .ref 39] S (rz_i K)))) ∧ (¬ 1 < a1 → rz mDos_parseFile 237 [(0, .ref 39)] [.int 2, .ref 39] S (rz_i K)))) ∧ (¬ S.2 39 10 = 0 → rz mDos_parseFile 240 [(0, .ref 39)] [] S (rz_i K)))) : rz mDos_parseFile 206 [(0, .ref 39), (1, .int a1)] [] S (rz_i K) := by
  refine rz_pure (pc' := 207) d_Dos_parseFile_206 rfl ?_
  refine rz_getiv (v := S.2 39 10) d_Dos_parseFile_207 f_5_182 rfl rfl rfl ?_
  refine rz_ifne (tgt := 240) d_Dos_parseFile_210 rfl (fun b1 => ?_) (fun b1 => ?_)
  · skip
    exact rz_pick (ks := [0]) (l := [(0, .ref 39)]) rfl rfl (by decide) rfl (w.2 b1)
  · skip
    refine rz_pure (pc' := 214) d_Dos_parseFile_213 rfl ?_
    refine rz_pure (pc' := 215) d_Dos_parseFile_214 rfl ?_
    refine rz_iconst (v := 1) d_Dos_parseFile_215 (by decide) ?_
    refine rz_icmpgt (tgt := 223) d_Dos_parseFile_216 rfl (fun b2 => ?_) (fun b2 => ?_)
    · skip
      refine rz_pure (pc' := 224) d_Dos_parseFile_223 rfl ?_
      refine rz_getiv (v := S.2 39 11) d_Dos_parseFile_224 f_5_137 rfl rfl rfl ?_
      refine rz_bipush (v := 87) d_Dos_parseFile_227 (by decide) ?_
      refine rz_icmpne (tgt := 236) d_Dos_parseFile_229 rfl (fun b3 => ?_) (fun b3 => ?_)
      · skip
        refine rz_iconst (v := 0) d_Dos_parseFile_236 (by decide) ?_
        exact rz_pick (ks := [0]) (l := [(0, .ref 39)]) rfl rfl (by decide) rfl (((w.1 b1).1 b2).2 b3)
      · skip
        refine rz_iconst (v := 1) d_Dos_parseFile_232 (by decide) ?_
        refine rz_pure (pc' := 237) d_Dos_parseFile_233 rfl ?_
        exact rz_pick (ks := [0]) (l := [(0, .ref 39)]) rfl rfl (by decide) rfl (((w.1 b1).1 b2).1 b3)
    · skip
      refine rz_iconst (v := 2) d_Dos_parseFile_219 (by decide) ?_
      refine rz_pure (pc' := 237) d_Dos_parseFile_220 rfl ?_
      exact rz_pick (ks := [0]) (l := [(0, .ref 39)]) rfl rfl (by decide) rfl ((w.1 b1).2 b2)
theorem p_Dos_parseFile_203 {S : rz_S} {K : Int32 → rz_S → Prop} {a1 : Int32} {s0 : Int32} (w : rz mDos_parseFile 206 [(0, .ref 39), (1, .int a1)] [] (rz_uI S 39 11 s0) (rz_i K)) : rz mDos_parseFile 203 [(0, .ref 39), (1, .int a1)] [.int s0, .ref 39] S (rz_i K) := by
  refine rz_puti d_Dos_parseFile_203 f_5_137 rfl rfl rfl ?_
  exact rz_pick (ks := [0, 1]) (l := [(0, .ref 39), (1, .int a1)]) rfl rfl (by decide) rfl w
theorem p_Dos_parseFile_240 {S : rz_S} {K : Int32 → rz_S → Prop} (w : ((S.2 39 11 = 82 → ((S.2 39 9 = 0 → K 0 S) ∧ (¬ S.2 39 9 = 0 → K 30 S))) ∧ (¬ S.2 39 11 = 82 → rz_ev mPattern_isWild [.ref 42] S (rz_i (fun xq2 Sq2 => ((xq2 = 0 → K 0 Sq2) ∧ (¬ xq2 = 0 → K 33 Sq2))))))) : rz mDos_parseFile 240 [(0, .ref 39)] [] S (rz_i K) := by
  refine rz_pure (pc' := 241) d_Dos_parseFile_240 rfl ?_
  refine rz_getiv (v := S.2 39 11) d_Dos_parseFile_241 f_5_137 rfl rfl rfl ?_
  refine rz_bipush (v := 82) d_Dos_parseFile_244 (by decide) ?_
  refine rz_icmpne (tgt := 263) d_Dos_parseFile_246 rfl (fun b1 => ?_) (fun b1 => ?_)
  · skip
    refine rz_pure (pc' := 264) d_Dos_parseFile_263 rfl ?_
    refine rz_getr d_Dos_parseFile_264 f_5_26 rfl rfl ?_
    refine rz_callVi (t := []) d_Dos_parseFile_267 w_5_188 rfl rfl rfl (w.2 b1) (fun xq2 Sq2 q2 => ?_)
    refine rz_ifeq (tgt := 278) d_Dos_parseFile_270 rfl (fun b3 => ?_) (fun b3 => ?_)
    · skip
      refine rz_iconst (v := 0) d_Dos_parseFile_278 (by decide) ?_
      exact rz_ireti d_Dos_parseFile_279 rfl rfl (q2.1 b3)
    · skip
      refine rz_bipush (v := 33) d_Dos_parseFile_273 (by decide) ?_
      refine rz_pure (pc' := 279) d_Dos_parseFile_275 rfl ?_
      exact rz_ireti d_Dos_parseFile_279 rfl rfl (q2.2 b3)
  · skip
    refine rz_pure (pc' := 250) d_Dos_parseFile_249 rfl ?_
    refine rz_getiv (v := S.2 39 9) d_Dos_parseFile_250 f_5_171 rfl rfl rfl ?_
    refine rz_ifeq (tgt := 261) d_Dos_parseFile_253 rfl (fun b4 => ?_) (fun b4 => ?_)
    · skip
      refine rz_iconst (v := 0) d_Dos_parseFile_261 (by decide) ?_
      exact rz_ireti d_Dos_parseFile_262 rfl rfl ((w.1 b1).1 b4)
    · skip
      refine rz_bipush (v := 30) d_Dos_parseFile_256 (by decide) ?_
      refine rz_pure (pc' := 262) d_Dos_parseFile_258 rfl ?_
      exact rz_ireti d_Dos_parseFile_262 rfl rfl ((w.1 b1).2 b4)
theorem p_Dos_parseFile_237 {S : rz_S} {K : Int32 → rz_S → Prop} {s0 : Int32} (w : rz mDos_parseFile 240 [(0, .ref 39)] [] (rz_uI S 39 10 s0) (rz_i K)) : rz mDos_parseFile 237 [(0, .ref 39)] [.int s0, .ref 39] S (rz_i K) := by
  refine rz_puti d_Dos_parseFile_237 f_5_182 rfl rfl rfl ?_
  exact rz_pick (ks := [0]) (l := [(0, .ref 39)]) rfl rfl (by decide) rfl w
theorem d_Dos_sortTold_0 : decode (rm_code mDos_sortTold) 0 = .ok (.aload_n 0, 1) := by decide +kernel
theorem d_Dos_sortTold_1 : decode (rm_code mDos_sortTold) 1 = .ok (.getfield 38, 3) := by decide +kernel
theorem d_Dos_sortTold_4 : decode (rm_code mDos_sortTold) 4 = .ok (.iload_n 1, 1) := by decide +kernel
theorem d_Dos_sortTold_5 : decode (rm_code mDos_sortTold) 5 = .ok (.invokevirtual 122, 3) := by decide +kernel
theorem d_Dos_sortTold_8 : decode (rm_code mDos_sortTold) 8 = .ok (.bipush (44), 2) := by decide +kernel
theorem d_Dos_sortTold_10 : decode (rm_code mDos_sortTold) 10 = .ok (.if_icmp .eq (5), 3) := by decide +kernel
theorem d_Dos_sortTold_13 : decode (rm_code mDos_sortTold) 13 = .ok (.iconst 0, 1) := by decide +kernel
theorem d_Dos_sortTold_14 : decode (rm_code mDos_sortTold) 14 = .ok (.ireturn, 1) := by decide +kernel
theorem d_Dos_sortTold_15 : decode (rm_code mDos_sortTold) 15 = .ok (.aload_n 0, 1) := by decide +kernel
theorem d_Dos_sortTold_16 : decode (rm_code mDos_sortTold) 16 = .ok (.getfield 38, 3) := by decide +kernel
theorem d_Dos_sortTold_19 : decode (rm_code mDos_sortTold) 19 = .ok (.iload_n 1, 1) := by decide +kernel
theorem d_Dos_sortTold_20 : decode (rm_code mDos_sortTold) 20 = .ok (.iconst 1, 1) := by decide +kernel
theorem d_Dos_sortTold_21 : decode (rm_code mDos_sortTold) 21 = .ok (.iadd, 1) := by decide +kernel
theorem d_Dos_sortTold_22 : decode (rm_code mDos_sortTold) 22 = .ok (.invokevirtual 122, 3) := by decide +kernel
theorem d_Dos_sortTold_25 : decode (rm_code mDos_sortTold) 25 = .ok (.lookupswitch (41) #[((80), (37)), ((83), (35)), ((85), (39))], 35) := by decide +kernel
theorem d_Dos_sortTold_60 : decode (rm_code mDos_sortTold) 60 = .ok (.iconst 1, 1) := by decide +kernel
theorem d_Dos_sortTold_61 : decode (rm_code mDos_sortTold) 61 = .ok (.ireturn, 1) := by decide +kernel
theorem d_Dos_sortTold_62 : decode (rm_code mDos_sortTold) 62 = .ok (.iconst 2, 1) := by decide +kernel
theorem d_Dos_sortTold_63 : decode (rm_code mDos_sortTold) 63 = .ok (.ireturn, 1) := by decide +kernel
theorem d_Dos_sortTold_64 : decode (rm_code mDos_sortTold) 64 = .ok (.iconst 3, 1) := by decide +kernel
theorem d_Dos_sortTold_65 : decode (rm_code mDos_sortTold) 65 = .ok (.ireturn, 1) := by decide +kernel
theorem d_Dos_sortTold_66 : decode (rm_code mDos_sortTold) 66 = .ok (.iconst 0, 1) := by decide +kernel
theorem d_Dos_sortTold_67 : decode (rm_code mDos_sortTold) 67 = .ok (.ireturn, 1) := by decide +kernel
theorem p_Dos_sortTold_0 {S : rz_S} {K : Int32 → rz_S → Prop} {a1 : Int32} (w : rz_ev mTape_byteAt [.ref 1, .int a1] S (rz_i (fun xq1 Sq1 => ((xq1 = 44 → rz_ev mTape_byteAt [.ref 1, .int (a1 + 1)] Sq1 (rz_i (fun xq3 Sq3 => ((xq3 = 80 → K 2 Sq3) ∧ (xq3 = 83 → K 1 Sq3) ∧ (xq3 = 85 → K 3 Sq3) ∧ (¬ xq3 = 80 → ¬ xq3 = 83 → ¬ xq3 = 85 → K 0 Sq3))))) ∧ (¬ xq1 = 44 → K 0 Sq1))))) : rz mDos_sortTold 0 [(0, .ref 39), (1, .int a1)] [] S (rz_i K) := by
  refine rz_pure (pc' := 1) d_Dos_sortTold_0 rfl ?_
  refine rz_getr d_Dos_sortTold_1 f_5_38 rfl rfl ?_
  refine rz_pure (pc' := 5) d_Dos_sortTold_4 rfl ?_
  refine rz_callVi (t := [.int a1]) d_Dos_sortTold_5 w_5_122 rfl rfl rfl w (fun xq1 Sq1 q1 => ?_)
  refine rz_bipush (v := 44) d_Dos_sortTold_8 (by decide) ?_
  refine rz_icmpeq (tgt := 15) d_Dos_sortTold_10 rfl (fun b2 => ?_) (fun b2 => ?_)
  · skip
    refine rz_pure (pc' := 16) d_Dos_sortTold_15 rfl ?_
    refine rz_getr d_Dos_sortTold_16 f_5_38 rfl rfl ?_
    refine rz_pure (pc' := 20) d_Dos_sortTold_19 rfl ?_
    refine rz_iconst (v := 1) d_Dos_sortTold_20 (by decide) ?_
    refine rz_iadd d_Dos_sortTold_21 ?_
    refine rz_callVi (t := [.int (a1 + 1)]) d_Dos_sortTold_22 w_5_122 rfl rfl rfl (q1.1 b2) (fun xq3 Sq3 q3 => ?_)
    by_cases b4 : xq3 = 80
    · refine rz_lsj (v := 80) (tgt := 62) d_Dos_sortTold_25 b4 rfl ?_
      refine rz_iconst (v := 2) d_Dos_sortTold_62 (by decide) ?_
      exact rz_ireti d_Dos_sortTold_63 rfl rfl (q3.1 b4)
    by_cases b5 : xq3 = 83
    · refine rz_lsj (v := 83) (tgt := 60) d_Dos_sortTold_25 b5 rfl ?_
      refine rz_iconst (v := 1) d_Dos_sortTold_60 (by decide) ?_
      exact rz_ireti d_Dos_sortTold_61 rfl rfl (q3.2.1 b5)
    by_cases b6 : xq3 = 85
    · refine rz_lsj (v := 85) (tgt := 64) d_Dos_sortTold_25 b6 rfl ?_
      refine rz_iconst (v := 3) d_Dos_sortTold_64 (by decide) ?_
      exact rz_ireti d_Dos_sortTold_65 rfl rfl (q3.2.2.1 b6)
    refine rz_lsd (tgt := 66) d_Dos_sortTold_25 rfl ⟨b4, b5, b6, trivial⟩ rfl ?_
    refine rz_iconst (v := 0) d_Dos_sortTold_66 (by decide) ?_
    exact rz_ireti d_Dos_sortTold_67 rfl rfl (q3.2.2.2 b4 b5 b6)
  · skip
    refine rz_iconst (v := 0) d_Dos_sortTold_13 (by decide) ?_
    exact rz_ireti d_Dos_sortTold_14 rfl rfl (q1.2 b2)
theorem d_Dos_wayTold_0 : decode (rm_code mDos_wayTold) 0 = .ok (.aload_n 0, 1) := by decide +kernel
theorem d_Dos_wayTold_1 : decode (rm_code mDos_wayTold) 1 = .ok (.getfield 38, 3) := by decide +kernel
theorem d_Dos_wayTold_4 : decode (rm_code mDos_wayTold) 4 = .ok (.iload_n 1, 1) := by decide +kernel
theorem d_Dos_wayTold_5 : decode (rm_code mDos_wayTold) 5 = .ok (.invokevirtual 122, 3) := by decide +kernel
theorem d_Dos_wayTold_8 : decode (rm_code mDos_wayTold) 8 = .ok (.bipush (44), 2) := by decide +kernel
theorem d_Dos_wayTold_10 : decode (rm_code mDos_wayTold) 10 = .ok (.if_icmp .ne (16), 3) := by decide +kernel
theorem d_Dos_wayTold_13 : decode (rm_code mDos_wayTold) 13 = .ok (.aload_n 0, 1) := by decide +kernel
theorem d_Dos_wayTold_14 : decode (rm_code mDos_wayTold) 14 = .ok (.getfield 38, 3) := by decide +kernel
theorem d_Dos_wayTold_17 : decode (rm_code mDos_wayTold) 17 = .ok (.iload_n 1, 1) := by decide +kernel
theorem d_Dos_wayTold_18 : decode (rm_code mDos_wayTold) 18 = .ok (.iconst 1, 1) := by decide +kernel
theorem d_Dos_wayTold_19 : decode (rm_code mDos_wayTold) 19 = .ok (.iadd, 1) := by decide +kernel
theorem d_Dos_wayTold_20 : decode (rm_code mDos_wayTold) 20 = .ok (.invokevirtual 122, 3) := by decide +kernel
theorem d_Dos_wayTold_23 : decode (rm_code mDos_wayTold) 23 = .ok (.goto (4), 3) := by decide +kernel
theorem d_Dos_wayTold_26 : decode (rm_code mDos_wayTold) 26 = .ok (.iconst (-1), 1) := by decide +kernel
theorem d_Dos_wayTold_27 : decode (rm_code mDos_wayTold) 27 = .ok (.istore_n 2, 1) := by decide +kernel
theorem d_Dos_wayTold_28 : decode (rm_code mDos_wayTold) 28 = .ok (.iload_n 2, 1) := by decide +kernel
theorem d_Dos_wayTold_29 : decode (rm_code mDos_wayTold) 29 = .ok (.bipush (82), 2) := by decide +kernel
theorem d_Dos_wayTold_31 : decode (rm_code mDos_wayTold) 31 = .ok (.if_icmp .eq (9), 3) := by decide +kernel
theorem d_Dos_wayTold_34 : decode (rm_code mDos_wayTold) 34 = .ok (.iload_n 2, 1) := by decide +kernel
theorem d_Dos_wayTold_35 : decode (rm_code mDos_wayTold) 35 = .ok (.bipush (87), 2) := by decide +kernel
theorem d_Dos_wayTold_37 : decode (rm_code mDos_wayTold) 37 = .ok (.if_icmp .ne (7), 3) := by decide +kernel
theorem d_Dos_wayTold_40 : decode (rm_code mDos_wayTold) 40 = .ok (.iload_n 2, 1) := by decide +kernel
theorem d_Dos_wayTold_41 : decode (rm_code mDos_wayTold) 41 = .ok (.goto (4), 3) := by decide +kernel
theorem d_Dos_wayTold_44 : decode (rm_code mDos_wayTold) 44 = .ok (.iconst 0, 1) := by decide +kernel
theorem d_Dos_wayTold_45 : decode (rm_code mDos_wayTold) 45 = .ok (.ireturn, 1) := by decide +kernel
theorem p_Dos_wayTold_0 {S : rz_S} {K : Int32 → rz_S → Prop} {a1 : Int32} (w : rz_ev mTape_byteAt [.ref 1, .int a1] S (rz_i (fun xq1 Sq1 => ((xq1 = 44 → rz_ev mTape_byteAt [.ref 1, .int (a1 + 1)] Sq1 (rz_i (fun xq3 Sq3 => rz mDos_wayTold 27 [] [.int xq3] Sq3 (rz_i K)))) ∧ (¬ xq1 = 44 → rz mDos_wayTold 27 [] [.int (-1)] Sq1 (rz_i K)))))) : rz mDos_wayTold 0 [(0, .ref 39), (1, .int a1)] [] S (rz_i K) := by
  refine rz_pure (pc' := 1) d_Dos_wayTold_0 rfl ?_
  refine rz_getr d_Dos_wayTold_1 f_5_38 rfl rfl ?_
  refine rz_pure (pc' := 5) d_Dos_wayTold_4 rfl ?_
  refine rz_callVi (t := [.int a1]) d_Dos_wayTold_5 w_5_122 rfl rfl rfl w (fun xq1 Sq1 q1 => ?_)
  refine rz_bipush (v := 44) d_Dos_wayTold_8 (by decide) ?_
  refine rz_icmpne (tgt := 26) d_Dos_wayTold_10 rfl (fun b2 => ?_) (fun b2 => ?_)
  · skip
    refine rz_iconst (v := -1) d_Dos_wayTold_26 (by decide) ?_
    exact rz_pick (ks := []) (l := []) rfl rfl (by decide) rfl (q1.2 b2)
  · skip
    refine rz_pure (pc' := 14) d_Dos_wayTold_13 rfl ?_
    refine rz_getr d_Dos_wayTold_14 f_5_38 rfl rfl ?_
    refine rz_pure (pc' := 18) d_Dos_wayTold_17 rfl ?_
    refine rz_iconst (v := 1) d_Dos_wayTold_18 (by decide) ?_
    refine rz_iadd d_Dos_wayTold_19 ?_
    refine rz_callVi (t := [.int (a1 + 1)]) d_Dos_wayTold_20 w_5_122 rfl rfl rfl (q1.1 b2) (fun xq3 Sq3 q3 => ?_)
    refine rz_pure (pc' := 27) d_Dos_wayTold_23 rfl ?_
    exact rz_pick (ks := []) (l := []) rfl rfl (by decide) rfl q3
theorem p_Dos_wayTold_27 {S : rz_S} {K : Int32 → rz_S → Prop} {s0 : Int32} (w : ((s0 = 82 → K s0 S) ∧ (¬ s0 = 82 → ((s0 = 87 → K s0 S) ∧ (¬ s0 = 87 → K 0 S))))) : rz mDos_wayTold 27 [] [.int s0] S (rz_i K) := by
  refine rz_pure (pc' := 28) (l' := [(2, .int s0)]) d_Dos_wayTold_27 rfl ?_
  refine rz_pure (pc' := 29) d_Dos_wayTold_28 rfl ?_
  refine rz_bipush (v := 82) d_Dos_wayTold_29 (by decide) ?_
  refine rz_icmpeq (tgt := 40) d_Dos_wayTold_31 rfl (fun b1 => ?_) (fun b1 => ?_)
  · skip
    refine rz_pure (pc' := 41) d_Dos_wayTold_40 rfl ?_
    refine rz_pure (pc' := 45) d_Dos_wayTold_41 rfl ?_
    exact rz_ireti d_Dos_wayTold_45 rfl rfl (w.1 b1)
  · skip
    refine rz_pure (pc' := 35) d_Dos_wayTold_34 rfl ?_
    refine rz_bipush (v := 87) d_Dos_wayTold_35 (by decide) ?_
    refine rz_icmpne (tgt := 44) d_Dos_wayTold_37 rfl (fun b2 => ?_) (fun b2 => ?_)
    · skip
      refine rz_iconst (v := 0) d_Dos_wayTold_44 (by decide) ?_
      exact rz_ireti d_Dos_wayTold_45 rfl rfl ((w.2 b1).2 b2)
    · skip
      refine rz_pure (pc' := 41) d_Dos_wayTold_40 rfl ?_
      refine rz_pure (pc' := 45) d_Dos_wayTold_41 rfl ?_
      exact rz_ireti d_Dos_wayTold_45 rfl rfl ((w.2 b1).1 b2)
theorem d_Dos_openToRead_0 : decode (rm_code mDos_openToRead) 0 = .ok (.aload_n 0, 1) := by decide +kernel
theorem d_Dos_openToRead_1 : decode (rm_code mDos_openToRead) 1 = .ok (.getfield 56, 3) := by decide +kernel
theorem d_Dos_openToRead_4 : decode (rm_code mDos_openToRead) 4 = .ok (.invokevirtual 191, 3) := by decide +kernel
theorem d_Dos_openToRead_7 : decode (rm_code mDos_openToRead) 7 = .ok (.aload_n 0, 1) := by decide +kernel
theorem d_Dos_openToRead_8 : decode (rm_code mDos_openToRead) 8 = .ok (.getfield 56, 3) := by decide +kernel
theorem d_Dos_openToRead_11 : decode (rm_code mDos_openToRead) 11 = .ok (.iconst 0, 1) := by decide +kernel
theorem d_Dos_openToRead_12 : decode (rm_code mDos_openToRead) 12 = .ok (.aload_n 0, 1) := by decide +kernel
theorem d_Dos_openToRead_13 : decode (rm_code mDos_openToRead) 13 = .ok (.getfield 26, 3) := by decide +kernel
theorem d_Dos_openToRead_16 : decode (rm_code mDos_openToRead) 16 = .ok (.invokevirtual 194, 3) := by decide +kernel
theorem d_Dos_openToRead_19 : decode (rm_code mDos_openToRead) 19 = .ok (.istore_n 2, 1) := by decide +kernel
theorem d_Dos_openToRead_20 : decode (rm_code mDos_openToRead) 20 = .ok (.iload_n 2, 1) := by decide +kernel
theorem d_Dos_openToRead_21 : decode (rm_code mDos_openToRead) 21 = .ok (.ifCond .eq (5), 3) := by decide +kernel
theorem d_Dos_openToRead_24 : decode (rm_code mDos_openToRead) 24 = .ok (.iload_n 2, 1) := by decide +kernel
theorem d_Dos_openToRead_25 : decode (rm_code mDos_openToRead) 25 = .ok (.ireturn, 1) := by decide +kernel
theorem d_Dos_openToRead_26 : decode (rm_code mDos_openToRead) 26 = .ok (.aload_n 0, 1) := by decide +kernel
theorem d_Dos_openToRead_27 : decode (rm_code mDos_openToRead) 27 = .ok (.getfield 56, 3) := by decide +kernel
theorem d_Dos_openToRead_30 : decode (rm_code mDos_openToRead) 30 = .ok (.getfield 197, 3) := by decide +kernel
theorem d_Dos_openToRead_33 : decode (rm_code mDos_openToRead) 33 = .ok (.ifCond .ne (15), 3) := by decide +kernel
theorem d_Dos_openToRead_36 : decode (rm_code mDos_openToRead) 36 = .ok (.aload_n 0, 1) := by decide +kernel
theorem d_Dos_openToRead_37 : decode (rm_code mDos_openToRead) 37 = .ok (.getfield 30, 3) := by decide +kernel
theorem d_Dos_openToRead_40 : decode (rm_code mDos_openToRead) 40 = .ok (.bipush (62), 2) := by decide +kernel
theorem d_Dos_openToRead_42 : decode (rm_code mDos_openToRead) 42 = .ok (.iconst 0, 1) := by decide +kernel
theorem d_Dos_openToRead_43 : decode (rm_code mDos_openToRead) 43 = .ok (.iconst 0, 1) := by decide +kernel
theorem d_Dos_openToRead_44 : decode (rm_code mDos_openToRead) 44 = .ok (.invokevirtual 116, 3) := by decide +kernel
theorem d_Dos_openToRead_47 : decode (rm_code mDos_openToRead) 47 = .ok (.ireturn, 1) := by decide +kernel
theorem d_Dos_openToRead_48 : decode (rm_code mDos_openToRead) 48 = .ok (.aload_n 0, 1) := by decide +kernel
theorem d_Dos_openToRead_49 : decode (rm_code mDos_openToRead) 49 = .ok (.getfield 56, 3) := by decide +kernel
theorem d_Dos_openToRead_52 : decode (rm_code mDos_openToRead) 52 = .ok (.invokevirtual 200, 3) := by decide +kernel
theorem d_Dos_openToRead_55 : decode (rm_code mDos_openToRead) 55 = .ok (.ifCond .ne (15), 3) := by decide +kernel
theorem d_Dos_openToRead_58 : decode (rm_code mDos_openToRead) 58 = .ok (.aload_n 0, 1) := by decide +kernel
theorem d_Dos_openToRead_59 : decode (rm_code mDos_openToRead) 59 = .ok (.getfield 30, 3) := by decide +kernel
theorem d_Dos_openToRead_62 : decode (rm_code mDos_openToRead) 62 = .ok (.bipush (60), 2) := by decide +kernel
theorem d_Dos_openToRead_64 : decode (rm_code mDos_openToRead) 64 = .ok (.iconst 0, 1) := by decide +kernel
theorem d_Dos_openToRead_65 : decode (rm_code mDos_openToRead) 65 = .ok (.iconst 0, 1) := by decide +kernel
theorem d_Dos_openToRead_66 : decode (rm_code mDos_openToRead) 66 = .ok (.invokevirtual 116, 3) := by decide +kernel
theorem d_Dos_openToRead_69 : decode (rm_code mDos_openToRead) 69 = .ok (.ireturn, 1) := by decide +kernel
theorem d_Dos_openToRead_70 : decode (rm_code mDos_openToRead) 70 = .ok (.aload_n 0, 1) := by decide +kernel
theorem d_Dos_openToRead_71 : decode (rm_code mDos_openToRead) 71 = .ok (.getfield 182, 3) := by decide +kernel
theorem d_Dos_openToRead_74 : decode (rm_code mDos_openToRead) 74 = .ok (.ifCond .eq (31), 3) := by decide +kernel
theorem d_Dos_openToRead_77 : decode (rm_code mDos_openToRead) 77 = .ok (.aload_n 0, 1) := by decide +kernel
theorem d_Dos_openToRead_78 : decode (rm_code mDos_openToRead) 78 = .ok (.getfield 182, 3) := by decide +kernel
theorem d_Dos_openToRead_81 : decode (rm_code mDos_openToRead) 81 = .ok (.aload_n 0, 1) := by decide +kernel
theorem d_Dos_openToRead_82 : decode (rm_code mDos_openToRead) 82 = .ok (.getfield 56, 3) := by decide +kernel
theorem d_Dos_openToRead_85 : decode (rm_code mDos_openToRead) 85 = .ok (.invokevirtual 203, 3) := by decide +kernel
theorem d_Dos_openToRead_88 : decode (rm_code mDos_openToRead) 88 = .ok (.iconst 3, 1) := by decide +kernel
theorem d_Dos_openToRead_89 : decode (rm_code mDos_openToRead) 89 = .ok (.iand, 1) := by decide +kernel
theorem d_Dos_openToRead_90 : decode (rm_code mDos_openToRead) 90 = .ok (.if_icmp .eq (15), 3) := by decide +kernel
theorem d_Dos_openToRead_93 : decode (rm_code mDos_openToRead) 93 = .ok (.aload_n 0, 1) := by decide +kernel
theorem d_Dos_openToRead_94 : decode (rm_code mDos_openToRead) 94 = .ok (.getfield 30, 3) := by decide +kernel
theorem d_Dos_openToRead_97 : decode (rm_code mDos_openToRead) 97 = .ok (.bipush (64), 2) := by decide +kernel
theorem d_Dos_openToRead_99 : decode (rm_code mDos_openToRead) 99 = .ok (.iconst 0, 1) := by decide +kernel
theorem d_Dos_openToRead_100 : decode (rm_code mDos_openToRead) 100 = .ok (.iconst 0, 1) := by decide +kernel
theorem d_Dos_openToRead_101 : decode (rm_code mDos_openToRead) 101 = .ok (.invokevirtual 116, 3) := by decide +kernel
theorem d_Dos_openToRead_104 : decode (rm_code mDos_openToRead) 104 = .ok (.ireturn, 1) := by decide +kernel
theorem d_Dos_openToRead_105 : decode (rm_code mDos_openToRead) 105 = .ok (.aload_n 0, 1) := by decide +kernel
theorem d_Dos_openToRead_106 : decode (rm_code mDos_openToRead) 106 = .ok (.getfield 56, 3) := by decide +kernel
theorem d_Dos_openToRead_109 : decode (rm_code mDos_openToRead) 109 = .ok (.invokevirtual 206, 3) := by decide +kernel
theorem d_Dos_openToRead_112 : decode (rm_code mDos_openToRead) 112 = .ok (.istore_n 3, 1) := by decide +kernel
theorem d_Dos_openToRead_113 : decode (rm_code mDos_openToRead) 113 = .ok (.aload_n 0, 1) := by decide +kernel
theorem d_Dos_openToRead_114 : decode (rm_code mDos_openToRead) 114 = .ok (.getfield 56, 3) := by decide +kernel
theorem d_Dos_openToRead_117 : decode (rm_code mDos_openToRead) 117 = .ok (.invokevirtual 209, 3) := by decide +kernel
theorem d_Dos_openToRead_120 : decode (rm_code mDos_openToRead) 120 = .ok (.istore 4, 2) := by decide +kernel
theorem d_Dos_openToRead_122 : decode (rm_code mDos_openToRead) 122 = .ok (.iload_n 3, 1) := by decide +kernel
theorem d_Dos_openToRead_123 : decode (rm_code mDos_openToRead) 123 = .ok (.iload 4, 2) := by decide +kernel
theorem d_Dos_openToRead_125 : decode (rm_code mDos_openToRead) 125 = .ok (.invokestatic 212, 3) := by decide +kernel
theorem d_Dos_openToRead_128 : decode (rm_code mDos_openToRead) 128 = .ok (.ifCond .ne (16), 3) := by decide +kernel
theorem d_Dos_openToRead_131 : decode (rm_code mDos_openToRead) 131 = .ok (.aload_n 0, 1) := by decide +kernel
theorem d_Dos_openToRead_132 : decode (rm_code mDos_openToRead) 132 = .ok (.getfield 30, 3) := by decide +kernel
theorem d_Dos_openToRead_135 : decode (rm_code mDos_openToRead) 135 = .ok (.bipush (66), 2) := by decide +kernel
theorem d_Dos_openToRead_137 : decode (rm_code mDos_openToRead) 137 = .ok (.iload_n 3, 1) := by decide +kernel
theorem d_Dos_openToRead_138 : decode (rm_code mDos_openToRead) 138 = .ok (.iload 4, 2) := by decide +kernel
theorem d_Dos_openToRead_140 : decode (rm_code mDos_openToRead) 140 = .ok (.invokevirtual 116, 3) := by decide +kernel
theorem d_Dos_openToRead_143 : decode (rm_code mDos_openToRead) 143 = .ok (.ireturn, 1) := by decide +kernel
theorem d_Dos_openToRead_144 : decode (rm_code mDos_openToRead) 144 = .ok (.aload_n 0, 1) := by decide +kernel
theorem d_Dos_openToRead_145 : decode (rm_code mDos_openToRead) 145 = .ok (.getfield 34, 3) := by decide +kernel
theorem d_Dos_openToRead_148 : decode (rm_code mDos_openToRead) 148 = .ok (.iload_n 3, 1) := by decide +kernel
theorem d_Dos_openToRead_149 : decode (rm_code mDos_openToRead) 149 = .ok (.iload 4, 2) := by decide +kernel
theorem d_Dos_openToRead_151 : decode (rm_code mDos_openToRead) 151 = .ok (.aload_n 1, 1) := by decide +kernel
theorem d_Dos_openToRead_152 : decode (rm_code mDos_openToRead) 152 = .ok (.getfield 72, 3) := by decide +kernel
theorem d_Dos_openToRead_155 : decode (rm_code mDos_openToRead) 155 = .ok (.invokevirtual 216, 3) := by decide +kernel
theorem d_Dos_openToRead_158 : decode (rm_code mDos_openToRead) 158 = .ok (.istore_n 2, 1) := by decide +kernel
theorem d_Dos_openToRead_159 : decode (rm_code mDos_openToRead) 159 = .ok (.iload_n 2, 1) := by decide +kernel
theorem d_Dos_openToRead_160 : decode (rm_code mDos_openToRead) 160 = .ok (.ifCond .ne (12), 3) := by decide +kernel
theorem d_Dos_openToRead_163 : decode (rm_code mDos_openToRead) 163 = .ok (.aload_n 1, 1) := by decide +kernel
theorem d_Dos_openToRead_164 : decode (rm_code mDos_openToRead) 164 = .ok (.iconst 1, 1) := by decide +kernel
theorem d_Dos_openToRead_165 : decode (rm_code mDos_openToRead) 165 = .ok (.putfield 61, 3) := by decide +kernel
theorem d_Dos_openToRead_168 : decode (rm_code mDos_openToRead) 168 = .ok (.aload_n 1, 1) := by decide +kernel
theorem d_Dos_openToRead_169 : decode (rm_code mDos_openToRead) 169 = .ok (.invokevirtual 219, 3) := by decide +kernel
theorem d_Dos_openToRead_172 : decode (rm_code mDos_openToRead) 172 = .ok (.iload_n 2, 1) := by decide +kernel
theorem d_Dos_openToRead_173 : decode (rm_code mDos_openToRead) 173 = .ok (.ireturn, 1) := by decide +kernel
theorem p_Dos_openToRead_0 {S : rz_S} {K : Int32 → rz_S → Prop} {a1 : Nat} (ha1 : chP a1) (w : rz_ev mDirectory_rewind [.ref 46] S (rz_v (fun Sq1 => rz_ev mDirectory_find [.ref 46, .int 0, .ref 42] Sq1 (rz_i (fun xq2 Sq2 => ((xq2 = 0 → ((Sq2.2 46 5 = 0 → rz_ev mStatus_set [.ref 3, .int 62, .int 0, .int 0] Sq2 (rz_i (fun xq12 Sq12 => K xq12 Sq12))) ∧ (¬ Sq2.2 46 5 = 0 → rz_ev mDirectory_isClosed [.ref 46] Sq2 (rz_i (fun xq5 Sq5 => ((xq5 = 0 → rz_ev mStatus_set [.ref 3, .int 60, .int 0, .int 0] Sq5 (rz_i (fun xq11 Sq11 => K xq11 Sq11))) ∧ (¬ xq5 = 0 → ((Sq5.2 39 10 = 0 → rz mDos_openToRead 105 [(0, .ref 39), (1, .ref a1)] [] Sq5 (rz_i K)) ∧ (¬ Sq5.2 39 10 = 0 → rz_ev mDirectory_type [.ref 46] Sq5 (rz_i (fun xq8 Sq8 => ((Sq5.2 39 10 = xq8 &&& 3 → rz mDos_openToRead 105 [(0, .ref 39), (1, .ref a1)] [] Sq8 (rz_i K)) ∧ (¬ Sq5.2 39 10 = xq8 &&& 3 → rz_ev mStatus_set [.ref 3, .int 64, .int 0, .int 0] Sq8 (rz_i (fun xq10 Sq10 => K xq10 Sq10))))))))))))))) ∧ (¬ xq2 = 0 → K xq2 Sq2))))))) : rz mDos_openToRead 0 [(0, .ref 39), (1, .ref a1)] [] S (rz_i K) := by
  have za1 := chZ ha1
  refine rz_pure (pc' := 1) d_Dos_openToRead_0 rfl ?_
  refine rz_getr d_Dos_openToRead_1 f_5_56 rfl rfl ?_
  refine rz_callVv (t := []) d_Dos_openToRead_4 w_5_191 rfl rfl rfl w (fun Sq1 q1 => ?_)
  refine rz_pure (pc' := 8) d_Dos_openToRead_7 rfl ?_
  refine rz_getr d_Dos_openToRead_8 f_5_56 rfl rfl ?_
  refine rz_iconst (v := 0) d_Dos_openToRead_11 (by decide) ?_
  refine rz_pure (pc' := 13) d_Dos_openToRead_12 rfl ?_
  refine rz_getr d_Dos_openToRead_13 f_5_26 rfl rfl ?_
  refine rz_callVi (t := [.ref 42, .int 0]) d_Dos_openToRead_16 w_5_194 rfl rfl rfl q1 (fun xq2 Sq2 q2 => ?_)
  refine rz_pure (pc' := 20) (l' := [(2, .int xq2), (0, .ref 39), (1, .ref a1)]) d_Dos_openToRead_19 rfl ?_
  refine rz_pure (pc' := 21) d_Dos_openToRead_20 rfl ?_
  refine rz_ifeq (tgt := 26) d_Dos_openToRead_21 rfl (fun b3 => ?_) (fun b3 => ?_)
  · skip
    refine rz_pure (pc' := 27) d_Dos_openToRead_26 rfl ?_
    refine rz_getr d_Dos_openToRead_27 f_5_56 rfl rfl ?_
    refine rz_getiv (v := Sq2.2 46 5) d_Dos_openToRead_30 f_5_197 rfl rfl rfl ?_
    refine rz_ifne (tgt := 48) d_Dos_openToRead_33 rfl (fun b4 => ?_) (fun b4 => ?_)
    · skip
      refine rz_pure (pc' := 49) d_Dos_openToRead_48 rfl ?_
      refine rz_getr d_Dos_openToRead_49 f_5_56 rfl rfl ?_
      refine rz_callVi (t := []) d_Dos_openToRead_52 w_5_200 rfl rfl rfl ((q2.1 b3).2 b4) (fun xq5 Sq5 q5 => ?_)
      refine rz_ifne (tgt := 70) d_Dos_openToRead_55 rfl (fun b6 => ?_) (fun b6 => ?_)
      · skip
        refine rz_pure (pc' := 71) d_Dos_openToRead_70 rfl ?_
        refine rz_getiv (v := Sq5.2 39 10) d_Dos_openToRead_71 f_5_182 rfl rfl rfl ?_
        refine rz_ifeq (tgt := 105) d_Dos_openToRead_74 rfl (fun b7 => ?_) (fun b7 => ?_)
        · skip
          exact rz_pick (ks := [0, 1]) (l := [(0, .ref 39), (1, .ref a1)]) rfl rfl (by decide) rfl ((q5.2 b6).1 b7)
        · skip
          refine rz_pure (pc' := 78) d_Dos_openToRead_77 rfl ?_
          refine rz_getiv (v := Sq5.2 39 10) d_Dos_openToRead_78 f_5_182 rfl rfl rfl ?_
          refine rz_pure (pc' := 82) d_Dos_openToRead_81 rfl ?_
          refine rz_getr d_Dos_openToRead_82 f_5_56 rfl rfl ?_
          refine rz_callVi (t := []) d_Dos_openToRead_85 w_5_203 rfl rfl rfl ((q5.2 b6).2 b7) (fun xq8 Sq8 q8 => ?_)
          refine rz_iconst (v := 3) d_Dos_openToRead_88 (by decide) ?_
          refine rz_iand d_Dos_openToRead_89 ?_
          refine rz_icmpeq (tgt := 105) d_Dos_openToRead_90 rfl (fun b9 => ?_) (fun b9 => ?_)
          · skip
            exact rz_pick (ks := [0, 1]) (l := [(0, .ref 39), (1, .ref a1)]) rfl rfl (by decide) rfl (q8.1 b9)
          · skip
            refine rz_pure (pc' := 94) d_Dos_openToRead_93 rfl ?_
            refine rz_getr d_Dos_openToRead_94 f_5_30 rfl rfl ?_
            refine rz_bipush (v := 64) d_Dos_openToRead_97 (by decide) ?_
            refine rz_iconst (v := 0) d_Dos_openToRead_99 (by decide) ?_
            refine rz_iconst (v := 0) d_Dos_openToRead_100 (by decide) ?_
            refine rz_callVi (t := [.int 0, .int 0, .int 64]) d_Dos_openToRead_101 w_5_116 rfl rfl rfl (q8.2 b9) (fun xq10 Sq10 q10 => ?_)
            exact rz_ireti d_Dos_openToRead_104 rfl rfl q10
      · skip
        refine rz_pure (pc' := 59) d_Dos_openToRead_58 rfl ?_
        refine rz_getr d_Dos_openToRead_59 f_5_30 rfl rfl ?_
        refine rz_bipush (v := 60) d_Dos_openToRead_62 (by decide) ?_
        refine rz_iconst (v := 0) d_Dos_openToRead_64 (by decide) ?_
        refine rz_iconst (v := 0) d_Dos_openToRead_65 (by decide) ?_
        refine rz_callVi (t := [.int 0, .int 0, .int 60]) d_Dos_openToRead_66 w_5_116 rfl rfl rfl (q5.1 b6) (fun xq11 Sq11 q11 => ?_)
        exact rz_ireti d_Dos_openToRead_69 rfl rfl q11
    · skip
      refine rz_pure (pc' := 37) d_Dos_openToRead_36 rfl ?_
      refine rz_getr d_Dos_openToRead_37 f_5_30 rfl rfl ?_
      refine rz_bipush (v := 62) d_Dos_openToRead_40 (by decide) ?_
      refine rz_iconst (v := 0) d_Dos_openToRead_42 (by decide) ?_
      refine rz_iconst (v := 0) d_Dos_openToRead_43 (by decide) ?_
      refine rz_callVi (t := [.int 0, .int 0, .int 62]) d_Dos_openToRead_44 w_5_116 rfl rfl rfl ((q2.1 b3).1 b4) (fun xq12 Sq12 q12 => ?_)
      exact rz_ireti d_Dos_openToRead_47 rfl rfl q12
  · skip
    refine rz_pure (pc' := 25) d_Dos_openToRead_24 rfl ?_
    exact rz_ireti d_Dos_openToRead_25 rfl rfl (q2.2 b3)
theorem p_Dos_openToRead_105 {S : rz_S} {K : Int32 → rz_S → Prop} {a1 : Nat} (ha1 : chP a1) (w : rz_ev mDirectory_firstTrack [.ref 46] S (rz_i (fun xq1 Sq1 => rz_ev mDirectory_firstSector [.ref 46] Sq1 (rz_i (fun xq2 Sq2 => rz_ev mDisk_isLegal [.int xq1, .int xq2] Sq2 (rz_i (fun xq3 Sq3 => ((xq3 = 0 → rz_ev mStatus_set [.ref 3, .int 66, .int xq1, .int xq2] Sq3 (rz_i (fun xq8 Sq8 => K xq8 Sq8))) ∧ (¬ xq3 = 0 → rz_ev mDisk_readBlock [.ref 6, .int xq1, .int xq2, .ref (a1 + 1)] Sq3 (rz_i (fun xq5 Sq5 => ((xq5 = 0 → rz_ev mChannel_unfold [.ref a1] (rz_uI Sq5 a1 0 1) (rz_v (fun Sq7 => K xq5 Sq7))) ∧ (¬ xq5 = 0 → K xq5 Sq5))))))))))))) : rz mDos_openToRead 105 [(0, .ref 39), (1, .ref a1)] [] S (rz_i K) := by
  have za1 := chZ ha1
  refine rz_pure (pc' := 106) d_Dos_openToRead_105 rfl ?_
  refine rz_getr d_Dos_openToRead_106 f_5_56 rfl rfl ?_
  refine rz_callVi (t := []) d_Dos_openToRead_109 w_5_206 rfl rfl rfl w (fun xq1 Sq1 q1 => ?_)
  refine rz_pure (pc' := 113) (l' := [(3, .int xq1), (0, .ref 39), (1, .ref a1)]) d_Dos_openToRead_112 rfl ?_
  refine rz_pure (pc' := 114) d_Dos_openToRead_113 rfl ?_
  refine rz_getr d_Dos_openToRead_114 f_5_56 rfl rfl ?_
  refine rz_callVi (t := []) d_Dos_openToRead_117 w_5_209 rfl rfl rfl q1 (fun xq2 Sq2 q2 => ?_)
  refine rz_pure (pc' := 122) (l' := [(4, .int xq2), (3, .int xq1), (0, .ref 39), (1, .ref a1)]) d_Dos_openToRead_120 rfl ?_
  refine rz_pure (pc' := 123) d_Dos_openToRead_122 rfl ?_
  refine rz_pure (pc' := 125) d_Dos_openToRead_123 rfl ?_
  refine rz_callSi (t := [.int xq2, .int xq1]) d_Dos_openToRead_125 rfl w_5_212 rfl rfl q2 (fun xq3 Sq3 q3 => ?_)
  refine rz_ifne (tgt := 144) d_Dos_openToRead_128 rfl (fun b4 => ?_) (fun b4 => ?_)
  · skip
    refine rz_pure (pc' := 145) d_Dos_openToRead_144 rfl ?_
    refine rz_getr d_Dos_openToRead_145 f_5_34 rfl rfl ?_
    refine rz_pure (pc' := 149) d_Dos_openToRead_148 rfl ?_
    refine rz_pure (pc' := 151) d_Dos_openToRead_149 rfl ?_
    refine rz_pure (pc' := 152) d_Dos_openToRead_151 rfl ?_
    refine rz_getr d_Dos_openToRead_152 f_5_72 (chTP ha1) rfl ?_
    refine rz_callVi (t := [.ref (a1 + 1), .int xq2, .int xq1]) d_Dos_openToRead_155 w_5_216 rfl rfl rfl (q3.2 b4) (fun xq5 Sq5 q5 => ?_)
    refine rz_pure (pc' := 159) (l' := [(2, .int xq5), (4, .int xq2), (3, .int xq1), (0, .ref 39), (1, .ref a1)]) d_Dos_openToRead_158 rfl ?_
    refine rz_pure (pc' := 160) d_Dos_openToRead_159 rfl ?_
    refine rz_ifne (tgt := 172) d_Dos_openToRead_160 rfl (fun b6 => ?_) (fun b6 => ?_)
    · skip
      refine rz_pure (pc' := 173) d_Dos_openToRead_172 rfl ?_
      exact rz_ireti d_Dos_openToRead_173 rfl rfl (q5.2 b6)
    · skip
      refine rz_pure (pc' := 164) d_Dos_openToRead_163 rfl ?_
      refine rz_iconst (v := 1) d_Dos_openToRead_164 (by decide) ?_
      refine rz_puti d_Dos_openToRead_165 f_5_61 (chTP ha1) rfl rfl ?_
      refine rz_pure (pc' := 169) d_Dos_openToRead_168 rfl ?_
      refine rz_callVv (t := []) d_Dos_openToRead_169 w_5_219 rfl (chTP ha1) rfl (q5.1 b6) (fun Sq7 q7 => ?_)
      refine rz_pure (pc' := 173) d_Dos_openToRead_172 rfl ?_
      exact rz_ireti d_Dos_openToRead_173 rfl rfl q7
  · skip
    refine rz_pure (pc' := 132) d_Dos_openToRead_131 rfl ?_
    refine rz_getr d_Dos_openToRead_132 f_5_30 rfl rfl ?_
    refine rz_bipush (v := 66) d_Dos_openToRead_135 (by decide) ?_
    refine rz_pure (pc' := 138) d_Dos_openToRead_137 rfl ?_
    refine rz_pure (pc' := 140) d_Dos_openToRead_138 rfl ?_
    refine rz_callVi (t := [.int xq2, .int xq1, .int 66]) d_Dos_openToRead_140 w_5_116 rfl rfl rfl (q3.1 b4) (fun xq8 Sq8 q8 => ?_)
    exact rz_ireti d_Dos_openToRead_143 rfl rfl q8
theorem d_Channel_unfold_0 : decode (rm_code mChannel_unfold) 0 = .ok (.aload_n 0, 1) := by decide +kernel
theorem d_Channel_unfold_1 : decode (rm_code mChannel_unfold) 1 = .ok (.aload_n 0, 1) := by decide +kernel
theorem d_Channel_unfold_2 : decode (rm_code mChannel_unfold) 2 = .ok (.getfield 15, 3) := by decide +kernel
theorem d_Channel_unfold_5 : decode (rm_code mChannel_unfold) 5 = .ok (.iconst 0, 1) := by decide +kernel
theorem d_Channel_unfold_6 : decode (rm_code mChannel_unfold) 6 = .ok (.iaload, 1) := by decide +kernel
theorem d_Channel_unfold_7 : decode (rm_code mChannel_unfold) 7 = .ok (.ifCond .ne (7), 3) := by decide +kernel
theorem d_Channel_unfold_10 : decode (rm_code mChannel_unfold) 10 = .ok (.iconst 1, 1) := by decide +kernel
theorem d_Channel_unfold_11 : decode (rm_code mChannel_unfold) 11 = .ok (.goto (4), 3) := by decide +kernel
theorem d_Channel_unfold_14 : decode (rm_code mChannel_unfold) 14 = .ok (.iconst 0, 1) := by decide +kernel
theorem d_Channel_unfold_15 : decode (rm_code mChannel_unfold) 15 = .ok (.putfield 38, 3) := by decide +kernel
theorem d_Channel_unfold_18 : decode (rm_code mChannel_unfold) 18 = .ok (.aload_n 0, 1) := by decide +kernel
theorem d_Channel_unfold_19 : decode (rm_code mChannel_unfold) 19 = .ok (.iconst 2, 1) := by decide +kernel
theorem d_Channel_unfold_20 : decode (rm_code mChannel_unfold) 20 = .ok (.putfield 32, 3) := by decide +kernel
theorem d_Channel_unfold_23 : decode (rm_code mChannel_unfold) 23 = .ok (.aload_n 0, 1) := by decide +kernel
theorem d_Channel_unfold_24 : decode (rm_code mChannel_unfold) 24 = .ok (.aload_n 0, 1) := by decide +kernel
theorem d_Channel_unfold_25 : decode (rm_code mChannel_unfold) 25 = .ok (.getfield 38, 3) := by decide +kernel
theorem d_Channel_unfold_28 : decode (rm_code mChannel_unfold) 28 = .ok (.ifCond .eq (19), 3) := by decide +kernel
theorem d_Channel_unfold_31 : decode (rm_code mChannel_unfold) 31 = .ok (.bipush (63), 2) := by decide +kernel
theorem d_Channel_unfold_33 : decode (rm_code mChannel_unfold) 33 = .ok (.aload_n 0, 1) := by decide +kernel
theorem d_Channel_unfold_34 : decode (rm_code mChannel_unfold) 34 = .ok (.getfield 15, 3) := by decide +kernel
theorem d_Channel_unfold_37 : decode (rm_code mChannel_unfold) 37 = .ok (.iconst 1, 1) := by decide +kernel
theorem d_Channel_unfold_38 : decode (rm_code mChannel_unfold) 38 = .ok (.iaload, 1) := by decide +kernel
theorem d_Channel_unfold_39 : decode (rm_code mChannel_unfold) 39 = .ok (.invokestatic 71, 3) := by decide +kernel
theorem d_Channel_unfold_42 : decode (rm_code mChannel_unfold) 42 = .ok (.iconst 1, 1) := by decide +kernel
theorem d_Channel_unfold_43 : decode (rm_code mChannel_unfold) 43 = .ok (.iadd, 1) := by decide +kernel
theorem d_Channel_unfold_44 : decode (rm_code mChannel_unfold) 44 = .ok (.goto (5), 3) := by decide +kernel
theorem d_Channel_unfold_47 : decode (rm_code mChannel_unfold) 47 = .ok (.bipush (64), 2) := by decide +kernel
theorem d_Channel_unfold_49 : decode (rm_code mChannel_unfold) 49 = .ok (.putfield 35, 3) := by decide +kernel
theorem d_Channel_unfold_52 : decode (rm_code mChannel_unfold) 52 = .ok (.return_, 1) := by decide +kernel
theorem p_Channel_unfold_0 {S : rz_S} {K : rz_S → Prop} {a0 : Nat} (ha0 : chP a0) (w : ((S.1 (a0 + 1) 0 = 0 → rz mChannel_unfold 15 [(0, .ref a0)] [.int 1, .ref a0] S (rz_v K)) ∧ (¬ S.1 (a0 + 1) 0 = 0 → rz mChannel_unfold 15 [(0, .ref a0)] [.int 0, .ref a0] S (rz_v K)))) : rz mChannel_unfold 0 [(0, .ref a0)] [] S (rz_v K) := by
  have za0 := chZ ha0
  refine rz_pure (pc' := 1) d_Channel_unfold_0 rfl ?_
  refine rz_pure (pc' := 2) d_Channel_unfold_1 rfl ?_
  refine rz_getr d_Channel_unfold_2 f_1_15 (chTP ha0) rfl ?_
  refine rz_iconst (v := 0) d_Channel_unfold_5 (by decide) ?_
  refine rz_ialdv (F := S.1 (a0 + 1)) (i := 0) d_Channel_unfold_6 (chR ha0) (by decide) rfl (by decide) ?_
  refine rz_ifne (tgt := 14) d_Channel_unfold_7 rfl (fun b1 => ?_) (fun b1 => ?_)
  · skip
    refine rz_iconst (v := 0) d_Channel_unfold_14 (by decide) ?_
    exact rz_pick (ks := [0]) (l := [(0, .ref a0)]) rfl rfl (by decide) rfl (w.2 b1)
  · skip
    refine rz_iconst (v := 1) d_Channel_unfold_10 (by decide) ?_
    refine rz_pure (pc' := 15) d_Channel_unfold_11 rfl ?_
    exact rz_pick (ks := [0]) (l := [(0, .ref a0)]) rfl rfl (by decide) rfl (w.1 b1)
theorem p_Channel_unfold_15 {S : rz_S} {K : rz_S → Prop} {a0 : Nat} (ha0 : chP a0) {s0 : Int32} {s1 : Nat} (hs1 : chP s1) (w : (s0 = 0 ∨ s0 = 1) ∧ (((rz_uI (rz_uI S s1 4 s0) a0 2 2).2 a0 4 = 0 → K (rz_uI (rz_uI (rz_uI S s1 4 s0) a0 2 2) a0 3 64)) ∧ (¬ (rz_uI (rz_uI S s1 4 s0) a0 2 2).2 a0 4 = 0 → K (rz_uI (rz_uI (rz_uI S s1 4 s0) a0 2 2) a0 3 ((if S.1 (a0 + 1) 1 < 63 then S.1 (a0 + 1) 1 else 63) + 1))))) : rz mChannel_unfold 15 [(0, .ref a0)] [.int s0, .ref s1] S (rz_v K) := by
  have za0 := chZ ha0
  have zs1 := chZ hs1
  refine rz_puti d_Channel_unfold_15 f_1_38 (chTP hs1) rfl (rz_bfit w.1) ?_
  refine rz_pure (pc' := 19) d_Channel_unfold_18 rfl ?_
  refine rz_iconst (v := 2) d_Channel_unfold_19 (by decide) ?_
  refine rz_puti d_Channel_unfold_20 f_1_32 (chTP ha0) rfl rfl ?_
  refine rz_pure (pc' := 24) d_Channel_unfold_23 rfl ?_
  refine rz_pure (pc' := 25) d_Channel_unfold_24 rfl ?_
  refine rz_getiv (v := (rz_uI (rz_uI S s1 4 s0) a0 2 2).2 a0 4) d_Channel_unfold_25 f_1_38 (chTP ha0) rfl rfl ?_
  refine rz_ifeq (tgt := 47) d_Channel_unfold_28 rfl (fun b1 => ?_) (fun b1 => ?_)
  · skip
    refine rz_bipush (v := 64) d_Channel_unfold_47 (by decide) ?_
    refine rz_puti d_Channel_unfold_49 f_1_35 (chTP ha0) rfl rfl ?_
    exact rz_vretv d_Channel_unfold_52 rfl (w.2.1 b1)
  · skip
    refine rz_bipush (v := 63) d_Channel_unfold_31 (by decide) ?_
    refine rz_pure (pc' := 34) d_Channel_unfold_33 rfl ?_
    refine rz_getr d_Channel_unfold_34 f_1_15 (chTP ha0) rfl ?_
    refine rz_iconst (v := 1) d_Channel_unfold_37 (by decide) ?_
    refine rz_ialdv (F := S.1 (a0 + 1)) (i := 1) d_Channel_unfold_38 (chR ha0) (by decide) rfl (by decide) ?_
    refine rz_min d_Channel_unfold_39 rfl rfl rfl ?_
    refine rz_iconst (v := 1) d_Channel_unfold_42 (by decide) ?_
    refine rz_iadd d_Channel_unfold_43 ?_
    refine rz_pure (pc' := 49) d_Channel_unfold_44 rfl ?_
    refine rz_puti d_Channel_unfold_49 f_1_35 (chTP ha0) rfl rfl ?_
    exact rz_vretv d_Channel_unfold_52 rfl (w.2.2 b1)
theorem d_Dos_openToWrite_0 : decode (rm_code mDos_openToWrite) 0 = .ok (.aload_n 0, 1) := by decide +kernel
theorem d_Dos_openToWrite_1 : decode (rm_code mDos_openToWrite) 1 = .ok (.getfield 56, 3) := by decide +kernel
theorem d_Dos_openToWrite_4 : decode (rm_code mDos_openToWrite) 4 = .ok (.invokevirtual 191, 3) := by decide +kernel
theorem d_Dos_openToWrite_7 : decode (rm_code mDos_openToWrite) 7 = .ok (.aload_n 0, 1) := by decide +kernel
theorem d_Dos_openToWrite_8 : decode (rm_code mDos_openToWrite) 8 = .ok (.getfield 56, 3) := by decide +kernel
theorem d_Dos_openToWrite_11 : decode (rm_code mDos_openToWrite) 11 = .ok (.iconst 1, 1) := by decide +kernel
theorem d_Dos_openToWrite_12 : decode (rm_code mDos_openToWrite) 12 = .ok (.aload_n 0, 1) := by decide +kernel
theorem d_Dos_openToWrite_13 : decode (rm_code mDos_openToWrite) 13 = .ok (.getfield 26, 3) := by decide +kernel
theorem d_Dos_openToWrite_16 : decode (rm_code mDos_openToWrite) 16 = .ok (.invokevirtual 194, 3) := by decide +kernel
theorem d_Dos_openToWrite_19 : decode (rm_code mDos_openToWrite) 19 = .ok (.istore_n 2, 1) := by decide +kernel
theorem d_Dos_openToWrite_20 : decode (rm_code mDos_openToWrite) 20 = .ok (.iload_n 2, 1) := by decide +kernel
theorem d_Dos_openToWrite_21 : decode (rm_code mDos_openToWrite) 21 = .ok (.ifCond .ne (59), 3) := by decide +kernel
theorem d_Dos_openToWrite_24 : decode (rm_code mDos_openToWrite) 24 = .ok (.aload_n 0, 1) := by decide +kernel
theorem d_Dos_openToWrite_25 : decode (rm_code mDos_openToWrite) 25 = .ok (.getfield 56, 3) := by decide +kernel
theorem d_Dos_openToWrite_28 : decode (rm_code mDos_openToWrite) 28 = .ok (.getfield 197, 3) := by decide +kernel
theorem d_Dos_openToWrite_31 : decode (rm_code mDos_openToWrite) 31 = .ok (.ifCond .eq (49), 3) := by decide +kernel
theorem d_Dos_openToWrite_34 : decode (rm_code mDos_openToWrite) 34 = .ok (.aload_n 0, 1) := by decide +kernel
theorem d_Dos_openToWrite_35 : decode (rm_code mDos_openToWrite) 35 = .ok (.getfield 171, 3) := by decide +kernel
theorem d_Dos_openToWrite_38 : decode (rm_code mDos_openToWrite) 38 = .ok (.ifCond .ne (15), 3) := by decide +kernel
theorem d_Dos_openToWrite_41 : decode (rm_code mDos_openToWrite) 41 = .ok (.aload_n 0, 1) := by decide +kernel
theorem d_Dos_openToWrite_42 : decode (rm_code mDos_openToWrite) 42 = .ok (.getfield 30, 3) := by decide +kernel
theorem d_Dos_openToWrite_45 : decode (rm_code mDos_openToWrite) 45 = .ok (.bipush (63), 2) := by decide +kernel
theorem d_Dos_openToWrite_47 : decode (rm_code mDos_openToWrite) 47 = .ok (.iconst 0, 1) := by decide +kernel
theorem d_Dos_openToWrite_48 : decode (rm_code mDos_openToWrite) 48 = .ok (.iconst 0, 1) := by decide +kernel
theorem d_Dos_openToWrite_49 : decode (rm_code mDos_openToWrite) 49 = .ok (.invokevirtual 116, 3) := by decide +kernel
theorem d_Dos_openToWrite_52 : decode (rm_code mDos_openToWrite) 52 = .ok (.ireturn, 1) := by decide +kernel
theorem d_Dos_openToWrite_53 : decode (rm_code mDos_openToWrite) 53 = .ok (.aload_n 0, 1) := by decide +kernel
theorem d_Dos_openToWrite_54 : decode (rm_code mDos_openToWrite) 54 = .ok (.getfield 56, 3) := by decide +kernel
theorem d_Dos_openToWrite_57 : decode (rm_code mDos_openToWrite) 57 = .ok (.invokevirtual 200, 3) := by decide +kernel
theorem d_Dos_openToWrite_60 : decode (rm_code mDos_openToWrite) 60 = .ok (.ifCond .ne (15), 3) := by decide +kernel
theorem d_Dos_openToWrite_63 : decode (rm_code mDos_openToWrite) 63 = .ok (.aload_n 0, 1) := by decide +kernel
theorem d_Dos_openToWrite_64 : decode (rm_code mDos_openToWrite) 64 = .ok (.getfield 30, 3) := by decide +kernel
theorem d_Dos_openToWrite_67 : decode (rm_code mDos_openToWrite) 67 = .ok (.bipush (60), 2) := by decide +kernel
theorem d_Dos_openToWrite_69 : decode (rm_code mDos_openToWrite) 69 = .ok (.iconst 0, 1) := by decide +kernel
theorem d_Dos_openToWrite_70 : decode (rm_code mDos_openToWrite) 70 = .ok (.iconst 0, 1) := by decide +kernel
theorem d_Dos_openToWrite_71 : decode (rm_code mDos_openToWrite) 71 = .ok (.invokevirtual 116, 3) := by decide +kernel
theorem d_Dos_openToWrite_74 : decode (rm_code mDos_openToWrite) 74 = .ok (.ireturn, 1) := by decide +kernel
theorem d_Dos_openToWrite_75 : decode (rm_code mDos_openToWrite) 75 = .ok (.aload_n 0, 1) := by decide +kernel
theorem d_Dos_openToWrite_76 : decode (rm_code mDos_openToWrite) 76 = .ok (.invokevirtual 222, 3) := by decide +kernel
theorem d_Dos_openToWrite_79 : decode (rm_code mDos_openToWrite) 79 = .ok (.istore_n 2, 1) := by decide +kernel
theorem d_Dos_openToWrite_80 : decode (rm_code mDos_openToWrite) 80 = .ok (.iload_n 2, 1) := by decide +kernel
theorem d_Dos_openToWrite_81 : decode (rm_code mDos_openToWrite) 81 = .ok (.ifCond .ne (8), 3) := by decide +kernel
theorem d_Dos_openToWrite_84 : decode (rm_code mDos_openToWrite) 84 = .ok (.aload_n 0, 1) := by decide +kernel
theorem d_Dos_openToWrite_85 : decode (rm_code mDos_openToWrite) 85 = .ok (.invokevirtual 225, 3) := by decide +kernel
theorem d_Dos_openToWrite_88 : decode (rm_code mDos_openToWrite) 88 = .ok (.istore_n 2, 1) := by decide +kernel
theorem d_Dos_openToWrite_89 : decode (rm_code mDos_openToWrite) 89 = .ok (.iload_n 2, 1) := by decide +kernel
theorem d_Dos_openToWrite_90 : decode (rm_code mDos_openToWrite) 90 = .ok (.ifCond .ne (9), 3) := by decide +kernel
theorem d_Dos_openToWrite_93 : decode (rm_code mDos_openToWrite) 93 = .ok (.aload_n 0, 1) := by decide +kernel
theorem d_Dos_openToWrite_94 : decode (rm_code mDos_openToWrite) 94 = .ok (.aload_n 1, 1) := by decide +kernel
theorem d_Dos_openToWrite_95 : decode (rm_code mDos_openToWrite) 95 = .ok (.invokevirtual 228, 3) := by decide +kernel
theorem d_Dos_openToWrite_98 : decode (rm_code mDos_openToWrite) 98 = .ok (.istore_n 2, 1) := by decide +kernel
theorem d_Dos_openToWrite_99 : decode (rm_code mDos_openToWrite) 99 = .ok (.iload_n 2, 1) := by decide +kernel
theorem d_Dos_openToWrite_100 : decode (rm_code mDos_openToWrite) 100 = .ok (.ireturn, 1) := by decide +kernel
theorem p_Dos_openToWrite_0 {S : rz_S} {K : Int32 → rz_S → Prop} {a1 : Nat} (ha1 : chP a1) (w : rz_ev mDirectory_rewind [.ref 46] S (rz_v (fun Sq1 => rz_ev mDirectory_find [.ref 46, .int 1, .ref 42] Sq1 (rz_i (fun xq2 Sq2 => ((xq2 = 0 → ((Sq2.2 46 5 = 0 → rz mDos_openToWrite 80 [(0, .ref 39), (1, .ref a1), (2, .int xq2)] [] Sq2 (rz_i K)) ∧ (¬ Sq2.2 46 5 = 0 → ((Sq2.2 39 9 = 0 → rz_ev mStatus_set [.ref 3, .int 63, .int 0, .int 0] Sq2 (rz_i (fun xq10 Sq10 => K xq10 Sq10))) ∧ (¬ Sq2.2 39 9 = 0 → rz_ev mDirectory_isClosed [.ref 46] Sq2 (rz_i (fun xq6 Sq6 => ((xq6 = 0 → rz_ev mStatus_set [.ref 3, .int 60, .int 0, .int 0] Sq6 (rz_i (fun xq9 Sq9 => K xq9 Sq9))) ∧ (¬ xq6 = 0 → rz_ev mDos_scratchFound [.ref 39] Sq6 (rz_i (fun xq8 Sq8 => rz mDos_openToWrite 80 [(0, .ref 39), (1, .ref a1), (2, .int xq8)] [] Sq8 (rz_i K)))))))))))) ∧ (¬ xq2 = 0 → rz mDos_openToWrite 80 [(0, .ref 39), (1, .ref a1), (2, .int xq2)] [] Sq2 (rz_i K)))))))) : rz mDos_openToWrite 0 [(0, .ref 39), (1, .ref a1)] [] S (rz_i K) := by
  have za1 := chZ ha1
  refine rz_pure (pc' := 1) d_Dos_openToWrite_0 rfl ?_
  refine rz_getr d_Dos_openToWrite_1 f_5_56 rfl rfl ?_
  refine rz_callVv (t := []) d_Dos_openToWrite_4 w_5_191 rfl rfl rfl w (fun Sq1 q1 => ?_)
  refine rz_pure (pc' := 8) d_Dos_openToWrite_7 rfl ?_
  refine rz_getr d_Dos_openToWrite_8 f_5_56 rfl rfl ?_
  refine rz_iconst (v := 1) d_Dos_openToWrite_11 (by decide) ?_
  refine rz_pure (pc' := 13) d_Dos_openToWrite_12 rfl ?_
  refine rz_getr d_Dos_openToWrite_13 f_5_26 rfl rfl ?_
  refine rz_callVi (t := [.ref 42, .int 1]) d_Dos_openToWrite_16 w_5_194 rfl rfl rfl q1 (fun xq2 Sq2 q2 => ?_)
  refine rz_pure (pc' := 20) (l' := [(2, .int xq2), (0, .ref 39), (1, .ref a1)]) d_Dos_openToWrite_19 rfl ?_
  refine rz_pure (pc' := 21) d_Dos_openToWrite_20 rfl ?_
  refine rz_ifne (tgt := 80) d_Dos_openToWrite_21 rfl (fun b3 => ?_) (fun b3 => ?_)
  · skip
    exact rz_pick (ks := [0, 1, 2]) (l := [(0, .ref 39), (1, .ref a1), (2, .int xq2)]) rfl rfl (by decide) rfl (q2.2 b3)
  · skip
    refine rz_pure (pc' := 25) d_Dos_openToWrite_24 rfl ?_
    refine rz_getr d_Dos_openToWrite_25 f_5_56 rfl rfl ?_
    refine rz_getiv (v := Sq2.2 46 5) d_Dos_openToWrite_28 f_5_197 rfl rfl rfl ?_
    refine rz_ifeq (tgt := 80) d_Dos_openToWrite_31 rfl (fun b4 => ?_) (fun b4 => ?_)
    · skip
      exact rz_pick (ks := [0, 1, 2]) (l := [(0, .ref 39), (1, .ref a1), (2, .int xq2)]) rfl rfl (by decide) rfl ((q2.1 b3).1 b4)
    · skip
      refine rz_pure (pc' := 35) d_Dos_openToWrite_34 rfl ?_
      refine rz_getiv (v := Sq2.2 39 9) d_Dos_openToWrite_35 f_5_171 rfl rfl rfl ?_
      refine rz_ifne (tgt := 53) d_Dos_openToWrite_38 rfl (fun b5 => ?_) (fun b5 => ?_)
      · skip
        refine rz_pure (pc' := 54) d_Dos_openToWrite_53 rfl ?_
        refine rz_getr d_Dos_openToWrite_54 f_5_56 rfl rfl ?_
        refine rz_callVi (t := []) d_Dos_openToWrite_57 w_5_200 rfl rfl rfl (((q2.1 b3).2 b4).2 b5) (fun xq6 Sq6 q6 => ?_)
        refine rz_ifne (tgt := 75) d_Dos_openToWrite_60 rfl (fun b7 => ?_) (fun b7 => ?_)
        · skip
          refine rz_pure (pc' := 76) d_Dos_openToWrite_75 rfl ?_
          refine rz_callVi (t := []) d_Dos_openToWrite_76 w_5_222 rfl rfl rfl (q6.2 b7) (fun xq8 Sq8 q8 => ?_)
          refine rz_pure (pc' := 80) (l' := [(2, .int xq8), (0, .ref 39), (1, .ref a1)]) d_Dos_openToWrite_79 rfl ?_
          exact rz_pick (ks := [0, 1, 2]) (l := [(0, .ref 39), (1, .ref a1), (2, .int xq8)]) rfl rfl (by decide) rfl q8
        · skip
          refine rz_pure (pc' := 64) d_Dos_openToWrite_63 rfl ?_
          refine rz_getr d_Dos_openToWrite_64 f_5_30 rfl rfl ?_
          refine rz_bipush (v := 60) d_Dos_openToWrite_67 (by decide) ?_
          refine rz_iconst (v := 0) d_Dos_openToWrite_69 (by decide) ?_
          refine rz_iconst (v := 0) d_Dos_openToWrite_70 (by decide) ?_
          refine rz_callVi (t := [.int 0, .int 0, .int 60]) d_Dos_openToWrite_71 w_5_116 rfl rfl rfl (q6.1 b7) (fun xq9 Sq9 q9 => ?_)
          exact rz_ireti d_Dos_openToWrite_74 rfl rfl q9
      · skip
        refine rz_pure (pc' := 42) d_Dos_openToWrite_41 rfl ?_
        refine rz_getr d_Dos_openToWrite_42 f_5_30 rfl rfl ?_
        refine rz_bipush (v := 63) d_Dos_openToWrite_45 (by decide) ?_
        refine rz_iconst (v := 0) d_Dos_openToWrite_47 (by decide) ?_
        refine rz_iconst (v := 0) d_Dos_openToWrite_48 (by decide) ?_
        refine rz_callVi (t := [.int 0, .int 0, .int 63]) d_Dos_openToWrite_49 w_5_116 rfl rfl rfl (((q2.1 b3).2 b4).1 b5) (fun xq10 Sq10 q10 => ?_)
        exact rz_ireti d_Dos_openToWrite_52 rfl rfl q10
theorem p_Dos_openToWrite_80 {S : rz_S} {K : Int32 → rz_S → Prop} {a1 : Nat} (ha1 : chP a1) {a2 : Int32} (w : ((a2 = 0 → rz_ev mDos_findRoom [.ref 39] S (rz_i (fun xq2 Sq2 => rz mDos_openToWrite 89 [(0, .ref 39), (1, .ref a1), (2, .int xq2)] [] Sq2 (rz_i K)))) ∧ (¬ a2 = 0 → rz mDos_openToWrite 89 [(0, .ref 39), (1, .ref a1), (2, .int a2)] [] S (rz_i K)))) : rz mDos_openToWrite 80 [(0, .ref 39), (1, .ref a1), (2, .int a2)] [] S (rz_i K) := by
  have za1 := chZ ha1
  refine rz_pure (pc' := 81) d_Dos_openToWrite_80 rfl ?_
  refine rz_ifne (tgt := 89) d_Dos_openToWrite_81 rfl (fun b1 => ?_) (fun b1 => ?_)
  · skip
    exact rz_pick (ks := [0, 1, 2]) (l := [(0, .ref 39), (1, .ref a1), (2, .int a2)]) rfl rfl (by decide) rfl (w.2 b1)
  · skip
    refine rz_pure (pc' := 85) d_Dos_openToWrite_84 rfl ?_
    refine rz_callVi (t := []) d_Dos_openToWrite_85 w_5_225 rfl rfl rfl (w.1 b1) (fun xq2 Sq2 q2 => ?_)
    refine rz_pure (pc' := 89) (l' := [(2, .int xq2), (0, .ref 39), (1, .ref a1)]) d_Dos_openToWrite_88 rfl ?_
    exact rz_pick (ks := [0, 1, 2]) (l := [(0, .ref 39), (1, .ref a1), (2, .int xq2)]) rfl rfl (by decide) rfl q2
theorem p_Dos_openToWrite_89 {S : rz_S} {K : Int32 → rz_S → Prop} {a1 : Nat} (ha1 : chP a1) {a2 : Int32} (w : ((a2 = 0 → rz_ev mDos_startFile [.ref 39, .ref a1] S (rz_i (fun xq2 Sq2 => K xq2 Sq2))) ∧ (¬ a2 = 0 → K a2 S))) : rz mDos_openToWrite 89 [(0, .ref 39), (1, .ref a1), (2, .int a2)] [] S (rz_i K) := by
  have za1 := chZ ha1
  refine rz_pure (pc' := 90) d_Dos_openToWrite_89 rfl ?_
  refine rz_ifne (tgt := 99) d_Dos_openToWrite_90 rfl (fun b1 => ?_) (fun b1 => ?_)
  · skip
    refine rz_pure (pc' := 100) d_Dos_openToWrite_99 rfl ?_
    exact rz_ireti d_Dos_openToWrite_100 rfl rfl (w.2 b1)
  · skip
    refine rz_pure (pc' := 94) d_Dos_openToWrite_93 rfl ?_
    refine rz_pure (pc' := 95) d_Dos_openToWrite_94 rfl ?_
    refine rz_callVi (t := [.ref a1]) d_Dos_openToWrite_95 w_5_228 rfl rfl rfl (w.1 b1) (fun xq2 Sq2 q2 => ?_)
    refine rz_pure (pc' := 99) (l' := [(2, .int xq2), (0, .ref 39), (1, .ref a1)]) d_Dos_openToWrite_98 rfl ?_
    refine rz_pure (pc' := 100) d_Dos_openToWrite_99 rfl ?_
    exact rz_ireti d_Dos_openToWrite_100 rfl rfl q2
theorem d_Dos_findRoom_0 : decode (rm_code mDos_findRoom) 0 = .ok (.aload_n 0, 1) := by decide +kernel
theorem d_Dos_findRoom_1 : decode (rm_code mDos_findRoom) 1 = .ok (.getfield 56, 3) := by decide +kernel
theorem d_Dos_findRoom_4 : decode (rm_code mDos_findRoom) 4 = .ok (.invokevirtual 191, 3) := by decide +kernel
theorem d_Dos_findRoom_7 : decode (rm_code mDos_findRoom) 7 = .ok (.aload_n 0, 1) := by decide +kernel
theorem d_Dos_findRoom_8 : decode (rm_code mDos_findRoom) 8 = .ok (.getfield 56, 3) := by decide +kernel
theorem d_Dos_findRoom_11 : decode (rm_code mDos_findRoom) 11 = .ok (.iconst 2, 1) := by decide +kernel
theorem d_Dos_findRoom_12 : decode (rm_code mDos_findRoom) 12 = .ok (.aload_n 0, 1) := by decide +kernel
theorem d_Dos_findRoom_13 : decode (rm_code mDos_findRoom) 13 = .ok (.getfield 26, 3) := by decide +kernel
theorem d_Dos_findRoom_16 : decode (rm_code mDos_findRoom) 16 = .ok (.invokevirtual 194, 3) := by decide +kernel
theorem d_Dos_findRoom_19 : decode (rm_code mDos_findRoom) 19 = .ok (.istore_n 1, 1) := by decide +kernel
theorem d_Dos_findRoom_20 : decode (rm_code mDos_findRoom) 20 = .ok (.iload_n 1, 1) := by decide +kernel
theorem d_Dos_findRoom_21 : decode (rm_code mDos_findRoom) 21 = .ok (.ifCond .ne (13), 3) := by decide +kernel
theorem d_Dos_findRoom_24 : decode (rm_code mDos_findRoom) 24 = .ok (.aload_n 0, 1) := by decide +kernel
theorem d_Dos_findRoom_25 : decode (rm_code mDos_findRoom) 25 = .ok (.getfield 56, 3) := by decide +kernel
theorem d_Dos_findRoom_28 : decode (rm_code mDos_findRoom) 28 = .ok (.getfield 197, 3) := by decide +kernel
theorem d_Dos_findRoom_31 : decode (rm_code mDos_findRoom) 31 = .ok (.ifCond .eq (5), 3) := by decide +kernel
theorem d_Dos_findRoom_34 : decode (rm_code mDos_findRoom) 34 = .ok (.iload_n 1, 1) := by decide +kernel
theorem d_Dos_findRoom_35 : decode (rm_code mDos_findRoom) 35 = .ok (.ireturn, 1) := by decide +kernel
theorem d_Dos_findRoom_36 : decode (rm_code mDos_findRoom) 36 = .ok (.aload_n 0, 1) := by decide +kernel
theorem d_Dos_findRoom_37 : decode (rm_code mDos_findRoom) 37 = .ok (.getfield 56, 3) := by decide +kernel
theorem d_Dos_findRoom_40 : decode (rm_code mDos_findRoom) 40 = .ok (.invokevirtual 249, 3) := by decide +kernel
theorem d_Dos_findRoom_43 : decode (rm_code mDos_findRoom) 43 = .ok (.ifCond .eq (15), 3) := by decide +kernel
theorem d_Dos_findRoom_46 : decode (rm_code mDos_findRoom) 46 = .ok (.aload_n 0, 1) := by decide +kernel
theorem d_Dos_findRoom_47 : decode (rm_code mDos_findRoom) 47 = .ok (.getfield 30, 3) := by decide +kernel
theorem d_Dos_findRoom_50 : decode (rm_code mDos_findRoom) 50 = .ok (.bipush (72), 2) := by decide +kernel
theorem d_Dos_findRoom_52 : decode (rm_code mDos_findRoom) 52 = .ok (.iconst 0, 1) := by decide +kernel
theorem d_Dos_findRoom_53 : decode (rm_code mDos_findRoom) 53 = .ok (.iconst 0, 1) := by decide +kernel
theorem d_Dos_findRoom_54 : decode (rm_code mDos_findRoom) 54 = .ok (.invokevirtual 116, 3) := by decide +kernel
theorem d_Dos_findRoom_57 : decode (rm_code mDos_findRoom) 57 = .ok (.ireturn, 1) := by decide +kernel
theorem d_Dos_findRoom_58 : decode (rm_code mDos_findRoom) 58 = .ok (.aload_n 0, 1) := by decide +kernel
theorem d_Dos_findRoom_59 : decode (rm_code mDos_findRoom) 59 = .ok (.getfield 47, 3) := by decide +kernel
theorem d_Dos_findRoom_62 : decode (rm_code mDos_findRoom) 62 = .ok (.invokevirtual 231, 3) := by decide +kernel
theorem d_Dos_findRoom_65 : decode (rm_code mDos_findRoom) 65 = .ok (.istore_n 1, 1) := by decide +kernel
theorem d_Dos_findRoom_66 : decode (rm_code mDos_findRoom) 66 = .ok (.iload_n 1, 1) := by decide +kernel
theorem d_Dos_findRoom_67 : decode (rm_code mDos_findRoom) 67 = .ok (.ifCond .ne (25), 3) := by decide +kernel
theorem d_Dos_findRoom_70 : decode (rm_code mDos_findRoom) 70 = .ok (.aload_n 0, 1) := by decide +kernel
theorem d_Dos_findRoom_71 : decode (rm_code mDos_findRoom) 71 = .ok (.getfield 47, 3) := by decide +kernel
theorem d_Dos_findRoom_74 : decode (rm_code mDos_findRoom) 74 = .ok (.invokevirtual 252, 3) := by decide +kernel
theorem d_Dos_findRoom_77 : decode (rm_code mDos_findRoom) 77 = .ok (.ifCond .ne (15), 3) := by decide +kernel
theorem d_Dos_findRoom_80 : decode (rm_code mDos_findRoom) 80 = .ok (.aload_n 0, 1) := by decide +kernel
theorem d_Dos_findRoom_81 : decode (rm_code mDos_findRoom) 81 = .ok (.getfield 30, 3) := by decide +kernel
theorem d_Dos_findRoom_84 : decode (rm_code mDos_findRoom) 84 = .ok (.bipush (72), 2) := by decide +kernel
theorem d_Dos_findRoom_86 : decode (rm_code mDos_findRoom) 86 = .ok (.iconst 0, 1) := by decide +kernel
theorem d_Dos_findRoom_87 : decode (rm_code mDos_findRoom) 87 = .ok (.iconst 0, 1) := by decide +kernel
theorem d_Dos_findRoom_88 : decode (rm_code mDos_findRoom) 88 = .ok (.invokevirtual 116, 3) := by decide +kernel
theorem d_Dos_findRoom_91 : decode (rm_code mDos_findRoom) 91 = .ok (.ireturn, 1) := by decide +kernel
theorem d_Dos_findRoom_92 : decode (rm_code mDos_findRoom) 92 = .ok (.iload_n 1, 1) := by decide +kernel
theorem d_Dos_findRoom_93 : decode (rm_code mDos_findRoom) 93 = .ok (.ifCond .ne (11), 3) := by decide +kernel
theorem d_Dos_findRoom_96 : decode (rm_code mDos_findRoom) 96 = .ok (.aload_n 0, 1) := by decide +kernel
theorem d_Dos_findRoom_97 : decode (rm_code mDos_findRoom) 97 = .ok (.getfield 47, 3) := by decide +kernel
theorem d_Dos_findRoom_100 : decode (rm_code mDos_findRoom) 100 = .ok (.invokevirtual 239, 3) := by decide +kernel
theorem d_Dos_findRoom_103 : decode (rm_code mDos_findRoom) 103 = .ok (.istore_n 1, 1) := by decide +kernel
theorem d_Dos_findRoom_104 : decode (rm_code mDos_findRoom) 104 = .ok (.iload_n 1, 1) := by decide +kernel
theorem d_Dos_findRoom_105 : decode (rm_code mDos_findRoom) 105 = .ok (.ifCond .ne (25), 3) := by decide +kernel
theorem d_Dos_findRoom_108 : decode (rm_code mDos_findRoom) 108 = .ok (.aload_n 0, 1) := by decide +kernel
theorem d_Dos_findRoom_109 : decode (rm_code mDos_findRoom) 109 = .ok (.getfield 56, 3) := by decide +kernel
theorem d_Dos_findRoom_112 : decode (rm_code mDos_findRoom) 112 = .ok (.aload_n 0, 1) := by decide +kernel
theorem d_Dos_findRoom_113 : decode (rm_code mDos_findRoom) 113 = .ok (.getfield 47, 3) := by decide +kernel
theorem d_Dos_findRoom_116 : decode (rm_code mDos_findRoom) 116 = .ok (.getfield 255, 3) := by decide +kernel
theorem d_Dos_findRoom_119 : decode (rm_code mDos_findRoom) 119 = .ok (.aload_n 0, 1) := by decide +kernel
theorem d_Dos_findRoom_120 : decode (rm_code mDos_findRoom) 120 = .ok (.getfield 47, 3) := by decide +kernel
theorem d_Dos_findRoom_123 : decode (rm_code mDos_findRoom) 123 = .ok (.getfield 256, 3) := by decide +kernel
theorem d_Dos_findRoom_126 : decode (rm_code mDos_findRoom) 126 = .ok (.invokevirtual 257, 3) := by decide +kernel
theorem d_Dos_findRoom_129 : decode (rm_code mDos_findRoom) 129 = .ok (.istore_n 1, 1) := by decide +kernel
theorem d_Dos_findRoom_130 : decode (rm_code mDos_findRoom) 130 = .ok (.iload_n 1, 1) := by decide +kernel
theorem d_Dos_findRoom_131 : decode (rm_code mDos_findRoom) 131 = .ok (.ifCond .eq (7), 3) := by decide +kernel
theorem d_Dos_findRoom_134 : decode (rm_code mDos_findRoom) 134 = .ok (.iload_n 1, 1) := by decide +kernel
theorem d_Dos_findRoom_135 : decode (rm_code mDos_findRoom) 135 = .ok (.goto (24), 3) := by decide +kernel
theorem d_Dos_findRoom_138 : decode (rm_code mDos_findRoom) 138 = .ok (.aload_n 0, 1) := by decide +kernel
theorem d_Dos_findRoom_139 : decode (rm_code mDos_findRoom) 139 = .ok (.getfield 56, 3) := by decide +kernel
theorem d_Dos_findRoom_142 : decode (rm_code mDos_findRoom) 142 = .ok (.aload_n 0, 1) := by decide +kernel
theorem d_Dos_findRoom_143 : decode (rm_code mDos_findRoom) 143 = .ok (.getfield 47, 3) := by decide +kernel
theorem d_Dos_findRoom_146 : decode (rm_code mDos_findRoom) 146 = .ok (.getfield 255, 3) := by decide +kernel
theorem d_Dos_findRoom_149 : decode (rm_code mDos_findRoom) 149 = .ok (.aload_n 0, 1) := by decide +kernel
theorem d_Dos_findRoom_150 : decode (rm_code mDos_findRoom) 150 = .ok (.getfield 47, 3) := by decide +kernel
theorem d_Dos_findRoom_153 : decode (rm_code mDos_findRoom) 153 = .ok (.getfield 256, 3) := by decide +kernel
theorem d_Dos_findRoom_156 : decode (rm_code mDos_findRoom) 156 = .ok (.invokevirtual 260, 3) := by decide +kernel
theorem d_Dos_findRoom_159 : decode (rm_code mDos_findRoom) 159 = .ok (.ireturn, 1) := by decide +kernel
theorem p_Dos_findRoom_0 {S : rz_S} {K : Int32 → rz_S → Prop} (w : rz_ev mDirectory_rewind [.ref 46] S (rz_v (fun Sq1 => rz_ev mDirectory_find [.ref 46, .int 2, .ref 42] Sq1 (rz_i (fun xq2 Sq2 => ((xq2 = 0 → ((Sq2.2 46 5 = 0 → rz_ev mDirectory_isFull [.ref 46] Sq2 (rz_i (fun xq5 Sq5 => ((xq5 = 0 → rz_ev mBlockMap_load [.ref 44] Sq5 (rz_i (fun xq7 Sq7 => ((xq7 = 0 → rz_ev mBlockMap_pickForDirectory [.ref 44] Sq7 (rz_i (fun xq9 Sq9 => ((xq9 = 0 → rz_ev mStatus_set [.ref 3, .int 72, .int 0, .int 0] Sq9 (rz_i (fun xq11 Sq11 => K xq11 Sq11))) ∧ (¬ xq9 = 0 → rz mDos_findRoom 92 [(0, .ref 39), (1, .int xq7)] [] Sq9 (rz_i K)))))) ∧ (¬ xq7 = 0 → rz mDos_findRoom 92 [(0, .ref 39), (1, .int xq7)] [] Sq7 (rz_i K)))))) ∧ (¬ xq5 = 0 → rz_ev mStatus_set [.ref 3, .int 72, .int 0, .int 0] Sq5 (rz_i (fun xq12 Sq12 => K xq12 Sq12))))))) ∧ (¬ Sq2.2 46 5 = 0 → K xq2 Sq2))) ∧ (¬ xq2 = 0 → K xq2 Sq2))))))) : rz mDos_findRoom 0 [(0, .ref 39)] [] S (rz_i K) := by
  refine rz_pure (pc' := 1) d_Dos_findRoom_0 rfl ?_
  refine rz_getr d_Dos_findRoom_1 f_5_56 rfl rfl ?_
  refine rz_callVv (t := []) d_Dos_findRoom_4 w_5_191 rfl rfl rfl w (fun Sq1 q1 => ?_)
  refine rz_pure (pc' := 8) d_Dos_findRoom_7 rfl ?_
  refine rz_getr d_Dos_findRoom_8 f_5_56 rfl rfl ?_
  refine rz_iconst (v := 2) d_Dos_findRoom_11 (by decide) ?_
  refine rz_pure (pc' := 13) d_Dos_findRoom_12 rfl ?_
  refine rz_getr d_Dos_findRoom_13 f_5_26 rfl rfl ?_
  refine rz_callVi (t := [.ref 42, .int 2]) d_Dos_findRoom_16 w_5_194 rfl rfl rfl q1 (fun xq2 Sq2 q2 => ?_)
  refine rz_pure (pc' := 20) (l' := [(1, .int xq2), (0, .ref 39)]) d_Dos_findRoom_19 rfl ?_
  refine rz_pure (pc' := 21) d_Dos_findRoom_20 rfl ?_
  refine rz_ifne (tgt := 34) d_Dos_findRoom_21 rfl (fun b3 => ?_) (fun b3 => ?_)
  · skip
    refine rz_pure (pc' := 35) d_Dos_findRoom_34 rfl ?_
    exact rz_ireti d_Dos_findRoom_35 rfl rfl (q2.2 b3)
  · skip
    refine rz_pure (pc' := 25) d_Dos_findRoom_24 rfl ?_
    refine rz_getr d_Dos_findRoom_25 f_5_56 rfl rfl ?_
    refine rz_getiv (v := Sq2.2 46 5) d_Dos_findRoom_28 f_5_197 rfl rfl rfl ?_
    refine rz_ifeq (tgt := 36) d_Dos_findRoom_31 rfl (fun b4 => ?_) (fun b4 => ?_)
    · skip
      refine rz_pure (pc' := 37) d_Dos_findRoom_36 rfl ?_
      refine rz_getr d_Dos_findRoom_37 f_5_56 rfl rfl ?_
      refine rz_callVi (t := []) d_Dos_findRoom_40 w_5_249 rfl rfl rfl ((q2.1 b3).1 b4) (fun xq5 Sq5 q5 => ?_)
      refine rz_ifeq (tgt := 58) d_Dos_findRoom_43 rfl (fun b6 => ?_) (fun b6 => ?_)
      · skip
        refine rz_pure (pc' := 59) d_Dos_findRoom_58 rfl ?_
        refine rz_getr d_Dos_findRoom_59 f_5_47 rfl rfl ?_
        refine rz_callVi (t := []) d_Dos_findRoom_62 w_5_231 rfl rfl rfl (q5.1 b6) (fun xq7 Sq7 q7 => ?_)
        refine rz_pure (pc' := 66) (l' := [(1, .int xq7), (0, .ref 39)]) d_Dos_findRoom_65 rfl ?_
        refine rz_pure (pc' := 67) d_Dos_findRoom_66 rfl ?_
        refine rz_ifne (tgt := 92) d_Dos_findRoom_67 rfl (fun b8 => ?_) (fun b8 => ?_)
        · skip
          exact rz_pick (ks := [0, 1]) (l := [(0, .ref 39), (1, .int xq7)]) rfl rfl (by decide) rfl (q7.2 b8)
        · skip
          refine rz_pure (pc' := 71) d_Dos_findRoom_70 rfl ?_
          refine rz_getr d_Dos_findRoom_71 f_5_47 rfl rfl ?_
          refine rz_callVi (t := []) d_Dos_findRoom_74 w_5_252 rfl rfl rfl (q7.1 b8) (fun xq9 Sq9 q9 => ?_)
          refine rz_ifne (tgt := 92) d_Dos_findRoom_77 rfl (fun b10 => ?_) (fun b10 => ?_)
          · skip
            exact rz_pick (ks := [0, 1]) (l := [(0, .ref 39), (1, .int xq7)]) rfl rfl (by decide) rfl (q9.2 b10)
          · skip
            refine rz_pure (pc' := 81) d_Dos_findRoom_80 rfl ?_
            refine rz_getr d_Dos_findRoom_81 f_5_30 rfl rfl ?_
            refine rz_bipush (v := 72) d_Dos_findRoom_84 (by decide) ?_
            refine rz_iconst (v := 0) d_Dos_findRoom_86 (by decide) ?_
            refine rz_iconst (v := 0) d_Dos_findRoom_87 (by decide) ?_
            refine rz_callVi (t := [.int 0, .int 0, .int 72]) d_Dos_findRoom_88 w_5_116 rfl rfl rfl (q9.1 b10) (fun xq11 Sq11 q11 => ?_)
            exact rz_ireti d_Dos_findRoom_91 rfl rfl q11
      · skip
        refine rz_pure (pc' := 47) d_Dos_findRoom_46 rfl ?_
        refine rz_getr d_Dos_findRoom_47 f_5_30 rfl rfl ?_
        refine rz_bipush (v := 72) d_Dos_findRoom_50 (by decide) ?_
        refine rz_iconst (v := 0) d_Dos_findRoom_52 (by decide) ?_
        refine rz_iconst (v := 0) d_Dos_findRoom_53 (by decide) ?_
        refine rz_callVi (t := [.int 0, .int 0, .int 72]) d_Dos_findRoom_54 w_5_116 rfl rfl rfl (q5.2 b6) (fun xq12 Sq12 q12 => ?_)
        exact rz_ireti d_Dos_findRoom_57 rfl rfl q12
    · skip
      refine rz_pure (pc' := 35) d_Dos_findRoom_34 rfl ?_
      exact rz_ireti d_Dos_findRoom_35 rfl rfl ((q2.1 b3).2 b4)
theorem p_Dos_findRoom_92 {S : rz_S} {K : Int32 → rz_S → Prop} {a1 : Int32} (w : ((a1 = 0 → rz_ev mBlockMap_store [.ref 44] S (rz_i (fun xq2 Sq2 => rz mDos_findRoom 104 [(0, .ref 39), (1, .int xq2)] [] Sq2 (rz_i K)))) ∧ (¬ a1 = 0 → rz mDos_findRoom 104 [(0, .ref 39), (1, .int a1)] [] S (rz_i K)))) : rz mDos_findRoom 92 [(0, .ref 39), (1, .int a1)] [] S (rz_i K) := by
  refine rz_pure (pc' := 93) d_Dos_findRoom_92 rfl ?_
  refine rz_ifne (tgt := 104) d_Dos_findRoom_93 rfl (fun b1 => ?_) (fun b1 => ?_)
  · skip
    exact rz_pick (ks := [0, 1]) (l := [(0, .ref 39), (1, .int a1)]) rfl rfl (by decide) rfl (w.2 b1)
  · skip
    refine rz_pure (pc' := 97) d_Dos_findRoom_96 rfl ?_
    refine rz_getr d_Dos_findRoom_97 f_5_47 rfl rfl ?_
    refine rz_callVi (t := []) d_Dos_findRoom_100 w_5_239 rfl rfl rfl (w.1 b1) (fun xq2 Sq2 q2 => ?_)
    refine rz_pure (pc' := 104) (l' := [(1, .int xq2), (0, .ref 39)]) d_Dos_findRoom_103 rfl ?_
    exact rz_pick (ks := [0, 1]) (l := [(0, .ref 39), (1, .int xq2)]) rfl rfl (by decide) rfl q2
theorem p_Dos_findRoom_104 {S : rz_S} {K : Int32 → rz_S → Prop} {a1 : Int32} (w : ((a1 = 0 → rz_ev mDirectory_writeEmpty [.ref 46, .int (S.2 44 1), .int (S.2 44 2)] S (rz_i (fun xq2 Sq2 => rz mDos_findRoom 130 [(0, .ref 39), (1, .int xq2)] [] Sq2 (rz_i K)))) ∧ (¬ a1 = 0 → rz mDos_findRoom 130 [(0, .ref 39), (1, .int a1)] [] S (rz_i K)))) : rz mDos_findRoom 104 [(0, .ref 39), (1, .int a1)] [] S (rz_i K) := by
  refine rz_pure (pc' := 105) d_Dos_findRoom_104 rfl ?_
  refine rz_ifne (tgt := 130) d_Dos_findRoom_105 rfl (fun b1 => ?_) (fun b1 => ?_)
  · skip
    exact rz_pick (ks := [0, 1]) (l := [(0, .ref 39), (1, .int a1)]) rfl rfl (by decide) rfl (w.2 b1)
  · skip
    refine rz_pure (pc' := 109) d_Dos_findRoom_108 rfl ?_
    refine rz_getr d_Dos_findRoom_109 f_5_56 rfl rfl ?_
    refine rz_pure (pc' := 113) d_Dos_findRoom_112 rfl ?_
    refine rz_getr d_Dos_findRoom_113 f_5_47 rfl rfl ?_
    refine rz_getiv (v := S.2 44 1) d_Dos_findRoom_116 f_5_255 rfl rfl rfl ?_
    refine rz_pure (pc' := 120) d_Dos_findRoom_119 rfl ?_
    refine rz_getr d_Dos_findRoom_120 f_5_47 rfl rfl ?_
    refine rz_getiv (v := S.2 44 2) d_Dos_findRoom_123 f_5_256 rfl rfl rfl ?_
    refine rz_callVi (t := [.int (S.2 44 2), .int (S.2 44 1)]) d_Dos_findRoom_126 w_5_257 rfl rfl rfl (w.1 b1) (fun xq2 Sq2 q2 => ?_)
    refine rz_pure (pc' := 130) (l' := [(1, .int xq2), (0, .ref 39)]) d_Dos_findRoom_129 rfl ?_
    exact rz_pick (ks := [0, 1]) (l := [(0, .ref 39), (1, .int xq2)]) rfl rfl (by decide) rfl q2
theorem p_Dos_findRoom_130 {S : rz_S} {K : Int32 → rz_S → Prop} {a1 : Int32} (w : ((a1 = 0 → rz_ev mDirectory_lengthen [.ref 46, .int (S.2 44 1), .int (S.2 44 2)] S (rz_i (fun xq2 Sq2 => K xq2 Sq2))) ∧ (¬ a1 = 0 → K a1 S))) : rz mDos_findRoom 130 [(0, .ref 39), (1, .int a1)] [] S (rz_i K) := by
  refine rz_pure (pc' := 131) d_Dos_findRoom_130 rfl ?_
  refine rz_ifeq (tgt := 138) d_Dos_findRoom_131 rfl (fun b1 => ?_) (fun b1 => ?_)
  · skip
    refine rz_pure (pc' := 139) d_Dos_findRoom_138 rfl ?_
    refine rz_getr d_Dos_findRoom_139 f_5_56 rfl rfl ?_
    refine rz_pure (pc' := 143) d_Dos_findRoom_142 rfl ?_
    refine rz_getr d_Dos_findRoom_143 f_5_47 rfl rfl ?_
    refine rz_getiv (v := S.2 44 1) d_Dos_findRoom_146 f_5_255 rfl rfl rfl ?_
    refine rz_pure (pc' := 150) d_Dos_findRoom_149 rfl ?_
    refine rz_getr d_Dos_findRoom_150 f_5_47 rfl rfl ?_
    refine rz_getiv (v := S.2 44 2) d_Dos_findRoom_153 f_5_256 rfl rfl rfl ?_
    refine rz_callVi (t := [.int (S.2 44 2), .int (S.2 44 1)]) d_Dos_findRoom_156 w_5_260 rfl rfl rfl (w.1 b1) (fun xq2 Sq2 q2 => ?_)
    exact rz_ireti d_Dos_findRoom_159 rfl rfl q2
  · skip
    refine rz_pure (pc' := 135) d_Dos_findRoom_134 rfl ?_
    refine rz_pure (pc' := 159) d_Dos_findRoom_135 rfl ?_
    exact rz_ireti d_Dos_findRoom_159 rfl rfl (w.2 b1)
theorem d_Directory_lengthen_0 : decode (rm_code mDirectory_lengthen) 0 = .ok (.aload_n 0, 1) := by decide +kernel
theorem d_Directory_lengthen_1 : decode (rm_code mDirectory_lengthen) 1 = .ok (.getfield 15, 3) := by decide +kernel
theorem d_Directory_lengthen_4 : decode (rm_code mDirectory_lengthen) 4 = .ok (.aload_n 0, 1) := by decide +kernel
theorem d_Directory_lengthen_5 : decode (rm_code mDirectory_lengthen) 5 = .ok (.getfield 27, 3) := by decide +kernel
theorem d_Directory_lengthen_8 : decode (rm_code mDirectory_lengthen) 8 = .ok (.aload_n 0, 1) := by decide +kernel
theorem d_Directory_lengthen_9 : decode (rm_code mDirectory_lengthen) 9 = .ok (.getfield 31, 3) := by decide +kernel
theorem d_Directory_lengthen_12 : decode (rm_code mDirectory_lengthen) 12 = .ok (.aload_n 0, 1) := by decide +kernel
theorem d_Directory_lengthen_13 : decode (rm_code mDirectory_lengthen) 13 = .ok (.getfield 9, 3) := by decide +kernel
theorem d_Directory_lengthen_16 : decode (rm_code mDirectory_lengthen) 16 = .ok (.invokevirtual 47, 3) := by decide +kernel
theorem d_Directory_lengthen_19 : decode (rm_code mDirectory_lengthen) 19 = .ok (.istore_n 3, 1) := by decide +kernel
theorem d_Directory_lengthen_20 : decode (rm_code mDirectory_lengthen) 20 = .ok (.iload_n 3, 1) := by decide +kernel
theorem d_Directory_lengthen_21 : decode (rm_code mDirectory_lengthen) 21 = .ok (.ifCond .ne (37), 3) := by decide +kernel
theorem d_Directory_lengthen_24 : decode (rm_code mDirectory_lengthen) 24 = .ok (.aload_n 0, 1) := by decide +kernel
theorem d_Directory_lengthen_25 : decode (rm_code mDirectory_lengthen) 25 = .ok (.getfield 9, 3) := by decide +kernel
theorem d_Directory_lengthen_28 : decode (rm_code mDirectory_lengthen) 28 = .ok (.iconst 0, 1) := by decide +kernel
theorem d_Directory_lengthen_29 : decode (rm_code mDirectory_lengthen) 29 = .ok (.iload_n 1, 1) := by decide +kernel
theorem d_Directory_lengthen_30 : decode (rm_code mDirectory_lengthen) 30 = .ok (.iastore, 1) := by decide +kernel
theorem d_Directory_lengthen_31 : decode (rm_code mDirectory_lengthen) 31 = .ok (.aload_n 0, 1) := by decide +kernel
theorem d_Directory_lengthen_32 : decode (rm_code mDirectory_lengthen) 32 = .ok (.getfield 9, 3) := by decide +kernel
theorem d_Directory_lengthen_35 : decode (rm_code mDirectory_lengthen) 35 = .ok (.iconst 1, 1) := by decide +kernel
theorem d_Directory_lengthen_36 : decode (rm_code mDirectory_lengthen) 36 = .ok (.iload_n 2, 1) := by decide +kernel
theorem d_Directory_lengthen_37 : decode (rm_code mDirectory_lengthen) 37 = .ok (.iastore, 1) := by decide +kernel
theorem d_Directory_lengthen_38 : decode (rm_code mDirectory_lengthen) 38 = .ok (.aload_n 0, 1) := by decide +kernel
theorem d_Directory_lengthen_39 : decode (rm_code mDirectory_lengthen) 39 = .ok (.getfield 15, 3) := by decide +kernel
theorem d_Directory_lengthen_42 : decode (rm_code mDirectory_lengthen) 42 = .ok (.aload_n 0, 1) := by decide +kernel
theorem d_Directory_lengthen_43 : decode (rm_code mDirectory_lengthen) 43 = .ok (.getfield 27, 3) := by decide +kernel
theorem d_Directory_lengthen_46 : decode (rm_code mDirectory_lengthen) 46 = .ok (.aload_n 0, 1) := by decide +kernel
theorem d_Directory_lengthen_47 : decode (rm_code mDirectory_lengthen) 47 = .ok (.getfield 31, 3) := by decide +kernel
theorem d_Directory_lengthen_50 : decode (rm_code mDirectory_lengthen) 50 = .ok (.aload_n 0, 1) := by decide +kernel
theorem d_Directory_lengthen_51 : decode (rm_code mDirectory_lengthen) 51 = .ok (.getfield 9, 3) := by decide +kernel
theorem d_Directory_lengthen_54 : decode (rm_code mDirectory_lengthen) 54 = .ok (.invokevirtual 88, 3) := by decide +kernel
theorem d_Directory_lengthen_57 : decode (rm_code mDirectory_lengthen) 57 = .ok (.istore_n 3, 1) := by decide +kernel
theorem d_Directory_lengthen_58 : decode (rm_code mDirectory_lengthen) 58 = .ok (.aload_n 0, 1) := by decide +kernel
theorem d_Directory_lengthen_59 : decode (rm_code mDirectory_lengthen) 59 = .ok (.iload_n 1, 1) := by decide +kernel
theorem d_Directory_lengthen_60 : decode (rm_code mDirectory_lengthen) 60 = .ok (.iload_n 2, 1) := by decide +kernel
theorem d_Directory_lengthen_61 : decode (rm_code mDirectory_lengthen) 61 = .ok (.aload_n 0, 1) := by decide +kernel
theorem d_Directory_lengthen_62 : decode (rm_code mDirectory_lengthen) 62 = .ok (.getfield 34, 3) := by decide +kernel
theorem d_Directory_lengthen_65 : decode (rm_code mDirectory_lengthen) 65 = .ok (.iconst 1, 1) := by decide +kernel
theorem d_Directory_lengthen_66 : decode (rm_code mDirectory_lengthen) 66 = .ok (.iadd, 1) := by decide +kernel
theorem d_Directory_lengthen_67 : decode (rm_code mDirectory_lengthen) 67 = .ok (.iconst 0, 1) := by decide +kernel
theorem d_Directory_lengthen_68 : decode (rm_code mDirectory_lengthen) 68 = .ok (.invokevirtual 23, 3) := by decide +kernel
theorem d_Directory_lengthen_71 : decode (rm_code mDirectory_lengthen) 71 = .ok (.iload_n 3, 1) := by decide +kernel
theorem d_Directory_lengthen_72 : decode (rm_code mDirectory_lengthen) 72 = .ok (.ireturn, 1) := by decide +kernel
theorem p_Directory_lengthen_0 {S : rz_S} {K : Int32 → rz_S → Prop} {a1 : Int32} {a2 : Int32} (w : rz_ev mDisk_readBlock [.ref 6, .int (S.2 46 1), .int (S.2 46 2), .ref 47] S (rz_i (fun xq1 Sq1 => ((xq1 = 0 → rz_ev mDisk_writeBlock [.ref 6, .int (Sq1.2 46 1), .int (Sq1.2 46 2), .ref 47] (rz_fA (rz_fA Sq1 47 (upd (Sq1.1 47) 0 a1)) 47 (upd (upd (Sq1.1 47) 0 a1) 1 a2)) (rz_i (fun xq3 Sq3 => rz mDirectory_lengthen 58 [(0, .ref 46), (1, .int a1), (2, .int a2), (3, .int xq3)] [] Sq3 (rz_i K)))) ∧ (¬ xq1 = 0 → rz mDirectory_lengthen 58 [(0, .ref 46), (1, .int a1), (2, .int a2), (3, .int xq1)] [] Sq1 (rz_i K)))))) : rz mDirectory_lengthen 0 [(0, .ref 46), (1, .int a1), (2, .int a2)] [] S (rz_i K) := by
  refine rz_pure (pc' := 1) d_Directory_lengthen_0 rfl ?_
  refine rz_getr d_Directory_lengthen_1 f_3_15 rfl rfl ?_
  refine rz_pure (pc' := 5) d_Directory_lengthen_4 rfl ?_
  refine rz_getiv (v := S.2 46 1) d_Directory_lengthen_5 f_3_27 rfl rfl rfl ?_
  refine rz_pure (pc' := 9) d_Directory_lengthen_8 rfl ?_
  refine rz_getiv (v := S.2 46 2) d_Directory_lengthen_9 f_3_31 rfl rfl rfl ?_
  refine rz_pure (pc' := 13) d_Directory_lengthen_12 rfl ?_
  refine rz_getr d_Directory_lengthen_13 f_3_9 rfl rfl ?_
  refine rz_callVi (t := [.ref 47, .int (S.2 46 2), .int (S.2 46 1)]) d_Directory_lengthen_16 w_3_47 rfl rfl rfl w (fun xq1 Sq1 q1 => ?_)
  refine rz_pure (pc' := 20) (l' := [(3, .int xq1), (0, .ref 46), (1, .int a1), (2, .int a2)]) d_Directory_lengthen_19 rfl ?_
  refine rz_pure (pc' := 21) d_Directory_lengthen_20 rfl ?_
  refine rz_ifne (tgt := 58) d_Directory_lengthen_21 rfl (fun b2 => ?_) (fun b2 => ?_)
  · skip
    exact rz_pick (ks := [0, 1, 2, 3]) (l := [(0, .ref 46), (1, .int a1), (2, .int a2), (3, .int xq1)]) rfl rfl (by decide) rfl (q1.2 b2)
  · skip
    refine rz_pure (pc' := 25) d_Directory_lengthen_24 rfl ?_
    refine rz_getr d_Directory_lengthen_25 f_3_9 rfl rfl ?_
    refine rz_iconst (v := 0) d_Directory_lengthen_28 (by decide) ?_
    refine rz_pure (pc' := 30) d_Directory_lengthen_29 rfl ?_
    refine rz_iastv (F := Sq1.1 47) (i := 0) d_Directory_lengthen_30 rfl (by decide) rfl (by decide) ?_
    refine rz_pure (pc' := 32) d_Directory_lengthen_31 rfl ?_
    refine rz_getr d_Directory_lengthen_32 f_3_9 rfl rfl ?_
    refine rz_iconst (v := 1) d_Directory_lengthen_35 (by decide) ?_
    refine rz_pure (pc' := 37) d_Directory_lengthen_36 rfl ?_
    refine rz_iastv (F := upd (Sq1.1 47) 0 a1) (i := 1) d_Directory_lengthen_37 rfl (by decide) rz_fA_s (by decide) ?_
    refine rz_pure (pc' := 39) d_Directory_lengthen_38 rfl ?_
    refine rz_getr d_Directory_lengthen_39 f_3_15 rfl rfl ?_
    refine rz_pure (pc' := 43) d_Directory_lengthen_42 rfl ?_
    refine rz_getiv (v := Sq1.2 46 1) d_Directory_lengthen_43 f_3_27 rfl rfl rfl ?_
    refine rz_pure (pc' := 47) d_Directory_lengthen_46 rfl ?_
    refine rz_getiv (v := Sq1.2 46 2) d_Directory_lengthen_47 f_3_31 rfl rfl rfl ?_
    refine rz_pure (pc' := 51) d_Directory_lengthen_50 rfl ?_
    refine rz_getr d_Directory_lengthen_51 f_3_9 rfl rfl ?_
    refine rz_callVi (t := [.ref 47, .int (Sq1.2 46 2), .int (Sq1.2 46 1)]) d_Directory_lengthen_54 w_3_88 rfl rfl rfl (q1.1 b2) (fun xq3 Sq3 q3 => ?_)
    refine rz_pure (pc' := 58) (l' := [(3, .int xq3), (0, .ref 46), (1, .int a1), (2, .int a2)]) d_Directory_lengthen_57 rfl ?_
    exact rz_pick (ks := [0, 1, 2, 3]) (l := [(0, .ref 46), (1, .int a1), (2, .int a2), (3, .int xq3)]) rfl rfl (by decide) rfl q3
theorem p_Directory_lengthen_58 {S : rz_S} {K : Int32 → rz_S → Prop} {a1 : Int32} {a2 : Int32} {a3 : Int32} (w : rz_ev mDirectory_goTo [.ref 46, .int a1, .int a2, .int ((S.2 46 3) + 1), .int 0] S (rz_v (fun Sq1 => K a3 Sq1))) : rz mDirectory_lengthen 58 [(0, .ref 46), (1, .int a1), (2, .int a2), (3, .int a3)] [] S (rz_i K) := by
  refine rz_pure (pc' := 59) d_Directory_lengthen_58 rfl ?_
  refine rz_pure (pc' := 60) d_Directory_lengthen_59 rfl ?_
  refine rz_pure (pc' := 61) d_Directory_lengthen_60 rfl ?_
  refine rz_pure (pc' := 62) d_Directory_lengthen_61 rfl ?_
  refine rz_getiv (v := S.2 46 3) d_Directory_lengthen_62 f_3_34 rfl rfl rfl ?_
  refine rz_iconst (v := 1) d_Directory_lengthen_65 (by decide) ?_
  refine rz_iadd d_Directory_lengthen_66 ?_
  refine rz_iconst (v := 0) d_Directory_lengthen_67 (by decide) ?_
  refine rz_callVv (t := [.int 0, .int ((S.2 46 3) + 1), .int a2, .int a1]) d_Directory_lengthen_68 w_3_23 rfl rfl rfl w (fun Sq1 q1 => ?_)
  refine rz_pure (pc' := 72) d_Directory_lengthen_71 rfl ?_
  exact rz_ireti d_Directory_lengthen_72 rfl rfl q1
theorem d_Dos_startFile_0 : decode (rm_code mDos_startFile) 0 = .ok (.aload_n 0, 1) := by decide +kernel
theorem d_Dos_startFile_1 : decode (rm_code mDos_startFile) 1 = .ok (.getfield 47, 3) := by decide +kernel
theorem d_Dos_startFile_4 : decode (rm_code mDos_startFile) 4 = .ok (.invokevirtual 231, 3) := by decide +kernel
theorem d_Dos_startFile_7 : decode (rm_code mDos_startFile) 7 = .ok (.istore_n 2, 1) := by decide +kernel
theorem d_Dos_startFile_8 : decode (rm_code mDos_startFile) 8 = .ok (.iload_n 2, 1) := by decide +kernel
theorem d_Dos_startFile_9 : decode (rm_code mDos_startFile) 9 = .ok (.ifCond .ne (25), 3) := by decide +kernel
theorem d_Dos_startFile_12 : decode (rm_code mDos_startFile) 12 = .ok (.aload_n 0, 1) := by decide +kernel
theorem d_Dos_startFile_13 : decode (rm_code mDos_startFile) 13 = .ok (.getfield 47, 3) := by decide +kernel
theorem d_Dos_startFile_16 : decode (rm_code mDos_startFile) 16 = .ok (.invokevirtual 263, 3) := by decide +kernel
theorem d_Dos_startFile_19 : decode (rm_code mDos_startFile) 19 = .ok (.ifCond .ne (15), 3) := by decide +kernel
theorem d_Dos_startFile_22 : decode (rm_code mDos_startFile) 22 = .ok (.aload_n 0, 1) := by decide +kernel
theorem d_Dos_startFile_23 : decode (rm_code mDos_startFile) 23 = .ok (.getfield 30, 3) := by decide +kernel
theorem d_Dos_startFile_26 : decode (rm_code mDos_startFile) 26 = .ok (.bipush (72), 2) := by decide +kernel
theorem d_Dos_startFile_28 : decode (rm_code mDos_startFile) 28 = .ok (.iconst 0, 1) := by decide +kernel
theorem d_Dos_startFile_29 : decode (rm_code mDos_startFile) 29 = .ok (.iconst 0, 1) := by decide +kernel
theorem d_Dos_startFile_30 : decode (rm_code mDos_startFile) 30 = .ok (.invokevirtual 116, 3) := by decide +kernel
theorem d_Dos_startFile_33 : decode (rm_code mDos_startFile) 33 = .ok (.ireturn, 1) := by decide +kernel
theorem d_Dos_startFile_34 : decode (rm_code mDos_startFile) 34 = .ok (.iload_n 2, 1) := by decide +kernel
theorem d_Dos_startFile_35 : decode (rm_code mDos_startFile) 35 = .ok (.ifCond .ne (11), 3) := by decide +kernel
theorem d_Dos_startFile_38 : decode (rm_code mDos_startFile) 38 = .ok (.aload_n 0, 1) := by decide +kernel
theorem d_Dos_startFile_39 : decode (rm_code mDos_startFile) 39 = .ok (.getfield 47, 3) := by decide +kernel
theorem d_Dos_startFile_42 : decode (rm_code mDos_startFile) 42 = .ok (.invokevirtual 239, 3) := by decide +kernel
theorem d_Dos_startFile_45 : decode (rm_code mDos_startFile) 45 = .ok (.istore_n 2, 1) := by decide +kernel
theorem d_Dos_startFile_46 : decode (rm_code mDos_startFile) 46 = .ok (.iload_n 2, 1) := by decide +kernel
theorem d_Dos_startFile_47 : decode (rm_code mDos_startFile) 47 = .ok (.ifCond .ne (23), 3) := by decide +kernel
theorem d_Dos_startFile_50 : decode (rm_code mDos_startFile) 50 = .ok (.aload_n 0, 1) := by decide +kernel
theorem d_Dos_startFile_51 : decode (rm_code mDos_startFile) 51 = .ok (.getfield 56, 3) := by decide +kernel
theorem d_Dos_startFile_54 : decode (rm_code mDos_startFile) 54 = .ok (.aload_n 0, 1) := by decide +kernel
theorem d_Dos_startFile_55 : decode (rm_code mDos_startFile) 55 = .ok (.getfield 182, 3) := by decide +kernel
theorem d_Dos_startFile_58 : decode (rm_code mDos_startFile) 58 = .ok (.aload_n 0, 1) := by decide +kernel
theorem d_Dos_startFile_59 : decode (rm_code mDos_startFile) 59 = .ok (.getfield 47, 3) := by decide +kernel
theorem d_Dos_startFile_62 : decode (rm_code mDos_startFile) 62 = .ok (.aload_n 0, 1) := by decide +kernel
theorem d_Dos_startFile_63 : decode (rm_code mDos_startFile) 63 = .ok (.getfield 26, 3) := by decide +kernel
theorem d_Dos_startFile_66 : decode (rm_code mDos_startFile) 66 = .ok (.invokevirtual 266, 3) := by decide +kernel
theorem d_Dos_startFile_69 : decode (rm_code mDos_startFile) 69 = .ok (.istore_n 2, 1) := by decide +kernel
theorem d_Dos_startFile_70 : decode (rm_code mDos_startFile) 70 = .ok (.iload_n 2, 1) := by decide +kernel
theorem d_Dos_startFile_71 : decode (rm_code mDos_startFile) 71 = .ok (.ifCond .ne (61), 3) := by decide +kernel
theorem d_Dos_startFile_74 : decode (rm_code mDos_startFile) 74 = .ok (.aload_n 1, 1) := by decide +kernel
theorem d_Dos_startFile_75 : decode (rm_code mDos_startFile) 75 = .ok (.iconst 2, 1) := by decide +kernel
theorem d_Dos_startFile_76 : decode (rm_code mDos_startFile) 76 = .ok (.invokevirtual 149, 3) := by decide +kernel
theorem d_Dos_startFile_79 : decode (rm_code mDos_startFile) 79 = .ok (.aload_n 1, 1) := by decide +kernel
theorem d_Dos_startFile_80 : decode (rm_code mDos_startFile) 80 = .ok (.aload_n 0, 1) := by decide +kernel
theorem d_Dos_startFile_81 : decode (rm_code mDos_startFile) 81 = .ok (.getfield 47, 3) := by decide +kernel
theorem d_Dos_startFile_84 : decode (rm_code mDos_startFile) 84 = .ok (.getfield 255, 3) := by decide +kernel
theorem d_Dos_startFile_87 : decode (rm_code mDos_startFile) 87 = .ok (.aload_n 0, 1) := by decide +kernel
theorem d_Dos_startFile_88 : decode (rm_code mDos_startFile) 88 = .ok (.getfield 47, 3) := by decide +kernel
theorem d_Dos_startFile_91 : decode (rm_code mDos_startFile) 91 = .ok (.getfield 256, 3) := by decide +kernel
theorem d_Dos_startFile_94 : decode (rm_code mDos_startFile) 94 = .ok (.invokevirtual 270, 3) := by decide +kernel
theorem d_Dos_startFile_97 : decode (rm_code mDos_startFile) 97 = .ok (.aload_n 1, 1) := by decide +kernel
theorem d_Dos_startFile_98 : decode (rm_code mDos_startFile) 98 = .ok (.aload_n 0, 1) := by decide +kernel
theorem d_Dos_startFile_99 : decode (rm_code mDos_startFile) 99 = .ok (.getfield 47, 3) := by decide +kernel
theorem d_Dos_startFile_102 : decode (rm_code mDos_startFile) 102 = .ok (.getfield 255, 3) := by decide +kernel
theorem d_Dos_startFile_105 : decode (rm_code mDos_startFile) 105 = .ok (.putfield 273, 3) := by decide +kernel
theorem d_Dos_startFile_108 : decode (rm_code mDos_startFile) 108 = .ok (.aload_n 1, 1) := by decide +kernel
theorem d_Dos_startFile_109 : decode (rm_code mDos_startFile) 109 = .ok (.aload_n 0, 1) := by decide +kernel
theorem d_Dos_startFile_110 : decode (rm_code mDos_startFile) 110 = .ok (.getfield 47, 3) := by decide +kernel
theorem d_Dos_startFile_113 : decode (rm_code mDos_startFile) 113 = .ok (.getfield 256, 3) := by decide +kernel
theorem d_Dos_startFile_116 : decode (rm_code mDos_startFile) 116 = .ok (.putfield 275, 3) := by decide +kernel
theorem d_Dos_startFile_119 : decode (rm_code mDos_startFile) 119 = .ok (.aload_n 1, 1) := by decide +kernel
theorem d_Dos_startFile_120 : decode (rm_code mDos_startFile) 120 = .ok (.iconst 1, 1) := by decide +kernel
theorem d_Dos_startFile_121 : decode (rm_code mDos_startFile) 121 = .ok (.putfield 90, 3) := by decide +kernel
theorem d_Dos_startFile_124 : decode (rm_code mDos_startFile) 124 = .ok (.aload_n 1, 1) := by decide +kernel
theorem d_Dos_startFile_125 : decode (rm_code mDos_startFile) 125 = .ok (.aload_n 0, 1) := by decide +kernel
theorem d_Dos_startFile_126 : decode (rm_code mDos_startFile) 126 = .ok (.getfield 56, 3) := by decide +kernel
theorem d_Dos_startFile_129 : decode (rm_code mDos_startFile) 129 = .ok (.invokevirtual 277, 3) := by decide +kernel
theorem d_Dos_startFile_132 : decode (rm_code mDos_startFile) 132 = .ok (.iload_n 2, 1) := by decide +kernel
theorem d_Dos_startFile_133 : decode (rm_code mDos_startFile) 133 = .ok (.ireturn, 1) := by decide +kernel
theorem p_Dos_startFile_0 {S : rz_S} {K : Int32 → rz_S → Prop} {a1 : Nat} (ha1 : chP a1) (w : rz_ev mBlockMap_load [.ref 44] S (rz_i (fun xq1 Sq1 => ((xq1 = 0 → rz_ev mBlockMap_pick [.ref 44] Sq1 (rz_i (fun xq3 Sq3 => ((xq3 = 0 → rz_ev mStatus_set [.ref 3, .int 72, .int 0, .int 0] Sq3 (rz_i (fun xq5 Sq5 => K xq5 Sq5))) ∧ (¬ xq3 = 0 → rz mDos_startFile 34 [(0, .ref 39), (1, .ref a1), (2, .int xq1)] [] Sq3 (rz_i K)))))) ∧ (¬ xq1 = 0 → rz mDos_startFile 34 [(0, .ref 39), (1, .ref a1), (2, .int xq1)] [] Sq1 (rz_i K)))))) : rz mDos_startFile 0 [(0, .ref 39), (1, .ref a1)] [] S (rz_i K) := by
  have za1 := chZ ha1
  refine rz_pure (pc' := 1) d_Dos_startFile_0 rfl ?_
  refine rz_getr d_Dos_startFile_1 f_5_47 rfl rfl ?_
  refine rz_callVi (t := []) d_Dos_startFile_4 w_5_231 rfl rfl rfl w (fun xq1 Sq1 q1 => ?_)
  refine rz_pure (pc' := 8) (l' := [(2, .int xq1), (0, .ref 39), (1, .ref a1)]) d_Dos_startFile_7 rfl ?_
  refine rz_pure (pc' := 9) d_Dos_startFile_8 rfl ?_
  refine rz_ifne (tgt := 34) d_Dos_startFile_9 rfl (fun b2 => ?_) (fun b2 => ?_)
  · skip
    exact rz_pick (ks := [0, 1, 2]) (l := [(0, .ref 39), (1, .ref a1), (2, .int xq1)]) rfl rfl (by decide) rfl (q1.2 b2)
  · skip
    refine rz_pure (pc' := 13) d_Dos_startFile_12 rfl ?_
    refine rz_getr d_Dos_startFile_13 f_5_47 rfl rfl ?_
    refine rz_callVi (t := []) d_Dos_startFile_16 w_5_263 rfl rfl rfl (q1.1 b2) (fun xq3 Sq3 q3 => ?_)
    refine rz_ifne (tgt := 34) d_Dos_startFile_19 rfl (fun b4 => ?_) (fun b4 => ?_)
    · skip
      exact rz_pick (ks := [0, 1, 2]) (l := [(0, .ref 39), (1, .ref a1), (2, .int xq1)]) rfl rfl (by decide) rfl (q3.2 b4)
    · skip
      refine rz_pure (pc' := 23) d_Dos_startFile_22 rfl ?_
      refine rz_getr d_Dos_startFile_23 f_5_30 rfl rfl ?_
      refine rz_bipush (v := 72) d_Dos_startFile_26 (by decide) ?_
      refine rz_iconst (v := 0) d_Dos_startFile_28 (by decide) ?_
      refine rz_iconst (v := 0) d_Dos_startFile_29 (by decide) ?_
      refine rz_callVi (t := [.int 0, .int 0, .int 72]) d_Dos_startFile_30 w_5_116 rfl rfl rfl (q3.1 b4) (fun xq5 Sq5 q5 => ?_)
      exact rz_ireti d_Dos_startFile_33 rfl rfl q5
theorem p_Dos_startFile_34 {S : rz_S} {K : Int32 → rz_S → Prop} {a1 : Nat} (ha1 : chP a1) {a2 : Int32} (w : ((a2 = 0 → rz_ev mBlockMap_store [.ref 44] S (rz_i (fun xq2 Sq2 => rz mDos_startFile 46 [(0, .ref 39), (1, .ref a1), (2, .int xq2)] [] Sq2 (rz_i K)))) ∧ (¬ a2 = 0 → rz mDos_startFile 46 [(0, .ref 39), (1, .ref a1), (2, .int a2)] [] S (rz_i K)))) : rz mDos_startFile 34 [(0, .ref 39), (1, .ref a1), (2, .int a2)] [] S (rz_i K) := by
  have za1 := chZ ha1
  refine rz_pure (pc' := 35) d_Dos_startFile_34 rfl ?_
  refine rz_ifne (tgt := 46) d_Dos_startFile_35 rfl (fun b1 => ?_) (fun b1 => ?_)
  · skip
    exact rz_pick (ks := [0, 1, 2]) (l := [(0, .ref 39), (1, .ref a1), (2, .int a2)]) rfl rfl (by decide) rfl (w.2 b1)
  · skip
    refine rz_pure (pc' := 39) d_Dos_startFile_38 rfl ?_
    refine rz_getr d_Dos_startFile_39 f_5_47 rfl rfl ?_
    refine rz_callVi (t := []) d_Dos_startFile_42 w_5_239 rfl rfl rfl (w.1 b1) (fun xq2 Sq2 q2 => ?_)
    refine rz_pure (pc' := 46) (l' := [(2, .int xq2), (0, .ref 39), (1, .ref a1)]) d_Dos_startFile_45 rfl ?_
    exact rz_pick (ks := [0, 1, 2]) (l := [(0, .ref 39), (1, .ref a1), (2, .int xq2)]) rfl rfl (by decide) rfl q2
theorem p_Dos_startFile_46 {S : rz_S} {K : Int32 → rz_S → Prop} {a1 : Nat} (ha1 : chP a1) {a2 : Int32} (w : ((a2 = 0 → rz_ev mDirectory_changeToNew [.ref 46, .int (S.2 39 10), .ref 44, .ref 42] S (rz_i (fun xq2 Sq2 => rz mDos_startFile 70 [(0, .ref 39), (1, .ref a1), (2, .int xq2)] [] Sq2 (rz_i K)))) ∧ (¬ a2 = 0 → rz mDos_startFile 70 [(0, .ref 39), (1, .ref a1), (2, .int a2)] [] S (rz_i K)))) : rz mDos_startFile 46 [(0, .ref 39), (1, .ref a1), (2, .int a2)] [] S (rz_i K) := by
  have za1 := chZ ha1
  refine rz_pure (pc' := 47) d_Dos_startFile_46 rfl ?_
  refine rz_ifne (tgt := 70) d_Dos_startFile_47 rfl (fun b1 => ?_) (fun b1 => ?_)
  · skip
    exact rz_pick (ks := [0, 1, 2]) (l := [(0, .ref 39), (1, .ref a1), (2, .int a2)]) rfl rfl (by decide) rfl (w.2 b1)
  · skip
    refine rz_pure (pc' := 51) d_Dos_startFile_50 rfl ?_
    refine rz_getr d_Dos_startFile_51 f_5_56 rfl rfl ?_
    refine rz_pure (pc' := 55) d_Dos_startFile_54 rfl ?_
    refine rz_getiv (v := S.2 39 10) d_Dos_startFile_55 f_5_182 rfl rfl rfl ?_
    refine rz_pure (pc' := 59) d_Dos_startFile_58 rfl ?_
    refine rz_getr d_Dos_startFile_59 f_5_47 rfl rfl ?_
    refine rz_pure (pc' := 63) d_Dos_startFile_62 rfl ?_
    refine rz_getr d_Dos_startFile_63 f_5_26 rfl rfl ?_
    refine rz_callVi (t := [.ref 42, .ref 44, .int (S.2 39 10)]) d_Dos_startFile_66 w_5_266 rfl rfl rfl (w.1 b1) (fun xq2 Sq2 q2 => ?_)
    refine rz_pure (pc' := 70) (l' := [(2, .int xq2), (0, .ref 39), (1, .ref a1)]) d_Dos_startFile_69 rfl ?_
    exact rz_pick (ks := [0, 1, 2]) (l := [(0, .ref 39), (1, .ref a1), (2, .int xq2)]) rfl rfl (by decide) rfl q2
theorem p_Dos_startFile_70 {S : rz_S} {K : Int32 → rz_S → Prop} {a1 : Nat} (ha1 : chP a1) {a2 : Int32} (w : ((a2 = 0 → rz_ev mChannel_begin [.ref a1, .int 2] S (rz_v (fun Sq2 => rz_ev mChannel_beginBlock [.ref a1, .int (Sq2.2 44 1), .int (Sq2.2 44 2)] Sq2 (rz_v (fun Sq3 => rz_ev mChannel_keepEntry [.ref a1, .ref 46] (rz_uI (rz_uI (rz_uI Sq3 a1 7 (Sq3.2 44 1)) a1 8 (Sq3.2 44 2)) a1 9 1) (rz_v (fun Sq4 => K a2 Sq4))))))) ∧ (¬ a2 = 0 → K a2 S))) : rz mDos_startFile 70 [(0, .ref 39), (1, .ref a1), (2, .int a2)] [] S (rz_i K) := by
  have za1 := chZ ha1
  refine rz_pure (pc' := 71) d_Dos_startFile_70 rfl ?_
  refine rz_ifne (tgt := 132) d_Dos_startFile_71 rfl (fun b1 => ?_) (fun b1 => ?_)
  · skip
    refine rz_pure (pc' := 133) d_Dos_startFile_132 rfl ?_
    exact rz_ireti d_Dos_startFile_133 rfl rfl (w.2 b1)
  · skip
    refine rz_pure (pc' := 75) d_Dos_startFile_74 rfl ?_
    refine rz_iconst (v := 2) d_Dos_startFile_75 (by decide) ?_
    refine rz_callVv (t := [.int 2]) d_Dos_startFile_76 w_5_149 rfl (chTP ha1) rfl (w.1 b1) (fun Sq2 q2 => ?_)
    refine rz_pure (pc' := 80) d_Dos_startFile_79 rfl ?_
    refine rz_pure (pc' := 81) d_Dos_startFile_80 rfl ?_
    refine rz_getr d_Dos_startFile_81 f_5_47 rfl rfl ?_
    refine rz_getiv (v := Sq2.2 44 1) d_Dos_startFile_84 f_5_255 rfl rfl rfl ?_
    refine rz_pure (pc' := 88) d_Dos_startFile_87 rfl ?_
    refine rz_getr d_Dos_startFile_88 f_5_47 rfl rfl ?_
    refine rz_getiv (v := Sq2.2 44 2) d_Dos_startFile_91 f_5_256 rfl rfl rfl ?_
    refine rz_callVv (t := [.int (Sq2.2 44 2), .int (Sq2.2 44 1)]) d_Dos_startFile_94 w_5_270 rfl (chTP ha1) rfl q2 (fun Sq3 q3 => ?_)
    refine rz_pure (pc' := 98) d_Dos_startFile_97 rfl ?_
    refine rz_pure (pc' := 99) d_Dos_startFile_98 rfl ?_
    refine rz_getr d_Dos_startFile_99 f_5_47 rfl rfl ?_
    refine rz_getiv (v := Sq3.2 44 1) d_Dos_startFile_102 f_5_255 rfl rfl rfl ?_
    refine rz_puti d_Dos_startFile_105 f_5_273 (chTP ha1) rfl rfl ?_
    refine rz_pure (pc' := 109) d_Dos_startFile_108 rfl ?_
    refine rz_pure (pc' := 110) d_Dos_startFile_109 rfl ?_
    refine rz_getr d_Dos_startFile_110 f_5_47 rfl rfl ?_
    refine rz_getiv (v := Sq3.2 44 2) d_Dos_startFile_113 f_5_256 rfl rfl ((rz_uI_n (fun h => absurd h.2 (by decide))).trans rfl) ?_
    refine rz_puti d_Dos_startFile_116 f_5_275 (chTP ha1) rfl rfl ?_
    refine rz_pure (pc' := 120) d_Dos_startFile_119 rfl ?_
    refine rz_iconst (v := 1) d_Dos_startFile_120 (by decide) ?_
    refine rz_puti d_Dos_startFile_121 f_5_90 (chTP ha1) rfl rfl ?_
    refine rz_pure (pc' := 125) d_Dos_startFile_124 rfl ?_
    refine rz_pure (pc' := 126) d_Dos_startFile_125 rfl ?_
    refine rz_getr d_Dos_startFile_126 f_5_56 rfl rfl ?_
    refine rz_callVv (t := [.ref 46]) d_Dos_startFile_129 w_5_277 rfl (chTP ha1) rfl q3 (fun Sq4 q4 => ?_)
    refine rz_pure (pc' := 133) d_Dos_startFile_132 rfl ?_
    exact rz_ireti d_Dos_startFile_133 rfl rfl q4
theorem d_Directory_changeToNew_0 : decode (rm_code mDirectory_changeToNew) 0 = .ok (.aload_n 0, 1) := by decide +kernel
theorem d_Directory_changeToNew_1 : decode (rm_code mDirectory_changeToNew) 1 = .ok (.getfield 15, 3) := by decide +kernel
theorem d_Directory_changeToNew_4 : decode (rm_code mDirectory_changeToNew) 4 = .ok (.aload_n 0, 1) := by decide +kernel
theorem d_Directory_changeToNew_5 : decode (rm_code mDirectory_changeToNew) 5 = .ok (.getfield 27, 3) := by decide +kernel
theorem d_Directory_changeToNew_8 : decode (rm_code mDirectory_changeToNew) 8 = .ok (.aload_n 0, 1) := by decide +kernel
theorem d_Directory_changeToNew_9 : decode (rm_code mDirectory_changeToNew) 9 = .ok (.getfield 31, 3) := by decide +kernel
theorem d_Directory_changeToNew_12 : decode (rm_code mDirectory_changeToNew) 12 = .ok (.aload_n 0, 1) := by decide +kernel
theorem d_Directory_changeToNew_13 : decode (rm_code mDirectory_changeToNew) 13 = .ok (.getfield 9, 3) := by decide +kernel
theorem d_Directory_changeToNew_16 : decode (rm_code mDirectory_changeToNew) 16 = .ok (.invokevirtual 47, 3) := by decide +kernel
theorem d_Directory_changeToNew_19 : decode (rm_code mDirectory_changeToNew) 19 = .ok (.istore 4, 2) := by decide +kernel
theorem d_Directory_changeToNew_21 : decode (rm_code mDirectory_changeToNew) 21 = .ok (.iload 4, 2) := by decide +kernel
theorem d_Directory_changeToNew_23 : decode (rm_code mDirectory_changeToNew) 23 = .ok (.ifCond .eq (6), 3) := by decide +kernel
theorem d_Directory_changeToNew_26 : decode (rm_code mDirectory_changeToNew) 26 = .ok (.iload 4, 2) := by decide +kernel
theorem d_Directory_changeToNew_28 : decode (rm_code mDirectory_changeToNew) 28 = .ok (.ireturn, 1) := by decide +kernel
theorem d_Directory_changeToNew_29 : decode (rm_code mDirectory_changeToNew) 29 = .ok (.aload_n 0, 1) := by decide +kernel
theorem d_Directory_changeToNew_30 : decode (rm_code mDirectory_changeToNew) 30 = .ok (.getfield 9, 3) := by decide +kernel
theorem d_Directory_changeToNew_33 : decode (rm_code mDirectory_changeToNew) 33 = .ok (.aload_n 0, 1) := by decide +kernel
theorem d_Directory_changeToNew_34 : decode (rm_code mDirectory_changeToNew) 34 = .ok (.invokevirtual 72, 3) := by decide +kernel
theorem d_Directory_changeToNew_37 : decode (rm_code mDirectory_changeToNew) 37 = .ok (.iconst 2, 1) := by decide +kernel
theorem d_Directory_changeToNew_38 : decode (rm_code mDirectory_changeToNew) 38 = .ok (.iadd, 1) := by decide +kernel
theorem d_Directory_changeToNew_39 : decode (rm_code mDirectory_changeToNew) 39 = .ok (.iload_n 1, 1) := by decide +kernel
theorem d_Directory_changeToNew_40 : decode (rm_code mDirectory_changeToNew) 40 = .ok (.iastore, 1) := by decide +kernel
theorem d_Directory_changeToNew_41 : decode (rm_code mDirectory_changeToNew) 41 = .ok (.aload_n 0, 1) := by decide +kernel
theorem d_Directory_changeToNew_42 : decode (rm_code mDirectory_changeToNew) 42 = .ok (.getfield 9, 3) := by decide +kernel
theorem d_Directory_changeToNew_45 : decode (rm_code mDirectory_changeToNew) 45 = .ok (.aload_n 0, 1) := by decide +kernel
theorem d_Directory_changeToNew_46 : decode (rm_code mDirectory_changeToNew) 46 = .ok (.invokevirtual 72, 3) := by decide +kernel
theorem d_Directory_changeToNew_49 : decode (rm_code mDirectory_changeToNew) 49 = .ok (.iconst 3, 1) := by decide +kernel
theorem d_Directory_changeToNew_50 : decode (rm_code mDirectory_changeToNew) 50 = .ok (.iadd, 1) := by decide +kernel
theorem d_Directory_changeToNew_51 : decode (rm_code mDirectory_changeToNew) 51 = .ok (.aload_n 2, 1) := by decide +kernel
theorem d_Directory_changeToNew_52 : decode (rm_code mDirectory_changeToNew) 52 = .ok (.getfield 95, 3) := by decide +kernel
theorem d_Directory_changeToNew_55 : decode (rm_code mDirectory_changeToNew) 55 = .ok (.iastore, 1) := by decide +kernel
theorem d_Directory_changeToNew_56 : decode (rm_code mDirectory_changeToNew) 56 = .ok (.aload_n 0, 1) := by decide +kernel
theorem d_Directory_changeToNew_57 : decode (rm_code mDirectory_changeToNew) 57 = .ok (.getfield 9, 3) := by decide +kernel
theorem d_Directory_changeToNew_60 : decode (rm_code mDirectory_changeToNew) 60 = .ok (.aload_n 0, 1) := by decide +kernel
theorem d_Directory_changeToNew_61 : decode (rm_code mDirectory_changeToNew) 61 = .ok (.invokevirtual 72, 3) := by decide +kernel
theorem d_Directory_changeToNew_64 : decode (rm_code mDirectory_changeToNew) 64 = .ok (.iconst 3, 1) := by decide +kernel
theorem d_Directory_changeToNew_65 : decode (rm_code mDirectory_changeToNew) 65 = .ok (.iadd, 1) := by decide +kernel
theorem d_Directory_changeToNew_66 : decode (rm_code mDirectory_changeToNew) 66 = .ok (.iconst 1, 1) := by decide +kernel
theorem d_Directory_changeToNew_67 : decode (rm_code mDirectory_changeToNew) 67 = .ok (.iadd, 1) := by decide +kernel
theorem d_Directory_changeToNew_68 : decode (rm_code mDirectory_changeToNew) 68 = .ok (.aload_n 2, 1) := by decide +kernel
theorem d_Directory_changeToNew_69 : decode (rm_code mDirectory_changeToNew) 69 = .ok (.getfield 98, 3) := by decide +kernel
theorem d_Directory_changeToNew_72 : decode (rm_code mDirectory_changeToNew) 72 = .ok (.iastore, 1) := by decide +kernel
theorem d_Directory_changeToNew_73 : decode (rm_code mDirectory_changeToNew) 73 = .ok (.aload_n 3, 1) := by decide +kernel
theorem d_Directory_changeToNew_74 : decode (rm_code mDirectory_changeToNew) 74 = .ok (.aload_n 0, 1) := by decide +kernel
theorem d_Directory_changeToNew_75 : decode (rm_code mDirectory_changeToNew) 75 = .ok (.getfield 9, 3) := by decide +kernel
theorem d_Directory_changeToNew_78 : decode (rm_code mDirectory_changeToNew) 78 = .ok (.aload_n 0, 1) := by decide +kernel
theorem d_Directory_changeToNew_79 : decode (rm_code mDirectory_changeToNew) 79 = .ok (.invokevirtual 72, 3) := by decide +kernel
theorem d_Directory_changeToNew_82 : decode (rm_code mDirectory_changeToNew) 82 = .ok (.iconst 5, 1) := by decide +kernel
theorem d_Directory_changeToNew_83 : decode (rm_code mDirectory_changeToNew) 83 = .ok (.iadd, 1) := by decide +kernel
theorem d_Directory_changeToNew_84 : decode (rm_code mDirectory_changeToNew) 84 = .ok (.invokevirtual 91, 3) := by decide +kernel
theorem d_Directory_changeToNew_87 : decode (rm_code mDirectory_changeToNew) 87 = .ok (.aload_n 0, 1) := by decide +kernel
theorem d_Directory_changeToNew_88 : decode (rm_code mDirectory_changeToNew) 88 = .ok (.getfield 9, 3) := by decide +kernel
theorem d_Directory_changeToNew_91 : decode (rm_code mDirectory_changeToNew) 91 = .ok (.aload_n 0, 1) := by decide +kernel
theorem d_Directory_changeToNew_92 : decode (rm_code mDirectory_changeToNew) 92 = .ok (.invokevirtual 72, 3) := by decide +kernel
theorem d_Directory_changeToNew_95 : decode (rm_code mDirectory_changeToNew) 95 = .ok (.bipush (15), 2) := by decide +kernel
theorem d_Directory_changeToNew_97 : decode (rm_code mDirectory_changeToNew) 97 = .ok (.iadd, 1) := by decide +kernel
theorem d_Directory_changeToNew_98 : decode (rm_code mDirectory_changeToNew) 98 = .ok (.iconst 0, 1) := by decide +kernel
theorem d_Directory_changeToNew_99 : decode (rm_code mDirectory_changeToNew) 99 = .ok (.iastore, 1) := by decide +kernel
theorem d_Directory_changeToNew_100 : decode (rm_code mDirectory_changeToNew) 100 = .ok (.aload_n 0, 1) := by decide +kernel
theorem d_Directory_changeToNew_101 : decode (rm_code mDirectory_changeToNew) 101 = .ok (.getfield 15, 3) := by decide +kernel
theorem d_Directory_changeToNew_104 : decode (rm_code mDirectory_changeToNew) 104 = .ok (.aload_n 0, 1) := by decide +kernel
theorem d_Directory_changeToNew_105 : decode (rm_code mDirectory_changeToNew) 105 = .ok (.getfield 27, 3) := by decide +kernel
theorem d_Directory_changeToNew_108 : decode (rm_code mDirectory_changeToNew) 108 = .ok (.aload_n 0, 1) := by decide +kernel
theorem d_Directory_changeToNew_109 : decode (rm_code mDirectory_changeToNew) 109 = .ok (.getfield 31, 3) := by decide +kernel
theorem d_Directory_changeToNew_112 : decode (rm_code mDirectory_changeToNew) 112 = .ok (.aload_n 0, 1) := by decide +kernel
theorem d_Directory_changeToNew_113 : decode (rm_code mDirectory_changeToNew) 113 = .ok (.getfield 9, 3) := by decide +kernel
theorem d_Directory_changeToNew_116 : decode (rm_code mDirectory_changeToNew) 116 = .ok (.invokevirtual 88, 3) := by decide +kernel
theorem d_Directory_changeToNew_119 : decode (rm_code mDirectory_changeToNew) 119 = .ok (.ireturn, 1) := by decide +kernel
theorem p_Directory_changeToNew_0 {S : rz_S} {K : Int32 → rz_S → Prop} {a1 : Int32} {a3 : Nat} (ha3 : ptP a3) (w : rz_ev mDisk_readBlock [.ref 6, .int (S.2 46 1), .int (S.2 46 2), .ref 47] S (rz_i (fun xq1 Sq1 => ((xq1 = 0 → rz_ev mDirectory_base [.ref 46] Sq1 (rz_i (fun xq3 Sq3 => rx_in (xq3 + 2) 64 = true ∧ rz_ev mDirectory_base [.ref 46] (rz_fA Sq3 47 (upd (Sq3.1 47) ((xq3 + 2).toNatClampNeg) a1)) (rz_i (fun xq4 Sq4 => rx_in (xq4 + 3) 64 = true ∧ rz_ev mDirectory_base [.ref 46] (rz_fA Sq4 47 (upd (Sq4.1 47) ((xq4 + 3).toNatClampNeg) (Sq4.2 44 1))) (rz_i (fun xq5 Sq5 => rx_in ((xq5 + 3) + 1) 64 = true ∧ rz_ev mDirectory_base [.ref 46] (rz_fA Sq5 47 (upd (Sq5.1 47) (((xq5 + 3) + 1).toNatClampNeg) (Sq5.2 44 2))) (rz_i (fun xq6 Sq6 => rz_ev mPattern_putInto [.ref a3, .ref 47, .int (xq6 + 5)] Sq6 (rz_v (fun Sq7 => rz_ev mDirectory_base [.ref 46] Sq7 (rz_i (fun xq8 Sq8 => rx_in (xq8 + 15) 64 = true ∧ rz_ev mDisk_writeBlock [.ref 6, .int (Sq8.2 46 1), .int (Sq8.2 46 2), .ref 47] (rz_fA Sq8 47 (upd (Sq8.1 47) ((xq8 + 15).toNatClampNeg) 0)) (rz_i (fun xq9 Sq9 => K xq9 Sq9))))))))))))))) ∧ (¬ xq1 = 0 → K xq1 Sq1))))) : rz mDirectory_changeToNew 0 [(0, .ref 46), (1, .int a1), (2, .ref 44), (3, .ref a3)] [] S (rz_i K) := by
  refine rz_pure (pc' := 1) d_Directory_changeToNew_0 rfl ?_
  refine rz_getr d_Directory_changeToNew_1 f_3_15 rfl rfl ?_
  refine rz_pure (pc' := 5) d_Directory_changeToNew_4 rfl ?_
  refine rz_getiv (v := S.2 46 1) d_Directory_changeToNew_5 f_3_27 rfl rfl rfl ?_
  refine rz_pure (pc' := 9) d_Directory_changeToNew_8 rfl ?_
  refine rz_getiv (v := S.2 46 2) d_Directory_changeToNew_9 f_3_31 rfl rfl rfl ?_
  refine rz_pure (pc' := 13) d_Directory_changeToNew_12 rfl ?_
  refine rz_getr d_Directory_changeToNew_13 f_3_9 rfl rfl ?_
  refine rz_callVi (t := [.ref 47, .int (S.2 46 2), .int (S.2 46 1)]) d_Directory_changeToNew_16 w_3_47 rfl rfl rfl w (fun xq1 Sq1 q1 => ?_)
  refine rz_pure (pc' := 21) (l' := [(4, .int xq1), (0, .ref 46), (1, .int a1), (2, .ref 44), (3, .ref a3)]) d_Directory_changeToNew_19 rfl ?_
  refine rz_pure (pc' := 23) d_Directory_changeToNew_21 rfl ?_
  refine rz_ifeq (tgt := 29) d_Directory_changeToNew_23 rfl (fun b2 => ?_) (fun b2 => ?_)
  · skip
    refine rz_pure (pc' := 30) d_Directory_changeToNew_29 rfl ?_
    refine rz_getr d_Directory_changeToNew_30 f_3_9 rfl rfl ?_
    refine rz_pure (pc' := 34) d_Directory_changeToNew_33 rfl ?_
    refine rz_callVi (t := []) d_Directory_changeToNew_34 w_3_72 rfl rfl rfl (q1.1 b2) (fun xq3 Sq3 q3 => ?_)
    refine rz_iconst (v := 2) d_Directory_changeToNew_37 (by decide) ?_
    refine rz_iadd d_Directory_changeToNew_38 ?_
    refine rz_pure (pc' := 40) d_Directory_changeToNew_39 rfl ?_
    refine rz_iastv (F := Sq3.1 47) (i := (xq3 + 2).toNatClampNeg) d_Directory_changeToNew_40 rfl q3.1 rfl rfl ?_
    refine rz_pure (pc' := 42) d_Directory_changeToNew_41 rfl ?_
    refine rz_getr d_Directory_changeToNew_42 f_3_9 rfl rfl ?_
    refine rz_pure (pc' := 46) d_Directory_changeToNew_45 rfl ?_
    refine rz_callVi (t := []) d_Directory_changeToNew_46 w_3_72 rfl rfl rfl q3.2 (fun xq4 Sq4 q4 => ?_)
    refine rz_iconst (v := 3) d_Directory_changeToNew_49 (by decide) ?_
    refine rz_iadd d_Directory_changeToNew_50 ?_
    refine rz_pure (pc' := 52) d_Directory_changeToNew_51 rfl ?_
    refine rz_getiv (v := Sq4.2 44 1) d_Directory_changeToNew_52 f_3_95 rfl rfl rfl ?_
    refine rz_iastv (F := Sq4.1 47) (i := (xq4 + 3).toNatClampNeg) d_Directory_changeToNew_55 rfl q4.1 rfl rfl ?_
    refine rz_pure (pc' := 57) d_Directory_changeToNew_56 rfl ?_
    refine rz_getr d_Directory_changeToNew_57 f_3_9 rfl rfl ?_
    refine rz_pure (pc' := 61) d_Directory_changeToNew_60 rfl ?_
    refine rz_callVi (t := []) d_Directory_changeToNew_61 w_3_72 rfl rfl rfl q4.2 (fun xq5 Sq5 q5 => ?_)
    refine rz_iconst (v := 3) d_Directory_changeToNew_64 (by decide) ?_
    refine rz_iadd d_Directory_changeToNew_65 ?_
    refine rz_iconst (v := 1) d_Directory_changeToNew_66 (by decide) ?_
    refine rz_iadd d_Directory_changeToNew_67 ?_
    refine rz_pure (pc' := 69) d_Directory_changeToNew_68 rfl ?_
    refine rz_getiv (v := Sq5.2 44 2) d_Directory_changeToNew_69 f_3_98 rfl rfl rfl ?_
    refine rz_iastv (F := Sq5.1 47) (i := ((xq5 + 3) + 1).toNatClampNeg) d_Directory_changeToNew_72 rfl q5.1 rfl rfl ?_
    refine rz_pure (pc' := 74) d_Directory_changeToNew_73 rfl ?_
    refine rz_pure (pc' := 75) d_Directory_changeToNew_74 rfl ?_
    refine rz_getr d_Directory_changeToNew_75 f_3_9 rfl rfl ?_
    refine rz_pure (pc' := 79) d_Directory_changeToNew_78 rfl ?_
    refine rz_callVi (t := []) d_Directory_changeToNew_79 w_3_72 rfl rfl rfl q5.2 (fun xq6 Sq6 q6 => ?_)
    refine rz_iconst (v := 5) d_Directory_changeToNew_82 (by decide) ?_
    refine rz_iadd d_Directory_changeToNew_83 ?_
    refine rz_callVv (t := [.int (xq6 + 5), .ref 47]) d_Directory_changeToNew_84 w_3_91 rfl (ptT ha3) rfl q6 (fun Sq7 q7 => ?_)
    refine rz_pure (pc' := 88) d_Directory_changeToNew_87 rfl ?_
    refine rz_getr d_Directory_changeToNew_88 f_3_9 rfl rfl ?_
    refine rz_pure (pc' := 92) d_Directory_changeToNew_91 rfl ?_
    refine rz_callVi (t := []) d_Directory_changeToNew_92 w_3_72 rfl rfl rfl q7 (fun xq8 Sq8 q8 => ?_)
    refine rz_bipush (v := 15) d_Directory_changeToNew_95 (by decide) ?_
    refine rz_iadd d_Directory_changeToNew_97 ?_
    refine rz_iconst (v := 0) d_Directory_changeToNew_98 (by decide) ?_
    refine rz_iastv (F := Sq8.1 47) (i := (xq8 + 15).toNatClampNeg) d_Directory_changeToNew_99 rfl q8.1 rfl rfl ?_
    refine rz_pure (pc' := 101) d_Directory_changeToNew_100 rfl ?_
    refine rz_getr d_Directory_changeToNew_101 f_3_15 rfl rfl ?_
    refine rz_pure (pc' := 105) d_Directory_changeToNew_104 rfl ?_
    refine rz_getiv (v := Sq8.2 46 1) d_Directory_changeToNew_105 f_3_27 rfl rfl rfl ?_
    refine rz_pure (pc' := 109) d_Directory_changeToNew_108 rfl ?_
    refine rz_getiv (v := Sq8.2 46 2) d_Directory_changeToNew_109 f_3_31 rfl rfl rfl ?_
    refine rz_pure (pc' := 113) d_Directory_changeToNew_112 rfl ?_
    refine rz_getr d_Directory_changeToNew_113 f_3_9 rfl rfl ?_
    refine rz_callVi (t := [.ref 47, .int (Sq8.2 46 2), .int (Sq8.2 46 1)]) d_Directory_changeToNew_116 w_3_88 rfl rfl rfl q8.2 (fun xq9 Sq9 q9 => ?_)
    exact rz_ireti d_Directory_changeToNew_119 rfl rfl q9
  · skip
    refine rz_pure (pc' := 28) d_Directory_changeToNew_26 rfl ?_
    exact rz_ireti d_Directory_changeToNew_28 rfl rfl (q1.2 b2)
theorem d_Channel_beginBlock_0 : decode (rm_code mChannel_beginBlock) 0 = .ok (.aload_n 0, 1) := by decide +kernel
theorem d_Channel_beginBlock_1 : decode (rm_code mChannel_beginBlock) 1 = .ok (.getfield 15, 3) := by decide +kernel
theorem d_Channel_beginBlock_4 : decode (rm_code mChannel_beginBlock) 4 = .ok (.iconst 0, 1) := by decide +kernel
theorem d_Channel_beginBlock_5 : decode (rm_code mChannel_beginBlock) 5 = .ok (.invokestatic 26, 3) := by decide +kernel
theorem d_Channel_beginBlock_8 : decode (rm_code mChannel_beginBlock) 8 = .ok (.aload_n 0, 1) := by decide +kernel
theorem d_Channel_beginBlock_9 : decode (rm_code mChannel_beginBlock) 9 = .ok (.iconst 2, 1) := by decide +kernel
theorem d_Channel_beginBlock_10 : decode (rm_code mChannel_beginBlock) 10 = .ok (.putfield 32, 3) := by decide +kernel
theorem d_Channel_beginBlock_13 : decode (rm_code mChannel_beginBlock) 13 = .ok (.aload_n 0, 1) := by decide +kernel
theorem d_Channel_beginBlock_14 : decode (rm_code mChannel_beginBlock) 14 = .ok (.iload_n 1, 1) := by decide +kernel
theorem d_Channel_beginBlock_15 : decode (rm_code mChannel_beginBlock) 15 = .ok (.putfield 45, 3) := by decide +kernel
theorem d_Channel_beginBlock_18 : decode (rm_code mChannel_beginBlock) 18 = .ok (.aload_n 0, 1) := by decide +kernel
theorem d_Channel_beginBlock_19 : decode (rm_code mChannel_beginBlock) 19 = .ok (.iload_n 2, 1) := by decide +kernel
theorem d_Channel_beginBlock_20 : decode (rm_code mChannel_beginBlock) 20 = .ok (.putfield 48, 3) := by decide +kernel
theorem d_Channel_beginBlock_23 : decode (rm_code mChannel_beginBlock) 23 = .ok (.return_, 1) := by decide +kernel
theorem p_Channel_beginBlock_0 {S : rz_S} {K : rz_S → Prop} {a0 : Nat} (ha0 : chP a0) {a1 : Int32} {a2 : Int32} (w : rz_ev mArr_fill [.ref (a0 + 1), .int 0] S (rz_v (fun Sq1 => K (rz_uI (rz_uI (rz_uI Sq1 a0 2 2) a0 5 a1) a0 6 a2)))) : rz mChannel_beginBlock 0 [(0, .ref a0), (1, .int a1), (2, .int a2)] [] S (rz_v K) := by
  have za0 := chZ ha0
  refine rz_pure (pc' := 1) d_Channel_beginBlock_0 rfl ?_
  refine rz_getr d_Channel_beginBlock_1 f_1_15 (chTP ha0) rfl ?_
  refine rz_iconst (v := 0) d_Channel_beginBlock_4 (by decide) ?_
  refine rz_callSv (t := [.int 0, .ref (a0 + 1)]) d_Channel_beginBlock_5 rfl w_1_26 rfl rfl w (fun Sq1 q1 => ?_)
  refine rz_pure (pc' := 9) d_Channel_beginBlock_8 rfl ?_
  refine rz_iconst (v := 2) d_Channel_beginBlock_9 (by decide) ?_
  refine rz_puti d_Channel_beginBlock_10 f_1_32 (chTP ha0) rfl rfl ?_
  refine rz_pure (pc' := 14) d_Channel_beginBlock_13 rfl ?_
  refine rz_pure (pc' := 15) d_Channel_beginBlock_14 rfl ?_
  refine rz_puti d_Channel_beginBlock_15 f_1_45 (chTP ha0) rfl rfl ?_
  refine rz_pure (pc' := 19) d_Channel_beginBlock_18 rfl ?_
  refine rz_pure (pc' := 20) d_Channel_beginBlock_19 rfl ?_
  refine rz_puti d_Channel_beginBlock_20 f_1_48 (chTP ha0) rfl rfl ?_
  exact rz_vretv d_Channel_beginBlock_23 rfl q1
theorem d_Channel_keepEntry_0 : decode (rm_code mChannel_keepEntry) 0 = .ok (.aload_n 0, 1) := by decide +kernel
theorem d_Channel_keepEntry_1 : decode (rm_code mChannel_keepEntry) 1 = .ok (.aload_n 1, 1) := by decide +kernel
theorem d_Channel_keepEntry_2 : decode (rm_code mChannel_keepEntry) 2 = .ok (.getfield 51, 3) := by decide +kernel
theorem d_Channel_keepEntry_5 : decode (rm_code mChannel_keepEntry) 5 = .ok (.putfield 54, 3) := by decide +kernel
theorem d_Channel_keepEntry_8 : decode (rm_code mChannel_keepEntry) 8 = .ok (.aload_n 0, 1) := by decide +kernel
theorem d_Channel_keepEntry_9 : decode (rm_code mChannel_keepEntry) 9 = .ok (.aload_n 1, 1) := by decide +kernel
theorem d_Channel_keepEntry_10 : decode (rm_code mChannel_keepEntry) 10 = .ok (.getfield 57, 3) := by decide +kernel
theorem d_Channel_keepEntry_13 : decode (rm_code mChannel_keepEntry) 13 = .ok (.putfield 58, 3) := by decide +kernel
theorem d_Channel_keepEntry_16 : decode (rm_code mChannel_keepEntry) 16 = .ok (.aload_n 0, 1) := by decide +kernel
theorem d_Channel_keepEntry_17 : decode (rm_code mChannel_keepEntry) 17 = .ok (.aload_n 1, 1) := by decide +kernel
theorem d_Channel_keepEntry_18 : decode (rm_code mChannel_keepEntry) 18 = .ok (.getfield 61, 3) := by decide +kernel
theorem d_Channel_keepEntry_21 : decode (rm_code mChannel_keepEntry) 21 = .ok (.putfield 64, 3) := by decide +kernel
theorem d_Channel_keepEntry_24 : decode (rm_code mChannel_keepEntry) 24 = .ok (.aload_n 0, 1) := by decide +kernel
theorem d_Channel_keepEntry_25 : decode (rm_code mChannel_keepEntry) 25 = .ok (.aload_n 1, 1) := by decide +kernel
theorem d_Channel_keepEntry_26 : decode (rm_code mChannel_keepEntry) 26 = .ok (.getfield 67, 3) := by decide +kernel
theorem d_Channel_keepEntry_29 : decode (rm_code mChannel_keepEntry) 29 = .ok (.putfield 70, 3) := by decide +kernel
theorem d_Channel_keepEntry_32 : decode (rm_code mChannel_keepEntry) 32 = .ok (.return_, 1) := by decide +kernel
theorem p_Channel_keepEntry_0 {S : rz_S} {K : rz_S → Prop} {a0 : Nat} (ha0 : chP a0) (w : K (rz_uI (rz_uI (rz_uI (rz_uI S a0 10 (S.2 46 1)) a0 11 (S.2 46 2)) a0 12 (S.2 46 3)) a0 13 (S.2 46 4))) : rz mChannel_keepEntry 0 [(0, .ref a0), (1, .ref 46)] [] S (rz_v K) := by
  have za0 := chZ ha0
  refine rz_pure (pc' := 1) d_Channel_keepEntry_0 rfl ?_
  refine rz_pure (pc' := 2) d_Channel_keepEntry_1 rfl ?_
  refine rz_getiv (v := S.2 46 1) d_Channel_keepEntry_2 f_1_51 rfl rfl rfl ?_
  refine rz_puti d_Channel_keepEntry_5 f_1_54 (chTP ha0) rfl rfl ?_
  refine rz_pure (pc' := 9) d_Channel_keepEntry_8 rfl ?_
  refine rz_pure (pc' := 10) d_Channel_keepEntry_9 rfl ?_
  refine rz_getiv (v := S.2 46 2) d_Channel_keepEntry_10 f_1_57 rfl rfl ((rz_uI_n (fun h => absurd h.2 (by decide))).trans rfl) ?_
  refine rz_puti d_Channel_keepEntry_13 f_1_58 (chTP ha0) rfl rfl ?_
  refine rz_pure (pc' := 17) d_Channel_keepEntry_16 rfl ?_
  refine rz_pure (pc' := 18) d_Channel_keepEntry_17 rfl ?_
  refine rz_getiv (v := S.2 46 3) d_Channel_keepEntry_18 f_1_61 rfl rfl ((rz_uI_n (fun h => absurd h.2 (by decide))).trans ((rz_uI_n (fun h => absurd h.2 (by decide))).trans rfl)) ?_
  refine rz_puti d_Channel_keepEntry_21 f_1_64 (chTP ha0) rfl rfl ?_
  refine rz_pure (pc' := 25) d_Channel_keepEntry_24 rfl ?_
  refine rz_pure (pc' := 26) d_Channel_keepEntry_25 rfl ?_
  refine rz_getiv (v := S.2 46 4) d_Channel_keepEntry_26 f_1_67 rfl rfl ((rz_uI_n (fun h => absurd h.2 (by decide))).trans ((rz_uI_n (fun h => absurd h.2 (by decide))).trans ((rz_uI_n (fun h => absurd h.2 (by decide))).trans rfl))) ?_
  refine rz_puti d_Channel_keepEntry_29 f_1_70 (chTP ha0) rfl rfl ?_
  exact rz_vretv d_Channel_keepEntry_32 rfl w
theorem d_Dos_sendBytes_0 : decode (rm_code mDos_sendBytes) 0 = .ok (.iload_n 1, 1) := by decide +kernel
theorem d_Dos_sendBytes_1 : decode (rm_code mDos_sendBytes) 1 = .ok (.ifCond .lt (21), 3) := by decide +kernel
theorem d_Dos_sendBytes_4 : decode (rm_code mDos_sendBytes) 4 = .ok (.iload_n 1, 1) := by decide +kernel
theorem d_Dos_sendBytes_5 : decode (rm_code mDos_sendBytes) 5 = .ok (.bipush (15), 2) := by decide +kernel
theorem d_Dos_sendBytes_7 : decode (rm_code mDos_sendBytes) 7 = .ok (.if_icmp .ge (15), 3) := by decide +kernel
theorem d_Dos_sendBytes_10 : decode (rm_code mDos_sendBytes) 10 = .ok (.aload_n 0, 1) := by decide +kernel
theorem d_Dos_sendBytes_11 : decode (rm_code mDos_sendBytes) 11 = .ok (.getfield 19, 3) := by decide +kernel
theorem d_Dos_sendBytes_14 : decode (rm_code mDos_sendBytes) 14 = .ok (.iload_n 1, 1) := by decide +kernel
theorem d_Dos_sendBytes_15 : decode (rm_code mDos_sendBytes) 15 = .ok (.aaload, 1) := by decide +kernel
theorem d_Dos_sendBytes_16 : decode (rm_code mDos_sendBytes) 16 = .ok (.getfield 61, 3) := by decide +kernel
theorem d_Dos_sendBytes_19 : decode (rm_code mDos_sendBytes) 19 = .ok (.goto (4), 3) := by decide +kernel
theorem d_Dos_sendBytes_22 : decode (rm_code mDos_sendBytes) 22 = .ok (.iconst 0, 1) := by decide +kernel
theorem d_Dos_sendBytes_23 : decode (rm_code mDos_sendBytes) 23 = .ok (.istore_n 2, 1) := by decide +kernel
theorem d_Dos_sendBytes_24 : decode (rm_code mDos_sendBytes) 24 = .ok (.iload_n 2, 1) := by decide +kernel
theorem d_Dos_sendBytes_25 : decode (rm_code mDos_sendBytes) 25 = .ok (.iconst 4, 1) := by decide +kernel
theorem d_Dos_sendBytes_26 : decode (rm_code mDos_sendBytes) 26 = .ok (.if_icmp .ne (78), 3) := by decide +kernel
theorem d_Dos_sendBytes_29 : decode (rm_code mDos_sendBytes) 29 = .ok (.iconst 0, 1) := by decide +kernel
theorem d_Dos_sendBytes_30 : decode (rm_code mDos_sendBytes) 30 = .ok (.istore_n 3, 1) := by decide +kernel
theorem d_Dos_sendBytes_31 : decode (rm_code mDos_sendBytes) 31 = .ok (.iload_n 3, 1) := by decide +kernel
theorem d_Dos_sendBytes_32 : decode (rm_code mDos_sendBytes) 32 = .ok (.aload_n 0, 1) := by decide +kernel
theorem d_Dos_sendBytes_33 : decode (rm_code mDos_sendBytes) 33 = .ok (.getfield 38, 3) := by decide +kernel
theorem d_Dos_sendBytes_36 : decode (rm_code mDos_sendBytes) 36 = .ok (.getfield 146, 3) := by decide +kernel
theorem d_Dos_sendBytes_39 : decode (rm_code mDos_sendBytes) 39 = .ok (.if_icmp .ge (62), 3) := by decide +kernel
theorem d_Dos_sendBytes_42 : decode (rm_code mDos_sendBytes) 42 = .ok (.aload_n 0, 1) := by decide +kernel
theorem d_Dos_sendBytes_43 : decode (rm_code mDos_sendBytes) 43 = .ok (.getfield 19, 3) := by decide +kernel
theorem d_Dos_sendBytes_46 : decode (rm_code mDos_sendBytes) 46 = .ok (.iload_n 1, 1) := by decide +kernel
theorem d_Dos_sendBytes_47 : decode (rm_code mDos_sendBytes) 47 = .ok (.aaload, 1) := by decide +kernel
theorem d_Dos_sendBytes_48 : decode (rm_code mDos_sendBytes) 48 = .ok (.getfield 72, 3) := by decide +kernel
theorem d_Dos_sendBytes_51 : decode (rm_code mDos_sendBytes) 51 = .ok (.aload_n 0, 1) := by decide +kernel
theorem d_Dos_sendBytes_52 : decode (rm_code mDos_sendBytes) 52 = .ok (.getfield 19, 3) := by decide +kernel
theorem d_Dos_sendBytes_55 : decode (rm_code mDos_sendBytes) 55 = .ok (.iload_n 1, 1) := by decide +kernel
theorem d_Dos_sendBytes_56 : decode (rm_code mDos_sendBytes) 56 = .ok (.aaload, 1) := by decide +kernel
theorem d_Dos_sendBytes_57 : decode (rm_code mDos_sendBytes) 57 = .ok (.getfield 73, 3) := by decide +kernel
theorem d_Dos_sendBytes_60 : decode (rm_code mDos_sendBytes) 60 = .ok (.bipush (63), 2) := by decide +kernel
theorem d_Dos_sendBytes_62 : decode (rm_code mDos_sendBytes) 62 = .ok (.iand, 1) := by decide +kernel
theorem d_Dos_sendBytes_63 : decode (rm_code mDos_sendBytes) 63 = .ok (.aload_n 0, 1) := by decide +kernel
theorem d_Dos_sendBytes_64 : decode (rm_code mDos_sendBytes) 64 = .ok (.getfield 38, 3) := by decide +kernel
theorem d_Dos_sendBytes_67 : decode (rm_code mDos_sendBytes) 67 = .ok (.iload_n 3, 1) := by decide +kernel
theorem d_Dos_sendBytes_68 : decode (rm_code mDos_sendBytes) 68 = .ok (.invokevirtual 122, 3) := by decide +kernel
theorem d_Dos_sendBytes_71 : decode (rm_code mDos_sendBytes) 71 = .ok (.iastore, 1) := by decide +kernel
theorem d_Dos_sendBytes_72 : decode (rm_code mDos_sendBytes) 72 = .ok (.aload_n 0, 1) := by decide +kernel
theorem d_Dos_sendBytes_73 : decode (rm_code mDos_sendBytes) 73 = .ok (.getfield 19, 3) := by decide +kernel
theorem d_Dos_sendBytes_76 : decode (rm_code mDos_sendBytes) 76 = .ok (.iload_n 1, 1) := by decide +kernel
theorem d_Dos_sendBytes_77 : decode (rm_code mDos_sendBytes) 77 = .ok (.aaload, 1) := by decide +kernel
theorem d_Dos_sendBytes_78 : decode (rm_code mDos_sendBytes) 78 = .ok (.aload_n 0, 1) := by decide +kernel
theorem d_Dos_sendBytes_79 : decode (rm_code mDos_sendBytes) 79 = .ok (.getfield 19, 3) := by decide +kernel
theorem d_Dos_sendBytes_82 : decode (rm_code mDos_sendBytes) 82 = .ok (.iload_n 1, 1) := by decide +kernel
theorem d_Dos_sendBytes_83 : decode (rm_code mDos_sendBytes) 83 = .ok (.aaload, 1) := by decide +kernel
theorem d_Dos_sendBytes_84 : decode (rm_code mDos_sendBytes) 84 = .ok (.getfield 73, 3) := by decide +kernel
theorem d_Dos_sendBytes_87 : decode (rm_code mDos_sendBytes) 87 = .ok (.iconst 1, 1) := by decide +kernel
theorem d_Dos_sendBytes_88 : decode (rm_code mDos_sendBytes) 88 = .ok (.iadd, 1) := by decide +kernel
theorem d_Dos_sendBytes_89 : decode (rm_code mDos_sendBytes) 89 = .ok (.bipush (63), 2) := by decide +kernel
theorem d_Dos_sendBytes_91 : decode (rm_code mDos_sendBytes) 91 = .ok (.iand, 1) := by decide +kernel
theorem d_Dos_sendBytes_92 : decode (rm_code mDos_sendBytes) 92 = .ok (.putfield 73, 3) := by decide +kernel
theorem d_Dos_sendBytes_95 : decode (rm_code mDos_sendBytes) 95 = .ok (.iinc 3 (1), 3) := by decide +kernel
theorem d_Dos_sendBytes_98 : decode (rm_code mDos_sendBytes) 98 = .ok (.goto (-67), 3) := by decide +kernel
theorem d_Dos_sendBytes_101 : decode (rm_code mDos_sendBytes) 101 = .ok (.goto (70), 3) := by decide +kernel
theorem d_Dos_sendBytes_104 : decode (rm_code mDos_sendBytes) 104 = .ok (.iload_n 2, 1) := by decide +kernel
theorem d_Dos_sendBytes_105 : decode (rm_code mDos_sendBytes) 105 = .ok (.iconst 2, 1) := by decide +kernel
theorem d_Dos_sendBytes_106 : decode (rm_code mDos_sendBytes) 106 = .ok (.if_icmp .ne (53), 3) := by decide +kernel
theorem d_Dos_sendBytes_109 : decode (rm_code mDos_sendBytes) 109 = .ok (.iconst 0, 1) := by decide +kernel
theorem d_Dos_sendBytes_110 : decode (rm_code mDos_sendBytes) 110 = .ok (.istore_n 3, 1) := by decide +kernel
theorem d_Dos_sendBytes_111 : decode (rm_code mDos_sendBytes) 111 = .ok (.iconst 0, 1) := by decide +kernel
theorem d_Dos_sendBytes_112 : decode (rm_code mDos_sendBytes) 112 = .ok (.istore 4, 2) := by decide +kernel
theorem d_Dos_sendBytes_114 : decode (rm_code mDos_sendBytes) 114 = .ok (.iload 4, 2) := by decide +kernel
theorem d_Dos_sendBytes_116 : decode (rm_code mDos_sendBytes) 116 = .ok (.aload_n 0, 1) := by decide +kernel
theorem d_Dos_sendBytes_117 : decode (rm_code mDos_sendBytes) 117 = .ok (.getfield 38, 3) := by decide +kernel
theorem d_Dos_sendBytes_120 : decode (rm_code mDos_sendBytes) 120 = .ok (.getfield 146, 3) := by decide +kernel
theorem d_Dos_sendBytes_123 : decode (rm_code mDos_sendBytes) 123 = .ok (.if_icmp .ge (33), 3) := by decide +kernel
theorem d_Dos_sendBytes_126 : decode (rm_code mDos_sendBytes) 126 = .ok (.iload_n 3, 1) := by decide +kernel
theorem d_Dos_sendBytes_127 : decode (rm_code mDos_sendBytes) 127 = .ok (.ifCond .ne (29), 3) := by decide +kernel
theorem d_Dos_sendBytes_130 : decode (rm_code mDos_sendBytes) 130 = .ok (.aload_n 0, 1) := by decide +kernel
theorem d_Dos_sendBytes_131 : decode (rm_code mDos_sendBytes) 131 = .ok (.aload_n 0, 1) := by decide +kernel
theorem d_Dos_sendBytes_132 : decode (rm_code mDos_sendBytes) 132 = .ok (.getfield 19, 3) := by decide +kernel
theorem d_Dos_sendBytes_135 : decode (rm_code mDos_sendBytes) 135 = .ok (.iload_n 1, 1) := by decide +kernel
theorem d_Dos_sendBytes_136 : decode (rm_code mDos_sendBytes) 136 = .ok (.aaload, 1) := by decide +kernel
theorem d_Dos_sendBytes_137 : decode (rm_code mDos_sendBytes) 137 = .ok (.aload_n 0, 1) := by decide +kernel
theorem d_Dos_sendBytes_138 : decode (rm_code mDos_sendBytes) 138 = .ok (.getfield 38, 3) := by decide +kernel
theorem d_Dos_sendBytes_141 : decode (rm_code mDos_sendBytes) 141 = .ok (.iload 4, 2) := by decide +kernel
theorem d_Dos_sendBytes_143 : decode (rm_code mDos_sendBytes) 143 = .ok (.invokevirtual 122, 3) := by decide +kernel
theorem d_Dos_sendBytes_146 : decode (rm_code mDos_sendBytes) 146 = .ok (.invokevirtual 337, 3) := by decide +kernel
theorem d_Dos_sendBytes_149 : decode (rm_code mDos_sendBytes) 149 = .ok (.istore_n 3, 1) := by decide +kernel
theorem d_Dos_sendBytes_150 : decode (rm_code mDos_sendBytes) 150 = .ok (.iinc 4 (1), 3) := by decide +kernel
theorem d_Dos_sendBytes_153 : decode (rm_code mDos_sendBytes) 153 = .ok (.goto (-39), 3) := by decide +kernel
theorem d_Dos_sendBytes_156 : decode (rm_code mDos_sendBytes) 156 = .ok (.goto (15), 3) := by decide +kernel
theorem d_Dos_sendBytes_159 : decode (rm_code mDos_sendBytes) 159 = .ok (.aload_n 0, 1) := by decide +kernel
theorem d_Dos_sendBytes_160 : decode (rm_code mDos_sendBytes) 160 = .ok (.getfield 30, 3) := by decide +kernel
theorem d_Dos_sendBytes_163 : decode (rm_code mDos_sendBytes) 163 = .ok (.bipush (61), 2) := by decide +kernel
theorem d_Dos_sendBytes_165 : decode (rm_code mDos_sendBytes) 165 = .ok (.iconst 0, 1) := by decide +kernel
theorem d_Dos_sendBytes_166 : decode (rm_code mDos_sendBytes) 166 = .ok (.iconst 0, 1) := by decide +kernel
theorem d_Dos_sendBytes_167 : decode (rm_code mDos_sendBytes) 167 = .ok (.invokevirtual 116, 3) := by decide +kernel
theorem d_Dos_sendBytes_170 : decode (rm_code mDos_sendBytes) 170 = .ok (.pop, 1) := by decide +kernel
theorem d_Dos_sendBytes_171 : decode (rm_code mDos_sendBytes) 171 = .ok (.return_, 1) := by decide +kernel
theorem p_Dos_sendBytes_0 {S : rz_S} {K : rz_S → Prop} {a1 : Int32} (w : ((a1 < 0 → rz mDos_sendBytes 22 [(0, .ref 39), (1, .int a1)] [] S (rz_v K)) ∧ (¬ a1 < 0 → ((15 ≤ a1 → rz mDos_sendBytes 22 [(0, .ref 39), (1, .int a1)] [] S (rz_v K)) ∧ (¬ 15 ≤ a1 → rx_in a1 15 = true ∧ rz mDos_sendBytes 23 [(0, .ref 39), (1, .int a1)] [.int (S.2 (48 + 4 * a1.toNatClampNeg) 0)] S (rz_v K)))))) : rz mDos_sendBytes 0 [(0, .ref 39), (1, .int a1)] [] S (rz_v K) := by
  refine rz_pure (pc' := 1) d_Dos_sendBytes_0 rfl ?_
  refine rz_iflt (tgt := 22) d_Dos_sendBytes_1 rfl (fun b1 => ?_) (fun b1 => ?_)
  · skip
    exact rz_pick (ks := [0, 1]) (l := [(0, .ref 39), (1, .int a1)]) rfl rfl (by decide) rfl (w.1 b1)
  · skip
    refine rz_pure (pc' := 5) d_Dos_sendBytes_4 rfl ?_
    refine rz_bipush (v := 15) d_Dos_sendBytes_5 (by decide) ?_
    refine rz_icmpge (tgt := 22) d_Dos_sendBytes_7 rfl (fun b2 => ?_) (fun b2 => ?_)
    · skip
      exact rz_pick (ks := [0, 1]) (l := [(0, .ref 39), (1, .int a1)]) rfl rfl (by decide) rfl ((w.2 b1).1 b2)
    · skip
      refine rz_pure (pc' := 11) d_Dos_sendBytes_10 rfl ?_
      refine rz_getr d_Dos_sendBytes_11 f_5_19 rfl rfl ?_
      refine rz_pure (pc' := 15) d_Dos_sendBytes_14 rfl ?_
      have e3 := chI ((w.2 b1).2 b2).1
      have ze3 := chZ e3
      refine rz_aldC d_Dos_sendBytes_15 rfl ((w.2 b1).2 b2).1 ?_
      refine rz_getiv (v := S.2 (48 + 4 * a1.toNatClampNeg) 0) d_Dos_sendBytes_16 f_5_61 (chTP e3) rfl rfl ?_
      refine rz_pure (pc' := 23) d_Dos_sendBytes_19 rfl ?_
      exact rz_pick (ks := [0, 1]) (l := [(0, .ref 39), (1, .int a1)]) rfl rfl (by decide) rfl ((w.2 b1).2 b2).2
theorem p_Dos_sendBytes_22 {S : rz_S} {K : rz_S → Prop} {a1 : Int32} (w : rz mDos_sendBytes 23 [(0, .ref 39), (1, .int a1)] [.int 0] S (rz_v K)) : rz mDos_sendBytes 22 [(0, .ref 39), (1, .int a1)] [] S (rz_v K) := by
  refine rz_iconst (v := 0) d_Dos_sendBytes_22 (by decide) ?_
  exact rz_pick (ks := [0, 1]) (l := [(0, .ref 39), (1, .int a1)]) rfl rfl (by decide) rfl w
theorem p_Dos_sendBytes_23 {S : rz_S} {K : rz_S → Prop} {a1 : Int32} {s0 : Int32} (w : ((s0 = 4 → rz mDos_sendBytes 31 [(0, .ref 39), (1, .int a1), (3, .int 0)] [] S (rz_v K)) ∧ (¬ s0 = 4 → ((s0 = 2 → rz mDos_sendBytes 114 [(0, .ref 39), (1, .int a1), (3, .int 0), (4, .int 0)] [] S (rz_v K)) ∧ (¬ s0 = 2 → rz_ev mStatus_set [.ref 3, .int 61, .int 0, .int 0] S (rz_i (fun xq3 Sq3 => K Sq3))))))) : rz mDos_sendBytes 23 [(0, .ref 39), (1, .int a1)] [.int s0] S (rz_v K) := by
  refine rz_pure (pc' := 24) (l' := [(2, .int s0), (0, .ref 39), (1, .int a1)]) d_Dos_sendBytes_23 rfl ?_
  refine rz_pure (pc' := 25) d_Dos_sendBytes_24 rfl ?_
  refine rz_iconst (v := 4) d_Dos_sendBytes_25 (by decide) ?_
  refine rz_icmpne (tgt := 104) d_Dos_sendBytes_26 rfl (fun b1 => ?_) (fun b1 => ?_)
  · skip
    refine rz_pure (pc' := 105) d_Dos_sendBytes_104 rfl ?_
    refine rz_iconst (v := 2) d_Dos_sendBytes_105 (by decide) ?_
    refine rz_icmpne (tgt := 159) d_Dos_sendBytes_106 rfl (fun b2 => ?_) (fun b2 => ?_)
    · skip
      refine rz_pure (pc' := 160) d_Dos_sendBytes_159 rfl ?_
      refine rz_getr d_Dos_sendBytes_160 f_5_30 rfl rfl ?_
      refine rz_bipush (v := 61) d_Dos_sendBytes_163 (by decide) ?_
      refine rz_iconst (v := 0) d_Dos_sendBytes_165 (by decide) ?_
      refine rz_iconst (v := 0) d_Dos_sendBytes_166 (by decide) ?_
      refine rz_callVi (t := [.int 0, .int 0, .int 61]) d_Dos_sendBytes_167 w_5_116 rfl rfl rfl ((w.2 b1).2 b2) (fun xq3 Sq3 q3 => ?_)
      refine rz_pure (pc' := 171) d_Dos_sendBytes_170 rfl ?_
      exact rz_vretv d_Dos_sendBytes_171 rfl q3
    · skip
      refine rz_iconst (v := 0) d_Dos_sendBytes_109 (by decide) ?_
      refine rz_pure (pc' := 111) (l' := [(3, .int 0), (2, .int s0), (0, .ref 39), (1, .int a1)]) d_Dos_sendBytes_110 rfl ?_
      refine rz_iconst (v := 0) d_Dos_sendBytes_111 (by decide) ?_
      refine rz_pure (pc' := 114) (l' := [(4, .int 0), (3, .int 0), (2, .int s0), (0, .ref 39), (1, .int a1)]) d_Dos_sendBytes_112 rfl ?_
      exact rz_pick (ks := [0, 1, 3, 4]) (l := [(0, .ref 39), (1, .int a1), (3, .int 0), (4, .int 0)]) rfl rfl (by decide) rfl ((w.2 b1).1 b2)
  · skip
    refine rz_iconst (v := 0) d_Dos_sendBytes_29 (by decide) ?_
    refine rz_pure (pc' := 31) (l' := [(3, .int 0), (2, .int s0), (0, .ref 39), (1, .int a1)]) d_Dos_sendBytes_30 rfl ?_
    exact rz_pick (ks := [0, 1, 3]) (l := [(0, .ref 39), (1, .int a1), (3, .int 0)]) rfl rfl (by decide) rfl (w.1 b1)
theorem p_Dos_sendBytes_114 {S : rz_S} {K : rz_S → Prop} {a1 : Int32} {a3 : Int32} {a4 : Int32} (w : ((S.2 1 2 ≤ a4 → K S) ∧ (¬ S.2 1 2 ≤ a4 → ((a3 = 0 → rx_in a1 15 = true ∧ rz_ev mTape_byteAt [.ref 1, .int a4] S (rz_i (fun xq4 Sq4 => rz_ev mDos_addToFile [.ref 39, .ref (48 + 4 * a1.toNatClampNeg), .int xq4] Sq4 (rz_i (fun xq5 Sq5 => rz mDos_sendBytes 114 [(0, .ref 39), (1, .int a1), (3, .int xq5), (4, .int (a4 + 1))] [] Sq5 (rz_v K)))))) ∧ (¬ a3 = 0 → K S))))) : rz mDos_sendBytes 114 [(0, .ref 39), (1, .int a1), (3, .int a3), (4, .int a4)] [] S (rz_v K) := by
  refine rz_pure (pc' := 116) d_Dos_sendBytes_114 rfl ?_
  refine rz_pure (pc' := 117) d_Dos_sendBytes_116 rfl ?_
  refine rz_getr d_Dos_sendBytes_117 f_5_38 rfl rfl ?_
  refine rz_getiv (v := S.2 1 2) d_Dos_sendBytes_120 f_5_146 rfl rfl rfl ?_
  refine rz_icmpge (tgt := 156) d_Dos_sendBytes_123 rfl (fun b1 => ?_) (fun b1 => ?_)
  · skip
    refine rz_pure (pc' := 171) d_Dos_sendBytes_156 rfl ?_
    exact rz_vretv d_Dos_sendBytes_171 rfl (w.1 b1)
  · skip
    refine rz_pure (pc' := 127) d_Dos_sendBytes_126 rfl ?_
    refine rz_ifne (tgt := 156) d_Dos_sendBytes_127 rfl (fun b2 => ?_) (fun b2 => ?_)
    · skip
      refine rz_pure (pc' := 171) d_Dos_sendBytes_156 rfl ?_
      exact rz_vretv d_Dos_sendBytes_171 rfl ((w.2 b1).2 b2)
    · skip
      refine rz_pure (pc' := 131) d_Dos_sendBytes_130 rfl ?_
      refine rz_pure (pc' := 132) d_Dos_sendBytes_131 rfl ?_
      refine rz_getr d_Dos_sendBytes_132 f_5_19 rfl rfl ?_
      refine rz_pure (pc' := 136) d_Dos_sendBytes_135 rfl ?_
      have e3 := chI ((w.2 b1).1 b2).1
      have ze3 := chZ e3
      refine rz_aldC d_Dos_sendBytes_136 rfl ((w.2 b1).1 b2).1 ?_
      refine rz_pure (pc' := 138) d_Dos_sendBytes_137 rfl ?_
      refine rz_getr d_Dos_sendBytes_138 f_5_38 rfl rfl ?_
      refine rz_pure (pc' := 143) d_Dos_sendBytes_141 rfl ?_
      refine rz_callVi (t := [.int a4]) d_Dos_sendBytes_143 w_5_122 rfl rfl rfl ((w.2 b1).1 b2).2 (fun xq4 Sq4 q4 => ?_)
      refine rz_callVi (t := [.int xq4, .ref (48 + 4 * a1.toNatClampNeg)]) d_Dos_sendBytes_146 w_5_337 rfl rfl rfl q4 (fun xq5 Sq5 q5 => ?_)
      refine rz_pure (pc' := 150) (l' := [(3, .int xq5), (0, .ref 39), (1, .int a1), (4, .int a4)]) d_Dos_sendBytes_149 rfl ?_
      refine rz_pure (pc' := 153) (l' := [(4, .int (a4 + 1)), (3, .int xq5), (0, .ref 39), (1, .int a1)]) d_Dos_sendBytes_150 rfl ?_
      refine rz_pure (pc' := 114) d_Dos_sendBytes_153 rfl ?_
      exact rz_pick (ks := [0, 1, 3, 4]) (l := [(0, .ref 39), (1, .int a1), (3, .int xq5), (4, .int (a4 + 1))]) rfl rfl (by decide) rfl q5
theorem p_Dos_sendBytes_31 {S : rz_S} {K : rz_S → Prop} {a1 : Int32} {a3 : Int32} (w : ((S.2 1 2 ≤ a3 → K S) ∧ (¬ S.2 1 2 ≤ a3 → rx_in a1 15 = true ∧ rz_ev mTape_byteAt [.ref 1, .int a3] S (rz_i (fun xq4 Sq4 => rx_in ((S.2 (48 + 4 * a1.toNatClampNeg) 2) &&& 63) 64 = true ∧ rz mDos_sendBytes 31 [(0, .ref 39), (1, .int a1), (3, .int (a3 + 1))] [] (rz_uI (rz_fA Sq4 ((48 + 4 * a1.toNatClampNeg) + 1) (upd (Sq4.1 ((48 + 4 * a1.toNatClampNeg) + 1)) (((S.2 (48 + 4 * a1.toNatClampNeg) 2) &&& 63).toNatClampNeg) xq4)) (48 + 4 * a1.toNatClampNeg) 2 (((Sq4.2 (48 + 4 * a1.toNatClampNeg) 2) + 1) &&& 63)) (rz_v K)))))) : rz mDos_sendBytes 31 [(0, .ref 39), (1, .int a1), (3, .int a3)] [] S (rz_v K) := by
  refine rz_pure (pc' := 32) d_Dos_sendBytes_31 rfl ?_
  refine rz_pure (pc' := 33) d_Dos_sendBytes_32 rfl ?_
  refine rz_getr d_Dos_sendBytes_33 f_5_38 rfl rfl ?_
  refine rz_getiv (v := S.2 1 2) d_Dos_sendBytes_36 f_5_146 rfl rfl rfl ?_
  refine rz_icmpge (tgt := 101) d_Dos_sendBytes_39 rfl (fun b1 => ?_) (fun b1 => ?_)
  · skip
    refine rz_pure (pc' := 171) d_Dos_sendBytes_101 rfl ?_
    exact rz_vretv d_Dos_sendBytes_171 rfl (w.1 b1)
  · skip
    refine rz_pure (pc' := 43) d_Dos_sendBytes_42 rfl ?_
    refine rz_getr d_Dos_sendBytes_43 f_5_19 rfl rfl ?_
    refine rz_pure (pc' := 47) d_Dos_sendBytes_46 rfl ?_
    have e2 := chI (w.2 b1).1
    have ze2 := chZ e2
    refine rz_aldC d_Dos_sendBytes_47 rfl (w.2 b1).1 ?_
    refine rz_getr d_Dos_sendBytes_48 f_5_72 (chTP e2) rfl ?_
    refine rz_pure (pc' := 52) d_Dos_sendBytes_51 rfl ?_
    refine rz_getr d_Dos_sendBytes_52 f_5_19 rfl rfl ?_
    refine rz_pure (pc' := 56) d_Dos_sendBytes_55 rfl ?_
    have e3 := chI (w.2 b1).1
    have ze3 := chZ e3
    refine rz_aldC d_Dos_sendBytes_56 rfl (w.2 b1).1 ?_
    refine rz_getiv (v := S.2 (48 + 4 * a1.toNatClampNeg) 2) d_Dos_sendBytes_57 f_5_73 (chTP e3) rfl rfl ?_
    refine rz_bipush (v := 63) d_Dos_sendBytes_60 (by decide) ?_
    refine rz_iand d_Dos_sendBytes_62 ?_
    refine rz_pure (pc' := 64) d_Dos_sendBytes_63 rfl ?_
    refine rz_getr d_Dos_sendBytes_64 f_5_38 rfl rfl ?_
    refine rz_pure (pc' := 68) d_Dos_sendBytes_67 rfl ?_
    refine rz_callVi (t := [.int a3]) d_Dos_sendBytes_68 w_5_122 rfl rfl rfl (w.2 b1).2 (fun xq4 Sq4 q4 => ?_)
    refine rz_iastv (F := Sq4.1 ((48 + 4 * a1.toNatClampNeg) + 1)) (i := ((S.2 (48 + 4 * a1.toNatClampNeg) 2) &&& 63).toNatClampNeg) d_Dos_sendBytes_71 (chR e2) q4.1 rfl rfl ?_
    refine rz_pure (pc' := 73) d_Dos_sendBytes_72 rfl ?_
    refine rz_getr d_Dos_sendBytes_73 f_5_19 rfl rfl ?_
    refine rz_pure (pc' := 77) d_Dos_sendBytes_76 rfl ?_
    have e5 := chI (w.2 b1).1
    have ze5 := chZ e5
    refine rz_aldC d_Dos_sendBytes_77 rfl (w.2 b1).1 ?_
    refine rz_pure (pc' := 79) d_Dos_sendBytes_78 rfl ?_
    refine rz_getr d_Dos_sendBytes_79 f_5_19 rfl rfl ?_
    refine rz_pure (pc' := 83) d_Dos_sendBytes_82 rfl ?_
    have e6 := chI (w.2 b1).1
    have ze6 := chZ e6
    refine rz_aldC d_Dos_sendBytes_83 rfl (w.2 b1).1 ?_
    refine rz_getiv (v := Sq4.2 (48 + 4 * a1.toNatClampNeg) 2) d_Dos_sendBytes_84 f_5_73 (chTP e6) rfl rfl ?_
    refine rz_iconst (v := 1) d_Dos_sendBytes_87 (by decide) ?_
    refine rz_iadd d_Dos_sendBytes_88 ?_
    refine rz_bipush (v := 63) d_Dos_sendBytes_89 (by decide) ?_
    refine rz_iand d_Dos_sendBytes_91 ?_
    refine rz_puti d_Dos_sendBytes_92 f_5_73 (chTP e5) rfl rfl ?_
    refine rz_pure (pc' := 98) (l' := [(3, .int (a3 + 1)), (0, .ref 39), (1, .int a1)]) d_Dos_sendBytes_95 rfl ?_
    refine rz_pure (pc' := 31) d_Dos_sendBytes_98 rfl ?_
    exact rz_pick (ks := [0, 1, 3]) (l := [(0, .ref 39), (1, .int a1), (3, .int (a3 + 1))]) rfl rfl (by decide) rfl q4.2
theorem d_Dos_addToFile_0 : decode (rm_code mDos_addToFile) 0 = .ok (.aload_n 1, 1) := by decide +kernel
theorem d_Dos_addToFile_1 : decode (rm_code mDos_addToFile) 1 = .ok (.getfield 73, 3) := by decide +kernel
theorem d_Dos_addToFile_4 : decode (rm_code mDos_addToFile) 4 = .ok (.bipush (64), 2) := by decide +kernel
theorem d_Dos_addToFile_6 : decode (rm_code mDos_addToFile) 6 = .ok (.if_icmp .lt (62), 3) := by decide +kernel
theorem d_Dos_addToFile_9 : decode (rm_code mDos_addToFile) 9 = .ok (.aload_n 0, 1) := by decide +kernel
theorem d_Dos_addToFile_10 : decode (rm_code mDos_addToFile) 10 = .ok (.getfield 47, 3) := by decide +kernel
theorem d_Dos_addToFile_13 : decode (rm_code mDos_addToFile) 13 = .ok (.invokevirtual 231, 3) := by decide +kernel
theorem d_Dos_addToFile_16 : decode (rm_code mDos_addToFile) 16 = .ok (.istore_n 3, 1) := by decide +kernel
theorem d_Dos_addToFile_17 : decode (rm_code mDos_addToFile) 17 = .ok (.iload_n 3, 1) := by decide +kernel
theorem d_Dos_addToFile_18 : decode (rm_code mDos_addToFile) 18 = .ok (.ifCond .ne (39), 3) := by decide +kernel
theorem d_Dos_addToFile_21 : decode (rm_code mDos_addToFile) 21 = .ok (.aload_n 0, 1) := by decide +kernel
theorem d_Dos_addToFile_22 : decode (rm_code mDos_addToFile) 22 = .ok (.getfield 47, 3) := by decide +kernel
theorem d_Dos_addToFile_25 : decode (rm_code mDos_addToFile) 25 = .ok (.aload_n 1, 1) := by decide +kernel
theorem d_Dos_addToFile_26 : decode (rm_code mDos_addToFile) 26 = .ok (.getfield 76, 3) := by decide +kernel
theorem d_Dos_addToFile_29 : decode (rm_code mDos_addToFile) 29 = .ok (.aload_n 1, 1) := by decide +kernel
theorem d_Dos_addToFile_30 : decode (rm_code mDos_addToFile) 30 = .ok (.getfield 79, 3) := by decide +kernel
theorem d_Dos_addToFile_33 : decode (rm_code mDos_addToFile) 33 = .ok (.invokevirtual 341, 3) := by decide +kernel
theorem d_Dos_addToFile_36 : decode (rm_code mDos_addToFile) 36 = .ok (.istore 4, 2) := by decide +kernel
theorem d_Dos_addToFile_38 : decode (rm_code mDos_addToFile) 38 = .ok (.iload 4, 2) := by decide +kernel
theorem d_Dos_addToFile_40 : decode (rm_code mDos_addToFile) 40 = .ok (.ifCond .eq (11), 3) := by decide +kernel
theorem d_Dos_addToFile_43 : decode (rm_code mDos_addToFile) 43 = .ok (.aload_n 0, 1) := by decide +kernel
theorem d_Dos_addToFile_44 : decode (rm_code mDos_addToFile) 44 = .ok (.aload_n 1, 1) := by decide +kernel
theorem d_Dos_addToFile_45 : decode (rm_code mDos_addToFile) 45 = .ok (.invokevirtual 344, 3) := by decide +kernel
theorem d_Dos_addToFile_48 : decode (rm_code mDos_addToFile) 48 = .ok (.goto (8), 3) := by decide +kernel
theorem d_Dos_addToFile_51 : decode (rm_code mDos_addToFile) 51 = .ok (.aload_n 0, 1) := by decide +kernel
theorem d_Dos_addToFile_52 : decode (rm_code mDos_addToFile) 52 = .ok (.aload_n 1, 1) := by decide +kernel
theorem d_Dos_addToFile_53 : decode (rm_code mDos_addToFile) 53 = .ok (.invokevirtual 347, 3) := by decide +kernel
theorem d_Dos_addToFile_56 : decode (rm_code mDos_addToFile) 56 = .ok (.istore_n 3, 1) := by decide +kernel
theorem d_Dos_addToFile_57 : decode (rm_code mDos_addToFile) 57 = .ok (.iload_n 3, 1) := by decide +kernel
theorem d_Dos_addToFile_58 : decode (rm_code mDos_addToFile) 58 = .ok (.ifCond .eq (10), 3) := by decide +kernel
theorem d_Dos_addToFile_61 : decode (rm_code mDos_addToFile) 61 = .ok (.aload_n 1, 1) := by decide +kernel
theorem d_Dos_addToFile_62 : decode (rm_code mDos_addToFile) 62 = .ok (.iconst 0, 1) := by decide +kernel
theorem d_Dos_addToFile_63 : decode (rm_code mDos_addToFile) 63 = .ok (.putfield 61, 3) := by decide +kernel
theorem d_Dos_addToFile_66 : decode (rm_code mDos_addToFile) 66 = .ok (.iload_n 3, 1) := by decide +kernel
theorem d_Dos_addToFile_67 : decode (rm_code mDos_addToFile) 67 = .ok (.ireturn, 1) := by decide +kernel
theorem d_Dos_addToFile_68 : decode (rm_code mDos_addToFile) 68 = .ok (.aload_n 1, 1) := by decide +kernel
theorem d_Dos_addToFile_69 : decode (rm_code mDos_addToFile) 69 = .ok (.getfield 72, 3) := by decide +kernel
theorem d_Dos_addToFile_72 : decode (rm_code mDos_addToFile) 72 = .ok (.aload_n 1, 1) := by decide +kernel
theorem d_Dos_addToFile_73 : decode (rm_code mDos_addToFile) 73 = .ok (.getfield 73, 3) := by decide +kernel
theorem d_Dos_addToFile_76 : decode (rm_code mDos_addToFile) 76 = .ok (.bipush (63), 2) := by decide +kernel
theorem d_Dos_addToFile_78 : decode (rm_code mDos_addToFile) 78 = .ok (.iand, 1) := by decide +kernel
theorem d_Dos_addToFile_79 : decode (rm_code mDos_addToFile) 79 = .ok (.iload_n 2, 1) := by decide +kernel
theorem d_Dos_addToFile_80 : decode (rm_code mDos_addToFile) 80 = .ok (.iastore, 1) := by decide +kernel
theorem d_Dos_addToFile_81 : decode (rm_code mDos_addToFile) 81 = .ok (.aload_n 1, 1) := by decide +kernel
theorem d_Dos_addToFile_82 : decode (rm_code mDos_addToFile) 82 = .ok (.dup, 1) := by decide +kernel
theorem d_Dos_addToFile_83 : decode (rm_code mDos_addToFile) 83 = .ok (.getfield 73, 3) := by decide +kernel
theorem d_Dos_addToFile_86 : decode (rm_code mDos_addToFile) 86 = .ok (.iconst 1, 1) := by decide +kernel
theorem d_Dos_addToFile_87 : decode (rm_code mDos_addToFile) 87 = .ok (.iadd, 1) := by decide +kernel
theorem d_Dos_addToFile_88 : decode (rm_code mDos_addToFile) 88 = .ok (.putfield 73, 3) := by decide +kernel
theorem d_Dos_addToFile_91 : decode (rm_code mDos_addToFile) 91 = .ok (.iconst 0, 1) := by decide +kernel
theorem d_Dos_addToFile_92 : decode (rm_code mDos_addToFile) 92 = .ok (.ireturn, 1) := by decide +kernel
theorem p_Dos_addToFile_0 {S : rz_S} {K : Int32 → rz_S → Prop} {a1 : Nat} (ha1 : chP a1) {a2 : Int32} (w : ((S.2 a1 2 < 64 → rz mDos_addToFile 68 [(1, .ref a1), (2, .int a2)] [] S (rz_i K)) ∧ (¬ S.2 a1 2 < 64 → rz_ev mBlockMap_load [.ref 44] S (rz_i (fun xq2 Sq2 => ((xq2 = 0 → rz_ev mBlockMap_pickBehind [.ref 44, .int (Sq2.2 a1 5), .int (Sq2.2 a1 6)] Sq2 (rz_i (fun xq4 Sq4 => ((xq4 = 0 → rz_ev mDos_giveUpFile [.ref 39, .ref a1] Sq4 (rz_i (fun xq6 Sq6 => rz mDos_addToFile 56 [(1, .ref a1), (2, .int a2)] [.int xq6] Sq6 (rz_i K)))) ∧ (¬ xq4 = 0 → rz_ev mDos_goToNextBlock [.ref 39, .ref a1] Sq4 (rz_i (fun xq7 Sq7 => rz mDos_addToFile 56 [(1, .ref a1), (2, .int a2)] [.int xq7] Sq7 (rz_i K)))))))) ∧ (¬ xq2 = 0 → rz mDos_addToFile 57 [(1, .ref a1), (2, .int a2), (3, .int xq2)] [] Sq2 (rz_i K)))))))) : rz mDos_addToFile 0 [(0, .ref 39), (1, .ref a1), (2, .int a2)] [] S (rz_i K) := by
  have za1 := chZ ha1
  refine rz_pure (pc' := 1) d_Dos_addToFile_0 rfl ?_
  refine rz_getiv (v := S.2 a1 2) d_Dos_addToFile_1 f_5_73 (chTP ha1) rfl rfl ?_
  refine rz_bipush (v := 64) d_Dos_addToFile_4 (by decide) ?_
  refine rz_icmplt (tgt := 68) d_Dos_addToFile_6 rfl (fun b1 => ?_) (fun b1 => ?_)
  · skip
    exact rz_pick (ks := [1, 2]) (l := [(1, .ref a1), (2, .int a2)]) rfl rfl (by decide) rfl (w.1 b1)
  · skip
    refine rz_pure (pc' := 10) d_Dos_addToFile_9 rfl ?_
    refine rz_getr d_Dos_addToFile_10 f_5_47 rfl rfl ?_
    refine rz_callVi (t := []) d_Dos_addToFile_13 w_5_231 rfl rfl rfl (w.2 b1) (fun xq2 Sq2 q2 => ?_)
    refine rz_pure (pc' := 17) (l' := [(3, .int xq2), (0, .ref 39), (1, .ref a1), (2, .int a2)]) d_Dos_addToFile_16 rfl ?_
    refine rz_pure (pc' := 18) d_Dos_addToFile_17 rfl ?_
    refine rz_ifne (tgt := 57) d_Dos_addToFile_18 rfl (fun b3 => ?_) (fun b3 => ?_)
    · skip
      exact rz_pick (ks := [1, 2, 3]) (l := [(1, .ref a1), (2, .int a2), (3, .int xq2)]) rfl rfl (by decide) rfl (q2.2 b3)
    · skip
      refine rz_pure (pc' := 22) d_Dos_addToFile_21 rfl ?_
      refine rz_getr d_Dos_addToFile_22 f_5_47 rfl rfl ?_
      refine rz_pure (pc' := 26) d_Dos_addToFile_25 rfl ?_
      refine rz_getiv (v := Sq2.2 a1 5) d_Dos_addToFile_26 f_5_76 (chTP ha1) rfl rfl ?_
      refine rz_pure (pc' := 30) d_Dos_addToFile_29 rfl ?_
      refine rz_getiv (v := Sq2.2 a1 6) d_Dos_addToFile_30 f_5_79 (chTP ha1) rfl rfl ?_
      refine rz_callVi (t := [.int (Sq2.2 a1 6), .int (Sq2.2 a1 5)]) d_Dos_addToFile_33 w_5_341 rfl rfl rfl (q2.1 b3) (fun xq4 Sq4 q4 => ?_)
      refine rz_pure (pc' := 38) (l' := [(4, .int xq4), (3, .int xq2), (0, .ref 39), (1, .ref a1), (2, .int a2)]) d_Dos_addToFile_36 rfl ?_
      refine rz_pure (pc' := 40) d_Dos_addToFile_38 rfl ?_
      refine rz_ifeq (tgt := 51) d_Dos_addToFile_40 rfl (fun b5 => ?_) (fun b5 => ?_)
      · skip
        refine rz_pure (pc' := 52) d_Dos_addToFile_51 rfl ?_
        refine rz_pure (pc' := 53) d_Dos_addToFile_52 rfl ?_
        refine rz_callVi (t := [.ref a1]) d_Dos_addToFile_53 w_5_347 rfl rfl rfl (q4.1 b5) (fun xq6 Sq6 q6 => ?_)
        exact rz_pick (ks := [1, 2]) (l := [(1, .ref a1), (2, .int a2)]) rfl rfl (by decide) rfl q6
      · skip
        refine rz_pure (pc' := 44) d_Dos_addToFile_43 rfl ?_
        refine rz_pure (pc' := 45) d_Dos_addToFile_44 rfl ?_
        refine rz_callVi (t := [.ref a1]) d_Dos_addToFile_45 w_5_344 rfl rfl rfl (q4.2 b5) (fun xq7 Sq7 q7 => ?_)
        refine rz_pure (pc' := 56) d_Dos_addToFile_48 rfl ?_
        exact rz_pick (ks := [1, 2]) (l := [(1, .ref a1), (2, .int a2)]) rfl rfl (by decide) rfl q7
theorem p_Dos_addToFile_68 {S : rz_S} {K : Int32 → rz_S → Prop} {a1 : Nat} (ha1 : chP a1) {a2 : Int32} (w : rx_in ((S.2 a1 2) &&& 63) 64 = true ∧ K 0 (rz_uI (rz_fA S (a1 + 1) (upd (S.1 (a1 + 1)) (((S.2 a1 2) &&& 63).toNatClampNeg) a2)) a1 2 ((S.2 a1 2) + 1))) : rz mDos_addToFile 68 [(1, .ref a1), (2, .int a2)] [] S (rz_i K) := by
  have za1 := chZ ha1
  refine rz_pure (pc' := 69) d_Dos_addToFile_68 rfl ?_
  refine rz_getr d_Dos_addToFile_69 f_5_72 (chTP ha1) rfl ?_
  refine rz_pure (pc' := 73) d_Dos_addToFile_72 rfl ?_
  refine rz_getiv (v := S.2 a1 2) d_Dos_addToFile_73 f_5_73 (chTP ha1) rfl rfl ?_
  refine rz_bipush (v := 63) d_Dos_addToFile_76 (by decide) ?_
  refine rz_iand d_Dos_addToFile_78 ?_
  refine rz_pure (pc' := 80) d_Dos_addToFile_79 rfl ?_
  refine rz_iastv (F := S.1 (a1 + 1)) (i := ((S.2 a1 2) &&& 63).toNatClampNeg) d_Dos_addToFile_80 (chR ha1) w.1 rfl rfl ?_
  refine rz_pure (pc' := 82) d_Dos_addToFile_81 rfl ?_
  refine rz_pure (pc' := 83) d_Dos_addToFile_82 rfl ?_
  refine rz_getiv (v := S.2 a1 2) d_Dos_addToFile_83 f_5_73 (chTP ha1) rfl rfl ?_
  refine rz_iconst (v := 1) d_Dos_addToFile_86 (by decide) ?_
  refine rz_iadd d_Dos_addToFile_87 ?_
  refine rz_puti d_Dos_addToFile_88 f_5_73 (chTP ha1) rfl rfl ?_
  refine rz_iconst (v := 0) d_Dos_addToFile_91 (by decide) ?_
  exact rz_ireti d_Dos_addToFile_92 rfl rfl w.2
theorem p_Dos_addToFile_57 {S : rz_S} {K : Int32 → rz_S → Prop} {a1 : Nat} (ha1 : chP a1) {a2 : Int32} {a3 : Int32} (w : ((a3 = 0 → rz mDos_addToFile 68 [(1, .ref a1), (2, .int a2)] [] S (rz_i K)) ∧ (¬ a3 = 0 → K a3 (rz_uI S a1 0 0)))) : rz mDos_addToFile 57 [(1, .ref a1), (2, .int a2), (3, .int a3)] [] S (rz_i K) := by
  have za1 := chZ ha1
  refine rz_pure (pc' := 58) d_Dos_addToFile_57 rfl ?_
  refine rz_ifeq (tgt := 68) d_Dos_addToFile_58 rfl (fun b1 => ?_) (fun b1 => ?_)
  · skip
    exact rz_pick (ks := [1, 2]) (l := [(1, .ref a1), (2, .int a2)]) rfl rfl (by decide) rfl (w.1 b1)
  · skip
    refine rz_pure (pc' := 62) d_Dos_addToFile_61 rfl ?_
    refine rz_iconst (v := 0) d_Dos_addToFile_62 (by decide) ?_
    refine rz_puti d_Dos_addToFile_63 f_5_61 (chTP ha1) rfl rfl ?_
    refine rz_pure (pc' := 67) d_Dos_addToFile_66 rfl ?_
    exact rz_ireti d_Dos_addToFile_67 rfl rfl (w.2 b1)
theorem p_Dos_addToFile_56 {S : rz_S} {K : Int32 → rz_S → Prop} {a1 : Nat} (ha1 : chP a1) {a2 : Int32} {s0 : Int32} (w : rz mDos_addToFile 57 [(1, .ref a1), (2, .int a2), (3, .int s0)] [] S (rz_i K)) : rz mDos_addToFile 56 [(1, .ref a1), (2, .int a2)] [.int s0] S (rz_i K) := by
  have za1 := chZ ha1
  refine rz_pure (pc' := 57) (l' := [(3, .int s0), (1, .ref a1), (2, .int a2)]) d_Dos_addToFile_56 rfl ?_
  exact rz_pick (ks := [1, 2, 3]) (l := [(1, .ref a1), (2, .int a2), (3, .int s0)]) rfl rfl (by decide) rfl w
theorem d_Dos_goToNextBlock_0 : decode (rm_code mDos_goToNextBlock) 0 = .ok (.aload_n 0, 1) := by decide +kernel
theorem d_Dos_goToNextBlock_1 : decode (rm_code mDos_goToNextBlock) 1 = .ok (.getfield 47, 3) := by decide +kernel
theorem d_Dos_goToNextBlock_4 : decode (rm_code mDos_goToNextBlock) 4 = .ok (.invokevirtual 239, 3) := by decide +kernel
theorem d_Dos_goToNextBlock_7 : decode (rm_code mDos_goToNextBlock) 7 = .ok (.istore_n 2, 1) := by decide +kernel
theorem d_Dos_goToNextBlock_8 : decode (rm_code mDos_goToNextBlock) 8 = .ok (.iload_n 2, 1) := by decide +kernel
theorem d_Dos_goToNextBlock_9 : decode (rm_code mDos_goToNextBlock) 9 = .ok (.ifCond .eq (5), 3) := by decide +kernel
theorem d_Dos_goToNextBlock_12 : decode (rm_code mDos_goToNextBlock) 12 = .ok (.iload_n 2, 1) := by decide +kernel
theorem d_Dos_goToNextBlock_13 : decode (rm_code mDos_goToNextBlock) 13 = .ok (.ireturn, 1) := by decide +kernel
theorem d_Dos_goToNextBlock_14 : decode (rm_code mDos_goToNextBlock) 14 = .ok (.aload_n 1, 1) := by decide +kernel
theorem d_Dos_goToNextBlock_15 : decode (rm_code mDos_goToNextBlock) 15 = .ok (.getfield 72, 3) := by decide +kernel
theorem d_Dos_goToNextBlock_18 : decode (rm_code mDos_goToNextBlock) 18 = .ok (.iconst 0, 1) := by decide +kernel
theorem d_Dos_goToNextBlock_19 : decode (rm_code mDos_goToNextBlock) 19 = .ok (.aload_n 0, 1) := by decide +kernel
theorem d_Dos_goToNextBlock_20 : decode (rm_code mDos_goToNextBlock) 20 = .ok (.getfield 47, 3) := by decide +kernel
theorem d_Dos_goToNextBlock_23 : decode (rm_code mDos_goToNextBlock) 23 = .ok (.getfield 255, 3) := by decide +kernel
theorem d_Dos_goToNextBlock_26 : decode (rm_code mDos_goToNextBlock) 26 = .ok (.iastore, 1) := by decide +kernel
theorem d_Dos_goToNextBlock_27 : decode (rm_code mDos_goToNextBlock) 27 = .ok (.aload_n 1, 1) := by decide +kernel
theorem d_Dos_goToNextBlock_28 : decode (rm_code mDos_goToNextBlock) 28 = .ok (.getfield 72, 3) := by decide +kernel
theorem d_Dos_goToNextBlock_31 : decode (rm_code mDos_goToNextBlock) 31 = .ok (.iconst 1, 1) := by decide +kernel
theorem d_Dos_goToNextBlock_32 : decode (rm_code mDos_goToNextBlock) 32 = .ok (.aload_n 0, 1) := by decide +kernel
theorem d_Dos_goToNextBlock_33 : decode (rm_code mDos_goToNextBlock) 33 = .ok (.getfield 47, 3) := by decide +kernel
theorem d_Dos_goToNextBlock_36 : decode (rm_code mDos_goToNextBlock) 36 = .ok (.getfield 256, 3) := by decide +kernel
theorem d_Dos_goToNextBlock_39 : decode (rm_code mDos_goToNextBlock) 39 = .ok (.iastore, 1) := by decide +kernel
theorem d_Dos_goToNextBlock_40 : decode (rm_code mDos_goToNextBlock) 40 = .ok (.aload_n 0, 1) := by decide +kernel
theorem d_Dos_goToNextBlock_41 : decode (rm_code mDos_goToNextBlock) 41 = .ok (.getfield 34, 3) := by decide +kernel
theorem d_Dos_goToNextBlock_44 : decode (rm_code mDos_goToNextBlock) 44 = .ok (.aload_n 1, 1) := by decide +kernel
theorem d_Dos_goToNextBlock_45 : decode (rm_code mDos_goToNextBlock) 45 = .ok (.getfield 76, 3) := by decide +kernel
theorem d_Dos_goToNextBlock_48 : decode (rm_code mDos_goToNextBlock) 48 = .ok (.aload_n 1, 1) := by decide +kernel
theorem d_Dos_goToNextBlock_49 : decode (rm_code mDos_goToNextBlock) 49 = .ok (.getfield 79, 3) := by decide +kernel
theorem d_Dos_goToNextBlock_52 : decode (rm_code mDos_goToNextBlock) 52 = .ok (.aload_n 1, 1) := by decide +kernel
theorem d_Dos_goToNextBlock_53 : decode (rm_code mDos_goToNextBlock) 53 = .ok (.getfield 72, 3) := by decide +kernel
theorem d_Dos_goToNextBlock_56 : decode (rm_code mDos_goToNextBlock) 56 = .ok (.invokevirtual 82, 3) := by decide +kernel
theorem d_Dos_goToNextBlock_59 : decode (rm_code mDos_goToNextBlock) 59 = .ok (.istore_n 2, 1) := by decide +kernel
theorem d_Dos_goToNextBlock_60 : decode (rm_code mDos_goToNextBlock) 60 = .ok (.iload_n 2, 1) := by decide +kernel
theorem d_Dos_goToNextBlock_61 : decode (rm_code mDos_goToNextBlock) 61 = .ok (.ifCond .ne (31), 3) := by decide +kernel
theorem d_Dos_goToNextBlock_64 : decode (rm_code mDos_goToNextBlock) 64 = .ok (.aload_n 1, 1) := by decide +kernel
theorem d_Dos_goToNextBlock_65 : decode (rm_code mDos_goToNextBlock) 65 = .ok (.aload_n 0, 1) := by decide +kernel
theorem d_Dos_goToNextBlock_66 : decode (rm_code mDos_goToNextBlock) 66 = .ok (.getfield 47, 3) := by decide +kernel
theorem d_Dos_goToNextBlock_69 : decode (rm_code mDos_goToNextBlock) 69 = .ok (.getfield 255, 3) := by decide +kernel
theorem d_Dos_goToNextBlock_72 : decode (rm_code mDos_goToNextBlock) 72 = .ok (.aload_n 0, 1) := by decide +kernel
theorem d_Dos_goToNextBlock_73 : decode (rm_code mDos_goToNextBlock) 73 = .ok (.getfield 47, 3) := by decide +kernel
theorem d_Dos_goToNextBlock_76 : decode (rm_code mDos_goToNextBlock) 76 = .ok (.getfield 256, 3) := by decide +kernel
theorem d_Dos_goToNextBlock_79 : decode (rm_code mDos_goToNextBlock) 79 = .ok (.invokevirtual 270, 3) := by decide +kernel
theorem d_Dos_goToNextBlock_82 : decode (rm_code mDos_goToNextBlock) 82 = .ok (.aload_n 1, 1) := by decide +kernel
theorem d_Dos_goToNextBlock_83 : decode (rm_code mDos_goToNextBlock) 83 = .ok (.dup, 1) := by decide +kernel
theorem d_Dos_goToNextBlock_84 : decode (rm_code mDos_goToNextBlock) 84 = .ok (.getfield 90, 3) := by decide +kernel
theorem d_Dos_goToNextBlock_87 : decode (rm_code mDos_goToNextBlock) 87 = .ok (.iconst 1, 1) := by decide +kernel
theorem d_Dos_goToNextBlock_88 : decode (rm_code mDos_goToNextBlock) 88 = .ok (.iadd, 1) := by decide +kernel
theorem d_Dos_goToNextBlock_89 : decode (rm_code mDos_goToNextBlock) 89 = .ok (.putfield 90, 3) := by decide +kernel
theorem d_Dos_goToNextBlock_92 : decode (rm_code mDos_goToNextBlock) 92 = .ok (.iload_n 2, 1) := by decide +kernel
theorem d_Dos_goToNextBlock_93 : decode (rm_code mDos_goToNextBlock) 93 = .ok (.ireturn, 1) := by decide +kernel
theorem p_Dos_goToNextBlock_0 {S : rz_S} {K : Int32 → rz_S → Prop} {a1 : Nat} (ha1 : chP a1) (w : rz_ev mBlockMap_store [.ref 44] S (rz_i (fun xq1 Sq1 => ((xq1 = 0 → rz_ev mDisk_writeBlock [.ref 6, .int (Sq1.2 a1 5), .int (Sq1.2 a1 6), .ref (a1 + 1)] (rz_fA (rz_fA Sq1 (a1 + 1) (upd (Sq1.1 (a1 + 1)) 0 (Sq1.2 44 1))) (a1 + 1) (upd (upd (Sq1.1 (a1 + 1)) 0 (Sq1.2 44 1)) 1 (Sq1.2 44 2))) (rz_i (fun xq3 Sq3 => ((xq3 = 0 → rz_ev mChannel_beginBlock [.ref a1, .int (Sq3.2 44 1), .int (Sq3.2 44 2)] Sq3 (rz_v (fun Sq5 => K xq3 (rz_uI Sq5 a1 9 ((Sq5.2 a1 9) + 1))))) ∧ (¬ xq3 = 0 → K xq3 Sq3))))) ∧ (¬ xq1 = 0 → K xq1 Sq1))))) : rz mDos_goToNextBlock 0 [(0, .ref 39), (1, .ref a1)] [] S (rz_i K) := by
  have za1 := chZ ha1
  refine rz_pure (pc' := 1) d_Dos_goToNextBlock_0 rfl ?_
  refine rz_getr d_Dos_goToNextBlock_1 f_5_47 rfl rfl ?_
  refine rz_callVi (t := []) d_Dos_goToNextBlock_4 w_5_239 rfl rfl rfl w (fun xq1 Sq1 q1 => ?_)
  refine rz_pure (pc' := 8) (l' := [(2, .int xq1), (0, .ref 39), (1, .ref a1)]) d_Dos_goToNextBlock_7 rfl ?_
  refine rz_pure (pc' := 9) d_Dos_goToNextBlock_8 rfl ?_
  refine rz_ifeq (tgt := 14) d_Dos_goToNextBlock_9 rfl (fun b2 => ?_) (fun b2 => ?_)
  · skip
    refine rz_pure (pc' := 15) d_Dos_goToNextBlock_14 rfl ?_
    refine rz_getr d_Dos_goToNextBlock_15 f_5_72 (chTP ha1) rfl ?_
    refine rz_iconst (v := 0) d_Dos_goToNextBlock_18 (by decide) ?_
    refine rz_pure (pc' := 20) d_Dos_goToNextBlock_19 rfl ?_
    refine rz_getr d_Dos_goToNextBlock_20 f_5_47 rfl rfl ?_
    refine rz_getiv (v := Sq1.2 44 1) d_Dos_goToNextBlock_23 f_5_255 rfl rfl rfl ?_
    refine rz_iastv (F := Sq1.1 (a1 + 1)) (i := 0) d_Dos_goToNextBlock_26 (chR ha1) (by decide) rfl (by decide) ?_
    refine rz_pure (pc' := 28) d_Dos_goToNextBlock_27 rfl ?_
    refine rz_getr d_Dos_goToNextBlock_28 f_5_72 (chTP ha1) rfl ?_
    refine rz_iconst (v := 1) d_Dos_goToNextBlock_31 (by decide) ?_
    refine rz_pure (pc' := 33) d_Dos_goToNextBlock_32 rfl ?_
    refine rz_getr d_Dos_goToNextBlock_33 f_5_47 rfl rfl ?_
    refine rz_getiv (v := Sq1.2 44 2) d_Dos_goToNextBlock_36 f_5_256 rfl rfl rfl ?_
    refine rz_iastv (F := upd (Sq1.1 (a1 + 1)) 0 (Sq1.2 44 1)) (i := 1) d_Dos_goToNextBlock_39 (chR ha1) (by decide) rz_fA_s (by decide) ?_
    refine rz_pure (pc' := 41) d_Dos_goToNextBlock_40 rfl ?_
    refine rz_getr d_Dos_goToNextBlock_41 f_5_34 rfl rfl ?_
    refine rz_pure (pc' := 45) d_Dos_goToNextBlock_44 rfl ?_
    refine rz_getiv (v := Sq1.2 a1 5) d_Dos_goToNextBlock_45 f_5_76 (chTP ha1) rfl rfl ?_
    refine rz_pure (pc' := 49) d_Dos_goToNextBlock_48 rfl ?_
    refine rz_getiv (v := Sq1.2 a1 6) d_Dos_goToNextBlock_49 f_5_79 (chTP ha1) rfl rfl ?_
    refine rz_pure (pc' := 53) d_Dos_goToNextBlock_52 rfl ?_
    refine rz_getr d_Dos_goToNextBlock_53 f_5_72 (chTP ha1) rfl ?_
    refine rz_callVi (t := [.ref (a1 + 1), .int (Sq1.2 a1 6), .int (Sq1.2 a1 5)]) d_Dos_goToNextBlock_56 w_5_82 rfl rfl rfl (q1.1 b2) (fun xq3 Sq3 q3 => ?_)
    refine rz_pure (pc' := 60) (l' := [(2, .int xq3), (0, .ref 39), (1, .ref a1)]) d_Dos_goToNextBlock_59 rfl ?_
    refine rz_pure (pc' := 61) d_Dos_goToNextBlock_60 rfl ?_
    refine rz_ifne (tgt := 92) d_Dos_goToNextBlock_61 rfl (fun b4 => ?_) (fun b4 => ?_)
    · skip
      refine rz_pure (pc' := 93) d_Dos_goToNextBlock_92 rfl ?_
      exact rz_ireti d_Dos_goToNextBlock_93 rfl rfl (q3.2 b4)
    · skip
      refine rz_pure (pc' := 65) d_Dos_goToNextBlock_64 rfl ?_
      refine rz_pure (pc' := 66) d_Dos_goToNextBlock_65 rfl ?_
      refine rz_getr d_Dos_goToNextBlock_66 f_5_47 rfl rfl ?_
      refine rz_getiv (v := Sq3.2 44 1) d_Dos_goToNextBlock_69 f_5_255 rfl rfl rfl ?_
      refine rz_pure (pc' := 73) d_Dos_goToNextBlock_72 rfl ?_
      refine rz_getr d_Dos_goToNextBlock_73 f_5_47 rfl rfl ?_
      refine rz_getiv (v := Sq3.2 44 2) d_Dos_goToNextBlock_76 f_5_256 rfl rfl rfl ?_
      refine rz_callVv (t := [.int (Sq3.2 44 2), .int (Sq3.2 44 1)]) d_Dos_goToNextBlock_79 w_5_270 rfl (chTP ha1) rfl (q3.1 b4) (fun Sq5 q5 => ?_)
      refine rz_pure (pc' := 83) d_Dos_goToNextBlock_82 rfl ?_
      refine rz_pure (pc' := 84) d_Dos_goToNextBlock_83 rfl ?_
      refine rz_getiv (v := Sq5.2 a1 9) d_Dos_goToNextBlock_84 f_5_90 (chTP ha1) rfl rfl ?_
      refine rz_iconst (v := 1) d_Dos_goToNextBlock_87 (by decide) ?_
      refine rz_iadd d_Dos_goToNextBlock_88 ?_
      refine rz_puti d_Dos_goToNextBlock_89 f_5_90 (chTP ha1) rfl rfl ?_
      refine rz_pure (pc' := 93) d_Dos_goToNextBlock_92 rfl ?_
      exact rz_ireti d_Dos_goToNextBlock_93 rfl rfl q5
  · skip
    refine rz_pure (pc' := 13) d_Dos_goToNextBlock_12 rfl ?_
    exact rz_ireti d_Dos_goToNextBlock_13 rfl rfl (q1.2 b2)
theorem d_Dos_giveUpFile_0 : decode (rm_code mDos_giveUpFile) 0 = .ok (.aload_n 1, 1) := by decide +kernel
theorem d_Dos_giveUpFile_1 : decode (rm_code mDos_giveUpFile) 1 = .ok (.getfield 273, 3) := by decide +kernel
theorem d_Dos_giveUpFile_4 : decode (rm_code mDos_giveUpFile) 4 = .ok (.istore_n 2, 1) := by decide +kernel
theorem d_Dos_giveUpFile_5 : decode (rm_code mDos_giveUpFile) 5 = .ok (.aload_n 1, 1) := by decide +kernel
theorem d_Dos_giveUpFile_6 : decode (rm_code mDos_giveUpFile) 6 = .ok (.getfield 275, 3) := by decide +kernel
theorem d_Dos_giveUpFile_9 : decode (rm_code mDos_giveUpFile) 9 = .ok (.istore_n 3, 1) := by decide +kernel
theorem d_Dos_giveUpFile_10 : decode (rm_code mDos_giveUpFile) 10 = .ok (.iconst 0, 1) := by decide +kernel
theorem d_Dos_giveUpFile_11 : decode (rm_code mDos_giveUpFile) 11 = .ok (.istore 4, 2) := by decide +kernel
theorem d_Dos_giveUpFile_13 : decode (rm_code mDos_giveUpFile) 13 = .ok (.iload 4, 2) := by decide +kernel
theorem d_Dos_giveUpFile_15 : decode (rm_code mDos_giveUpFile) 15 = .ok (.bipush (72), 2) := by decide +kernel
theorem d_Dos_giveUpFile_17 : decode (rm_code mDos_giveUpFile) 17 = .ok (.if_icmp .gt (98), 3) := by decide +kernel
theorem d_Dos_giveUpFile_20 : decode (rm_code mDos_giveUpFile) 20 = .ok (.iload_n 2, 1) := by decide +kernel
theorem d_Dos_giveUpFile_21 : decode (rm_code mDos_giveUpFile) 21 = .ok (.aload_n 1, 1) := by decide +kernel
theorem d_Dos_giveUpFile_22 : decode (rm_code mDos_giveUpFile) 22 = .ok (.getfield 76, 3) := by decide +kernel
theorem d_Dos_giveUpFile_25 : decode (rm_code mDos_giveUpFile) 25 = .ok (.if_icmp .ne (11), 3) := by decide +kernel
theorem d_Dos_giveUpFile_28 : decode (rm_code mDos_giveUpFile) 28 = .ok (.iload_n 3, 1) := by decide +kernel
theorem d_Dos_giveUpFile_29 : decode (rm_code mDos_giveUpFile) 29 = .ok (.aload_n 1, 1) := by decide +kernel
theorem d_Dos_giveUpFile_30 : decode (rm_code mDos_giveUpFile) 30 = .ok (.getfield 79, 3) := by decide +kernel
theorem d_Dos_giveUpFile_33 : decode (rm_code mDos_giveUpFile) 33 = .ok (.if_icmp .eq (82), 3) := by decide +kernel
theorem d_Dos_giveUpFile_36 : decode (rm_code mDos_giveUpFile) 36 = .ok (.iload_n 2, 1) := by decide +kernel
theorem d_Dos_giveUpFile_37 : decode (rm_code mDos_giveUpFile) 37 = .ok (.iload_n 3, 1) := by decide +kernel
theorem d_Dos_giveUpFile_38 : decode (rm_code mDos_giveUpFile) 38 = .ok (.invokestatic 212, 3) := by decide +kernel
theorem d_Dos_giveUpFile_41 : decode (rm_code mDos_giveUpFile) 41 = .ok (.ifCond .eq (10), 3) := by decide +kernel
theorem d_Dos_giveUpFile_44 : decode (rm_code mDos_giveUpFile) 44 = .ok (.iload 4, 2) := by decide +kernel
theorem d_Dos_giveUpFile_46 : decode (rm_code mDos_giveUpFile) 46 = .ok (.bipush (72), 2) := by decide +kernel
theorem d_Dos_giveUpFile_48 : decode (rm_code mDos_giveUpFile) 48 = .ok (.if_icmp .ne (15), 3) := by decide +kernel
theorem d_Dos_giveUpFile_51 : decode (rm_code mDos_giveUpFile) 51 = .ok (.aload_n 0, 1) := by decide +kernel
theorem d_Dos_giveUpFile_52 : decode (rm_code mDos_giveUpFile) 52 = .ok (.getfield 30, 3) := by decide +kernel
theorem d_Dos_giveUpFile_55 : decode (rm_code mDos_giveUpFile) 55 = .ok (.bipush (71), 2) := by decide +kernel
theorem d_Dos_giveUpFile_57 : decode (rm_code mDos_giveUpFile) 57 = .ok (.iload_n 2, 1) := by decide +kernel
theorem d_Dos_giveUpFile_58 : decode (rm_code mDos_giveUpFile) 58 = .ok (.iload_n 3, 1) := by decide +kernel
theorem d_Dos_giveUpFile_59 : decode (rm_code mDos_giveUpFile) 59 = .ok (.invokevirtual 116, 3) := by decide +kernel
theorem d_Dos_giveUpFile_62 : decode (rm_code mDos_giveUpFile) 62 = .ok (.ireturn, 1) := by decide +kernel
theorem d_Dos_giveUpFile_63 : decode (rm_code mDos_giveUpFile) 63 = .ok (.aload_n 0, 1) := by decide +kernel
theorem d_Dos_giveUpFile_64 : decode (rm_code mDos_giveUpFile) 64 = .ok (.getfield 34, 3) := by decide +kernel
theorem d_Dos_giveUpFile_67 : decode (rm_code mDos_giveUpFile) 67 = .ok (.iload_n 2, 1) := by decide +kernel
theorem d_Dos_giveUpFile_68 : decode (rm_code mDos_giveUpFile) 68 = .ok (.iload_n 3, 1) := by decide +kernel
theorem d_Dos_giveUpFile_69 : decode (rm_code mDos_giveUpFile) 69 = .ok (.aload_n 0, 1) := by decide +kernel
theorem d_Dos_giveUpFile_70 : decode (rm_code mDos_giveUpFile) 70 = .ok (.getfield 11, 3) := by decide +kernel
theorem d_Dos_giveUpFile_73 : decode (rm_code mDos_giveUpFile) 73 = .ok (.invokevirtual 216, 3) := by decide +kernel
theorem d_Dos_giveUpFile_76 : decode (rm_code mDos_giveUpFile) 76 = .ok (.istore 5, 2) := by decide +kernel
theorem d_Dos_giveUpFile_78 : decode (rm_code mDos_giveUpFile) 78 = .ok (.iload 5, 2) := by decide +kernel
theorem d_Dos_giveUpFile_80 : decode (rm_code mDos_giveUpFile) 80 = .ok (.ifCond .eq (6), 3) := by decide +kernel
theorem d_Dos_giveUpFile_83 : decode (rm_code mDos_giveUpFile) 83 = .ok (.iload 5, 2) := by decide +kernel
theorem d_Dos_giveUpFile_85 : decode (rm_code mDos_giveUpFile) 85 = .ok (.ireturn, 1) := by decide +kernel
theorem d_Dos_giveUpFile_86 : decode (rm_code mDos_giveUpFile) 86 = .ok (.aload_n 0, 1) := by decide +kernel
theorem d_Dos_giveUpFile_87 : decode (rm_code mDos_giveUpFile) 87 = .ok (.getfield 47, 3) := by decide +kernel
theorem d_Dos_giveUpFile_90 : decode (rm_code mDos_giveUpFile) 90 = .ok (.iload_n 2, 1) := by decide +kernel
theorem d_Dos_giveUpFile_91 : decode (rm_code mDos_giveUpFile) 91 = .ok (.iload_n 3, 1) := by decide +kernel
theorem d_Dos_giveUpFile_92 : decode (rm_code mDos_giveUpFile) 92 = .ok (.invokevirtual 245, 3) := by decide +kernel
theorem d_Dos_giveUpFile_95 : decode (rm_code mDos_giveUpFile) 95 = .ok (.aload_n 0, 1) := by decide +kernel
theorem d_Dos_giveUpFile_96 : decode (rm_code mDos_giveUpFile) 96 = .ok (.getfield 11, 3) := by decide +kernel
theorem d_Dos_giveUpFile_99 : decode (rm_code mDos_giveUpFile) 99 = .ok (.iconst 0, 1) := by decide +kernel
theorem d_Dos_giveUpFile_100 : decode (rm_code mDos_giveUpFile) 100 = .ok (.iaload, 1) := by decide +kernel
theorem d_Dos_giveUpFile_101 : decode (rm_code mDos_giveUpFile) 101 = .ok (.istore_n 2, 1) := by decide +kernel
theorem d_Dos_giveUpFile_102 : decode (rm_code mDos_giveUpFile) 102 = .ok (.aload_n 0, 1) := by decide +kernel
theorem d_Dos_giveUpFile_103 : decode (rm_code mDos_giveUpFile) 103 = .ok (.getfield 11, 3) := by decide +kernel
theorem d_Dos_giveUpFile_106 : decode (rm_code mDos_giveUpFile) 106 = .ok (.iconst 1, 1) := by decide +kernel
theorem d_Dos_giveUpFile_107 : decode (rm_code mDos_giveUpFile) 107 = .ok (.iaload, 1) := by decide +kernel
theorem d_Dos_giveUpFile_108 : decode (rm_code mDos_giveUpFile) 108 = .ok (.istore_n 3, 1) := by decide +kernel
theorem d_Dos_giveUpFile_109 : decode (rm_code mDos_giveUpFile) 109 = .ok (.iinc 4 (1), 3) := by decide +kernel
theorem d_Dos_giveUpFile_112 : decode (rm_code mDos_giveUpFile) 112 = .ok (.goto (-99), 3) := by decide +kernel
theorem d_Dos_giveUpFile_115 : decode (rm_code mDos_giveUpFile) 115 = .ok (.aload_n 0, 1) := by decide +kernel
theorem d_Dos_giveUpFile_116 : decode (rm_code mDos_giveUpFile) 116 = .ok (.getfield 47, 3) := by decide +kernel
theorem d_Dos_giveUpFile_119 : decode (rm_code mDos_giveUpFile) 119 = .ok (.aload_n 1, 1) := by decide +kernel
theorem d_Dos_giveUpFile_120 : decode (rm_code mDos_giveUpFile) 120 = .ok (.getfield 76, 3) := by decide +kernel
theorem d_Dos_giveUpFile_123 : decode (rm_code mDos_giveUpFile) 123 = .ok (.aload_n 1, 1) := by decide +kernel
theorem d_Dos_giveUpFile_124 : decode (rm_code mDos_giveUpFile) 124 = .ok (.getfield 79, 3) := by decide +kernel
theorem d_Dos_giveUpFile_127 : decode (rm_code mDos_giveUpFile) 127 = .ok (.invokevirtual 245, 3) := by decide +kernel
theorem d_Dos_giveUpFile_130 : decode (rm_code mDos_giveUpFile) 130 = .ok (.aload_n 0, 1) := by decide +kernel
theorem d_Dos_giveUpFile_131 : decode (rm_code mDos_giveUpFile) 131 = .ok (.getfield 47, 3) := by decide +kernel
theorem d_Dos_giveUpFile_134 : decode (rm_code mDos_giveUpFile) 134 = .ok (.invokevirtual 239, 3) := by decide +kernel
theorem d_Dos_giveUpFile_137 : decode (rm_code mDos_giveUpFile) 137 = .ok (.istore 4, 2) := by decide +kernel
theorem d_Dos_giveUpFile_139 : decode (rm_code mDos_giveUpFile) 139 = .ok (.iload 4, 2) := by decide +kernel
theorem d_Dos_giveUpFile_141 : decode (rm_code mDos_giveUpFile) 141 = .ok (.ifCond .ne (18), 3) := by decide +kernel
theorem d_Dos_giveUpFile_144 : decode (rm_code mDos_giveUpFile) 144 = .ok (.aload_n 0, 1) := by decide +kernel
theorem d_Dos_giveUpFile_145 : decode (rm_code mDos_giveUpFile) 145 = .ok (.aload_n 1, 1) := by decide +kernel
theorem d_Dos_giveUpFile_146 : decode (rm_code mDos_giveUpFile) 146 = .ok (.invokevirtual 86, 3) := by decide +kernel
theorem d_Dos_giveUpFile_149 : decode (rm_code mDos_giveUpFile) 149 = .ok (.aload_n 0, 1) := by decide +kernel
theorem d_Dos_giveUpFile_150 : decode (rm_code mDos_giveUpFile) 150 = .ok (.getfield 56, 3) := by decide +kernel
theorem d_Dos_giveUpFile_153 : decode (rm_code mDos_giveUpFile) 153 = .ok (.iconst 0, 1) := by decide +kernel
theorem d_Dos_giveUpFile_154 : decode (rm_code mDos_giveUpFile) 154 = .ok (.invokevirtual 242, 3) := by decide +kernel
theorem d_Dos_giveUpFile_157 : decode (rm_code mDos_giveUpFile) 157 = .ok (.istore 4, 2) := by decide +kernel
theorem d_Dos_giveUpFile_159 : decode (rm_code mDos_giveUpFile) 159 = .ok (.iload 4, 2) := by decide +kernel
theorem d_Dos_giveUpFile_161 : decode (rm_code mDos_giveUpFile) 161 = .ok (.ifCond .eq (8), 3) := by decide +kernel
theorem d_Dos_giveUpFile_164 : decode (rm_code mDos_giveUpFile) 164 = .ok (.iload 4, 2) := by decide +kernel
theorem d_Dos_giveUpFile_166 : decode (rm_code mDos_giveUpFile) 166 = .ok (.goto (14), 3) := by decide +kernel
theorem d_Dos_giveUpFile_169 : decode (rm_code mDos_giveUpFile) 169 = .ok (.aload_n 0, 1) := by decide +kernel
theorem d_Dos_giveUpFile_170 : decode (rm_code mDos_giveUpFile) 170 = .ok (.getfield 30, 3) := by decide +kernel
theorem d_Dos_giveUpFile_173 : decode (rm_code mDos_giveUpFile) 173 = .ok (.bipush (72), 2) := by decide +kernel
theorem d_Dos_giveUpFile_175 : decode (rm_code mDos_giveUpFile) 175 = .ok (.iconst 0, 1) := by decide +kernel
theorem d_Dos_giveUpFile_176 : decode (rm_code mDos_giveUpFile) 176 = .ok (.iconst 0, 1) := by decide +kernel
theorem d_Dos_giveUpFile_177 : decode (rm_code mDos_giveUpFile) 177 = .ok (.invokevirtual 116, 3) := by decide +kernel
theorem d_Dos_giveUpFile_180 : decode (rm_code mDos_giveUpFile) 180 = .ok (.ireturn, 1) := by decide +kernel
theorem p_Dos_giveUpFile_0 {S : rz_S} {K : Int32 → rz_S → Prop} {a1 : Nat} (ha1 : chP a1) (w : rz mDos_giveUpFile 13 [(0, .ref 39), (1, .ref a1), (2, .int (S.2 a1 7)), (3, .int (S.2 a1 8)), (4, .int 0)] [] S (rz_i K)) : rz mDos_giveUpFile 0 [(0, .ref 39), (1, .ref a1)] [] S (rz_i K) := by
  have za1 := chZ ha1
  refine rz_pure (pc' := 1) d_Dos_giveUpFile_0 rfl ?_
  refine rz_getiv (v := S.2 a1 7) d_Dos_giveUpFile_1 f_5_273 (chTP ha1) rfl rfl ?_
  refine rz_pure (pc' := 5) (l' := [(2, .int (S.2 a1 7)), (0, .ref 39), (1, .ref a1)]) d_Dos_giveUpFile_4 rfl ?_
  refine rz_pure (pc' := 6) d_Dos_giveUpFile_5 rfl ?_
  refine rz_getiv (v := S.2 a1 8) d_Dos_giveUpFile_6 f_5_275 (chTP ha1) rfl rfl ?_
  refine rz_pure (pc' := 10) (l' := [(3, .int (S.2 a1 8)), (2, .int (S.2 a1 7)), (0, .ref 39), (1, .ref a1)]) d_Dos_giveUpFile_9 rfl ?_
  refine rz_iconst (v := 0) d_Dos_giveUpFile_10 (by decide) ?_
  refine rz_pure (pc' := 13) (l' := [(4, .int 0), (3, .int (S.2 a1 8)), (2, .int (S.2 a1 7)), (0, .ref 39), (1, .ref a1)]) d_Dos_giveUpFile_11 rfl ?_
  exact rz_pick (ks := [0, 1, 2, 3, 4]) (l := [(0, .ref 39), (1, .ref a1), (2, .int (S.2 a1 7)), (3, .int (S.2 a1 8)), (4, .int 0)]) rfl rfl (by decide) rfl w
theorem p_Dos_giveUpFile_13 {S : rz_S} {K : Int32 → rz_S → Prop} {a1 : Nat} (ha1 : chP a1) {a2 : Int32} {a3 : Int32} {a4 : Int32} (w : ((72 < a4 → rz mDos_giveUpFile 115 [(0, .ref 39), (1, .ref a1)] [] S (rz_i K)) ∧ (¬ 72 < a4 → ((a2 = S.2 a1 5 → ((a3 = S.2 a1 6 → rz mDos_giveUpFile 115 [(0, .ref 39), (1, .ref a1)] [] S (rz_i K)) ∧ (¬ a3 = S.2 a1 6 → rz mDos_giveUpFile 36 [(0, .ref 39), (1, .ref a1), (2, .int a2), (3, .int a3), (4, .int a4)] [] S (rz_i K)))) ∧ (¬ a2 = S.2 a1 5 → rz mDos_giveUpFile 36 [(0, .ref 39), (1, .ref a1), (2, .int a2), (3, .int a3), (4, .int a4)] [] S (rz_i K)))))) : rz mDos_giveUpFile 13 [(0, .ref 39), (1, .ref a1), (2, .int a2), (3, .int a3), (4, .int a4)] [] S (rz_i K) := by
  have za1 := chZ ha1
  refine rz_pure (pc' := 15) d_Dos_giveUpFile_13 rfl ?_
  refine rz_bipush (v := 72) d_Dos_giveUpFile_15 (by decide) ?_
  refine rz_icmpgt (tgt := 115) d_Dos_giveUpFile_17 rfl (fun b1 => ?_) (fun b1 => ?_)
  · skip
    exact rz_pick (ks := [0, 1]) (l := [(0, .ref 39), (1, .ref a1)]) rfl rfl (by decide) rfl (w.1 b1)
  · skip
    refine rz_pure (pc' := 21) d_Dos_giveUpFile_20 rfl ?_
    refine rz_pure (pc' := 22) d_Dos_giveUpFile_21 rfl ?_
    refine rz_getiv (v := S.2 a1 5) d_Dos_giveUpFile_22 f_5_76 (chTP ha1) rfl rfl ?_
    refine rz_icmpne (tgt := 36) d_Dos_giveUpFile_25 rfl (fun b2 => ?_) (fun b2 => ?_)
    · skip
      exact rz_pick (ks := [0, 1, 2, 3, 4]) (l := [(0, .ref 39), (1, .ref a1), (2, .int a2), (3, .int a3), (4, .int a4)]) rfl rfl (by decide) rfl ((w.2 b1).2 b2)
    · skip
      refine rz_pure (pc' := 29) d_Dos_giveUpFile_28 rfl ?_
      refine rz_pure (pc' := 30) d_Dos_giveUpFile_29 rfl ?_
      refine rz_getiv (v := S.2 a1 6) d_Dos_giveUpFile_30 f_5_79 (chTP ha1) rfl rfl ?_
      refine rz_icmpeq (tgt := 115) d_Dos_giveUpFile_33 rfl (fun b3 => ?_) (fun b3 => ?_)
      · skip
        exact rz_pick (ks := [0, 1]) (l := [(0, .ref 39), (1, .ref a1)]) rfl rfl (by decide) rfl (((w.2 b1).1 b2).1 b3)
      · skip
        exact rz_pick (ks := [0, 1, 2, 3, 4]) (l := [(0, .ref 39), (1, .ref a1), (2, .int a2), (3, .int a3), (4, .int a4)]) rfl rfl (by decide) rfl (((w.2 b1).1 b2).2 b3)
theorem p_Dos_giveUpFile_115 {S : rz_S} {K : Int32 → rz_S → Prop} {a1 : Nat} (ha1 : chP a1) (w : rz_ev mBlockMap_giveBack [.ref 44, .int (S.2 a1 5), .int (S.2 a1 6)] S (rz_v (fun Sq1 => rz_ev mBlockMap_store [.ref 44] Sq1 (rz_i (fun xq2 Sq2 => ((xq2 = 0 → rz_ev mDos_goToEntryOf [.ref 39, .ref a1] Sq2 (rz_v (fun Sq4 => rz_ev mDirectory_changeType [.ref 46, .int 0] Sq4 (rz_i (fun xq5 Sq5 => rz mDos_giveUpFile 159 [(0, .ref 39), (4, .int xq5)] [] Sq5 (rz_i K)))))) ∧ (¬ xq2 = 0 → rz mDos_giveUpFile 159 [(0, .ref 39), (4, .int xq2)] [] Sq2 (rz_i K)))))))) : rz mDos_giveUpFile 115 [(0, .ref 39), (1, .ref a1)] [] S (rz_i K) := by
  have za1 := chZ ha1
  refine rz_pure (pc' := 116) d_Dos_giveUpFile_115 rfl ?_
  refine rz_getr d_Dos_giveUpFile_116 f_5_47 rfl rfl ?_
  refine rz_pure (pc' := 120) d_Dos_giveUpFile_119 rfl ?_
  refine rz_getiv (v := S.2 a1 5) d_Dos_giveUpFile_120 f_5_76 (chTP ha1) rfl rfl ?_
  refine rz_pure (pc' := 124) d_Dos_giveUpFile_123 rfl ?_
  refine rz_getiv (v := S.2 a1 6) d_Dos_giveUpFile_124 f_5_79 (chTP ha1) rfl rfl ?_
  refine rz_callVv (t := [.int (S.2 a1 6), .int (S.2 a1 5)]) d_Dos_giveUpFile_127 w_5_245 rfl rfl rfl w (fun Sq1 q1 => ?_)
  refine rz_pure (pc' := 131) d_Dos_giveUpFile_130 rfl ?_
  refine rz_getr d_Dos_giveUpFile_131 f_5_47 rfl rfl ?_
  refine rz_callVi (t := []) d_Dos_giveUpFile_134 w_5_239 rfl rfl rfl q1 (fun xq2 Sq2 q2 => ?_)
  refine rz_pure (pc' := 139) (l' := [(4, .int xq2), (0, .ref 39), (1, .ref a1)]) d_Dos_giveUpFile_137 rfl ?_
  refine rz_pure (pc' := 141) d_Dos_giveUpFile_139 rfl ?_
  refine rz_ifne (tgt := 159) d_Dos_giveUpFile_141 rfl (fun b3 => ?_) (fun b3 => ?_)
  · skip
    exact rz_pick (ks := [0, 4]) (l := [(0, .ref 39), (4, .int xq2)]) rfl rfl (by decide) rfl (q2.2 b3)
  · skip
    refine rz_pure (pc' := 145) d_Dos_giveUpFile_144 rfl ?_
    refine rz_pure (pc' := 146) d_Dos_giveUpFile_145 rfl ?_
    refine rz_callVv (t := [.ref a1]) d_Dos_giveUpFile_146 w_5_86 rfl rfl rfl (q2.1 b3) (fun Sq4 q4 => ?_)
    refine rz_pure (pc' := 150) d_Dos_giveUpFile_149 rfl ?_
    refine rz_getr d_Dos_giveUpFile_150 f_5_56 rfl rfl ?_
    refine rz_iconst (v := 0) d_Dos_giveUpFile_153 (by decide) ?_
    refine rz_callVi (t := [.int 0]) d_Dos_giveUpFile_154 w_5_242 rfl rfl rfl q4 (fun xq5 Sq5 q5 => ?_)
    refine rz_pure (pc' := 159) (l' := [(4, .int xq5), (0, .ref 39), (1, .ref a1)]) d_Dos_giveUpFile_157 rfl ?_
    exact rz_pick (ks := [0, 4]) (l := [(0, .ref 39), (4, .int xq5)]) rfl rfl (by decide) rfl q5
theorem p_Dos_giveUpFile_36 {S : rz_S} {K : Int32 → rz_S → Prop} {a1 : Nat} (ha1 : chP a1) {a2 : Int32} {a3 : Int32} {a4 : Int32} (w : rz_ev mDisk_isLegal [.int a2, .int a3] S (rz_i (fun xq1 Sq1 => ((xq1 = 0 → rz mDos_giveUpFile 51 [(0, .ref 39), (2, .int a2), (3, .int a3)] [] Sq1 (rz_i K)) ∧ (¬ xq1 = 0 → ((a4 = 72 → rz mDos_giveUpFile 51 [(0, .ref 39), (2, .int a2), (3, .int a3)] [] Sq1 (rz_i K)) ∧ (¬ a4 = 72 → rz_ev mDisk_readBlock [.ref 6, .int a2, .int a3, .ref 40] Sq1 (rz_i (fun xq4 Sq4 => ((xq4 = 0 → rz_ev mBlockMap_giveBack [.ref 44, .int a2, .int a3] Sq4 (rz_v (fun Sq6 => rz mDos_giveUpFile 13 [(0, .ref 39), (1, .ref a1), (2, .int (Sq6.1 40 0)), (3, .int (Sq6.1 40 1)), (4, .int (a4 + 1))] [] Sq6 (rz_i K)))) ∧ (¬ xq4 = 0 → K xq4 Sq4))))))))))) : rz mDos_giveUpFile 36 [(0, .ref 39), (1, .ref a1), (2, .int a2), (3, .int a3), (4, .int a4)] [] S (rz_i K) := by
  have za1 := chZ ha1
  refine rz_pure (pc' := 37) d_Dos_giveUpFile_36 rfl ?_
  refine rz_pure (pc' := 38) d_Dos_giveUpFile_37 rfl ?_
  refine rz_callSi (t := [.int a3, .int a2]) d_Dos_giveUpFile_38 rfl w_5_212 rfl rfl w (fun xq1 Sq1 q1 => ?_)
  refine rz_ifeq (tgt := 51) d_Dos_giveUpFile_41 rfl (fun b2 => ?_) (fun b2 => ?_)
  · skip
    exact rz_pick (ks := [0, 2, 3]) (l := [(0, .ref 39), (2, .int a2), (3, .int a3)]) rfl rfl (by decide) rfl (q1.1 b2)
  · skip
    refine rz_pure (pc' := 46) d_Dos_giveUpFile_44 rfl ?_
    refine rz_bipush (v := 72) d_Dos_giveUpFile_46 (by decide) ?_
    refine rz_icmpne (tgt := 63) d_Dos_giveUpFile_48 rfl (fun b3 => ?_) (fun b3 => ?_)
    · skip
      refine rz_pure (pc' := 64) d_Dos_giveUpFile_63 rfl ?_
      refine rz_getr d_Dos_giveUpFile_64 f_5_34 rfl rfl ?_
      refine rz_pure (pc' := 68) d_Dos_giveUpFile_67 rfl ?_
      refine rz_pure (pc' := 69) d_Dos_giveUpFile_68 rfl ?_
      refine rz_pure (pc' := 70) d_Dos_giveUpFile_69 rfl ?_
      refine rz_getr d_Dos_giveUpFile_70 f_5_11 rfl rfl ?_
      refine rz_callVi (t := [.ref 40, .int a3, .int a2]) d_Dos_giveUpFile_73 w_5_216 rfl rfl rfl ((q1.2 b2).2 b3) (fun xq4 Sq4 q4 => ?_)
      refine rz_pure (pc' := 78) (l' := [(5, .int xq4), (0, .ref 39), (1, .ref a1), (2, .int a2), (3, .int a3), (4, .int a4)]) d_Dos_giveUpFile_76 rfl ?_
      refine rz_pure (pc' := 80) d_Dos_giveUpFile_78 rfl ?_
      refine rz_ifeq (tgt := 86) d_Dos_giveUpFile_80 rfl (fun b5 => ?_) (fun b5 => ?_)
      · skip
        refine rz_pure (pc' := 87) d_Dos_giveUpFile_86 rfl ?_
        refine rz_getr d_Dos_giveUpFile_87 f_5_47 rfl rfl ?_
        refine rz_pure (pc' := 91) d_Dos_giveUpFile_90 rfl ?_
        refine rz_pure (pc' := 92) d_Dos_giveUpFile_91 rfl ?_
        refine rz_callVv (t := [.int a3, .int a2]) d_Dos_giveUpFile_92 w_5_245 rfl rfl rfl (q4.1 b5) (fun Sq6 q6 => ?_)
        refine rz_pure (pc' := 96) d_Dos_giveUpFile_95 rfl ?_
        refine rz_getr d_Dos_giveUpFile_96 f_5_11 rfl rfl ?_
        refine rz_iconst (v := 0) d_Dos_giveUpFile_99 (by decide) ?_
        refine rz_ialdv (F := Sq6.1 40) (i := 0) d_Dos_giveUpFile_100 rfl (by decide) rfl (by decide) ?_
        refine rz_pure (pc' := 102) (l' := [(2, .int (Sq6.1 40 0)), (5, .int xq4), (0, .ref 39), (1, .ref a1), (3, .int a3), (4, .int a4)]) d_Dos_giveUpFile_101 rfl ?_
        refine rz_pure (pc' := 103) d_Dos_giveUpFile_102 rfl ?_
        refine rz_getr d_Dos_giveUpFile_103 f_5_11 rfl rfl ?_
        refine rz_iconst (v := 1) d_Dos_giveUpFile_106 (by decide) ?_
        refine rz_ialdv (F := Sq6.1 40) (i := 1) d_Dos_giveUpFile_107 rfl (by decide) rfl (by decide) ?_
        refine rz_pure (pc' := 109) (l' := [(3, .int (Sq6.1 40 1)), (2, .int (Sq6.1 40 0)), (5, .int xq4), (0, .ref 39), (1, .ref a1), (4, .int a4)]) d_Dos_giveUpFile_108 rfl ?_
        refine rz_pure (pc' := 112) (l' := [(4, .int (a4 + 1)), (3, .int (Sq6.1 40 1)), (2, .int (Sq6.1 40 0)), (5, .int xq4), (0, .ref 39), (1, .ref a1)]) d_Dos_giveUpFile_109 rfl ?_
        refine rz_pure (pc' := 13) d_Dos_giveUpFile_112 rfl ?_
        exact rz_pick (ks := [0, 1, 2, 3, 4]) (l := [(0, .ref 39), (1, .ref a1), (2, .int (Sq6.1 40 0)), (3, .int (Sq6.1 40 1)), (4, .int (a4 + 1))]) rfl rfl (by decide) rfl q6
      · skip
        refine rz_pure (pc' := 85) d_Dos_giveUpFile_83 rfl ?_
        exact rz_ireti d_Dos_giveUpFile_85 rfl rfl (q4.2 b5)
    · skip
      exact rz_pick (ks := [0, 2, 3]) (l := [(0, .ref 39), (2, .int a2), (3, .int a3)]) rfl rfl (by decide) rfl ((q1.2 b2).1 b3)
theorem p_Dos_giveUpFile_159 {S : rz_S} {K : Int32 → rz_S → Prop} {a4 : Int32} (w : ((a4 = 0 → rz_ev mStatus_set [.ref 3, .int 72, .int 0, .int 0] S (rz_i (fun xq2 Sq2 => K xq2 Sq2))) ∧ (¬ a4 = 0 → K a4 S))) : rz mDos_giveUpFile 159 [(0, .ref 39), (4, .int a4)] [] S (rz_i K) := by
  refine rz_pure (pc' := 161) d_Dos_giveUpFile_159 rfl ?_
  refine rz_ifeq (tgt := 169) d_Dos_giveUpFile_161 rfl (fun b1 => ?_) (fun b1 => ?_)
  · skip
    refine rz_pure (pc' := 170) d_Dos_giveUpFile_169 rfl ?_
    refine rz_getr d_Dos_giveUpFile_170 f_5_30 rfl rfl ?_
    refine rz_bipush (v := 72) d_Dos_giveUpFile_173 (by decide) ?_
    refine rz_iconst (v := 0) d_Dos_giveUpFile_175 (by decide) ?_
    refine rz_iconst (v := 0) d_Dos_giveUpFile_176 (by decide) ?_
    refine rz_callVi (t := [.int 0, .int 0, .int 72]) d_Dos_giveUpFile_177 w_5_116 rfl rfl rfl (w.1 b1) (fun xq2 Sq2 q2 => ?_)
    exact rz_ireti d_Dos_giveUpFile_180 rfl rfl q2
  · skip
    refine rz_pure (pc' := 166) d_Dos_giveUpFile_164 rfl ?_
    refine rz_pure (pc' := 180) d_Dos_giveUpFile_166 rfl ?_
    exact rz_ireti d_Dos_giveUpFile_180 rfl rfl (w.2 b1)
theorem p_Dos_giveUpFile_51 {S : rz_S} {K : Int32 → rz_S → Prop} {a2 : Int32} {a3 : Int32} (w : rz_ev mStatus_set [.ref 3, .int 71, .int a2, .int a3] S (rz_i (fun xq1 Sq1 => K xq1 Sq1))) : rz mDos_giveUpFile 51 [(0, .ref 39), (2, .int a2), (3, .int a3)] [] S (rz_i K) := by
  refine rz_pure (pc' := 52) d_Dos_giveUpFile_51 rfl ?_
  refine rz_getr d_Dos_giveUpFile_52 f_5_30 rfl rfl ?_
  refine rz_bipush (v := 71) d_Dos_giveUpFile_55 (by decide) ?_
  refine rz_pure (pc' := 58) d_Dos_giveUpFile_57 rfl ?_
  refine rz_pure (pc' := 59) d_Dos_giveUpFile_58 rfl ?_
  refine rz_callVi (t := [.int a3, .int a2, .int 71]) d_Dos_giveUpFile_59 w_5_116 rfl rfl rfl w (fun xq1 Sq1 q1 => ?_)
  exact rz_ireti d_Dos_giveUpFile_62 rfl rfl q1
theorem d_Dos_closeAll_0 : decode (rm_code mDos_closeAll) 0 = .ok (.iconst 0, 1) := by decide +kernel
theorem d_Dos_closeAll_1 : decode (rm_code mDos_closeAll) 1 = .ok (.istore_n 1, 1) := by decide +kernel
theorem d_Dos_closeAll_2 : decode (rm_code mDos_closeAll) 2 = .ok (.iconst 0, 1) := by decide +kernel
theorem d_Dos_closeAll_3 : decode (rm_code mDos_closeAll) 3 = .ok (.istore_n 2, 1) := by decide +kernel
theorem d_Dos_closeAll_4 : decode (rm_code mDos_closeAll) 4 = .ok (.iload_n 2, 1) := by decide +kernel
theorem d_Dos_closeAll_5 : decode (rm_code mDos_closeAll) 5 = .ok (.bipush (15), 2) := by decide +kernel
theorem d_Dos_closeAll_7 : decode (rm_code mDos_closeAll) 7 = .ok (.if_icmp .ge (19), 3) := by decide +kernel
theorem d_Dos_closeAll_10 : decode (rm_code mDos_closeAll) 10 = .ok (.iload_n 1, 1) := by decide +kernel
theorem d_Dos_closeAll_11 : decode (rm_code mDos_closeAll) 11 = .ok (.ifCond .ne (15), 3) := by decide +kernel
theorem d_Dos_closeAll_14 : decode (rm_code mDos_closeAll) 14 = .ok (.aload_n 0, 1) := by decide +kernel
theorem d_Dos_closeAll_15 : decode (rm_code mDos_closeAll) 15 = .ok (.iload_n 2, 1) := by decide +kernel
theorem d_Dos_closeAll_16 : decode (rm_code mDos_closeAll) 16 = .ok (.invokevirtual 65, 3) := by decide +kernel
theorem d_Dos_closeAll_19 : decode (rm_code mDos_closeAll) 19 = .ok (.istore_n 1, 1) := by decide +kernel
theorem d_Dos_closeAll_20 : decode (rm_code mDos_closeAll) 20 = .ok (.iinc 2 (1), 3) := by decide +kernel
theorem d_Dos_closeAll_23 : decode (rm_code mDos_closeAll) 23 = .ok (.goto (-19), 3) := by decide +kernel
theorem d_Dos_closeAll_26 : decode (rm_code mDos_closeAll) 26 = .ok (.aload_n 0, 1) := by decide +kernel
theorem d_Dos_closeAll_27 : decode (rm_code mDos_closeAll) 27 = .ok (.invokevirtual 69, 3) := by decide +kernel
theorem d_Dos_closeAll_30 : decode (rm_code mDos_closeAll) 30 = .ok (.return_, 1) := by decide +kernel
theorem p_Dos_closeAll_0 {S : rz_S} {K : rz_S → Prop} (w : rz mDos_closeAll 4 [(0, .ref 39), (1, .int 0), (2, .int 0)] [] S (rz_v K)) : rz mDos_closeAll 0 [(0, .ref 39)] [] S (rz_v K) := by
  refine rz_iconst (v := 0) d_Dos_closeAll_0 (by decide) ?_
  refine rz_pure (pc' := 2) (l' := [(1, .int 0), (0, .ref 39)]) d_Dos_closeAll_1 rfl ?_
  refine rz_iconst (v := 0) d_Dos_closeAll_2 (by decide) ?_
  refine rz_pure (pc' := 4) (l' := [(2, .int 0), (1, .int 0), (0, .ref 39)]) d_Dos_closeAll_3 rfl ?_
  exact rz_pick (ks := [0, 1, 2]) (l := [(0, .ref 39), (1, .int 0), (2, .int 0)]) rfl rfl (by decide) rfl w
theorem p_Dos_closeAll_4 {S : rz_S} {K : rz_S → Prop} {a1 : Int32} {a2 : Int32} (w : ((15 ≤ a2 → rz mDos_closeAll 26 [(0, .ref 39)] [] S (rz_v K)) ∧ (¬ 15 ≤ a2 → ((a1 = 0 → rz_ev mDos_closeChannel [.ref 39, .int a2] S (rz_i (fun xq3 Sq3 => rz mDos_closeAll 4 [(0, .ref 39), (1, .int xq3), (2, .int (a2 + 1))] [] Sq3 (rz_v K)))) ∧ (¬ a1 = 0 → rz mDos_closeAll 26 [(0, .ref 39)] [] S (rz_v K)))))) : rz mDos_closeAll 4 [(0, .ref 39), (1, .int a1), (2, .int a2)] [] S (rz_v K) := by
  refine rz_pure (pc' := 5) d_Dos_closeAll_4 rfl ?_
  refine rz_bipush (v := 15) d_Dos_closeAll_5 (by decide) ?_
  refine rz_icmpge (tgt := 26) d_Dos_closeAll_7 rfl (fun b1 => ?_) (fun b1 => ?_)
  · skip
    exact rz_pick (ks := [0]) (l := [(0, .ref 39)]) rfl rfl (by decide) rfl (w.1 b1)
  · skip
    refine rz_pure (pc' := 11) d_Dos_closeAll_10 rfl ?_
    refine rz_ifne (tgt := 26) d_Dos_closeAll_11 rfl (fun b2 => ?_) (fun b2 => ?_)
    · skip
      exact rz_pick (ks := [0]) (l := [(0, .ref 39)]) rfl rfl (by decide) rfl ((w.2 b1).2 b2)
    · skip
      refine rz_pure (pc' := 15) d_Dos_closeAll_14 rfl ?_
      refine rz_pure (pc' := 16) d_Dos_closeAll_15 rfl ?_
      refine rz_callVi (t := [.int a2]) d_Dos_closeAll_16 w_5_65 rfl rfl rfl ((w.2 b1).1 b2) (fun xq3 Sq3 q3 => ?_)
      refine rz_pure (pc' := 20) (l' := [(1, .int xq3), (0, .ref 39), (2, .int a2)]) d_Dos_closeAll_19 rfl ?_
      refine rz_pure (pc' := 23) (l' := [(2, .int (a2 + 1)), (1, .int xq3), (0, .ref 39)]) d_Dos_closeAll_20 rfl ?_
      refine rz_pure (pc' := 4) d_Dos_closeAll_23 rfl ?_
      exact rz_pick (ks := [0, 1, 2]) (l := [(0, .ref 39), (1, .int xq3), (2, .int (a2 + 1))]) rfl rfl (by decide) rfl q3
theorem p_Dos_closeAll_26 {S : rz_S} {K : rz_S → Prop} (w : rz_ev mDos_dropAll [.ref 39] S (rz_v (fun Sq1 => K Sq1))) : rz mDos_closeAll 26 [(0, .ref 39)] [] S (rz_v K) := by
  refine rz_pure (pc' := 27) d_Dos_closeAll_26 rfl ?_
  refine rz_callVv (t := []) d_Dos_closeAll_27 w_5_69 rfl rfl rfl w (fun Sq1 q1 => ?_)
  exact rz_vretv d_Dos_closeAll_30 rfl q1
theorem d_Dos_receive_0 : decode (rm_code mDos_receive) 0 = .ok (.aload_n 0, 1) := by decide +kernel
theorem d_Dos_receive_1 : decode (rm_code mDos_receive) 1 = .ok (.iconst 0, 1) := by decide +kernel
theorem d_Dos_receive_2 : decode (rm_code mDos_receive) 2 = .ok (.putfield 281, 3) := by decide +kernel
theorem d_Dos_receive_5 : decode (rm_code mDos_receive) 5 = .ok (.iload_n 1, 1) := by decide +kernel
theorem d_Dos_receive_6 : decode (rm_code mDos_receive) 6 = .ok (.ifCond .lt (34), 3) := by decide +kernel
theorem d_Dos_receive_9 : decode (rm_code mDos_receive) 9 = .ok (.iload_n 1, 1) := by decide +kernel
theorem d_Dos_receive_10 : decode (rm_code mDos_receive) 10 = .ok (.bipush (15), 2) := by decide +kernel
theorem d_Dos_receive_12 : decode (rm_code mDos_receive) 12 = .ok (.if_icmp .ge (28), 3) := by decide +kernel
theorem d_Dos_receive_15 : decode (rm_code mDos_receive) 15 = .ok (.aload_n 0, 1) := by decide +kernel
theorem d_Dos_receive_16 : decode (rm_code mDos_receive) 16 = .ok (.getfield 19, 3) := by decide +kernel
theorem d_Dos_receive_19 : decode (rm_code mDos_receive) 19 = .ok (.iload_n 1, 1) := by decide +kernel
theorem d_Dos_receive_20 : decode (rm_code mDos_receive) 20 = .ok (.aaload, 1) := by decide +kernel
theorem d_Dos_receive_21 : decode (rm_code mDos_receive) 21 = .ok (.getfield 61, 3) := by decide +kernel
theorem d_Dos_receive_24 : decode (rm_code mDos_receive) 24 = .ok (.ifCond .eq (16), 3) := by decide +kernel
theorem d_Dos_receive_27 : decode (rm_code mDos_receive) 27 = .ok (.aload_n 0, 1) := by decide +kernel
theorem d_Dos_receive_28 : decode (rm_code mDos_receive) 28 = .ok (.getfield 19, 3) := by decide +kernel
theorem d_Dos_receive_31 : decode (rm_code mDos_receive) 31 = .ok (.iload_n 1, 1) := by decide +kernel
theorem d_Dos_receive_32 : decode (rm_code mDos_receive) 32 = .ok (.aaload, 1) := by decide +kernel
theorem d_Dos_receive_33 : decode (rm_code mDos_receive) 33 = .ok (.getfield 61, 3) := by decide +kernel
theorem d_Dos_receive_36 : decode (rm_code mDos_receive) 36 = .ok (.iconst 2, 1) := by decide +kernel
theorem d_Dos_receive_37 : decode (rm_code mDos_receive) 37 = .ok (.if_icmp .ne (17), 3) := by decide +kernel
theorem d_Dos_receive_40 : decode (rm_code mDos_receive) 40 = .ok (.aload_n 0, 1) := by decide +kernel
theorem d_Dos_receive_41 : decode (rm_code mDos_receive) 41 = .ok (.getfield 30, 3) := by decide +kernel
theorem d_Dos_receive_44 : decode (rm_code mDos_receive) 44 = .ok (.bipush (61), 2) := by decide +kernel
theorem d_Dos_receive_46 : decode (rm_code mDos_receive) 46 = .ok (.iconst 0, 1) := by decide +kernel
theorem d_Dos_receive_47 : decode (rm_code mDos_receive) 47 = .ok (.iconst 0, 1) := by decide +kernel
theorem d_Dos_receive_48 : decode (rm_code mDos_receive) 48 = .ok (.invokevirtual 116, 3) := by decide +kernel
theorem d_Dos_receive_51 : decode (rm_code mDos_receive) 51 = .ok (.pop, 1) := by decide +kernel
theorem d_Dos_receive_52 : decode (rm_code mDos_receive) 52 = .ok (.iconst 0, 1) := by decide +kernel
theorem d_Dos_receive_53 : decode (rm_code mDos_receive) 53 = .ok (.ireturn, 1) := by decide +kernel
theorem d_Dos_receive_54 : decode (rm_code mDos_receive) 54 = .ok (.iconst 0, 1) := by decide +kernel
theorem d_Dos_receive_55 : decode (rm_code mDos_receive) 55 = .ok (.istore 4, 2) := by decide +kernel
theorem d_Dos_receive_57 : decode (rm_code mDos_receive) 57 = .ok (.iconst 0, 1) := by decide +kernel
theorem d_Dos_receive_58 : decode (rm_code mDos_receive) 58 = .ok (.istore 5, 2) := by decide +kernel
theorem d_Dos_receive_60 : decode (rm_code mDos_receive) 60 = .ok (.iload 4, 2) := by decide +kernel
theorem d_Dos_receive_62 : decode (rm_code mDos_receive) 62 = .ok (.iload_n 2, 1) := by decide +kernel
theorem d_Dos_receive_63 : decode (rm_code mDos_receive) 63 = .ok (.if_icmp .ge (53), 3) := by decide +kernel
theorem d_Dos_receive_66 : decode (rm_code mDos_receive) 66 = .ok (.iload 4, 2) := by decide +kernel
theorem d_Dos_receive_68 : decode (rm_code mDos_receive) 68 = .ok (.aload_n 3, 1) := by decide +kernel
theorem d_Dos_receive_69 : decode (rm_code mDos_receive) 69 = .ok (.arraylength, 1) := by decide +kernel
theorem d_Dos_receive_70 : decode (rm_code mDos_receive) 70 = .ok (.if_icmp .ge (46), 3) := by decide +kernel
theorem d_Dos_receive_73 : decode (rm_code mDos_receive) 73 = .ok (.aload_n 0, 1) := by decide +kernel
theorem d_Dos_receive_74 : decode (rm_code mDos_receive) 74 = .ok (.getfield 281, 3) := by decide +kernel
theorem d_Dos_receive_77 : decode (rm_code mDos_receive) 77 = .ok (.ifCond .ne (39), 3) := by decide +kernel
theorem d_Dos_receive_80 : decode (rm_code mDos_receive) 80 = .ok (.iload 5, 2) := by decide +kernel
theorem d_Dos_receive_82 : decode (rm_code mDos_receive) 82 = .ok (.iconst (-1), 1) := by decide +kernel
theorem d_Dos_receive_83 : decode (rm_code mDos_receive) 83 = .ok (.if_icmp .eq (33), 3) := by decide +kernel
theorem d_Dos_receive_86 : decode (rm_code mDos_receive) 86 = .ok (.aload_n 0, 1) := by decide +kernel
theorem d_Dos_receive_87 : decode (rm_code mDos_receive) 87 = .ok (.aload_n 0, 1) := by decide +kernel
theorem d_Dos_receive_88 : decode (rm_code mDos_receive) 88 = .ok (.getfield 19, 3) := by decide +kernel
theorem d_Dos_receive_91 : decode (rm_code mDos_receive) 91 = .ok (.iload_n 1, 1) := by decide +kernel
theorem d_Dos_receive_92 : decode (rm_code mDos_receive) 92 = .ok (.aaload, 1) := by decide +kernel
theorem d_Dos_receive_93 : decode (rm_code mDos_receive) 93 = .ok (.invokevirtual 284, 3) := by decide +kernel
theorem d_Dos_receive_96 : decode (rm_code mDos_receive) 96 = .ok (.istore 5, 2) := by decide +kernel
theorem d_Dos_receive_98 : decode (rm_code mDos_receive) 98 = .ok (.iload 5, 2) := by decide +kernel
theorem d_Dos_receive_100 : decode (rm_code mDos_receive) 100 = .ok (.iconst (-1), 1) := by decide +kernel
theorem d_Dos_receive_101 : decode (rm_code mDos_receive) 101 = .ok (.if_icmp .eq (-41), 3) := by decide +kernel
theorem d_Dos_receive_104 : decode (rm_code mDos_receive) 104 = .ok (.aload_n 3, 1) := by decide +kernel
theorem d_Dos_receive_105 : decode (rm_code mDos_receive) 105 = .ok (.iload 4, 2) := by decide +kernel
theorem d_Dos_receive_107 : decode (rm_code mDos_receive) 107 = .ok (.iload 5, 2) := by decide +kernel
theorem d_Dos_receive_109 : decode (rm_code mDos_receive) 109 = .ok (.iastore, 1) := by decide +kernel
theorem d_Dos_receive_110 : decode (rm_code mDos_receive) 110 = .ok (.iinc 4 (1), 3) := by decide +kernel
theorem d_Dos_receive_113 : decode (rm_code mDos_receive) 113 = .ok (.goto (-53), 3) := by decide +kernel
theorem d_Dos_receive_116 : decode (rm_code mDos_receive) 116 = .ok (.iload 4, 2) := by decide +kernel
theorem d_Dos_receive_118 : decode (rm_code mDos_receive) 118 = .ok (.ireturn, 1) := by decide +kernel
theorem p_Dos_receive_0 {S : rz_S} {K : Int32 → rz_S → Prop} {a1 : Int32} {a2 : Int32} {a3 na3 : Nat} (ha3 : rz_T[a3]? = some (.inl (0, na3))) (w : ((a1 < 0 → rz mDos_receive 40 [(0, .ref 39)] [] (rz_uI S 39 6 0) (rz_i K)) ∧ (¬ a1 < 0 → ((15 ≤ a1 → rz mDos_receive 40 [(0, .ref 39)] [] (rz_uI S 39 6 0) (rz_i K)) ∧ (¬ 15 ≤ a1 → rx_in a1 15 = true ∧ ((S.2 (48 + 4 * a1.toNatClampNeg) 0 = 0 → rz mDos_receive 40 [(0, .ref 39)] [] (rz_uI S 39 6 0) (rz_i K)) ∧ (¬ S.2 (48 + 4 * a1.toNatClampNeg) 0 = 0 → ((S.2 (48 + 4 * a1.toNatClampNeg) 0 = 2 → rz mDos_receive 40 [(0, .ref 39)] [] (rz_uI S 39 6 0) (rz_i K)) ∧ (¬ S.2 (48 + 4 * a1.toNatClampNeg) 0 = 2 → rz mDos_receive 60 [(0, .ref 39), (1, .int a1), (2, .int a2), (3, .ref a3), (4, .int 0), (5, .int 0)] [] (rz_uI S 39 6 0) (rz_i K)))))))))) : rz mDos_receive 0 [(0, .ref 39), (1, .int a1), (2, .int a2), (3, .ref a3)] [] S (rz_i K) := by
  refine rz_pure (pc' := 1) d_Dos_receive_0 rfl ?_
  refine rz_iconst (v := 0) d_Dos_receive_1 (by decide) ?_
  refine rz_puti d_Dos_receive_2 f_5_281 rfl rfl (by decide) ?_
  refine rz_pure (pc' := 6) d_Dos_receive_5 rfl ?_
  refine rz_iflt (tgt := 40) d_Dos_receive_6 rfl (fun b1 => ?_) (fun b1 => ?_)
  · skip
    exact rz_pick (ks := [0]) (l := [(0, .ref 39)]) rfl rfl (by decide) rfl (w.1 b1)
  · skip
    refine rz_pure (pc' := 10) d_Dos_receive_9 rfl ?_
    refine rz_bipush (v := 15) d_Dos_receive_10 (by decide) ?_
    refine rz_icmpge (tgt := 40) d_Dos_receive_12 rfl (fun b2 => ?_) (fun b2 => ?_)
    · skip
      exact rz_pick (ks := [0]) (l := [(0, .ref 39)]) rfl rfl (by decide) rfl ((w.2 b1).1 b2)
    · skip
      refine rz_pure (pc' := 16) d_Dos_receive_15 rfl ?_
      refine rz_getr d_Dos_receive_16 f_5_19 rfl rfl ?_
      refine rz_pure (pc' := 20) d_Dos_receive_19 rfl ?_
      have e3 := chI ((w.2 b1).2 b2).1
      have ze3 := chZ e3
      refine rz_aldC d_Dos_receive_20 rfl ((w.2 b1).2 b2).1 ?_
      refine rz_getiv (v := S.2 (48 + 4 * a1.toNatClampNeg) 0) d_Dos_receive_21 f_5_61 (chTP e3) rfl ((rz_uI_n (fun h => absurd h.2 (by decide))).trans rfl) ?_
      refine rz_ifeq (tgt := 40) d_Dos_receive_24 rfl (fun b4 => ?_) (fun b4 => ?_)
      · skip
        exact rz_pick (ks := [0]) (l := [(0, .ref 39)]) rfl rfl (by decide) rfl (((w.2 b1).2 b2).2.1 b4)
      · skip
        refine rz_pure (pc' := 28) d_Dos_receive_27 rfl ?_
        refine rz_getr d_Dos_receive_28 f_5_19 rfl rfl ?_
        refine rz_pure (pc' := 32) d_Dos_receive_31 rfl ?_
        have e5 := chI ((w.2 b1).2 b2).1
        have ze5 := chZ e5
        refine rz_aldC d_Dos_receive_32 rfl ((w.2 b1).2 b2).1 ?_
        refine rz_getiv (v := S.2 (48 + 4 * a1.toNatClampNeg) 0) d_Dos_receive_33 f_5_61 (chTP e5) rfl ((rz_uI_n (fun h => absurd h.2 (by decide))).trans rfl) ?_
        refine rz_iconst (v := 2) d_Dos_receive_36 (by decide) ?_
        refine rz_icmpne (tgt := 54) d_Dos_receive_37 rfl (fun b6 => ?_) (fun b6 => ?_)
        · skip
          refine rz_iconst (v := 0) d_Dos_receive_54 (by decide) ?_
          refine rz_pure (pc' := 57) (l' := [(4, .int 0), (0, .ref 39), (1, .int a1), (2, .int a2), (3, .ref a3)]) d_Dos_receive_55 rfl ?_
          refine rz_iconst (v := 0) d_Dos_receive_57 (by decide) ?_
          refine rz_pure (pc' := 60) (l' := [(5, .int 0), (4, .int 0), (0, .ref 39), (1, .int a1), (2, .int a2), (3, .ref a3)]) d_Dos_receive_58 rfl ?_
          exact rz_pick (ks := [0, 1, 2, 3, 4, 5]) (l := [(0, .ref 39), (1, .int a1), (2, .int a2), (3, .ref a3), (4, .int 0), (5, .int 0)]) rfl rfl (by decide) rfl ((((w.2 b1).2 b2).2.2 b4).2 b6)
        · skip
          exact rz_pick (ks := [0]) (l := [(0, .ref 39)]) rfl rfl (by decide) rfl ((((w.2 b1).2 b2).2.2 b4).1 b6)
theorem p_Dos_receive_40 {S : rz_S} {K : Int32 → rz_S → Prop} (w : rz_ev mStatus_set [.ref 3, .int 61, .int 0, .int 0] S (rz_i (fun xq1 Sq1 => K 0 Sq1))) : rz mDos_receive 40 [(0, .ref 39)] [] S (rz_i K) := by
  refine rz_pure (pc' := 41) d_Dos_receive_40 rfl ?_
  refine rz_getr d_Dos_receive_41 f_5_30 rfl rfl ?_
  refine rz_bipush (v := 61) d_Dos_receive_44 (by decide) ?_
  refine rz_iconst (v := 0) d_Dos_receive_46 (by decide) ?_
  refine rz_iconst (v := 0) d_Dos_receive_47 (by decide) ?_
  refine rz_callVi (t := [.int 0, .int 0, .int 61]) d_Dos_receive_48 w_5_116 rfl rfl rfl w (fun xq1 Sq1 q1 => ?_)
  refine rz_pure (pc' := 52) d_Dos_receive_51 rfl ?_
  refine rz_iconst (v := 0) d_Dos_receive_52 (by decide) ?_
  exact rz_ireti d_Dos_receive_53 rfl rfl q1
theorem p_Dos_receive_60 {S : rz_S} {K : Int32 → rz_S → Prop} {a1 : Int32} {a2 : Int32} {a3 na3 : Nat} (ha3 : rz_T[a3]? = some (.inl (0, na3))) {a4 : Int32} {a5 : Int32} (w : ((a2 ≤ a4 → K a4 S) ∧ (¬ a2 ≤ a4 → ((Int32.ofNat na3 ≤ a4 → K a4 S) ∧ (¬ Int32.ofNat na3 ≤ a4 → ((S.2 39 6 = 0 → ((a5 = (-1) → K a4 S) ∧ (¬ a5 = (-1) → rx_in a1 15 = true ∧ rz_ev mDos_nextByte [.ref 39, .ref (48 + 4 * a1.toNatClampNeg)] S (rz_i (fun xq6 Sq6 => ((xq6 = (-1) → rz mDos_receive 60 [(0, .ref 39), (1, .int a1), (2, .int a2), (3, .ref a3), (4, .int a4), (5, .int xq6)] [] Sq6 (rz_i K)) ∧ (¬ xq6 = (-1) → rx_in a4 na3 = true ∧ rz mDos_receive 60 [(0, .ref 39), (1, .int a1), (2, .int a2), (3, .ref a3), (4, .int (a4 + 1)), (5, .int xq6)] [] (rz_fA Sq6 a3 (upd (Sq6.1 a3) a4.toNatClampNeg xq6)) (rz_i K)))))))) ∧ (¬ S.2 39 6 = 0 → K a4 S))))))) : rz mDos_receive 60 [(0, .ref 39), (1, .int a1), (2, .int a2), (3, .ref a3), (4, .int a4), (5, .int a5)] [] S (rz_i K) := by
  refine rz_pure (pc' := 62) d_Dos_receive_60 rfl ?_
  refine rz_pure (pc' := 63) d_Dos_receive_62 rfl ?_
  refine rz_icmpge (tgt := 116) d_Dos_receive_63 rfl (fun b1 => ?_) (fun b1 => ?_)
  · skip
    refine rz_pure (pc' := 118) d_Dos_receive_116 rfl ?_
    exact rz_ireti d_Dos_receive_118 rfl rfl (w.1 b1)
  · skip
    refine rz_pure (pc' := 68) d_Dos_receive_66 rfl ?_
    refine rz_pure (pc' := 69) d_Dos_receive_68 rfl ?_
    refine rz_alenv (v := Int32.ofNat na3) d_Dos_receive_69 (ha3) (by decide) rfl ?_
    refine rz_icmpge (tgt := 116) d_Dos_receive_70 rfl (fun b2 => ?_) (fun b2 => ?_)
    · skip
      refine rz_pure (pc' := 118) d_Dos_receive_116 rfl ?_
      exact rz_ireti d_Dos_receive_118 rfl rfl ((w.2 b1).1 b2)
    · skip
      refine rz_pure (pc' := 74) d_Dos_receive_73 rfl ?_
      refine rz_getiv (v := S.2 39 6) d_Dos_receive_74 f_5_281 rfl rfl rfl ?_
      refine rz_ifne (tgt := 116) d_Dos_receive_77 rfl (fun b3 => ?_) (fun b3 => ?_)
      · skip
        refine rz_pure (pc' := 118) d_Dos_receive_116 rfl ?_
        exact rz_ireti d_Dos_receive_118 rfl rfl (((w.2 b1).2 b2).2 b3)
      · skip
        refine rz_pure (pc' := 82) d_Dos_receive_80 rfl ?_
        refine rz_iconst (v := -1) d_Dos_receive_82 (by decide) ?_
        refine rz_icmpeq (tgt := 116) d_Dos_receive_83 rfl (fun b4 => ?_) (fun b4 => ?_)
        · skip
          refine rz_pure (pc' := 118) d_Dos_receive_116 rfl ?_
          exact rz_ireti d_Dos_receive_118 rfl rfl ((((w.2 b1).2 b2).1 b3).1 b4)
        · skip
          refine rz_pure (pc' := 87) d_Dos_receive_86 rfl ?_
          refine rz_pure (pc' := 88) d_Dos_receive_87 rfl ?_
          refine rz_getr d_Dos_receive_88 f_5_19 rfl rfl ?_
          refine rz_pure (pc' := 92) d_Dos_receive_91 rfl ?_
          have e5 := chI ((((w.2 b1).2 b2).1 b3).2 b4).1
          have ze5 := chZ e5
          refine rz_aldC d_Dos_receive_92 rfl ((((w.2 b1).2 b2).1 b3).2 b4).1 ?_
          refine rz_callVi (t := [.ref (48 + 4 * a1.toNatClampNeg)]) d_Dos_receive_93 w_5_284 rfl rfl rfl ((((w.2 b1).2 b2).1 b3).2 b4).2 (fun xq6 Sq6 q6 => ?_)
          refine rz_pure (pc' := 98) (l' := [(5, .int xq6), (0, .ref 39), (1, .int a1), (2, .int a2), (3, .ref a3), (4, .int a4)]) d_Dos_receive_96 rfl ?_
          refine rz_pure (pc' := 100) d_Dos_receive_98 rfl ?_
          refine rz_iconst (v := -1) d_Dos_receive_100 (by decide) ?_
          refine rz_icmpeq (tgt := 60) d_Dos_receive_101 rfl (fun b7 => ?_) (fun b7 => ?_)
          · skip
            exact rz_pick (ks := [0, 1, 2, 3, 4, 5]) (l := [(0, .ref 39), (1, .int a1), (2, .int a2), (3, .ref a3), (4, .int a4), (5, .int xq6)]) rfl rfl (by decide) rfl (q6.1 b7)
          · skip
            refine rz_pure (pc' := 105) d_Dos_receive_104 rfl ?_
            refine rz_pure (pc' := 107) d_Dos_receive_105 rfl ?_
            refine rz_pure (pc' := 109) d_Dos_receive_107 rfl ?_
            refine rz_iastv (F := Sq6.1 a3) (i := a4.toNatClampNeg) d_Dos_receive_109 (ha3) (q6.2 b7).1 rfl rfl ?_
            refine rz_pure (pc' := 113) (l' := [(4, .int (a4 + 1)), (5, .int xq6), (0, .ref 39), (1, .int a1), (2, .int a2), (3, .ref a3)]) d_Dos_receive_110 rfl ?_
            refine rz_pure (pc' := 60) d_Dos_receive_113 rfl ?_
            exact rz_pick (ks := [0, 1, 2, 3, 4, 5]) (l := [(0, .ref 39), (1, .int a1), (2, .int a2), (3, .ref a3), (4, .int (a4 + 1)), (5, .int xq6)]) rfl rfl (by decide) rfl (q6.2 b7).2
theorem d_Dos_nextByte_0 : decode (rm_code mDos_nextByte) 0 = .ok (.aload_n 1, 1) := by decide +kernel
theorem d_Dos_nextByte_1 : decode (rm_code mDos_nextByte) 1 = .ok (.getfield 61, 3) := by decide +kernel
theorem d_Dos_nextByte_4 : decode (rm_code mDos_nextByte) 4 = .ok (.iconst 4, 1) := by decide +kernel
theorem d_Dos_nextByte_5 : decode (rm_code mDos_nextByte) 5 = .ok (.if_icmp .ne (49), 3) := by decide +kernel
theorem d_Dos_nextByte_8 : decode (rm_code mDos_nextByte) 8 = .ok (.aload_n 0, 1) := by decide +kernel
theorem d_Dos_nextByte_9 : decode (rm_code mDos_nextByte) 9 = .ok (.aload_n 1, 1) := by decide +kernel
theorem d_Dos_nextByte_10 : decode (rm_code mDos_nextByte) 10 = .ok (.getfield 73, 3) := by decide +kernel
theorem d_Dos_nextByte_13 : decode (rm_code mDos_nextByte) 13 = .ok (.bipush (63), 2) := by decide +kernel
theorem d_Dos_nextByte_15 : decode (rm_code mDos_nextByte) 15 = .ok (.if_icmp .ne (7), 3) := by decide +kernel
theorem d_Dos_nextByte_18 : decode (rm_code mDos_nextByte) 18 = .ok (.iconst 1, 1) := by decide +kernel
theorem d_Dos_nextByte_19 : decode (rm_code mDos_nextByte) 19 = .ok (.goto (4), 3) := by decide +kernel
theorem d_Dos_nextByte_22 : decode (rm_code mDos_nextByte) 22 = .ok (.iconst 0, 1) := by decide +kernel
theorem d_Dos_nextByte_23 : decode (rm_code mDos_nextByte) 23 = .ok (.putfield 281, 3) := by decide +kernel
theorem d_Dos_nextByte_26 : decode (rm_code mDos_nextByte) 26 = .ok (.aload_n 1, 1) := by decide +kernel
theorem d_Dos_nextByte_27 : decode (rm_code mDos_nextByte) 27 = .ok (.getfield 72, 3) := by decide +kernel
theorem d_Dos_nextByte_30 : decode (rm_code mDos_nextByte) 30 = .ok (.aload_n 1, 1) := by decide +kernel
theorem d_Dos_nextByte_31 : decode (rm_code mDos_nextByte) 31 = .ok (.getfield 73, 3) := by decide +kernel
theorem d_Dos_nextByte_34 : decode (rm_code mDos_nextByte) 34 = .ok (.bipush (63), 2) := by decide +kernel
theorem d_Dos_nextByte_36 : decode (rm_code mDos_nextByte) 36 = .ok (.iand, 1) := by decide +kernel
theorem d_Dos_nextByte_37 : decode (rm_code mDos_nextByte) 37 = .ok (.iaload, 1) := by decide +kernel
theorem d_Dos_nextByte_38 : decode (rm_code mDos_nextByte) 38 = .ok (.istore_n 2, 1) := by decide +kernel
theorem d_Dos_nextByte_39 : decode (rm_code mDos_nextByte) 39 = .ok (.aload_n 1, 1) := by decide +kernel
theorem d_Dos_nextByte_40 : decode (rm_code mDos_nextByte) 40 = .ok (.aload_n 1, 1) := by decide +kernel
theorem d_Dos_nextByte_41 : decode (rm_code mDos_nextByte) 41 = .ok (.getfield 73, 3) := by decide +kernel
theorem d_Dos_nextByte_44 : decode (rm_code mDos_nextByte) 44 = .ok (.iconst 1, 1) := by decide +kernel
theorem d_Dos_nextByte_45 : decode (rm_code mDos_nextByte) 45 = .ok (.iadd, 1) := by decide +kernel
theorem d_Dos_nextByte_46 : decode (rm_code mDos_nextByte) 46 = .ok (.bipush (63), 2) := by decide +kernel
theorem d_Dos_nextByte_48 : decode (rm_code mDos_nextByte) 48 = .ok (.iand, 1) := by decide +kernel
theorem d_Dos_nextByte_49 : decode (rm_code mDos_nextByte) 49 = .ok (.putfield 73, 3) := by decide +kernel
theorem d_Dos_nextByte_52 : decode (rm_code mDos_nextByte) 52 = .ok (.iload_n 2, 1) := by decide +kernel
theorem d_Dos_nextByte_53 : decode (rm_code mDos_nextByte) 53 = .ok (.ireturn, 1) := by decide +kernel
theorem d_Dos_nextByte_54 : decode (rm_code mDos_nextByte) 54 = .ok (.aload_n 1, 1) := by decide +kernel
theorem d_Dos_nextByte_55 : decode (rm_code mDos_nextByte) 55 = .ok (.getfield 73, 3) := by decide +kernel
theorem d_Dos_nextByte_58 : decode (rm_code mDos_nextByte) 58 = .ok (.aload_n 1, 1) := by decide +kernel
theorem d_Dos_nextByte_59 : decode (rm_code mDos_nextByte) 59 = .ok (.getfield 287, 3) := by decide +kernel
theorem d_Dos_nextByte_62 : decode (rm_code mDos_nextByte) 62 = .ok (.if_icmp .lt (43), 3) := by decide +kernel
theorem d_Dos_nextByte_65 : decode (rm_code mDos_nextByte) 65 = .ok (.aload_n 1, 1) := by decide +kernel
theorem d_Dos_nextByte_66 : decode (rm_code mDos_nextByte) 66 = .ok (.getfield 290, 3) := by decide +kernel
theorem d_Dos_nextByte_69 : decode (rm_code mDos_nextByte) 69 = .ok (.ifCond .ne (36), 3) := by decide +kernel
theorem d_Dos_nextByte_72 : decode (rm_code mDos_nextByte) 72 = .ok (.aload_n 1, 1) := by decide +kernel
theorem d_Dos_nextByte_73 : decode (rm_code mDos_nextByte) 73 = .ok (.getfield 61, 3) := by decide +kernel
theorem d_Dos_nextByte_76 : decode (rm_code mDos_nextByte) 76 = .ok (.iconst 3, 1) := by decide +kernel
theorem d_Dos_nextByte_77 : decode (rm_code mDos_nextByte) 77 = .ok (.if_icmp .ne (11), 3) := by decide +kernel
theorem d_Dos_nextByte_80 : decode (rm_code mDos_nextByte) 80 = .ok (.aload_n 0, 1) := by decide +kernel
theorem d_Dos_nextByte_81 : decode (rm_code mDos_nextByte) 81 = .ok (.aload_n 1, 1) := by decide +kernel
theorem d_Dos_nextByte_82 : decode (rm_code mDos_nextByte) 82 = .ok (.invokevirtual 293, 3) := by decide +kernel
theorem d_Dos_nextByte_85 : decode (rm_code mDos_nextByte) 85 = .ok (.goto (8), 3) := by decide +kernel
theorem d_Dos_nextByte_88 : decode (rm_code mDos_nextByte) 88 = .ok (.aload_n 0, 1) := by decide +kernel
theorem d_Dos_nextByte_89 : decode (rm_code mDos_nextByte) 89 = .ok (.aload_n 1, 1) := by decide +kernel
theorem d_Dos_nextByte_90 : decode (rm_code mDos_nextByte) 90 = .ok (.invokevirtual 296, 3) := by decide +kernel
theorem d_Dos_nextByte_93 : decode (rm_code mDos_nextByte) 93 = .ok (.istore_n 2, 1) := by decide +kernel
theorem d_Dos_nextByte_94 : decode (rm_code mDos_nextByte) 94 = .ok (.iload_n 2, 1) := by decide +kernel
theorem d_Dos_nextByte_95 : decode (rm_code mDos_nextByte) 95 = .ok (.ifCond .eq (10), 3) := by decide +kernel
theorem d_Dos_nextByte_98 : decode (rm_code mDos_nextByte) 98 = .ok (.aload_n 1, 1) := by decide +kernel
theorem d_Dos_nextByte_99 : decode (rm_code mDos_nextByte) 99 = .ok (.iconst 0, 1) := by decide +kernel
theorem d_Dos_nextByte_100 : decode (rm_code mDos_nextByte) 100 = .ok (.putfield 61, 3) := by decide +kernel
theorem d_Dos_nextByte_103 : decode (rm_code mDos_nextByte) 103 = .ok (.iconst (-1), 1) := by decide +kernel
theorem d_Dos_nextByte_104 : decode (rm_code mDos_nextByte) 104 = .ok (.ireturn, 1) := by decide +kernel
theorem d_Dos_nextByte_105 : decode (rm_code mDos_nextByte) 105 = .ok (.aload_n 1, 1) := by decide +kernel
theorem d_Dos_nextByte_106 : decode (rm_code mDos_nextByte) 106 = .ok (.getfield 73, 3) := by decide +kernel
theorem d_Dos_nextByte_109 : decode (rm_code mDos_nextByte) 109 = .ok (.aload_n 1, 1) := by decide +kernel
theorem d_Dos_nextByte_110 : decode (rm_code mDos_nextByte) 110 = .ok (.getfield 287, 3) := by decide +kernel
theorem d_Dos_nextByte_113 : decode (rm_code mDos_nextByte) 113 = .ok (.if_icmp .ge (15), 3) := by decide +kernel
theorem d_Dos_nextByte_116 : decode (rm_code mDos_nextByte) 116 = .ok (.aload_n 1, 1) := by decide +kernel
theorem d_Dos_nextByte_117 : decode (rm_code mDos_nextByte) 117 = .ok (.getfield 73, 3) := by decide +kernel
theorem d_Dos_nextByte_120 : decode (rm_code mDos_nextByte) 120 = .ok (.aload_n 1, 1) := by decide +kernel
theorem d_Dos_nextByte_121 : decode (rm_code mDos_nextByte) 121 = .ok (.getfield 72, 3) := by decide +kernel
theorem d_Dos_nextByte_124 : decode (rm_code mDos_nextByte) 124 = .ok (.arraylength, 1) := by decide +kernel
theorem d_Dos_nextByte_125 : decode (rm_code mDos_nextByte) 125 = .ok (.if_icmp .lt (5), 3) := by decide +kernel
theorem d_Dos_nextByte_128 : decode (rm_code mDos_nextByte) 128 = .ok (.iconst (-1), 1) := by decide +kernel
theorem d_Dos_nextByte_129 : decode (rm_code mDos_nextByte) 129 = .ok (.ireturn, 1) := by decide +kernel
theorem d_Dos_nextByte_130 : decode (rm_code mDos_nextByte) 130 = .ok (.aload_n 1, 1) := by decide +kernel
theorem d_Dos_nextByte_131 : decode (rm_code mDos_nextByte) 131 = .ok (.getfield 72, 3) := by decide +kernel
theorem d_Dos_nextByte_134 : decode (rm_code mDos_nextByte) 134 = .ok (.aload_n 1, 1) := by decide +kernel
theorem d_Dos_nextByte_135 : decode (rm_code mDos_nextByte) 135 = .ok (.getfield 73, 3) := by decide +kernel
theorem d_Dos_nextByte_138 : decode (rm_code mDos_nextByte) 138 = .ok (.iaload, 1) := by decide +kernel
theorem d_Dos_nextByte_139 : decode (rm_code mDos_nextByte) 139 = .ok (.istore_n 2, 1) := by decide +kernel
theorem d_Dos_nextByte_140 : decode (rm_code mDos_nextByte) 140 = .ok (.aload_n 1, 1) := by decide +kernel
theorem d_Dos_nextByte_141 : decode (rm_code mDos_nextByte) 141 = .ok (.dup, 1) := by decide +kernel
theorem d_Dos_nextByte_142 : decode (rm_code mDos_nextByte) 142 = .ok (.getfield 73, 3) := by decide +kernel
theorem d_Dos_nextByte_145 : decode (rm_code mDos_nextByte) 145 = .ok (.iconst 1, 1) := by decide +kernel
theorem d_Dos_nextByte_146 : decode (rm_code mDos_nextByte) 146 = .ok (.iadd, 1) := by decide +kernel
theorem d_Dos_nextByte_147 : decode (rm_code mDos_nextByte) 147 = .ok (.putfield 73, 3) := by decide +kernel
theorem d_Dos_nextByte_150 : decode (rm_code mDos_nextByte) 150 = .ok (.aload_n 0, 1) := by decide +kernel
theorem d_Dos_nextByte_151 : decode (rm_code mDos_nextByte) 151 = .ok (.aload_n 1, 1) := by decide +kernel
theorem d_Dos_nextByte_152 : decode (rm_code mDos_nextByte) 152 = .ok (.getfield 290, 3) := by decide +kernel
theorem d_Dos_nextByte_155 : decode (rm_code mDos_nextByte) 155 = .ok (.ifCond .eq (18), 3) := by decide +kernel
theorem d_Dos_nextByte_158 : decode (rm_code mDos_nextByte) 158 = .ok (.aload_n 1, 1) := by decide +kernel
theorem d_Dos_nextByte_159 : decode (rm_code mDos_nextByte) 159 = .ok (.getfield 73, 3) := by decide +kernel
theorem d_Dos_nextByte_162 : decode (rm_code mDos_nextByte) 162 = .ok (.aload_n 1, 1) := by decide +kernel
theorem d_Dos_nextByte_163 : decode (rm_code mDos_nextByte) 163 = .ok (.getfield 287, 3) := by decide +kernel
theorem d_Dos_nextByte_166 : decode (rm_code mDos_nextByte) 166 = .ok (.if_icmp .lt (7), 3) := by decide +kernel
theorem d_Dos_nextByte_169 : decode (rm_code mDos_nextByte) 169 = .ok (.iconst 1, 1) := by decide +kernel
theorem d_Dos_nextByte_170 : decode (rm_code mDos_nextByte) 170 = .ok (.goto (4), 3) := by decide +kernel
theorem d_Dos_nextByte_173 : decode (rm_code mDos_nextByte) 173 = .ok (.iconst 0, 1) := by decide +kernel
theorem d_Dos_nextByte_174 : decode (rm_code mDos_nextByte) 174 = .ok (.putfield 281, 3) := by decide +kernel
theorem d_Dos_nextByte_177 : decode (rm_code mDos_nextByte) 177 = .ok (.iload_n 2, 1) := by decide +kernel
theorem d_Dos_nextByte_178 : decode (rm_code mDos_nextByte) 178 = .ok (.ireturn, 1) := by decide +kernel
theorem p_Dos_nextByte_0 {S : rz_S} {K : Int32 → rz_S → Prop} {a1 : Nat} (ha1 : chP a1) (w : ((S.2 a1 0 = 4 → ((S.2 a1 2 = 63 → rz mDos_nextByte 23 [(1, .ref a1)] [.int 1, .ref 39] S (rz_i K)) ∧ (¬ S.2 a1 2 = 63 → rz mDos_nextByte 23 [(1, .ref a1)] [.int 0, .ref 39] S (rz_i K)))) ∧ (¬ S.2 a1 0 = 4 → ((S.2 a1 2 < S.2 a1 3 → rz mDos_nextByte 105 [(0, .ref 39), (1, .ref a1)] [] S (rz_i K)) ∧ (¬ S.2 a1 2 < S.2 a1 3 → ((S.2 a1 4 = 0 → ((S.2 a1 0 = 3 → rz_ev mDos_makeLine [.ref 39, .ref a1] S (rz_i (fun xq6 Sq6 => rz mDos_nextByte 93 [(0, .ref 39), (1, .ref a1)] [.int xq6] Sq6 (rz_i K)))) ∧ (¬ S.2 a1 0 = 3 → rz_ev mDos_readNext [.ref 39, .ref a1] S (rz_i (fun xq5 Sq5 => rz mDos_nextByte 93 [(0, .ref 39), (1, .ref a1)] [.int xq5] Sq5 (rz_i K)))))) ∧ (¬ S.2 a1 4 = 0 → rz mDos_nextByte 105 [(0, .ref 39), (1, .ref a1)] [] S (rz_i K)))))))) : rz mDos_nextByte 0 [(0, .ref 39), (1, .ref a1)] [] S (rz_i K) := by
  have za1 := chZ ha1
  refine rz_pure (pc' := 1) d_Dos_nextByte_0 rfl ?_
  refine rz_getiv (v := S.2 a1 0) d_Dos_nextByte_1 f_5_61 (chTP ha1) rfl rfl ?_
  refine rz_iconst (v := 4) d_Dos_nextByte_4 (by decide) ?_
  refine rz_icmpne (tgt := 54) d_Dos_nextByte_5 rfl (fun b1 => ?_) (fun b1 => ?_)
  · skip
    refine rz_pure (pc' := 55) d_Dos_nextByte_54 rfl ?_
    refine rz_getiv (v := S.2 a1 2) d_Dos_nextByte_55 f_5_73 (chTP ha1) rfl rfl ?_
    refine rz_pure (pc' := 59) d_Dos_nextByte_58 rfl ?_
    refine rz_getiv (v := S.2 a1 3) d_Dos_nextByte_59 f_5_287 (chTP ha1) rfl rfl ?_
    refine rz_icmplt (tgt := 105) d_Dos_nextByte_62 rfl (fun b2 => ?_) (fun b2 => ?_)
    · skip
      exact rz_pick (ks := [0, 1]) (l := [(0, .ref 39), (1, .ref a1)]) rfl rfl (by decide) rfl ((w.2 b1).1 b2)
    · skip
      refine rz_pure (pc' := 66) d_Dos_nextByte_65 rfl ?_
      refine rz_getiv (v := S.2 a1 4) d_Dos_nextByte_66 f_5_290 (chTP ha1) rfl rfl ?_
      refine rz_ifne (tgt := 105) d_Dos_nextByte_69 rfl (fun b3 => ?_) (fun b3 => ?_)
      · skip
        exact rz_pick (ks := [0, 1]) (l := [(0, .ref 39), (1, .ref a1)]) rfl rfl (by decide) rfl (((w.2 b1).2 b2).2 b3)
      · skip
        refine rz_pure (pc' := 73) d_Dos_nextByte_72 rfl ?_
        refine rz_getiv (v := S.2 a1 0) d_Dos_nextByte_73 f_5_61 (chTP ha1) rfl rfl ?_
        refine rz_iconst (v := 3) d_Dos_nextByte_76 (by decide) ?_
        refine rz_icmpne (tgt := 88) d_Dos_nextByte_77 rfl (fun b4 => ?_) (fun b4 => ?_)
        · skip
          refine rz_pure (pc' := 89) d_Dos_nextByte_88 rfl ?_
          refine rz_pure (pc' := 90) d_Dos_nextByte_89 rfl ?_
          refine rz_callVi (t := [.ref a1]) d_Dos_nextByte_90 w_5_296 rfl rfl rfl ((((w.2 b1).2 b2).1 b3).2 b4) (fun xq5 Sq5 q5 => ?_)
          exact rz_pick (ks := [0, 1]) (l := [(0, .ref 39), (1, .ref a1)]) rfl rfl (by decide) rfl q5
        · skip
          refine rz_pure (pc' := 81) d_Dos_nextByte_80 rfl ?_
          refine rz_pure (pc' := 82) d_Dos_nextByte_81 rfl ?_
          refine rz_callVi (t := [.ref a1]) d_Dos_nextByte_82 w_5_293 rfl rfl rfl ((((w.2 b1).2 b2).1 b3).1 b4) (fun xq6 Sq6 q6 => ?_)
          refine rz_pure (pc' := 93) d_Dos_nextByte_85 rfl ?_
          exact rz_pick (ks := [0, 1]) (l := [(0, .ref 39), (1, .ref a1)]) rfl rfl (by decide) rfl q6
  · skip
    refine rz_pure (pc' := 9) d_Dos_nextByte_8 rfl ?_
    refine rz_pure (pc' := 10) d_Dos_nextByte_9 rfl ?_
    refine rz_getiv (v := S.2 a1 2) d_Dos_nextByte_10 f_5_73 (chTP ha1) rfl rfl ?_
    refine rz_bipush (v := 63) d_Dos_nextByte_13 (by decide) ?_
    refine rz_icmpne (tgt := 22) d_Dos_nextByte_15 rfl (fun b7 => ?_) (fun b7 => ?_)
    · skip
      refine rz_iconst (v := 0) d_Dos_nextByte_22 (by decide) ?_
      exact rz_pick (ks := [1]) (l := [(1, .ref a1)]) rfl rfl (by decide) rfl ((w.1 b1).2 b7)
    · skip
      refine rz_iconst (v := 1) d_Dos_nextByte_18 (by decide) ?_
      refine rz_pure (pc' := 23) d_Dos_nextByte_19 rfl ?_
      exact rz_pick (ks := [1]) (l := [(1, .ref a1)]) rfl rfl (by decide) rfl ((w.1 b1).1 b7)
theorem p_Dos_nextByte_105 {S : rz_S} {K : Int32 → rz_S → Prop} {a1 : Nat} (ha1 : chP a1) (w : ((S.2 a1 3 ≤ S.2 a1 2 → K (-1) S) ∧ (¬ S.2 a1 3 ≤ S.2 a1 2 → ((S.2 a1 2 < 64 → rx_in (S.2 a1 2) 64 = true ∧ ((S.2 a1 4 = 0 → K (S.1 (a1 + 1) ((S.2 a1 2).toNatClampNeg)) (rz_uI (rz_uI S a1 2 ((S.2 a1 2) + 1)) 39 6 0)) ∧ (¬ S.2 a1 4 = 0 → (((S.2 a1 2) + 1 < S.2 a1 3 → K (S.1 (a1 + 1) ((S.2 a1 2).toNatClampNeg)) (rz_uI (rz_uI S a1 2 ((S.2 a1 2) + 1)) 39 6 0)) ∧ (¬ (S.2 a1 2) + 1 < S.2 a1 3 → K (S.1 (a1 + 1) ((S.2 a1 2).toNatClampNeg)) (rz_uI (rz_uI S a1 2 ((S.2 a1 2) + 1)) 39 6 1)))))) ∧ (¬ S.2 a1 2 < 64 → K (-1) S))))) : rz mDos_nextByte 105 [(0, .ref 39), (1, .ref a1)] [] S (rz_i K) := by
  have za1 := chZ ha1
  refine rz_pure (pc' := 106) d_Dos_nextByte_105 rfl ?_
  refine rz_getiv (v := S.2 a1 2) d_Dos_nextByte_106 f_5_73 (chTP ha1) rfl rfl ?_
  refine rz_pure (pc' := 110) d_Dos_nextByte_109 rfl ?_
  refine rz_getiv (v := S.2 a1 3) d_Dos_nextByte_110 f_5_287 (chTP ha1) rfl rfl ?_
  refine rz_icmpge (tgt := 128) d_Dos_nextByte_113 rfl (fun b1 => ?_) (fun b1 => ?_)
  · skip
    refine rz_iconst (v := -1) d_Dos_nextByte_128 (by decide) ?_
    exact rz_ireti d_Dos_nextByte_129 rfl rfl (w.1 b1)
  · skip
    refine rz_pure (pc' := 117) d_Dos_nextByte_116 rfl ?_
    refine rz_getiv (v := S.2 a1 2) d_Dos_nextByte_117 f_5_73 (chTP ha1) rfl rfl ?_
    refine rz_pure (pc' := 121) d_Dos_nextByte_120 rfl ?_
    refine rz_getr d_Dos_nextByte_121 f_5_72 (chTP ha1) rfl ?_
    refine rz_alenv (v := 64) d_Dos_nextByte_124 (chR ha1) (by decide) rfl ?_
    refine rz_icmplt (tgt := 130) d_Dos_nextByte_125 rfl (fun b2 => ?_) (fun b2 => ?_)
    · skip
      refine rz_pure (pc' := 131) d_Dos_nextByte_130 rfl ?_
      refine rz_getr d_Dos_nextByte_131 f_5_72 (chTP ha1) rfl ?_
      refine rz_pure (pc' := 135) d_Dos_nextByte_134 rfl ?_
      refine rz_getiv (v := S.2 a1 2) d_Dos_nextByte_135 f_5_73 (chTP ha1) rfl rfl ?_
      refine rz_ialdv (F := S.1 (a1 + 1)) (i := (S.2 a1 2).toNatClampNeg) d_Dos_nextByte_138 (chR ha1) ((w.2 b1).1 b2).1 rfl rfl ?_
      refine rz_pure (pc' := 140) (l' := [(2, .int (S.1 (a1 + 1) ((S.2 a1 2).toNatClampNeg))), (0, .ref 39), (1, .ref a1)]) d_Dos_nextByte_139 rfl ?_
      refine rz_pure (pc' := 141) d_Dos_nextByte_140 rfl ?_
      refine rz_pure (pc' := 142) d_Dos_nextByte_141 rfl ?_
      refine rz_getiv (v := S.2 a1 2) d_Dos_nextByte_142 f_5_73 (chTP ha1) rfl rfl ?_
      refine rz_iconst (v := 1) d_Dos_nextByte_145 (by decide) ?_
      refine rz_iadd d_Dos_nextByte_146 ?_
      refine rz_puti d_Dos_nextByte_147 f_5_73 (chTP ha1) rfl rfl ?_
      refine rz_pure (pc' := 151) d_Dos_nextByte_150 rfl ?_
      refine rz_pure (pc' := 152) d_Dos_nextByte_151 rfl ?_
      refine rz_getiv (v := S.2 a1 4) d_Dos_nextByte_152 f_5_290 (chTP ha1) rfl ((rz_uI_n (fun h => absurd h.2 (by decide))).trans rfl) ?_
      refine rz_ifeq (tgt := 173) d_Dos_nextByte_155 rfl (fun b3 => ?_) (fun b3 => ?_)
      · skip
        refine rz_iconst (v := 0) d_Dos_nextByte_173 (by decide) ?_
        refine rz_puti d_Dos_nextByte_174 f_5_281 rfl rfl (by decide) ?_
        refine rz_pure (pc' := 178) d_Dos_nextByte_177 rfl ?_
        exact rz_ireti d_Dos_nextByte_178 rfl rfl (((w.2 b1).1 b2).2.1 b3)
      · skip
        refine rz_pure (pc' := 159) d_Dos_nextByte_158 rfl ?_
        refine rz_getiv (v := (S.2 a1 2) + 1) d_Dos_nextByte_159 f_5_73 (chTP ha1) rfl rz_uI_s ?_
        refine rz_pure (pc' := 163) d_Dos_nextByte_162 rfl ?_
        refine rz_getiv (v := S.2 a1 3) d_Dos_nextByte_163 f_5_287 (chTP ha1) rfl ((rz_uI_n (fun h => absurd h.2 (by decide))).trans rfl) ?_
        refine rz_icmplt (tgt := 173) d_Dos_nextByte_166 rfl (fun b4 => ?_) (fun b4 => ?_)
        · skip
          refine rz_iconst (v := 0) d_Dos_nextByte_173 (by decide) ?_
          refine rz_puti d_Dos_nextByte_174 f_5_281 rfl rfl (by decide) ?_
          refine rz_pure (pc' := 178) d_Dos_nextByte_177 rfl ?_
          exact rz_ireti d_Dos_nextByte_178 rfl rfl ((((w.2 b1).1 b2).2.2 b3).1 b4)
        · skip
          refine rz_iconst (v := 1) d_Dos_nextByte_169 (by decide) ?_
          refine rz_pure (pc' := 174) d_Dos_nextByte_170 rfl ?_
          refine rz_puti d_Dos_nextByte_174 f_5_281 rfl rfl (by decide) ?_
          refine rz_pure (pc' := 178) d_Dos_nextByte_177 rfl ?_
          exact rz_ireti d_Dos_nextByte_178 rfl rfl ((((w.2 b1).1 b2).2.2 b3).2 b4)
    · skip
      refine rz_iconst (v := -1) d_Dos_nextByte_128 (by decide) ?_
      exact rz_ireti d_Dos_nextByte_129 rfl rfl ((w.2 b1).2 b2)
theorem p_Dos_nextByte_93 {S : rz_S} {K : Int32 → rz_S → Prop} {a1 : Nat} (ha1 : chP a1) {s0 : Int32} (w : ((s0 = 0 → rz mDos_nextByte 105 [(0, .ref 39), (1, .ref a1)] [] S (rz_i K)) ∧ (¬ s0 = 0 → K (-1) (rz_uI S a1 0 0)))) : rz mDos_nextByte 93 [(0, .ref 39), (1, .ref a1)] [.int s0] S (rz_i K) := by
  have za1 := chZ ha1
  refine rz_pure (pc' := 94) (l' := [(2, .int s0), (0, .ref 39), (1, .ref a1)]) d_Dos_nextByte_93 rfl ?_
  refine rz_pure (pc' := 95) d_Dos_nextByte_94 rfl ?_
  refine rz_ifeq (tgt := 105) d_Dos_nextByte_95 rfl (fun b1 => ?_) (fun b1 => ?_)
  · skip
    exact rz_pick (ks := [0, 1]) (l := [(0, .ref 39), (1, .ref a1)]) rfl rfl (by decide) rfl (w.1 b1)
  · skip
    refine rz_pure (pc' := 99) d_Dos_nextByte_98 rfl ?_
    refine rz_iconst (v := 0) d_Dos_nextByte_99 (by decide) ?_
    refine rz_puti d_Dos_nextByte_100 f_5_61 (chTP ha1) rfl rfl ?_
    refine rz_iconst (v := -1) d_Dos_nextByte_103 (by decide) ?_
    exact rz_ireti d_Dos_nextByte_104 rfl rfl (w.2 b1)
theorem p_Dos_nextByte_23 {S : rz_S} {K : Int32 → rz_S → Prop} {a1 : Nat} (ha1 : chP a1) {s0 : Int32} (w : (s0 = 0 ∨ s0 = 1) ∧ rx_in ((S.2 a1 2) &&& 63) 64 = true ∧ K (S.1 (a1 + 1) (((S.2 a1 2) &&& 63).toNatClampNeg)) (rz_uI (rz_uI S 39 6 s0) a1 2 (((S.2 a1 2) + 1) &&& 63))) : rz mDos_nextByte 23 [(1, .ref a1)] [.int s0, .ref 39] S (rz_i K) := by
  have za1 := chZ ha1
  refine rz_puti d_Dos_nextByte_23 f_5_281 rfl rfl (rz_bfit w.1) ?_
  refine rz_pure (pc' := 27) d_Dos_nextByte_26 rfl ?_
  refine rz_getr d_Dos_nextByte_27 f_5_72 (chTP ha1) rfl ?_
  refine rz_pure (pc' := 31) d_Dos_nextByte_30 rfl ?_
  refine rz_getiv (v := S.2 a1 2) d_Dos_nextByte_31 f_5_73 (chTP ha1) rfl ((rz_uI_n (fun h => absurd h.2 (by decide))).trans rfl) ?_
  refine rz_bipush (v := 63) d_Dos_nextByte_34 (by decide) ?_
  refine rz_iand d_Dos_nextByte_36 ?_
  refine rz_ialdv (F := S.1 (a1 + 1)) (i := ((S.2 a1 2) &&& 63).toNatClampNeg) d_Dos_nextByte_37 (chR ha1) w.2.1 rfl rfl ?_
  refine rz_pure (pc' := 39) (l' := [(2, .int (S.1 (a1 + 1) (((S.2 a1 2) &&& 63).toNatClampNeg))), (1, .ref a1)]) d_Dos_nextByte_38 rfl ?_
  refine rz_pure (pc' := 40) d_Dos_nextByte_39 rfl ?_
  refine rz_pure (pc' := 41) d_Dos_nextByte_40 rfl ?_
  refine rz_getiv (v := S.2 a1 2) d_Dos_nextByte_41 f_5_73 (chTP ha1) rfl ((rz_uI_n (fun h => absurd h.2 (by decide))).trans rfl) ?_
  refine rz_iconst (v := 1) d_Dos_nextByte_44 (by decide) ?_
  refine rz_iadd d_Dos_nextByte_45 ?_
  refine rz_bipush (v := 63) d_Dos_nextByte_46 (by decide) ?_
  refine rz_iand d_Dos_nextByte_48 ?_
  refine rz_puti d_Dos_nextByte_49 f_5_73 (chTP ha1) rfl rfl ?_
  refine rz_pure (pc' := 53) d_Dos_nextByte_52 rfl ?_
  exact rz_ireti d_Dos_nextByte_53 rfl rfl w.2.2
theorem d_Dos_makeLine_0 : decode (rm_code mDos_makeLine) 0 = .ok (.aload_n 1, 1) := by decide +kernel
theorem d_Dos_makeLine_1 : decode (rm_code mDos_makeLine) 1 = .ok (.invokevirtual 299, 3) := by decide +kernel
theorem d_Dos_makeLine_4 : decode (rm_code mDos_makeLine) 4 = .ok (.aload_n 1, 1) := by decide +kernel
theorem d_Dos_makeLine_5 : decode (rm_code mDos_makeLine) 5 = .ok (.getfield 302, 3) := by decide +kernel
theorem d_Dos_makeLine_8 : decode (rm_code mDos_makeLine) 8 = .ok (.ifCond .ne (38), 3) := by decide +kernel
theorem d_Dos_makeLine_11 : decode (rm_code mDos_makeLine) 11 = .ok (.aload_n 0, 1) := by decide +kernel
theorem d_Dos_makeLine_12 : decode (rm_code mDos_makeLine) 12 = .ok (.getfield 47, 3) := by decide +kernel
theorem d_Dos_makeLine_15 : decode (rm_code mDos_makeLine) 15 = .ok (.invokevirtual 231, 3) := by decide +kernel
theorem d_Dos_makeLine_18 : decode (rm_code mDos_makeLine) 18 = .ok (.istore_n 2, 1) := by decide +kernel
theorem d_Dos_makeLine_19 : decode (rm_code mDos_makeLine) 19 = .ok (.aload_n 0, 1) := by decide +kernel
theorem d_Dos_makeLine_20 : decode (rm_code mDos_makeLine) 20 = .ok (.aload_n 1, 1) := by decide +kernel
theorem d_Dos_makeLine_21 : decode (rm_code mDos_makeLine) 21 = .ok (.invokevirtual 305, 3) := by decide +kernel
theorem d_Dos_makeLine_24 : decode (rm_code mDos_makeLine) 24 = .ok (.aload_n 0, 1) := by decide +kernel
theorem d_Dos_makeLine_25 : decode (rm_code mDos_makeLine) 25 = .ok (.getfield 56, 3) := by decide +kernel
theorem d_Dos_makeLine_28 : decode (rm_code mDos_makeLine) 28 = .ok (.invokevirtual 191, 3) := by decide +kernel
theorem d_Dos_makeLine_31 : decode (rm_code mDos_makeLine) 31 = .ok (.aload_n 1, 1) := by decide +kernel
theorem d_Dos_makeLine_32 : decode (rm_code mDos_makeLine) 32 = .ok (.aload_n 0, 1) := by decide +kernel
theorem d_Dos_makeLine_33 : decode (rm_code mDos_makeLine) 33 = .ok (.getfield 56, 3) := by decide +kernel
theorem d_Dos_makeLine_36 : decode (rm_code mDos_makeLine) 36 = .ok (.invokevirtual 277, 3) := by decide +kernel
theorem d_Dos_makeLine_39 : decode (rm_code mDos_makeLine) 39 = .ok (.aload_n 1, 1) := by decide +kernel
theorem d_Dos_makeLine_40 : decode (rm_code mDos_makeLine) 40 = .ok (.iconst 1, 1) := by decide +kernel
theorem d_Dos_makeLine_41 : decode (rm_code mDos_makeLine) 41 = .ok (.putfield 302, 3) := by decide +kernel
theorem d_Dos_makeLine_44 : decode (rm_code mDos_makeLine) 44 = .ok (.iload_n 2, 1) := by decide +kernel
theorem d_Dos_makeLine_45 : decode (rm_code mDos_makeLine) 45 = .ok (.ireturn, 1) := by decide +kernel
theorem d_Dos_makeLine_46 : decode (rm_code mDos_makeLine) 46 = .ok (.aload_n 0, 1) := by decide +kernel
theorem d_Dos_makeLine_47 : decode (rm_code mDos_makeLine) 47 = .ok (.aload_n 1, 1) := by decide +kernel
theorem d_Dos_makeLine_48 : decode (rm_code mDos_makeLine) 48 = .ok (.invokevirtual 86, 3) := by decide +kernel
theorem d_Dos_makeLine_51 : decode (rm_code mDos_makeLine) 51 = .ok (.aload_n 0, 1) := by decide +kernel
theorem d_Dos_makeLine_52 : decode (rm_code mDos_makeLine) 52 = .ok (.getfield 56, 3) := by decide +kernel
theorem d_Dos_makeLine_55 : decode (rm_code mDos_makeLine) 55 = .ok (.iconst 0, 1) := by decide +kernel
theorem d_Dos_makeLine_56 : decode (rm_code mDos_makeLine) 56 = .ok (.aload_n 1, 1) := by decide +kernel
theorem d_Dos_makeLine_57 : decode (rm_code mDos_makeLine) 57 = .ok (.getfield 164, 3) := by decide +kernel
theorem d_Dos_makeLine_60 : decode (rm_code mDos_makeLine) 60 = .ok (.invokevirtual 194, 3) := by decide +kernel
theorem d_Dos_makeLine_63 : decode (rm_code mDos_makeLine) 63 = .ok (.istore_n 2, 1) := by decide +kernel
theorem d_Dos_makeLine_64 : decode (rm_code mDos_makeLine) 64 = .ok (.iload_n 2, 1) := by decide +kernel
theorem d_Dos_makeLine_65 : decode (rm_code mDos_makeLine) 65 = .ok (.ifCond .ne (29), 3) := by decide +kernel
theorem d_Dos_makeLine_68 : decode (rm_code mDos_makeLine) 68 = .ok (.aload_n 0, 1) := by decide +kernel
theorem d_Dos_makeLine_69 : decode (rm_code mDos_makeLine) 69 = .ok (.getfield 56, 3) := by decide +kernel
theorem d_Dos_makeLine_72 : decode (rm_code mDos_makeLine) 72 = .ok (.getfield 197, 3) := by decide +kernel
theorem d_Dos_makeLine_75 : decode (rm_code mDos_makeLine) 75 = .ok (.ifCond .eq (19), 3) := by decide +kernel
theorem d_Dos_makeLine_78 : decode (rm_code mDos_makeLine) 78 = .ok (.aload_n 1, 1) := by decide +kernel
theorem d_Dos_makeLine_79 : decode (rm_code mDos_makeLine) 79 = .ok (.aload_n 0, 1) := by decide +kernel
theorem d_Dos_makeLine_80 : decode (rm_code mDos_makeLine) 80 = .ok (.getfield 56, 3) := by decide +kernel
theorem d_Dos_makeLine_83 : decode (rm_code mDos_makeLine) 83 = .ok (.invokevirtual 277, 3) := by decide +kernel
theorem d_Dos_makeLine_86 : decode (rm_code mDos_makeLine) 86 = .ok (.aload_n 0, 1) := by decide +kernel
theorem d_Dos_makeLine_87 : decode (rm_code mDos_makeLine) 87 = .ok (.aload_n 1, 1) := by decide +kernel
theorem d_Dos_makeLine_88 : decode (rm_code mDos_makeLine) 88 = .ok (.invokevirtual 308, 3) := by decide +kernel
theorem d_Dos_makeLine_91 : decode (rm_code mDos_makeLine) 91 = .ok (.goto (25), 3) := by decide +kernel
theorem d_Dos_makeLine_94 : decode (rm_code mDos_makeLine) 94 = .ok (.iload_n 2, 1) := by decide +kernel
theorem d_Dos_makeLine_95 : decode (rm_code mDos_makeLine) 95 = .ok (.ifCond .ne (21), 3) := by decide +kernel
theorem d_Dos_makeLine_98 : decode (rm_code mDos_makeLine) 98 = .ok (.aload_n 0, 1) := by decide +kernel
theorem d_Dos_makeLine_99 : decode (rm_code mDos_makeLine) 99 = .ok (.getfield 47, 3) := by decide +kernel
theorem d_Dos_makeLine_102 : decode (rm_code mDos_makeLine) 102 = .ok (.invokevirtual 231, 3) := by decide +kernel
theorem d_Dos_makeLine_105 : decode (rm_code mDos_makeLine) 105 = .ok (.istore_n 2, 1) := by decide +kernel
theorem d_Dos_makeLine_106 : decode (rm_code mDos_makeLine) 106 = .ok (.aload_n 0, 1) := by decide +kernel
theorem d_Dos_makeLine_107 : decode (rm_code mDos_makeLine) 107 = .ok (.aload_n 1, 1) := by decide +kernel
theorem d_Dos_makeLine_108 : decode (rm_code mDos_makeLine) 108 = .ok (.invokevirtual 311, 3) := by decide +kernel
theorem d_Dos_makeLine_111 : decode (rm_code mDos_makeLine) 111 = .ok (.aload_n 1, 1) := by decide +kernel
theorem d_Dos_makeLine_112 : decode (rm_code mDos_makeLine) 112 = .ok (.iconst 1, 1) := by decide +kernel
theorem d_Dos_makeLine_113 : decode (rm_code mDos_makeLine) 113 = .ok (.putfield 290, 3) := by decide +kernel
theorem d_Dos_makeLine_116 : decode (rm_code mDos_makeLine) 116 = .ok (.iload_n 2, 1) := by decide +kernel
theorem d_Dos_makeLine_117 : decode (rm_code mDos_makeLine) 117 = .ok (.ireturn, 1) := by decide +kernel
theorem p_Dos_makeLine_0 {S : rz_S} {K : Int32 → rz_S → Prop} {a1 : Nat} (ha1 : chP a1) (w : rz_ev mChannel_startLine [.ref a1] S (rz_v (fun Sq1 => ((Sq1.2 a1 15 = 0 → rz_ev mBlockMap_load [.ref 44] Sq1 (rz_i (fun xq9 Sq9 => rz_ev mDos_addTitle [.ref 39, .ref a1] Sq9 (rz_v (fun Sq10 => rz_ev mDirectory_rewind [.ref 46] Sq10 (rz_v (fun Sq11 => rz_ev mChannel_keepEntry [.ref a1, .ref 46] Sq11 (rz_v (fun Sq12 => K xq9 (rz_uI Sq12 a1 15 1)))))))))) ∧ (¬ Sq1.2 a1 15 = 0 → rz_ev mDos_goToEntryOf [.ref 39, .ref a1] Sq1 (rz_v (fun Sq3 => rz_ev mDirectory_find [.ref 46, .int 0, .ref (a1 + 2)] Sq3 (rz_i (fun xq4 Sq4 => ((xq4 = 0 → ((Sq4.2 46 5 = 0 → rz mDos_makeLine 94 [(0, .ref 39), (1, .ref a1), (2, .int xq4)] [] Sq4 (rz_i K)) ∧ (¬ Sq4.2 46 5 = 0 → rz_ev mChannel_keepEntry [.ref a1, .ref 46] Sq4 (rz_v (fun Sq7 => rz_ev mDos_addEntry [.ref 39, .ref a1] Sq7 (rz_v (fun Sq8 => K xq4 Sq8))))))) ∧ (¬ xq4 = 0 → rz mDos_makeLine 94 [(0, .ref 39), (1, .ref a1), (2, .int xq4)] [] Sq4 (rz_i K)))))))))))) : rz mDos_makeLine 0 [(0, .ref 39), (1, .ref a1)] [] S (rz_i K) := by
  have za1 := chZ ha1
  refine rz_pure (pc' := 1) d_Dos_makeLine_0 rfl ?_
  refine rz_callVv (t := []) d_Dos_makeLine_1 w_5_299 rfl (chTP ha1) rfl w (fun Sq1 q1 => ?_)
  refine rz_pure (pc' := 5) d_Dos_makeLine_4 rfl ?_
  refine rz_getiv (v := Sq1.2 a1 15) d_Dos_makeLine_5 f_5_302 (chTP ha1) rfl rfl ?_
  refine rz_ifne (tgt := 46) d_Dos_makeLine_8 rfl (fun b2 => ?_) (fun b2 => ?_)
  · skip
    refine rz_pure (pc' := 47) d_Dos_makeLine_46 rfl ?_
    refine rz_pure (pc' := 48) d_Dos_makeLine_47 rfl ?_
    refine rz_callVv (t := [.ref a1]) d_Dos_makeLine_48 w_5_86 rfl rfl rfl (q1.2 b2) (fun Sq3 q3 => ?_)
    refine rz_pure (pc' := 52) d_Dos_makeLine_51 rfl ?_
    refine rz_getr d_Dos_makeLine_52 f_5_56 rfl rfl ?_
    refine rz_iconst (v := 0) d_Dos_makeLine_55 (by decide) ?_
    refine rz_pure (pc' := 57) d_Dos_makeLine_56 rfl ?_
    refine rz_getr d_Dos_makeLine_57 f_5_164 (chTP ha1) rfl ?_
    refine rz_callVi (t := [.ref (a1 + 2), .int 0]) d_Dos_makeLine_60 w_5_194 rfl rfl rfl q3 (fun xq4 Sq4 q4 => ?_)
    refine rz_pure (pc' := 64) (l' := [(2, .int xq4), (0, .ref 39), (1, .ref a1)]) d_Dos_makeLine_63 rfl ?_
    refine rz_pure (pc' := 65) d_Dos_makeLine_64 rfl ?_
    refine rz_ifne (tgt := 94) d_Dos_makeLine_65 rfl (fun b5 => ?_) (fun b5 => ?_)
    · skip
      exact rz_pick (ks := [0, 1, 2]) (l := [(0, .ref 39), (1, .ref a1), (2, .int xq4)]) rfl rfl (by decide) rfl (q4.2 b5)
    · skip
      refine rz_pure (pc' := 69) d_Dos_makeLine_68 rfl ?_
      refine rz_getr d_Dos_makeLine_69 f_5_56 rfl rfl ?_
      refine rz_getiv (v := Sq4.2 46 5) d_Dos_makeLine_72 f_5_197 rfl rfl rfl ?_
      refine rz_ifeq (tgt := 94) d_Dos_makeLine_75 rfl (fun b6 => ?_) (fun b6 => ?_)
      · skip
        exact rz_pick (ks := [0, 1, 2]) (l := [(0, .ref 39), (1, .ref a1), (2, .int xq4)]) rfl rfl (by decide) rfl ((q4.1 b5).1 b6)
      · skip
        refine rz_pure (pc' := 79) d_Dos_makeLine_78 rfl ?_
        refine rz_pure (pc' := 80) d_Dos_makeLine_79 rfl ?_
        refine rz_getr d_Dos_makeLine_80 f_5_56 rfl rfl ?_
        refine rz_callVv (t := [.ref 46]) d_Dos_makeLine_83 w_5_277 rfl (chTP ha1) rfl ((q4.1 b5).2 b6) (fun Sq7 q7 => ?_)
        refine rz_pure (pc' := 87) d_Dos_makeLine_86 rfl ?_
        refine rz_pure (pc' := 88) d_Dos_makeLine_87 rfl ?_
        refine rz_callVv (t := [.ref a1]) d_Dos_makeLine_88 w_5_308 rfl rfl rfl q7 (fun Sq8 q8 => ?_)
        refine rz_pure (pc' := 116) d_Dos_makeLine_91 rfl ?_
        refine rz_pure (pc' := 117) d_Dos_makeLine_116 rfl ?_
        exact rz_ireti d_Dos_makeLine_117 rfl rfl q8
  · skip
    refine rz_pure (pc' := 12) d_Dos_makeLine_11 rfl ?_
    refine rz_getr d_Dos_makeLine_12 f_5_47 rfl rfl ?_
    refine rz_callVi (t := []) d_Dos_makeLine_15 w_5_231 rfl rfl rfl (q1.1 b2) (fun xq9 Sq9 q9 => ?_)
    refine rz_pure (pc' := 19) (l' := [(2, .int xq9), (0, .ref 39), (1, .ref a1)]) d_Dos_makeLine_18 rfl ?_
    refine rz_pure (pc' := 20) d_Dos_makeLine_19 rfl ?_
    refine rz_pure (pc' := 21) d_Dos_makeLine_20 rfl ?_
    refine rz_callVv (t := [.ref a1]) d_Dos_makeLine_21 w_5_305 rfl rfl rfl q9 (fun Sq10 q10 => ?_)
    refine rz_pure (pc' := 25) d_Dos_makeLine_24 rfl ?_
    refine rz_getr d_Dos_makeLine_25 f_5_56 rfl rfl ?_
    refine rz_callVv (t := []) d_Dos_makeLine_28 w_5_191 rfl rfl rfl q10 (fun Sq11 q11 => ?_)
    refine rz_pure (pc' := 32) d_Dos_makeLine_31 rfl ?_
    refine rz_pure (pc' := 33) d_Dos_makeLine_32 rfl ?_
    refine rz_getr d_Dos_makeLine_33 f_5_56 rfl rfl ?_
    refine rz_callVv (t := [.ref 46]) d_Dos_makeLine_36 w_5_277 rfl (chTP ha1) rfl q11 (fun Sq12 q12 => ?_)
    refine rz_pure (pc' := 40) d_Dos_makeLine_39 rfl ?_
    refine rz_iconst (v := 1) d_Dos_makeLine_40 (by decide) ?_
    refine rz_puti d_Dos_makeLine_41 f_5_302 (chTP ha1) rfl (by decide) ?_
    refine rz_pure (pc' := 45) d_Dos_makeLine_44 rfl ?_
    exact rz_ireti d_Dos_makeLine_45 rfl rfl q12
theorem p_Dos_makeLine_94 {S : rz_S} {K : Int32 → rz_S → Prop} {a1 : Nat} (ha1 : chP a1) {a2 : Int32} (w : ((a2 = 0 → rz_ev mBlockMap_load [.ref 44] S (rz_i (fun xq2 Sq2 => rz_ev mDos_addFree [.ref 39, .ref a1] Sq2 (rz_v (fun Sq3 => K xq2 (rz_uI Sq3 a1 4 1)))))) ∧ (¬ a2 = 0 → K a2 S))) : rz mDos_makeLine 94 [(0, .ref 39), (1, .ref a1), (2, .int a2)] [] S (rz_i K) := by
  have za1 := chZ ha1
  refine rz_pure (pc' := 95) d_Dos_makeLine_94 rfl ?_
  refine rz_ifne (tgt := 116) d_Dos_makeLine_95 rfl (fun b1 => ?_) (fun b1 => ?_)
  · skip
    refine rz_pure (pc' := 117) d_Dos_makeLine_116 rfl ?_
    exact rz_ireti d_Dos_makeLine_117 rfl rfl (w.2 b1)
  · skip
    refine rz_pure (pc' := 99) d_Dos_makeLine_98 rfl ?_
    refine rz_getr d_Dos_makeLine_99 f_5_47 rfl rfl ?_
    refine rz_callVi (t := []) d_Dos_makeLine_102 w_5_231 rfl rfl rfl (w.1 b1) (fun xq2 Sq2 q2 => ?_)
    refine rz_pure (pc' := 106) (l' := [(2, .int xq2), (0, .ref 39), (1, .ref a1)]) d_Dos_makeLine_105 rfl ?_
    refine rz_pure (pc' := 107) d_Dos_makeLine_106 rfl ?_
    refine rz_pure (pc' := 108) d_Dos_makeLine_107 rfl ?_
    refine rz_callVv (t := [.ref a1]) d_Dos_makeLine_108 w_5_311 rfl rfl rfl q2 (fun Sq3 q3 => ?_)
    refine rz_pure (pc' := 112) d_Dos_makeLine_111 rfl ?_
    refine rz_iconst (v := 1) d_Dos_makeLine_112 (by decide) ?_
    refine rz_puti d_Dos_makeLine_113 f_5_290 (chTP ha1) rfl (by decide) ?_
    refine rz_pure (pc' := 117) d_Dos_makeLine_116 rfl ?_
    exact rz_ireti d_Dos_makeLine_117 rfl rfl q3
theorem d_Channel_startLine_0 : decode (rm_code mChannel_startLine) 0 = .ok (.aload_n 0, 1) := by decide +kernel
theorem d_Channel_startLine_1 : decode (rm_code mChannel_startLine) 1 = .ok (.iconst 0, 1) := by decide +kernel
theorem d_Channel_startLine_2 : decode (rm_code mChannel_startLine) 2 = .ok (.putfield 32, 3) := by decide +kernel
theorem d_Channel_startLine_5 : decode (rm_code mChannel_startLine) 5 = .ok (.aload_n 0, 1) := by decide +kernel
theorem d_Channel_startLine_6 : decode (rm_code mChannel_startLine) 6 = .ok (.iconst 0, 1) := by decide +kernel
theorem d_Channel_startLine_7 : decode (rm_code mChannel_startLine) 7 = .ok (.putfield 35, 3) := by decide +kernel
theorem d_Channel_startLine_10 : decode (rm_code mChannel_startLine) 10 = .ok (.return_, 1) := by decide +kernel
theorem p_Channel_startLine_0 {S : rz_S} {K : rz_S → Prop} {a0 : Nat} (ha0 : chP a0) (w : K (rz_uI (rz_uI S a0 2 0) a0 3 0)) : rz mChannel_startLine 0 [(0, .ref a0)] [] S (rz_v K) := by
  have za0 := chZ ha0
  refine rz_pure (pc' := 1) d_Channel_startLine_0 rfl ?_
  refine rz_iconst (v := 0) d_Channel_startLine_1 (by decide) ?_
  refine rz_puti d_Channel_startLine_2 f_1_32 (chTP ha0) rfl rfl ?_
  refine rz_pure (pc' := 6) d_Channel_startLine_5 rfl ?_
  refine rz_iconst (v := 0) d_Channel_startLine_6 (by decide) ?_
  refine rz_puti d_Channel_startLine_7 f_1_35 (chTP ha0) rfl rfl ?_
  exact rz_vretv d_Channel_startLine_10 rfl w
theorem d_Dos_addTitle_0 : decode (rm_code mDos_addTitle) 0 = .ok (.aload_n 1, 1) := by decide +kernel
theorem d_Dos_addTitle_1 : decode (rm_code mDos_addTitle) 1 = .ok (.bipush (34), 2) := by decide +kernel
theorem d_Dos_addTitle_3 : decode (rm_code mDos_addTitle) 3 = .ok (.invokevirtual 314, 3) := by decide +kernel
theorem d_Dos_addTitle_6 : decode (rm_code mDos_addTitle) 6 = .ok (.iconst 0, 1) := by decide +kernel
theorem d_Dos_addTitle_7 : decode (rm_code mDos_addTitle) 7 = .ok (.istore_n 2, 1) := by decide +kernel
theorem d_Dos_addTitle_8 : decode (rm_code mDos_addTitle) 8 = .ok (.iload_n 2, 1) := by decide +kernel
theorem d_Dos_addTitle_9 : decode (rm_code mDos_addTitle) 9 = .ok (.bipush (10), 2) := by decide +kernel
theorem d_Dos_addTitle_11 : decode (rm_code mDos_addTitle) 11 = .ok (.if_icmp .ge (39), 3) := by decide +kernel
theorem d_Dos_addTitle_14 : decode (rm_code mDos_addTitle) 14 = .ok (.aload_n 0, 1) := by decide +kernel
theorem d_Dos_addTitle_15 : decode (rm_code mDos_addTitle) 15 = .ok (.getfield 47, 3) := by decide +kernel
theorem d_Dos_addTitle_18 : decode (rm_code mDos_addTitle) 18 = .ok (.getfield 317, 3) := by decide +kernel
theorem d_Dos_addTitle_21 : decode (rm_code mDos_addTitle) 21 = .ok (.bipush (28), 2) := by decide +kernel
theorem d_Dos_addTitle_23 : decode (rm_code mDos_addTitle) 23 = .ok (.iload_n 2, 1) := by decide +kernel
theorem d_Dos_addTitle_24 : decode (rm_code mDos_addTitle) 24 = .ok (.iadd, 1) := by decide +kernel
theorem d_Dos_addTitle_25 : decode (rm_code mDos_addTitle) 25 = .ok (.iaload, 1) := by decide +kernel
theorem d_Dos_addTitle_26 : decode (rm_code mDos_addTitle) 26 = .ok (.istore_n 3, 1) := by decide +kernel
theorem d_Dos_addTitle_27 : decode (rm_code mDos_addTitle) 27 = .ok (.aload_n 1, 1) := by decide +kernel
theorem d_Dos_addTitle_28 : decode (rm_code mDos_addTitle) 28 = .ok (.iload_n 3, 1) := by decide +kernel
theorem d_Dos_addTitle_29 : decode (rm_code mDos_addTitle) 29 = .ok (.sipush (160), 3) := by decide +kernel
theorem d_Dos_addTitle_32 : decode (rm_code mDos_addTitle) 32 = .ok (.if_icmp .ne (8), 3) := by decide +kernel
theorem d_Dos_addTitle_35 : decode (rm_code mDos_addTitle) 35 = .ok (.bipush (32), 2) := by decide +kernel
theorem d_Dos_addTitle_37 : decode (rm_code mDos_addTitle) 37 = .ok (.goto (4), 3) := by decide +kernel
theorem d_Dos_addTitle_40 : decode (rm_code mDos_addTitle) 40 = .ok (.iload_n 3, 1) := by decide +kernel
theorem d_Dos_addTitle_41 : decode (rm_code mDos_addTitle) 41 = .ok (.invokevirtual 314, 3) := by decide +kernel
theorem d_Dos_addTitle_44 : decode (rm_code mDos_addTitle) 44 = .ok (.iinc 2 (1), 3) := by decide +kernel
theorem d_Dos_addTitle_47 : decode (rm_code mDos_addTitle) 47 = .ok (.goto (-39), 3) := by decide +kernel
theorem d_Dos_addTitle_50 : decode (rm_code mDos_addTitle) 50 = .ok (.aload_n 1, 1) := by decide +kernel
theorem d_Dos_addTitle_51 : decode (rm_code mDos_addTitle) 51 = .ok (.bipush (34), 2) := by decide +kernel
theorem d_Dos_addTitle_53 : decode (rm_code mDos_addTitle) 53 = .ok (.invokevirtual 314, 3) := by decide +kernel
theorem d_Dos_addTitle_56 : decode (rm_code mDos_addTitle) 56 = .ok (.aload_n 1, 1) := by decide +kernel
theorem d_Dos_addTitle_57 : decode (rm_code mDos_addTitle) 57 = .ok (.bipush (32), 2) := by decide +kernel
theorem d_Dos_addTitle_59 : decode (rm_code mDos_addTitle) 59 = .ok (.invokevirtual 314, 3) := by decide +kernel
theorem d_Dos_addTitle_62 : decode (rm_code mDos_addTitle) 62 = .ok (.aload_n 1, 1) := by decide +kernel
theorem d_Dos_addTitle_63 : decode (rm_code mDos_addTitle) 63 = .ok (.aload_n 0, 1) := by decide +kernel
theorem d_Dos_addTitle_64 : decode (rm_code mDos_addTitle) 64 = .ok (.getfield 47, 3) := by decide +kernel
theorem d_Dos_addTitle_67 : decode (rm_code mDos_addTitle) 67 = .ok (.getfield 317, 3) := by decide +kernel
theorem d_Dos_addTitle_70 : decode (rm_code mDos_addTitle) 70 = .ok (.bipush (38), 2) := by decide +kernel
theorem d_Dos_addTitle_72 : decode (rm_code mDos_addTitle) 72 = .ok (.iaload, 1) := by decide +kernel
theorem d_Dos_addTitle_73 : decode (rm_code mDos_addTitle) 73 = .ok (.invokevirtual 314, 3) := by decide +kernel
theorem d_Dos_addTitle_76 : decode (rm_code mDos_addTitle) 76 = .ok (.aload_n 1, 1) := by decide +kernel
theorem d_Dos_addTitle_77 : decode (rm_code mDos_addTitle) 77 = .ok (.aload_n 0, 1) := by decide +kernel
theorem d_Dos_addTitle_78 : decode (rm_code mDos_addTitle) 78 = .ok (.getfield 47, 3) := by decide +kernel
theorem d_Dos_addTitle_81 : decode (rm_code mDos_addTitle) 81 = .ok (.getfield 317, 3) := by decide +kernel
theorem d_Dos_addTitle_84 : decode (rm_code mDos_addTitle) 84 = .ok (.bipush (39), 2) := by decide +kernel
theorem d_Dos_addTitle_86 : decode (rm_code mDos_addTitle) 86 = .ok (.iaload, 1) := by decide +kernel
theorem d_Dos_addTitle_87 : decode (rm_code mDos_addTitle) 87 = .ok (.invokevirtual 314, 3) := by decide +kernel
theorem d_Dos_addTitle_90 : decode (rm_code mDos_addTitle) 90 = .ok (.aload_n 1, 1) := by decide +kernel
theorem d_Dos_addTitle_91 : decode (rm_code mDos_addTitle) 91 = .ok (.bipush (13), 2) := by decide +kernel
theorem d_Dos_addTitle_93 : decode (rm_code mDos_addTitle) 93 = .ok (.invokevirtual 314, 3) := by decide +kernel
theorem d_Dos_addTitle_96 : decode (rm_code mDos_addTitle) 96 = .ok (.return_, 1) := by decide +kernel
theorem p_Dos_addTitle_0 {S : rz_S} {K : rz_S → Prop} {a1 : Nat} (ha1 : chP a1) (w : rz_ev mChannel_add [.ref a1, .int 34] S (rz_v (fun Sq1 => rz mDos_addTitle 8 [(0, .ref 39), (1, .ref a1), (2, .int 0)] [] Sq1 (rz_v K)))) : rz mDos_addTitle 0 [(0, .ref 39), (1, .ref a1)] [] S (rz_v K) := by
  have za1 := chZ ha1
  refine rz_pure (pc' := 1) d_Dos_addTitle_0 rfl ?_
  refine rz_bipush (v := 34) d_Dos_addTitle_1 (by decide) ?_
  refine rz_callVv (t := [.int 34]) d_Dos_addTitle_3 w_5_314 rfl (chTP ha1) rfl w (fun Sq1 q1 => ?_)
  refine rz_iconst (v := 0) d_Dos_addTitle_6 (by decide) ?_
  refine rz_pure (pc' := 8) (l' := [(2, .int 0), (0, .ref 39), (1, .ref a1)]) d_Dos_addTitle_7 rfl ?_
  exact rz_pick (ks := [0, 1, 2]) (l := [(0, .ref 39), (1, .ref a1), (2, .int 0)]) rfl rfl (by decide) rfl q1
theorem p_Dos_addTitle_8 {S : rz_S} {K : rz_S → Prop} {a1 : Nat} (ha1 : chP a1) {a2 : Int32} (w : ((10 ≤ a2 → rz_ev mChannel_add [.ref a1, .int 34] S (rz_v (fun Sq2 => rz_ev mChannel_add [.ref a1, .int 32] Sq2 (rz_v (fun Sq3 => rz_ev mChannel_add [.ref a1, .int (Sq3.1 45 38)] Sq3 (rz_v (fun Sq4 => rz_ev mChannel_add [.ref a1, .int (Sq4.1 45 39)] Sq4 (rz_v (fun Sq5 => rz_ev mChannel_add [.ref a1, .int 13] Sq5 (rz_v (fun Sq6 => K Sq6))))))))))) ∧ (¬ 10 ≤ a2 → rx_in (28 + a2) 64 = true ∧ ((S.1 45 ((28 + a2).toNatClampNeg) = 160 → rz mDos_addTitle 41 [(0, .ref 39), (1, .ref a1), (2, .int a2)] [.int 32, .ref a1] S (rz_v K)) ∧ (¬ S.1 45 ((28 + a2).toNatClampNeg) = 160 → rz mDos_addTitle 41 [(0, .ref 39), (1, .ref a1), (2, .int a2)] [.int (S.1 45 ((28 + a2).toNatClampNeg)), .ref a1] S (rz_v K)))))) : rz mDos_addTitle 8 [(0, .ref 39), (1, .ref a1), (2, .int a2)] [] S (rz_v K) := by
  have za1 := chZ ha1
  refine rz_pure (pc' := 9) d_Dos_addTitle_8 rfl ?_
  refine rz_bipush (v := 10) d_Dos_addTitle_9 (by decide) ?_
  refine rz_icmpge (tgt := 50) d_Dos_addTitle_11 rfl (fun b1 => ?_) (fun b1 => ?_)
  · skip
    refine rz_pure (pc' := 51) d_Dos_addTitle_50 rfl ?_
    refine rz_bipush (v := 34) d_Dos_addTitle_51 (by decide) ?_
    refine rz_callVv (t := [.int 34]) d_Dos_addTitle_53 w_5_314 rfl (chTP ha1) rfl (w.1 b1) (fun Sq2 q2 => ?_)
    refine rz_pure (pc' := 57) d_Dos_addTitle_56 rfl ?_
    refine rz_bipush (v := 32) d_Dos_addTitle_57 (by decide) ?_
    refine rz_callVv (t := [.int 32]) d_Dos_addTitle_59 w_5_314 rfl (chTP ha1) rfl q2 (fun Sq3 q3 => ?_)
    refine rz_pure (pc' := 63) d_Dos_addTitle_62 rfl ?_
    refine rz_pure (pc' := 64) d_Dos_addTitle_63 rfl ?_
    refine rz_getr d_Dos_addTitle_64 f_5_47 rfl rfl ?_
    refine rz_getr d_Dos_addTitle_67 f_5_317 rfl rfl ?_
    refine rz_bipush (v := 38) d_Dos_addTitle_70 (by decide) ?_
    refine rz_ialdv (F := Sq3.1 45) (i := 38) d_Dos_addTitle_72 rfl (by decide) rfl (by decide) ?_
    refine rz_callVv (t := [.int (Sq3.1 45 38)]) d_Dos_addTitle_73 w_5_314 rfl (chTP ha1) rfl q3 (fun Sq4 q4 => ?_)
    refine rz_pure (pc' := 77) d_Dos_addTitle_76 rfl ?_
    refine rz_pure (pc' := 78) d_Dos_addTitle_77 rfl ?_
    refine rz_getr d_Dos_addTitle_78 f_5_47 rfl rfl ?_
    refine rz_getr d_Dos_addTitle_81 f_5_317 rfl rfl ?_
    refine rz_bipush (v := 39) d_Dos_addTitle_84 (by decide) ?_
    refine rz_ialdv (F := Sq4.1 45) (i := 39) d_Dos_addTitle_86 rfl (by decide) rfl (by decide) ?_
    refine rz_callVv (t := [.int (Sq4.1 45 39)]) d_Dos_addTitle_87 w_5_314 rfl (chTP ha1) rfl q4 (fun Sq5 q5 => ?_)
    refine rz_pure (pc' := 91) d_Dos_addTitle_90 rfl ?_
    refine rz_bipush (v := 13) d_Dos_addTitle_91 (by decide) ?_
    refine rz_callVv (t := [.int 13]) d_Dos_addTitle_93 w_5_314 rfl (chTP ha1) rfl q5 (fun Sq6 q6 => ?_)
    exact rz_vretv d_Dos_addTitle_96 rfl q6
  · skip
    refine rz_pure (pc' := 15) d_Dos_addTitle_14 rfl ?_
    refine rz_getr d_Dos_addTitle_15 f_5_47 rfl rfl ?_
    refine rz_getr d_Dos_addTitle_18 f_5_317 rfl rfl ?_
    refine rz_bipush (v := 28) d_Dos_addTitle_21 (by decide) ?_
    refine rz_pure (pc' := 24) d_Dos_addTitle_23 rfl ?_
    refine rz_iadd d_Dos_addTitle_24 ?_
    refine rz_ialdv (F := S.1 45) (i := (28 + a2).toNatClampNeg) d_Dos_addTitle_25 rfl (w.2 b1).1 rfl rfl ?_
    refine rz_pure (pc' := 27) (l' := [(3, .int (S.1 45 ((28 + a2).toNatClampNeg))), (0, .ref 39), (1, .ref a1), (2, .int a2)]) d_Dos_addTitle_26 rfl ?_
    refine rz_pure (pc' := 28) d_Dos_addTitle_27 rfl ?_
    refine rz_pure (pc' := 29) d_Dos_addTitle_28 rfl ?_
    refine rz_sipush (v := 160) d_Dos_addTitle_29 (by decide) ?_
    refine rz_icmpne (tgt := 40) d_Dos_addTitle_32 rfl (fun b7 => ?_) (fun b7 => ?_)
    · skip
      refine rz_pure (pc' := 41) d_Dos_addTitle_40 rfl ?_
      exact rz_pick (ks := [0, 1, 2]) (l := [(0, .ref 39), (1, .ref a1), (2, .int a2)]) rfl rfl (by decide) rfl ((w.2 b1).2.2 b7)
    · skip
      refine rz_bipush (v := 32) d_Dos_addTitle_35 (by decide) ?_
      refine rz_pure (pc' := 41) d_Dos_addTitle_37 rfl ?_
      exact rz_pick (ks := [0, 1, 2]) (l := [(0, .ref 39), (1, .ref a1), (2, .int a2)]) rfl rfl (by decide) rfl ((w.2 b1).2.1 b7)
theorem p_Dos_addTitle_41 {S : rz_S} {K : rz_S → Prop} {a1 : Nat} (ha1 : chP a1) {a2 : Int32} {s0 : Int32} {s1 : Nat} (hs1 : chP s1) (w : rz_ev mChannel_add [.ref s1, .int s0] S (rz_v (fun Sq1 => rz mDos_addTitle 8 [(0, .ref 39), (1, .ref a1), (2, .int (a2 + 1))] [] Sq1 (rz_v K)))) : rz mDos_addTitle 41 [(0, .ref 39), (1, .ref a1), (2, .int a2)] [.int s0, .ref s1] S (rz_v K) := by
  have za1 := chZ ha1
  have zs1 := chZ hs1
  refine rz_callVv (t := [.int s0]) d_Dos_addTitle_41 w_5_314 rfl (chTP hs1) rfl w (fun Sq1 q1 => ?_)
  refine rz_pure (pc' := 47) (l' := [(2, .int (a2 + 1)), (0, .ref 39), (1, .ref a1)]) d_Dos_addTitle_44 rfl ?_
  refine rz_pure (pc' := 8) d_Dos_addTitle_47 rfl ?_
  exact rz_pick (ks := [0, 1, 2]) (l := [(0, .ref 39), (1, .ref a1), (2, .int (a2 + 1))]) rfl rfl (by decide) rfl q1
theorem d_Channel_add_0 : decode (rm_code mChannel_add) 0 = .ok (.aload_n 0, 1) := by decide +kernel
theorem d_Channel_add_1 : decode (rm_code mChannel_add) 1 = .ok (.getfield 35, 3) := by decide +kernel
theorem d_Channel_add_4 : decode (rm_code mChannel_add) 4 = .ok (.aload_n 0, 1) := by decide +kernel
theorem d_Channel_add_5 : decode (rm_code mChannel_add) 5 = .ok (.getfield 15, 3) := by decide +kernel
theorem d_Channel_add_8 : decode (rm_code mChannel_add) 8 = .ok (.arraylength, 1) := by decide +kernel
theorem d_Channel_add_9 : decode (rm_code mChannel_add) 9 = .ok (.if_icmp .ge (23), 3) := by decide +kernel
theorem d_Channel_add_12 : decode (rm_code mChannel_add) 12 = .ok (.aload_n 0, 1) := by decide +kernel
theorem d_Channel_add_13 : decode (rm_code mChannel_add) 13 = .ok (.getfield 15, 3) := by decide +kernel
theorem d_Channel_add_16 : decode (rm_code mChannel_add) 16 = .ok (.aload_n 0, 1) := by decide +kernel
theorem d_Channel_add_17 : decode (rm_code mChannel_add) 17 = .ok (.getfield 35, 3) := by decide +kernel
theorem d_Channel_add_20 : decode (rm_code mChannel_add) 20 = .ok (.iload_n 1, 1) := by decide +kernel
theorem d_Channel_add_21 : decode (rm_code mChannel_add) 21 = .ok (.iastore, 1) := by decide +kernel
theorem d_Channel_add_22 : decode (rm_code mChannel_add) 22 = .ok (.aload_n 0, 1) := by decide +kernel
theorem d_Channel_add_23 : decode (rm_code mChannel_add) 23 = .ok (.dup, 1) := by decide +kernel
theorem d_Channel_add_24 : decode (rm_code mChannel_add) 24 = .ok (.getfield 35, 3) := by decide +kernel
theorem d_Channel_add_27 : decode (rm_code mChannel_add) 27 = .ok (.iconst 1, 1) := by decide +kernel
theorem d_Channel_add_28 : decode (rm_code mChannel_add) 28 = .ok (.iadd, 1) := by decide +kernel
theorem d_Channel_add_29 : decode (rm_code mChannel_add) 29 = .ok (.putfield 35, 3) := by decide +kernel
theorem d_Channel_add_32 : decode (rm_code mChannel_add) 32 = .ok (.return_, 1) := by decide +kernel
theorem p_Channel_add_0 {S : rz_S} {K : rz_S → Prop} {a0 : Nat} (ha0 : chP a0) {a1 : Int32} (w : ((64 ≤ S.2 a0 3 → K S) ∧ (¬ 64 ≤ S.2 a0 3 → rx_in (S.2 a0 3) 64 = true ∧ K (rz_uI (rz_fA S (a0 + 1) (upd (S.1 (a0 + 1)) ((S.2 a0 3).toNatClampNeg) a1)) a0 3 ((S.2 a0 3) + 1))))) : rz mChannel_add 0 [(0, .ref a0), (1, .int a1)] [] S (rz_v K) := by
  have za0 := chZ ha0
  refine rz_pure (pc' := 1) d_Channel_add_0 rfl ?_
  refine rz_getiv (v := S.2 a0 3) d_Channel_add_1 f_1_35 (chTP ha0) rfl rfl ?_
  refine rz_pure (pc' := 5) d_Channel_add_4 rfl ?_
  refine rz_getr d_Channel_add_5 f_1_15 (chTP ha0) rfl ?_
  refine rz_alenv (v := 64) d_Channel_add_8 (chR ha0) (by decide) rfl ?_
  refine rz_icmpge (tgt := 32) d_Channel_add_9 rfl (fun b1 => ?_) (fun b1 => ?_)
  · skip
    exact rz_vretv d_Channel_add_32 rfl (w.1 b1)
  · skip
    refine rz_pure (pc' := 13) d_Channel_add_12 rfl ?_
    refine rz_getr d_Channel_add_13 f_1_15 (chTP ha0) rfl ?_
    refine rz_pure (pc' := 17) d_Channel_add_16 rfl ?_
    refine rz_getiv (v := S.2 a0 3) d_Channel_add_17 f_1_35 (chTP ha0) rfl rfl ?_
    refine rz_pure (pc' := 21) d_Channel_add_20 rfl ?_
    refine rz_iastv (F := S.1 (a0 + 1)) (i := (S.2 a0 3).toNatClampNeg) d_Channel_add_21 (chR ha0) (w.2 b1).1 rfl rfl ?_
    refine rz_pure (pc' := 23) d_Channel_add_22 rfl ?_
    refine rz_pure (pc' := 24) d_Channel_add_23 rfl ?_
    refine rz_getiv (v := S.2 a0 3) d_Channel_add_24 f_1_35 (chTP ha0) rfl rfl ?_
    refine rz_iconst (v := 1) d_Channel_add_27 (by decide) ?_
    refine rz_iadd d_Channel_add_28 ?_
    refine rz_puti d_Channel_add_29 f_1_35 (chTP ha0) rfl rfl ?_
    exact rz_vretv d_Channel_add_32 rfl (w.2 b1).2
theorem d_Dos_addEntry_0 : decode (rm_code mDos_addEntry) 0 = .ok (.aload_n 1, 1) := by decide +kernel
theorem d_Dos_addEntry_1 : decode (rm_code mDos_addEntry) 1 = .ok (.aload_n 0, 1) := by decide +kernel
theorem d_Dos_addEntry_2 : decode (rm_code mDos_addEntry) 2 = .ok (.getfield 56, 3) := by decide +kernel
theorem d_Dos_addEntry_5 : decode (rm_code mDos_addEntry) 5 = .ok (.invokevirtual 318, 3) := by decide +kernel
theorem d_Dos_addEntry_8 : decode (rm_code mDos_addEntry) 8 = .ok (.invokevirtual 320, 3) := by decide +kernel
theorem d_Dos_addEntry_11 : decode (rm_code mDos_addEntry) 11 = .ok (.aload_n 1, 1) := by decide +kernel
theorem d_Dos_addEntry_12 : decode (rm_code mDos_addEntry) 12 = .ok (.bipush (32), 2) := by decide +kernel
theorem d_Dos_addEntry_14 : decode (rm_code mDos_addEntry) 14 = .ok (.invokevirtual 314, 3) := by decide +kernel
theorem d_Dos_addEntry_17 : decode (rm_code mDos_addEntry) 17 = .ok (.aload_n 1, 1) := by decide +kernel
theorem d_Dos_addEntry_18 : decode (rm_code mDos_addEntry) 18 = .ok (.bipush (34), 2) := by decide +kernel
theorem d_Dos_addEntry_20 : decode (rm_code mDos_addEntry) 20 = .ok (.invokevirtual 314, 3) := by decide +kernel
theorem d_Dos_addEntry_23 : decode (rm_code mDos_addEntry) 23 = .ok (.iconst 0, 1) := by decide +kernel
theorem d_Dos_addEntry_24 : decode (rm_code mDos_addEntry) 24 = .ok (.istore_n 2, 1) := by decide +kernel
theorem d_Dos_addEntry_25 : decode (rm_code mDos_addEntry) 25 = .ok (.iload_n 2, 1) := by decide +kernel
theorem d_Dos_addEntry_26 : decode (rm_code mDos_addEntry) 26 = .ok (.bipush (10), 2) := by decide +kernel
theorem d_Dos_addEntry_28 : decode (rm_code mDos_addEntry) 28 = .ok (.if_icmp .ge (35), 3) := by decide +kernel
theorem d_Dos_addEntry_31 : decode (rm_code mDos_addEntry) 31 = .ok (.aload_n 0, 1) := by decide +kernel
theorem d_Dos_addEntry_32 : decode (rm_code mDos_addEntry) 32 = .ok (.getfield 56, 3) := by decide +kernel
theorem d_Dos_addEntry_35 : decode (rm_code mDos_addEntry) 35 = .ok (.iload_n 2, 1) := by decide +kernel
theorem d_Dos_addEntry_36 : decode (rm_code mDos_addEntry) 36 = .ok (.invokevirtual 323, 3) := by decide +kernel
theorem d_Dos_addEntry_39 : decode (rm_code mDos_addEntry) 39 = .ok (.sipush (160), 3) := by decide +kernel
theorem d_Dos_addEntry_42 : decode (rm_code mDos_addEntry) 42 = .ok (.if_icmp .eq (21), 3) := by decide +kernel
theorem d_Dos_addEntry_45 : decode (rm_code mDos_addEntry) 45 = .ok (.aload_n 1, 1) := by decide +kernel
theorem d_Dos_addEntry_46 : decode (rm_code mDos_addEntry) 46 = .ok (.aload_n 0, 1) := by decide +kernel
theorem d_Dos_addEntry_47 : decode (rm_code mDos_addEntry) 47 = .ok (.getfield 56, 3) := by decide +kernel
theorem d_Dos_addEntry_50 : decode (rm_code mDos_addEntry) 50 = .ok (.iload_n 2, 1) := by decide +kernel
theorem d_Dos_addEntry_51 : decode (rm_code mDos_addEntry) 51 = .ok (.invokevirtual 323, 3) := by decide +kernel
theorem d_Dos_addEntry_54 : decode (rm_code mDos_addEntry) 54 = .ok (.invokevirtual 314, 3) := by decide +kernel
theorem d_Dos_addEntry_57 : decode (rm_code mDos_addEntry) 57 = .ok (.iinc 2 (1), 3) := by decide +kernel
theorem d_Dos_addEntry_60 : decode (rm_code mDos_addEntry) 60 = .ok (.goto (-35), 3) := by decide +kernel
theorem d_Dos_addEntry_63 : decode (rm_code mDos_addEntry) 63 = .ok (.aload_n 1, 1) := by decide +kernel
theorem d_Dos_addEntry_64 : decode (rm_code mDos_addEntry) 64 = .ok (.bipush (34), 2) := by decide +kernel
theorem d_Dos_addEntry_66 : decode (rm_code mDos_addEntry) 66 = .ok (.invokevirtual 314, 3) := by decide +kernel
theorem d_Dos_addEntry_69 : decode (rm_code mDos_addEntry) 69 = .ok (.aload_n 1, 1) := by decide +kernel
theorem d_Dos_addEntry_70 : decode (rm_code mDos_addEntry) 70 = .ok (.bipush (32), 2) := by decide +kernel
theorem d_Dos_addEntry_72 : decode (rm_code mDos_addEntry) 72 = .ok (.invokevirtual 314, 3) := by decide +kernel
theorem d_Dos_addEntry_75 : decode (rm_code mDos_addEntry) 75 = .ok (.aload_n 1, 1) := by decide +kernel
theorem d_Dos_addEntry_76 : decode (rm_code mDos_addEntry) 76 = .ok (.ldc_w 326, 3) := by decide +kernel
theorem d_Dos_addEntry_79 : decode (rm_code mDos_addEntry) 79 = .ok (.aload_n 0, 1) := by decide +kernel
theorem d_Dos_addEntry_80 : decode (rm_code mDos_addEntry) 80 = .ok (.getfield 56, 3) := by decide +kernel
theorem d_Dos_addEntry_83 : decode (rm_code mDos_addEntry) 83 = .ok (.invokevirtual 203, 3) := by decide +kernel
theorem d_Dos_addEntry_86 : decode (rm_code mDos_addEntry) 86 = .ok (.iconst 3, 1) := by decide +kernel
theorem d_Dos_addEntry_87 : decode (rm_code mDos_addEntry) 87 = .ok (.iand, 1) := by decide +kernel
theorem d_Dos_addEntry_88 : decode (rm_code mDos_addEntry) 88 = .ok (.invokevirtual 328, 3) := by decide +kernel
theorem d_Dos_addEntry_91 : decode (rm_code mDos_addEntry) 91 = .ok (.invokevirtual 314, 3) := by decide +kernel
theorem d_Dos_addEntry_94 : decode (rm_code mDos_addEntry) 94 = .ok (.aload_n 0, 1) := by decide +kernel
theorem d_Dos_addEntry_95 : decode (rm_code mDos_addEntry) 95 = .ok (.getfield 56, 3) := by decide +kernel
theorem d_Dos_addEntry_98 : decode (rm_code mDos_addEntry) 98 = .ok (.invokevirtual 200, 3) := by decide +kernel
theorem d_Dos_addEntry_101 : decode (rm_code mDos_addEntry) 101 = .ok (.ifCond .ne (9), 3) := by decide +kernel
theorem d_Dos_addEntry_104 : decode (rm_code mDos_addEntry) 104 = .ok (.aload_n 1, 1) := by decide +kernel
theorem d_Dos_addEntry_105 : decode (rm_code mDos_addEntry) 105 = .ok (.bipush (42), 2) := by decide +kernel
theorem d_Dos_addEntry_107 : decode (rm_code mDos_addEntry) 107 = .ok (.invokevirtual 314, 3) := by decide +kernel
theorem d_Dos_addEntry_110 : decode (rm_code mDos_addEntry) 110 = .ok (.aload_n 1, 1) := by decide +kernel
theorem d_Dos_addEntry_111 : decode (rm_code mDos_addEntry) 111 = .ok (.bipush (13), 2) := by decide +kernel
theorem d_Dos_addEntry_113 : decode (rm_code mDos_addEntry) 113 = .ok (.invokevirtual 314, 3) := by decide +kernel
theorem d_Dos_addEntry_116 : decode (rm_code mDos_addEntry) 116 = .ok (.return_, 1) := by decide +kernel
theorem p_Dos_addEntry_0 {S : rz_S} {K : rz_S → Prop} {a1 : Nat} (ha1 : chP a1) (w : rz_ev mDirectory_count [.ref 46] S (rz_i (fun xq1 Sq1 => rz_ev mChannel_addNumber [.ref a1, .int xq1] Sq1 (rz_v (fun Sq2 => rz_ev mChannel_add [.ref a1, .int 32] Sq2 (rz_v (fun Sq3 => rz_ev mChannel_add [.ref a1, .int 34] Sq3 (rz_v (fun Sq4 => rz mDos_addEntry 25 [(0, .ref 39), (1, .ref a1), (2, .int 0)] [] Sq4 (rz_v K)))))))))) : rz mDos_addEntry 0 [(0, .ref 39), (1, .ref a1)] [] S (rz_v K) := by
  have za1 := chZ ha1
  refine rz_pure (pc' := 1) d_Dos_addEntry_0 rfl ?_
  refine rz_pure (pc' := 2) d_Dos_addEntry_1 rfl ?_
  refine rz_getr d_Dos_addEntry_2 f_5_56 rfl rfl ?_
  refine rz_callVi (t := []) d_Dos_addEntry_5 w_5_318 rfl rfl rfl w (fun xq1 Sq1 q1 => ?_)
  refine rz_callVv (t := [.int xq1]) d_Dos_addEntry_8 w_5_320 rfl (chTP ha1) rfl q1 (fun Sq2 q2 => ?_)
  refine rz_pure (pc' := 12) d_Dos_addEntry_11 rfl ?_
  refine rz_bipush (v := 32) d_Dos_addEntry_12 (by decide) ?_
  refine rz_callVv (t := [.int 32]) d_Dos_addEntry_14 w_5_314 rfl (chTP ha1) rfl q2 (fun Sq3 q3 => ?_)
  refine rz_pure (pc' := 18) d_Dos_addEntry_17 rfl ?_
  refine rz_bipush (v := 34) d_Dos_addEntry_18 (by decide) ?_
  refine rz_callVv (t := [.int 34]) d_Dos_addEntry_20 w_5_314 rfl (chTP ha1) rfl q3 (fun Sq4 q4 => ?_)
  refine rz_iconst (v := 0) d_Dos_addEntry_23 (by decide) ?_
  refine rz_pure (pc' := 25) (l' := [(2, .int 0), (0, .ref 39), (1, .ref a1)]) d_Dos_addEntry_24 rfl ?_
  exact rz_pick (ks := [0, 1, 2]) (l := [(0, .ref 39), (1, .ref a1), (2, .int 0)]) rfl rfl (by decide) rfl q4
theorem p_Dos_addEntry_25 {S : rz_S} {K : rz_S → Prop} {a1 : Nat} (ha1 : chP a1) {a2 : Int32} (w : ((10 ≤ a2 → rz mDos_addEntry 63 [(0, .ref 39), (1, .ref a1)] [] S (rz_v K)) ∧ (¬ 10 ≤ a2 → rz_ev mDirectory_nameByte [.ref 46, .int a2] S (rz_i (fun xq2 Sq2 => ((xq2 = 160 → rz mDos_addEntry 63 [(0, .ref 39), (1, .ref a1)] [] Sq2 (rz_v K)) ∧ (¬ xq2 = 160 → rz_ev mDirectory_nameByte [.ref 46, .int a2] Sq2 (rz_i (fun xq4 Sq4 => rz_ev mChannel_add [.ref a1, .int xq4] Sq4 (rz_v (fun Sq5 => rz mDos_addEntry 25 [(0, .ref 39), (1, .ref a1), (2, .int (a2 + 1))] [] Sq5 (rz_v K)))))))))))) : rz mDos_addEntry 25 [(0, .ref 39), (1, .ref a1), (2, .int a2)] [] S (rz_v K) := by
  have za1 := chZ ha1
  refine rz_pure (pc' := 26) d_Dos_addEntry_25 rfl ?_
  refine rz_bipush (v := 10) d_Dos_addEntry_26 (by decide) ?_
  refine rz_icmpge (tgt := 63) d_Dos_addEntry_28 rfl (fun b1 => ?_) (fun b1 => ?_)
  · skip
    exact rz_pick (ks := [0, 1]) (l := [(0, .ref 39), (1, .ref a1)]) rfl rfl (by decide) rfl (w.1 b1)
  · skip
    refine rz_pure (pc' := 32) d_Dos_addEntry_31 rfl ?_
    refine rz_getr d_Dos_addEntry_32 f_5_56 rfl rfl ?_
    refine rz_pure (pc' := 36) d_Dos_addEntry_35 rfl ?_
    refine rz_callVi (t := [.int a2]) d_Dos_addEntry_36 w_5_323 rfl rfl rfl (w.2 b1) (fun xq2 Sq2 q2 => ?_)
    refine rz_sipush (v := 160) d_Dos_addEntry_39 (by decide) ?_
    refine rz_icmpeq (tgt := 63) d_Dos_addEntry_42 rfl (fun b3 => ?_) (fun b3 => ?_)
    · skip
      exact rz_pick (ks := [0, 1]) (l := [(0, .ref 39), (1, .ref a1)]) rfl rfl (by decide) rfl (q2.1 b3)
    · skip
      refine rz_pure (pc' := 46) d_Dos_addEntry_45 rfl ?_
      refine rz_pure (pc' := 47) d_Dos_addEntry_46 rfl ?_
      refine rz_getr d_Dos_addEntry_47 f_5_56 rfl rfl ?_
      refine rz_pure (pc' := 51) d_Dos_addEntry_50 rfl ?_
      refine rz_callVi (t := [.int a2]) d_Dos_addEntry_51 w_5_323 rfl rfl rfl (q2.2 b3) (fun xq4 Sq4 q4 => ?_)
      refine rz_callVv (t := [.int xq4]) d_Dos_addEntry_54 w_5_314 rfl (chTP ha1) rfl q4 (fun Sq5 q5 => ?_)
      refine rz_pure (pc' := 60) (l' := [(2, .int (a2 + 1)), (0, .ref 39), (1, .ref a1)]) d_Dos_addEntry_57 rfl ?_
      refine rz_pure (pc' := 25) d_Dos_addEntry_60 rfl ?_
      exact rz_pick (ks := [0, 1, 2]) (l := [(0, .ref 39), (1, .ref a1), (2, .int (a2 + 1))]) rfl rfl (by decide) rfl q5
theorem p_Dos_addEntry_63 {S : rz_S} {K : rz_S → Prop} {a1 : Nat} (ha1 : chP a1) (w : rz_ev mChannel_add [.ref a1, .int 34] S (rz_v (fun Sq1 => rz_ev mChannel_add [.ref a1, .int 32] Sq1 (rz_v (fun Sq2 => rz_ev mDirectory_type [.ref 46] Sq2 (rz_i (fun xq3 Sq3 => rz_ev mStr_charAt [.ref 1000019, .int (xq3 &&& 3)] Sq3 (rz_i (fun xq4 Sq4 => rz_ev mChannel_add [.ref a1, .int xq4] Sq4 (rz_v (fun Sq5 => rz_ev mDirectory_isClosed [.ref 46] Sq5 (rz_i (fun xq6 Sq6 => ((xq6 = 0 → rz_ev mChannel_add [.ref a1, .int 42] Sq6 (rz_v (fun Sq8 => rz mDos_addEntry 110 [(1, .ref a1)] [] Sq8 (rz_v K)))) ∧ (¬ xq6 = 0 → rz mDos_addEntry 110 [(1, .ref a1)] [] Sq6 (rz_v K)))))))))))))))) : rz mDos_addEntry 63 [(0, .ref 39), (1, .ref a1)] [] S (rz_v K) := by
  have za1 := chZ ha1
  refine rz_pure (pc' := 64) d_Dos_addEntry_63 rfl ?_
  refine rz_bipush (v := 34) d_Dos_addEntry_64 (by decide) ?_
  refine rz_callVv (t := [.int 34]) d_Dos_addEntry_66 w_5_314 rfl (chTP ha1) rfl w (fun Sq1 q1 => ?_)
  refine rz_pure (pc' := 70) d_Dos_addEntry_69 rfl ?_
  refine rz_bipush (v := 32) d_Dos_addEntry_70 (by decide) ?_
  refine rz_callVv (t := [.int 32]) d_Dos_addEntry_72 w_5_314 rfl (chTP ha1) rfl q1 (fun Sq2 q2 => ?_)
  refine rz_pure (pc' := 76) d_Dos_addEntry_75 rfl ?_
  refine rz_ldcwt (k := 1000019) d_Dos_addEntry_76 rfl ?_
  refine rz_pure (pc' := 80) d_Dos_addEntry_79 rfl ?_
  refine rz_getr d_Dos_addEntry_80 f_5_56 rfl rfl ?_
  refine rz_callVi (t := []) d_Dos_addEntry_83 w_5_203 rfl rfl rfl q2 (fun xq3 Sq3 q3 => ?_)
  refine rz_iconst (v := 3) d_Dos_addEntry_86 (by decide) ?_
  refine rz_iand d_Dos_addEntry_87 ?_
  refine rz_callTi (t := [.int (xq3 &&& 3)]) d_Dos_addEntry_88 w_5_328 rfl rfl ⟨by decide, by decide⟩ rfl q3 (fun xq4 Sq4 q4 => ?_)
  refine rz_callVv (t := [.int xq4]) d_Dos_addEntry_91 w_5_314 rfl (chTP ha1) rfl q4 (fun Sq5 q5 => ?_)
  refine rz_pure (pc' := 95) d_Dos_addEntry_94 rfl ?_
  refine rz_getr d_Dos_addEntry_95 f_5_56 rfl rfl ?_
  refine rz_callVi (t := []) d_Dos_addEntry_98 w_5_200 rfl rfl rfl q5 (fun xq6 Sq6 q6 => ?_)
  refine rz_ifne (tgt := 110) d_Dos_addEntry_101 rfl (fun b7 => ?_) (fun b7 => ?_)
  · skip
    exact rz_pick (ks := [1]) (l := [(1, .ref a1)]) rfl rfl (by decide) rfl (q6.2 b7)
  · skip
    refine rz_pure (pc' := 105) d_Dos_addEntry_104 rfl ?_
    refine rz_bipush (v := 42) d_Dos_addEntry_105 (by decide) ?_
    refine rz_callVv (t := [.int 42]) d_Dos_addEntry_107 w_5_314 rfl (chTP ha1) rfl (q6.1 b7) (fun Sq8 q8 => ?_)
    exact rz_pick (ks := [1]) (l := [(1, .ref a1)]) rfl rfl (by decide) rfl q8
theorem p_Dos_addEntry_110 {S : rz_S} {K : rz_S → Prop} {a1 : Nat} (ha1 : chP a1) (w : rz_ev mChannel_add [.ref a1, .int 13] S (rz_v (fun Sq1 => K Sq1))) : rz mDos_addEntry 110 [(1, .ref a1)] [] S (rz_v K) := by
  have za1 := chZ ha1
  refine rz_pure (pc' := 111) d_Dos_addEntry_110 rfl ?_
  refine rz_bipush (v := 13) d_Dos_addEntry_111 (by decide) ?_
  refine rz_callVv (t := [.int 13]) d_Dos_addEntry_113 w_5_314 rfl (chTP ha1) rfl w (fun Sq1 q1 => ?_)
  exact rz_vretv d_Dos_addEntry_116 rfl q1
theorem d_Directory_count_0 : decode (rm_code mDirectory_count) 0 = .ok (.aload_n 0, 1) := by decide +kernel
theorem d_Directory_count_1 : decode (rm_code mDirectory_count) 1 = .ok (.getfield 9, 3) := by decide +kernel
theorem d_Directory_count_4 : decode (rm_code mDirectory_count) 4 = .ok (.aload_n 0, 1) := by decide +kernel
theorem d_Directory_count_5 : decode (rm_code mDirectory_count) 5 = .ok (.invokevirtual 72, 3) := by decide +kernel
theorem d_Directory_count_8 : decode (rm_code mDirectory_count) 8 = .ok (.bipush (15), 2) := by decide +kernel
theorem d_Directory_count_10 : decode (rm_code mDirectory_count) 10 = .ok (.iadd, 1) := by decide +kernel
theorem d_Directory_count_11 : decode (rm_code mDirectory_count) 11 = .ok (.iaload, 1) := by decide +kernel
theorem d_Directory_count_12 : decode (rm_code mDirectory_count) 12 = .ok (.ireturn, 1) := by decide +kernel
theorem p_Directory_count_0 {S : rz_S} {K : Int32 → rz_S → Prop} (w : rz_ev mDirectory_base [.ref 46] S (rz_i (fun xq1 Sq1 => rx_in (xq1 + 15) 64 = true ∧ K (Sq1.1 47 ((xq1 + 15).toNatClampNeg)) Sq1))) : rz mDirectory_count 0 [(0, .ref 46)] [] S (rz_i K) := by
  refine rz_pure (pc' := 1) d_Directory_count_0 rfl ?_
  refine rz_getr d_Directory_count_1 f_3_9 rfl rfl ?_
  refine rz_pure (pc' := 5) d_Directory_count_4 rfl ?_
  refine rz_callVi (t := []) d_Directory_count_5 w_3_72 rfl rfl rfl w (fun xq1 Sq1 q1 => ?_)
  refine rz_bipush (v := 15) d_Directory_count_8 (by decide) ?_
  refine rz_iadd d_Directory_count_10 ?_
  refine rz_ialdv (F := Sq1.1 47) (i := (xq1 + 15).toNatClampNeg) d_Directory_count_11 rfl q1.1 rfl rfl ?_
  exact rz_ireti d_Directory_count_12 rfl rfl q1.2
theorem d_Channel_addNumber_0 : decode (rm_code mChannel_addNumber) 0 = .ok (.iconst 1, 1) := by decide +kernel
theorem d_Channel_addNumber_1 : decode (rm_code mChannel_addNumber) 1 = .ok (.istore_n 2, 1) := by decide +kernel
theorem d_Channel_addNumber_2 : decode (rm_code mChannel_addNumber) 2 = .ok (.iconst 0, 1) := by decide +kernel
theorem d_Channel_addNumber_3 : decode (rm_code mChannel_addNumber) 3 = .ok (.istore_n 3, 1) := by decide +kernel
theorem d_Channel_addNumber_4 : decode (rm_code mChannel_addNumber) 4 = .ok (.iload_n 3, 1) := by decide +kernel
theorem d_Channel_addNumber_5 : decode (rm_code mChannel_addNumber) 5 = .ok (.bipush (8), 2) := by decide +kernel
theorem d_Channel_addNumber_7 : decode (rm_code mChannel_addNumber) 7 = .ok (.if_icmp .ge (22), 3) := by decide +kernel
theorem d_Channel_addNumber_10 : decode (rm_code mChannel_addNumber) 10 = .ok (.iload_n 1, 1) := by decide +kernel
theorem d_Channel_addNumber_11 : decode (rm_code mChannel_addNumber) 11 = .ok (.iload_n 2, 1) := by decide +kernel
theorem d_Channel_addNumber_12 : decode (rm_code mChannel_addNumber) 12 = .ok (.idiv, 1) := by decide +kernel
theorem d_Channel_addNumber_13 : decode (rm_code mChannel_addNumber) 13 = .ok (.bipush (10), 2) := by decide +kernel
theorem d_Channel_addNumber_15 : decode (rm_code mChannel_addNumber) 15 = .ok (.if_icmp .lt (14), 3) := by decide +kernel
theorem d_Channel_addNumber_18 : decode (rm_code mChannel_addNumber) 18 = .ok (.iload_n 2, 1) := by decide +kernel
theorem d_Channel_addNumber_19 : decode (rm_code mChannel_addNumber) 19 = .ok (.bipush (10), 2) := by decide +kernel
theorem d_Channel_addNumber_21 : decode (rm_code mChannel_addNumber) 21 = .ok (.imul, 1) := by decide +kernel
theorem d_Channel_addNumber_22 : decode (rm_code mChannel_addNumber) 22 = .ok (.istore_n 2, 1) := by decide +kernel
theorem d_Channel_addNumber_23 : decode (rm_code mChannel_addNumber) 23 = .ok (.iinc 3 (1), 3) := by decide +kernel
theorem d_Channel_addNumber_26 : decode (rm_code mChannel_addNumber) 26 = .ok (.goto (-22), 3) := by decide +kernel
theorem d_Channel_addNumber_29 : decode (rm_code mChannel_addNumber) 29 = .ok (.iconst 0, 1) := by decide +kernel
theorem d_Channel_addNumber_30 : decode (rm_code mChannel_addNumber) 30 = .ok (.istore_n 3, 1) := by decide +kernel
theorem d_Channel_addNumber_31 : decode (rm_code mChannel_addNumber) 31 = .ok (.iload_n 3, 1) := by decide +kernel
theorem d_Channel_addNumber_32 : decode (rm_code mChannel_addNumber) 32 = .ok (.bipush (9), 2) := by decide +kernel
theorem d_Channel_addNumber_34 : decode (rm_code mChannel_addNumber) 34 = .ok (.if_icmp .ge (31), 3) := by decide +kernel
theorem d_Channel_addNumber_37 : decode (rm_code mChannel_addNumber) 37 = .ok (.iload_n 2, 1) := by decide +kernel
theorem d_Channel_addNumber_38 : decode (rm_code mChannel_addNumber) 38 = .ok (.ifCond .le (27), 3) := by decide +kernel
theorem d_Channel_addNumber_41 : decode (rm_code mChannel_addNumber) 41 = .ok (.aload_n 0, 1) := by decide +kernel
theorem d_Channel_addNumber_42 : decode (rm_code mChannel_addNumber) 42 = .ok (.bipush (48), 2) := by decide +kernel
theorem d_Channel_addNumber_44 : decode (rm_code mChannel_addNumber) 44 = .ok (.iload_n 1, 1) := by decide +kernel
theorem d_Channel_addNumber_45 : decode (rm_code mChannel_addNumber) 45 = .ok (.iload_n 2, 1) := by decide +kernel
theorem d_Channel_addNumber_46 : decode (rm_code mChannel_addNumber) 46 = .ok (.idiv, 1) := by decide +kernel
theorem d_Channel_addNumber_47 : decode (rm_code mChannel_addNumber) 47 = .ok (.bipush (10), 2) := by decide +kernel
theorem d_Channel_addNumber_49 : decode (rm_code mChannel_addNumber) 49 = .ok (.irem, 1) := by decide +kernel
theorem d_Channel_addNumber_50 : decode (rm_code mChannel_addNumber) 50 = .ok (.iadd, 1) := by decide +kernel
theorem d_Channel_addNumber_51 : decode (rm_code mChannel_addNumber) 51 = .ok (.invokevirtual 77, 3) := by decide +kernel
theorem d_Channel_addNumber_54 : decode (rm_code mChannel_addNumber) 54 = .ok (.iload_n 2, 1) := by decide +kernel
theorem d_Channel_addNumber_55 : decode (rm_code mChannel_addNumber) 55 = .ok (.bipush (10), 2) := by decide +kernel
theorem d_Channel_addNumber_57 : decode (rm_code mChannel_addNumber) 57 = .ok (.idiv, 1) := by decide +kernel
theorem d_Channel_addNumber_58 : decode (rm_code mChannel_addNumber) 58 = .ok (.istore_n 2, 1) := by decide +kernel
theorem d_Channel_addNumber_59 : decode (rm_code mChannel_addNumber) 59 = .ok (.iinc 3 (1), 3) := by decide +kernel
theorem d_Channel_addNumber_62 : decode (rm_code mChannel_addNumber) 62 = .ok (.goto (-31), 3) := by decide +kernel
theorem d_Channel_addNumber_65 : decode (rm_code mChannel_addNumber) 65 = .ok (.return_, 1) := by decide +kernel
theorem p_Channel_addNumber_0 {S : rz_S} {K : rz_S → Prop} {a0 : Nat} (ha0 : chP a0) {a1 : Int32} (w : rz mChannel_addNumber 4 [(0, .ref a0), (1, .int a1), (2, .int 1), (3, .int 0)] [] S (rz_v K)) : rz mChannel_addNumber 0 [(0, .ref a0), (1, .int a1)] [] S (rz_v K) := by
  have za0 := chZ ha0
  refine rz_iconst (v := 1) d_Channel_addNumber_0 (by decide) ?_
  refine rz_pure (pc' := 2) (l' := [(2, .int 1), (0, .ref a0), (1, .int a1)]) d_Channel_addNumber_1 rfl ?_
  refine rz_iconst (v := 0) d_Channel_addNumber_2 (by decide) ?_
  refine rz_pure (pc' := 4) (l' := [(3, .int 0), (2, .int 1), (0, .ref a0), (1, .int a1)]) d_Channel_addNumber_3 rfl ?_
  exact rz_pick (ks := [0, 1, 2, 3]) (l := [(0, .ref a0), (1, .int a1), (2, .int 1), (3, .int 0)]) rfl rfl (by decide) rfl w
theorem p_Channel_addNumber_4 {S : rz_S} {K : rz_S → Prop} {a0 : Nat} (ha0 : chP a0) {a1 : Int32} {a2 : Int32} {a3 : Int32} (w : ((8 ≤ a3 → rz mChannel_addNumber 31 [(0, .ref a0), (1, .int a1), (2, .int a2), (3, .int 0)] [] S (rz_v K)) ∧ (¬ 8 ≤ a3 → (¬ a2 = 0) ∧ ((a1 / a2 < 10 → rz mChannel_addNumber 31 [(0, .ref a0), (1, .int a1), (2, .int a2), (3, .int 0)] [] S (rz_v K)) ∧ (¬ a1 / a2 < 10 → rz mChannel_addNumber 4 [(0, .ref a0), (1, .int a1), (2, .int (a2 * 10)), (3, .int (a3 + 1))] [] S (rz_v K)))))) : rz mChannel_addNumber 4 [(0, .ref a0), (1, .int a1), (2, .int a2), (3, .int a3)] [] S (rz_v K) := by
  have za0 := chZ ha0
  refine rz_pure (pc' := 5) d_Channel_addNumber_4 rfl ?_
  refine rz_bipush (v := 8) d_Channel_addNumber_5 (by decide) ?_
  refine rz_icmpge (tgt := 29) d_Channel_addNumber_7 rfl (fun b1 => ?_) (fun b1 => ?_)
  · skip
    refine rz_iconst (v := 0) d_Channel_addNumber_29 (by decide) ?_
    refine rz_pure (pc' := 31) (l' := [(3, .int 0), (0, .ref a0), (1, .int a1), (2, .int a2)]) d_Channel_addNumber_30 rfl ?_
    exact rz_pick (ks := [0, 1, 2, 3]) (l := [(0, .ref a0), (1, .int a1), (2, .int a2), (3, .int 0)]) rfl rfl (by decide) rfl (w.1 b1)
  · skip
    refine rz_pure (pc' := 11) d_Channel_addNumber_10 rfl ?_
    refine rz_pure (pc' := 12) d_Channel_addNumber_11 rfl ?_
    refine rz_idiv d_Channel_addNumber_12 (w.2 b1).1 ?_
    refine rz_bipush (v := 10) d_Channel_addNumber_13 (by decide) ?_
    refine rz_icmplt (tgt := 29) d_Channel_addNumber_15 rfl (fun b2 => ?_) (fun b2 => ?_)
    · skip
      refine rz_iconst (v := 0) d_Channel_addNumber_29 (by decide) ?_
      refine rz_pure (pc' := 31) (l' := [(3, .int 0), (0, .ref a0), (1, .int a1), (2, .int a2)]) d_Channel_addNumber_30 rfl ?_
      exact rz_pick (ks := [0, 1, 2, 3]) (l := [(0, .ref a0), (1, .int a1), (2, .int a2), (3, .int 0)]) rfl rfl (by decide) rfl ((w.2 b1).2.1 b2)
    · skip
      refine rz_pure (pc' := 19) d_Channel_addNumber_18 rfl ?_
      refine rz_bipush (v := 10) d_Channel_addNumber_19 (by decide) ?_
      refine rz_imul d_Channel_addNumber_21 ?_
      refine rz_pure (pc' := 23) (l' := [(2, .int (a2 * 10)), (0, .ref a0), (1, .int a1), (3, .int a3)]) d_Channel_addNumber_22 rfl ?_
      refine rz_pure (pc' := 26) (l' := [(3, .int (a3 + 1)), (2, .int (a2 * 10)), (0, .ref a0), (1, .int a1)]) d_Channel_addNumber_23 rfl ?_
      refine rz_pure (pc' := 4) d_Channel_addNumber_26 rfl ?_
      exact rz_pick (ks := [0, 1, 2, 3]) (l := [(0, .ref a0), (1, .int a1), (2, .int (a2 * 10)), (3, .int (a3 + 1))]) rfl rfl (by decide) rfl ((w.2 b1).2.2 b2)
theorem p_Channel_addNumber_31 {S : rz_S} {K : rz_S → Prop} {a0 : Nat} (ha0 : chP a0) {a1 : Int32} {a2 : Int32} {a3 : Int32} (w : ((9 ≤ a3 → K S) ∧ (¬ 9 ≤ a3 → ((a2 ≤ 0 → K S) ∧ (¬ a2 ≤ 0 → (¬ a2 = 0) ∧ rz_ev mChannel_add [.ref a0, .int (48 + ((a1 / a2) - (a1 / a2) / 10 * 10))] S (rz_v (fun Sq3 => rz mChannel_addNumber 31 [(0, .ref a0), (1, .int a1), (2, .int (a2 / 10)), (3, .int (a3 + 1))] [] Sq3 (rz_v K)))))))) : rz mChannel_addNumber 31 [(0, .ref a0), (1, .int a1), (2, .int a2), (3, .int a3)] [] S (rz_v K) := by
  have za0 := chZ ha0
  refine rz_pure (pc' := 32) d_Channel_addNumber_31 rfl ?_
  refine rz_bipush (v := 9) d_Channel_addNumber_32 (by decide) ?_
  refine rz_icmpge (tgt := 65) d_Channel_addNumber_34 rfl (fun b1 => ?_) (fun b1 => ?_)
  · skip
    exact rz_vretv d_Channel_addNumber_65 rfl (w.1 b1)
  · skip
    refine rz_pure (pc' := 38) d_Channel_addNumber_37 rfl ?_
    refine rz_ifle (tgt := 65) d_Channel_addNumber_38 rfl (fun b2 => ?_) (fun b2 => ?_)
    · skip
      exact rz_vretv d_Channel_addNumber_65 rfl ((w.2 b1).1 b2)
    · skip
      refine rz_pure (pc' := 42) d_Channel_addNumber_41 rfl ?_
      refine rz_bipush (v := 48) d_Channel_addNumber_42 (by decide) ?_
      refine rz_pure (pc' := 45) d_Channel_addNumber_44 rfl ?_
      refine rz_pure (pc' := 46) d_Channel_addNumber_45 rfl ?_
      refine rz_idiv d_Channel_addNumber_46 ((w.2 b1).2 b2).1 ?_
      refine rz_bipush (v := 10) d_Channel_addNumber_47 (by decide) ?_
      refine rz_irem d_Channel_addNumber_49 (by decide) ?_
      refine rz_iadd d_Channel_addNumber_50 ?_
      refine rz_callVv (t := [.int (48 + ((a1 / a2) - (a1 / a2) / 10 * 10))]) d_Channel_addNumber_51 w_1_77 rfl (chTP ha0) rfl ((w.2 b1).2 b2).2 (fun Sq3 q3 => ?_)
      refine rz_pure (pc' := 55) d_Channel_addNumber_54 rfl ?_
      refine rz_bipush (v := 10) d_Channel_addNumber_55 (by decide) ?_
      refine rz_idiv d_Channel_addNumber_57 (by decide) ?_
      refine rz_pure (pc' := 59) (l' := [(2, .int (a2 / 10)), (0, .ref a0), (1, .int a1), (3, .int a3)]) d_Channel_addNumber_58 rfl ?_
      refine rz_pure (pc' := 62) (l' := [(3, .int (a3 + 1)), (2, .int (a2 / 10)), (0, .ref a0), (1, .int a1)]) d_Channel_addNumber_59 rfl ?_
      refine rz_pure (pc' := 31) d_Channel_addNumber_62 rfl ?_
      exact rz_pick (ks := [0, 1, 2, 3]) (l := [(0, .ref a0), (1, .int a1), (2, .int (a2 / 10)), (3, .int (a3 + 1))]) rfl rfl (by decide) rfl q3
theorem d_Directory_nameByte_0 : decode (rm_code mDirectory_nameByte) 0 = .ok (.iload_n 1, 1) := by decide +kernel
theorem d_Directory_nameByte_1 : decode (rm_code mDirectory_nameByte) 1 = .ok (.ifCond .lt (25), 3) := by decide +kernel
theorem d_Directory_nameByte_4 : decode (rm_code mDirectory_nameByte) 4 = .ok (.iload_n 1, 1) := by decide +kernel
theorem d_Directory_nameByte_5 : decode (rm_code mDirectory_nameByte) 5 = .ok (.bipush (10), 2) := by decide +kernel
theorem d_Directory_nameByte_7 : decode (rm_code mDirectory_nameByte) 7 = .ok (.if_icmp .ge (19), 3) := by decide +kernel
theorem d_Directory_nameByte_10 : decode (rm_code mDirectory_nameByte) 10 = .ok (.aload_n 0, 1) := by decide +kernel
theorem d_Directory_nameByte_11 : decode (rm_code mDirectory_nameByte) 11 = .ok (.getfield 9, 3) := by decide +kernel
theorem d_Directory_nameByte_14 : decode (rm_code mDirectory_nameByte) 14 = .ok (.aload_n 0, 1) := by decide +kernel
theorem d_Directory_nameByte_15 : decode (rm_code mDirectory_nameByte) 15 = .ok (.invokevirtual 72, 3) := by decide +kernel
theorem d_Directory_nameByte_18 : decode (rm_code mDirectory_nameByte) 18 = .ok (.iconst 5, 1) := by decide +kernel
theorem d_Directory_nameByte_19 : decode (rm_code mDirectory_nameByte) 19 = .ok (.iadd, 1) := by decide +kernel
theorem d_Directory_nameByte_20 : decode (rm_code mDirectory_nameByte) 20 = .ok (.iload_n 1, 1) := by decide +kernel
theorem d_Directory_nameByte_21 : decode (rm_code mDirectory_nameByte) 21 = .ok (.iadd, 1) := by decide +kernel
theorem d_Directory_nameByte_22 : decode (rm_code mDirectory_nameByte) 22 = .ok (.iaload, 1) := by decide +kernel
theorem d_Directory_nameByte_23 : decode (rm_code mDirectory_nameByte) 23 = .ok (.goto (6), 3) := by decide +kernel
theorem d_Directory_nameByte_26 : decode (rm_code mDirectory_nameByte) 26 = .ok (.sipush (160), 3) := by decide +kernel
theorem d_Directory_nameByte_29 : decode (rm_code mDirectory_nameByte) 29 = .ok (.ireturn, 1) := by decide +kernel
theorem p_Directory_nameByte_0 {S : rz_S} {K : Int32 → rz_S → Prop} {a1 : Int32} (w : ((a1 < 0 → K 160 S) ∧ (¬ a1 < 0 → ((10 ≤ a1 → K 160 S) ∧ (¬ 10 ≤ a1 → rz_ev mDirectory_base [.ref 46] S (rz_i (fun xq3 Sq3 => rx_in ((xq3 + 5) + a1) 64 = true ∧ K (Sq3.1 47 (((xq3 + 5) + a1).toNatClampNeg)) Sq3))))))) : rz mDirectory_nameByte 0 [(0, .ref 46), (1, .int a1)] [] S (rz_i K) := by
  refine rz_pure (pc' := 1) d_Directory_nameByte_0 rfl ?_
  refine rz_iflt (tgt := 26) d_Directory_nameByte_1 rfl (fun b1 => ?_) (fun b1 => ?_)
  · skip
    refine rz_sipush (v := 160) d_Directory_nameByte_26 (by decide) ?_
    exact rz_ireti d_Directory_nameByte_29 rfl rfl (w.1 b1)
  · skip
    refine rz_pure (pc' := 5) d_Directory_nameByte_4 rfl ?_
    refine rz_bipush (v := 10) d_Directory_nameByte_5 (by decide) ?_
    refine rz_icmpge (tgt := 26) d_Directory_nameByte_7 rfl (fun b2 => ?_) (fun b2 => ?_)
    · skip
      refine rz_sipush (v := 160) d_Directory_nameByte_26 (by decide) ?_
      exact rz_ireti d_Directory_nameByte_29 rfl rfl ((w.2 b1).1 b2)
    · skip
      refine rz_pure (pc' := 11) d_Directory_nameByte_10 rfl ?_
      refine rz_getr d_Directory_nameByte_11 f_3_9 rfl rfl ?_
      refine rz_pure (pc' := 15) d_Directory_nameByte_14 rfl ?_
      refine rz_callVi (t := []) d_Directory_nameByte_15 w_3_72 rfl rfl rfl ((w.2 b1).2 b2) (fun xq3 Sq3 q3 => ?_)
      refine rz_iconst (v := 5) d_Directory_nameByte_18 (by decide) ?_
      refine rz_iadd d_Directory_nameByte_19 ?_
      refine rz_pure (pc' := 21) d_Directory_nameByte_20 rfl ?_
      refine rz_iadd d_Directory_nameByte_21 ?_
      refine rz_ialdv (F := Sq3.1 47) (i := ((xq3 + 5) + a1).toNatClampNeg) d_Directory_nameByte_22 rfl q3.1 rfl rfl ?_
      refine rz_pure (pc' := 29) d_Directory_nameByte_23 rfl ?_
      exact rz_ireti d_Directory_nameByte_29 rfl rfl q3.2
theorem d_Dos_addFree_0 : decode (rm_code mDos_addFree) 0 = .ok (.aload_n 1, 1) := by decide +kernel
theorem d_Dos_addFree_1 : decode (rm_code mDos_addFree) 1 = .ok (.aload_n 0, 1) := by decide +kernel
theorem d_Dos_addFree_2 : decode (rm_code mDos_addFree) 2 = .ok (.getfield 47, 3) := by decide +kernel
theorem d_Dos_addFree_5 : decode (rm_code mDos_addFree) 5 = .ok (.invokevirtual 334, 3) := by decide +kernel
theorem d_Dos_addFree_8 : decode (rm_code mDos_addFree) 8 = .ok (.invokevirtual 320, 3) := by decide +kernel
theorem d_Dos_addFree_11 : decode (rm_code mDos_addFree) 11 = .ok (.aload_n 1, 1) := by decide +kernel
theorem d_Dos_addFree_12 : decode (rm_code mDos_addFree) 12 = .ok (.bipush (32), 2) := by decide +kernel
theorem d_Dos_addFree_14 : decode (rm_code mDos_addFree) 14 = .ok (.invokevirtual 314, 3) := by decide +kernel
theorem d_Dos_addFree_17 : decode (rm_code mDos_addFree) 17 = .ok (.aload_n 1, 1) := by decide +kernel
theorem d_Dos_addFree_18 : decode (rm_code mDos_addFree) 18 = .ok (.bipush (70), 2) := by decide +kernel
theorem d_Dos_addFree_20 : decode (rm_code mDos_addFree) 20 = .ok (.invokevirtual 314, 3) := by decide +kernel
theorem d_Dos_addFree_23 : decode (rm_code mDos_addFree) 23 = .ok (.aload_n 1, 1) := by decide +kernel
theorem d_Dos_addFree_24 : decode (rm_code mDos_addFree) 24 = .ok (.bipush (82), 2) := by decide +kernel
theorem d_Dos_addFree_26 : decode (rm_code mDos_addFree) 26 = .ok (.invokevirtual 314, 3) := by decide +kernel
theorem d_Dos_addFree_29 : decode (rm_code mDos_addFree) 29 = .ok (.aload_n 1, 1) := by decide +kernel
theorem d_Dos_addFree_30 : decode (rm_code mDos_addFree) 30 = .ok (.bipush (69), 2) := by decide +kernel
theorem d_Dos_addFree_32 : decode (rm_code mDos_addFree) 32 = .ok (.invokevirtual 314, 3) := by decide +kernel
theorem d_Dos_addFree_35 : decode (rm_code mDos_addFree) 35 = .ok (.aload_n 1, 1) := by decide +kernel
theorem d_Dos_addFree_36 : decode (rm_code mDos_addFree) 36 = .ok (.bipush (69), 2) := by decide +kernel
theorem d_Dos_addFree_38 : decode (rm_code mDos_addFree) 38 = .ok (.invokevirtual 314, 3) := by decide +kernel
theorem d_Dos_addFree_41 : decode (rm_code mDos_addFree) 41 = .ok (.aload_n 1, 1) := by decide +kernel
theorem d_Dos_addFree_42 : decode (rm_code mDos_addFree) 42 = .ok (.bipush (13), 2) := by decide +kernel
theorem d_Dos_addFree_44 : decode (rm_code mDos_addFree) 44 = .ok (.invokevirtual 314, 3) := by decide +kernel
theorem d_Dos_addFree_47 : decode (rm_code mDos_addFree) 47 = .ok (.return_, 1) := by decide +kernel
theorem p_Dos_addFree_0 {S : rz_S} {K : rz_S → Prop} {a1 : Nat} (ha1 : chP a1) (w : rz_ev mBlockMap_freeSum [.ref 44] S (rz_i (fun xq1 Sq1 => rz_ev mChannel_addNumber [.ref a1, .int xq1] Sq1 (rz_v (fun Sq2 => rz_ev mChannel_add [.ref a1, .int 32] Sq2 (rz_v (fun Sq3 => rz_ev mChannel_add [.ref a1, .int 70] Sq3 (rz_v (fun Sq4 => rz_ev mChannel_add [.ref a1, .int 82] Sq4 (rz_v (fun Sq5 => rz_ev mChannel_add [.ref a1, .int 69] Sq5 (rz_v (fun Sq6 => rz_ev mChannel_add [.ref a1, .int 69] Sq6 (rz_v (fun Sq7 => rz_ev mChannel_add [.ref a1, .int 13] Sq7 (rz_v (fun Sq8 => K Sq8))))))))))))))))) : rz mDos_addFree 0 [(0, .ref 39), (1, .ref a1)] [] S (rz_v K) := by
  have za1 := chZ ha1
  refine rz_pure (pc' := 1) d_Dos_addFree_0 rfl ?_
  refine rz_pure (pc' := 2) d_Dos_addFree_1 rfl ?_
  refine rz_getr d_Dos_addFree_2 f_5_47 rfl rfl ?_
  refine rz_callVi (t := []) d_Dos_addFree_5 w_5_334 rfl rfl rfl w (fun xq1 Sq1 q1 => ?_)
  refine rz_callVv (t := [.int xq1]) d_Dos_addFree_8 w_5_320 rfl (chTP ha1) rfl q1 (fun Sq2 q2 => ?_)
  refine rz_pure (pc' := 12) d_Dos_addFree_11 rfl ?_
  refine rz_bipush (v := 32) d_Dos_addFree_12 (by decide) ?_
  refine rz_callVv (t := [.int 32]) d_Dos_addFree_14 w_5_314 rfl (chTP ha1) rfl q2 (fun Sq3 q3 => ?_)
  refine rz_pure (pc' := 18) d_Dos_addFree_17 rfl ?_
  refine rz_bipush (v := 70) d_Dos_addFree_18 (by decide) ?_
  refine rz_callVv (t := [.int 70]) d_Dos_addFree_20 w_5_314 rfl (chTP ha1) rfl q3 (fun Sq4 q4 => ?_)
  refine rz_pure (pc' := 24) d_Dos_addFree_23 rfl ?_
  refine rz_bipush (v := 82) d_Dos_addFree_24 (by decide) ?_
  refine rz_callVv (t := [.int 82]) d_Dos_addFree_26 w_5_314 rfl (chTP ha1) rfl q4 (fun Sq5 q5 => ?_)
  refine rz_pure (pc' := 30) d_Dos_addFree_29 rfl ?_
  refine rz_bipush (v := 69) d_Dos_addFree_30 (by decide) ?_
  refine rz_callVv (t := [.int 69]) d_Dos_addFree_32 w_5_314 rfl (chTP ha1) rfl q5 (fun Sq6 q6 => ?_)
  refine rz_pure (pc' := 36) d_Dos_addFree_35 rfl ?_
  refine rz_bipush (v := 69) d_Dos_addFree_36 (by decide) ?_
  refine rz_callVv (t := [.int 69]) d_Dos_addFree_38 w_5_314 rfl (chTP ha1) rfl q6 (fun Sq7 q7 => ?_)
  refine rz_pure (pc' := 42) d_Dos_addFree_41 rfl ?_
  refine rz_bipush (v := 13) d_Dos_addFree_42 (by decide) ?_
  refine rz_callVv (t := [.int 13]) d_Dos_addFree_44 w_5_314 rfl (chTP ha1) rfl q7 (fun Sq8 q8 => ?_)
  exact rz_vretv d_Dos_addFree_47 rfl q8
theorem d_Dos_readNext_0 : decode (rm_code mDos_readNext) 0 = .ok (.aload_n 1, 1) := by decide +kernel
theorem d_Dos_readNext_1 : decode (rm_code mDos_readNext) 1 = .ok (.getfield 72, 3) := by decide +kernel
theorem d_Dos_readNext_4 : decode (rm_code mDos_readNext) 4 = .ok (.iconst 0, 1) := by decide +kernel
theorem d_Dos_readNext_5 : decode (rm_code mDos_readNext) 5 = .ok (.iaload, 1) := by decide +kernel
theorem d_Dos_readNext_6 : decode (rm_code mDos_readNext) 6 = .ok (.istore_n 2, 1) := by decide +kernel
theorem d_Dos_readNext_7 : decode (rm_code mDos_readNext) 7 = .ok (.aload_n 1, 1) := by decide +kernel
theorem d_Dos_readNext_8 : decode (rm_code mDos_readNext) 8 = .ok (.getfield 72, 3) := by decide +kernel
theorem d_Dos_readNext_11 : decode (rm_code mDos_readNext) 11 = .ok (.iconst 1, 1) := by decide +kernel
theorem d_Dos_readNext_12 : decode (rm_code mDos_readNext) 12 = .ok (.iaload, 1) := by decide +kernel
theorem d_Dos_readNext_13 : decode (rm_code mDos_readNext) 13 = .ok (.istore_n 3, 1) := by decide +kernel
theorem d_Dos_readNext_14 : decode (rm_code mDos_readNext) 14 = .ok (.iload_n 2, 1) := by decide +kernel
theorem d_Dos_readNext_15 : decode (rm_code mDos_readNext) 15 = .ok (.iload_n 3, 1) := by decide +kernel
theorem d_Dos_readNext_16 : decode (rm_code mDos_readNext) 16 = .ok (.invokestatic 212, 3) := by decide +kernel
theorem d_Dos_readNext_19 : decode (rm_code mDos_readNext) 19 = .ok (.ifCond .ne (15), 3) := by decide +kernel
theorem d_Dos_readNext_22 : decode (rm_code mDos_readNext) 22 = .ok (.aload_n 0, 1) := by decide +kernel
theorem d_Dos_readNext_23 : decode (rm_code mDos_readNext) 23 = .ok (.getfield 30, 3) := by decide +kernel
theorem d_Dos_readNext_26 : decode (rm_code mDos_readNext) 26 = .ok (.bipush (71), 2) := by decide +kernel
theorem d_Dos_readNext_28 : decode (rm_code mDos_readNext) 28 = .ok (.iload_n 2, 1) := by decide +kernel
theorem d_Dos_readNext_29 : decode (rm_code mDos_readNext) 29 = .ok (.iload_n 3, 1) := by decide +kernel
theorem d_Dos_readNext_30 : decode (rm_code mDos_readNext) 30 = .ok (.invokevirtual 116, 3) := by decide +kernel
theorem d_Dos_readNext_33 : decode (rm_code mDos_readNext) 33 = .ok (.ireturn, 1) := by decide +kernel
theorem d_Dos_readNext_34 : decode (rm_code mDos_readNext) 34 = .ok (.aload_n 0, 1) := by decide +kernel
theorem d_Dos_readNext_35 : decode (rm_code mDos_readNext) 35 = .ok (.getfield 34, 3) := by decide +kernel
theorem d_Dos_readNext_38 : decode (rm_code mDos_readNext) 38 = .ok (.iload_n 2, 1) := by decide +kernel
theorem d_Dos_readNext_39 : decode (rm_code mDos_readNext) 39 = .ok (.iload_n 3, 1) := by decide +kernel
theorem d_Dos_readNext_40 : decode (rm_code mDos_readNext) 40 = .ok (.aload_n 1, 1) := by decide +kernel
theorem d_Dos_readNext_41 : decode (rm_code mDos_readNext) 41 = .ok (.getfield 72, 3) := by decide +kernel
theorem d_Dos_readNext_44 : decode (rm_code mDos_readNext) 44 = .ok (.invokevirtual 216, 3) := by decide +kernel
theorem d_Dos_readNext_47 : decode (rm_code mDos_readNext) 47 = .ok (.istore 4, 2) := by decide +kernel
theorem d_Dos_readNext_49 : decode (rm_code mDos_readNext) 49 = .ok (.iload 4, 2) := by decide +kernel
theorem d_Dos_readNext_51 : decode (rm_code mDos_readNext) 51 = .ok (.ifCond .ne (7), 3) := by decide +kernel
theorem d_Dos_readNext_54 : decode (rm_code mDos_readNext) 54 = .ok (.aload_n 1, 1) := by decide +kernel
theorem d_Dos_readNext_55 : decode (rm_code mDos_readNext) 55 = .ok (.invokevirtual 219, 3) := by decide +kernel
theorem d_Dos_readNext_58 : decode (rm_code mDos_readNext) 58 = .ok (.iload 4, 2) := by decide +kernel
theorem d_Dos_readNext_60 : decode (rm_code mDos_readNext) 60 = .ok (.ireturn, 1) := by decide +kernel
theorem p_Dos_readNext_0 {S : rz_S} {K : Int32 → rz_S → Prop} {a1 : Nat} (ha1 : chP a1) (w : rz_ev mDisk_isLegal [.int (S.1 (a1 + 1) 0), .int (S.1 (a1 + 1) 1)] S (rz_i (fun xq1 Sq1 => ((xq1 = 0 → rz_ev mStatus_set [.ref 3, .int 71, .int (S.1 (a1 + 1) 0), .int (S.1 (a1 + 1) 1)] Sq1 (rz_i (fun xq6 Sq6 => K xq6 Sq6))) ∧ (¬ xq1 = 0 → rz_ev mDisk_readBlock [.ref 6, .int (S.1 (a1 + 1) 0), .int (S.1 (a1 + 1) 1), .ref (a1 + 1)] Sq1 (rz_i (fun xq3 Sq3 => ((xq3 = 0 → rz_ev mChannel_unfold [.ref a1] Sq3 (rz_v (fun Sq5 => K xq3 Sq5))) ∧ (¬ xq3 = 0 → K xq3 Sq3))))))))) : rz mDos_readNext 0 [(0, .ref 39), (1, .ref a1)] [] S (rz_i K) := by
  have za1 := chZ ha1
  refine rz_pure (pc' := 1) d_Dos_readNext_0 rfl ?_
  refine rz_getr d_Dos_readNext_1 f_5_72 (chTP ha1) rfl ?_
  refine rz_iconst (v := 0) d_Dos_readNext_4 (by decide) ?_
  refine rz_ialdv (F := S.1 (a1 + 1)) (i := 0) d_Dos_readNext_5 (chR ha1) (by decide) rfl (by decide) ?_
  refine rz_pure (pc' := 7) (l' := [(2, .int (S.1 (a1 + 1) 0)), (0, .ref 39), (1, .ref a1)]) d_Dos_readNext_6 rfl ?_
  refine rz_pure (pc' := 8) d_Dos_readNext_7 rfl ?_
  refine rz_getr d_Dos_readNext_8 f_5_72 (chTP ha1) rfl ?_
  refine rz_iconst (v := 1) d_Dos_readNext_11 (by decide) ?_
  refine rz_ialdv (F := S.1 (a1 + 1)) (i := 1) d_Dos_readNext_12 (chR ha1) (by decide) rfl (by decide) ?_
  refine rz_pure (pc' := 14) (l' := [(3, .int (S.1 (a1 + 1) 1)), (2, .int (S.1 (a1 + 1) 0)), (0, .ref 39), (1, .ref a1)]) d_Dos_readNext_13 rfl ?_
  refine rz_pure (pc' := 15) d_Dos_readNext_14 rfl ?_
  refine rz_pure (pc' := 16) d_Dos_readNext_15 rfl ?_
  refine rz_callSi (t := [.int (S.1 (a1 + 1) 1), .int (S.1 (a1 + 1) 0)]) d_Dos_readNext_16 rfl w_5_212 rfl rfl w (fun xq1 Sq1 q1 => ?_)
  refine rz_ifne (tgt := 34) d_Dos_readNext_19 rfl (fun b2 => ?_) (fun b2 => ?_)
  · skip
    refine rz_pure (pc' := 35) d_Dos_readNext_34 rfl ?_
    refine rz_getr d_Dos_readNext_35 f_5_34 rfl rfl ?_
    refine rz_pure (pc' := 39) d_Dos_readNext_38 rfl ?_
    refine rz_pure (pc' := 40) d_Dos_readNext_39 rfl ?_
    refine rz_pure (pc' := 41) d_Dos_readNext_40 rfl ?_
    refine rz_getr d_Dos_readNext_41 f_5_72 (chTP ha1) rfl ?_
    refine rz_callVi (t := [.ref (a1 + 1), .int (S.1 (a1 + 1) 1), .int (S.1 (a1 + 1) 0)]) d_Dos_readNext_44 w_5_216 rfl rfl rfl (q1.2 b2) (fun xq3 Sq3 q3 => ?_)
    refine rz_pure (pc' := 49) (l' := [(4, .int xq3), (3, .int (S.1 (a1 + 1) 1)), (2, .int (S.1 (a1 + 1) 0)), (0, .ref 39), (1, .ref a1)]) d_Dos_readNext_47 rfl ?_
    refine rz_pure (pc' := 51) d_Dos_readNext_49 rfl ?_
    refine rz_ifne (tgt := 58) d_Dos_readNext_51 rfl (fun b4 => ?_) (fun b4 => ?_)
    · skip
      refine rz_pure (pc' := 60) d_Dos_readNext_58 rfl ?_
      exact rz_ireti d_Dos_readNext_60 rfl rfl (q3.2 b4)
    · skip
      refine rz_pure (pc' := 55) d_Dos_readNext_54 rfl ?_
      refine rz_callVv (t := []) d_Dos_readNext_55 w_5_219 rfl (chTP ha1) rfl (q3.1 b4) (fun Sq5 q5 => ?_)
      refine rz_pure (pc' := 60) d_Dos_readNext_58 rfl ?_
      exact rz_ireti d_Dos_readNext_60 rfl rfl q5
  · skip
    refine rz_pure (pc' := 23) d_Dos_readNext_22 rfl ?_
    refine rz_getr d_Dos_readNext_23 f_5_30 rfl rfl ?_
    refine rz_bipush (v := 71) d_Dos_readNext_26 (by decide) ?_
    refine rz_pure (pc' := 29) d_Dos_readNext_28 rfl ?_
    refine rz_pure (pc' := 30) d_Dos_readNext_29 rfl ?_
    refine rz_callVi (t := [.int (S.1 (a1 + 1) 1), .int (S.1 (a1 + 1) 0), .int 71]) d_Dos_readNext_30 w_5_116 rfl rfl rfl (q1.1 b2) (fun xq6 Sq6 q6 => ?_)
    exact rz_ireti d_Dos_readNext_33 rfl rfl q6
