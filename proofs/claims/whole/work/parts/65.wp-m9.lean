/-! what each block of the code asks (printed by wpgen.py) -/
theorem p_M_protect_0 {S : rz_S} {K : rz_S → Prop} {a1 : Int32} (w : (a1 = 0 ∨ a1 = 1) ∧ K (rz_uI S 116 1 a1)) : rz mM_protect 0 [(0, .ref 116), (1, .int a1)] [] S (rz_v K) := by
  refine rz_pure (pc' := 1) d_M_protect_0 rfl ?_
  refine rz_pure (pc' := 2) d_M_protect_1 rfl ?_
  refine rz_puti d_M_protect_2 f_12_131 rfl rfl (rz_bfit w.1) ?_
  exact rz_vretv d_M_protect_5 rfl w.2
theorem p_M_memory_0 {S : rz_S} {K : Int32 → rz_S → Prop} {a1 : Int32} (w : ((a1 < 0 → K (-1) S) ∧ (¬ a1 < 0 → ((2048 ≤ a1 → K (-1) S) ∧ (¬ 2048 ≤ a1 → rx_in a1 2048 = true ∧ K ((S.1 155 a1.toNatClampNeg) &&& 255) S))))) : rz mM_memory 0 [(0, .ref 116), (1, .int a1)] [] S (rz_i K) := by
  refine rz_pure (pc' := 1) d_M_memory_0 rfl ?_
  refine rz_iflt (tgt := 24) d_M_memory_1 rfl (fun b1 => ?_) (fun b1 => ?_)
  · skip
    refine rz_iconst (v := -1) d_M_memory_24 (by decide) ?_
    exact rz_ireti d_M_memory_25 rfl rfl (w.1 b1)
  · skip
    refine rz_pure (pc' := 5) d_M_memory_4 rfl ?_
    refine rz_sipush (v := 2048) d_M_memory_5 (by decide) ?_
    refine rz_icmpge (tgt := 24) d_M_memory_8 rfl (fun b2 => ?_) (fun b2 => ?_)
    · skip
      refine rz_iconst (v := -1) d_M_memory_24 (by decide) ?_
      exact rz_ireti d_M_memory_25 rfl rfl ((w.2 b1).1 b2)
    · skip
      refine rz_pure (pc' := 12) d_M_memory_11 rfl ?_
      refine rz_getr d_M_memory_12 f_12_614 rfl rfl ?_
      refine rz_pure (pc' := 16) d_M_memory_15 rfl ?_
      refine rz_baldv (F := S.1 155) (i := a1.toNatClampNeg) d_M_memory_16 rfl (by decide) ((w.2 b1).2 b2).1 rfl rfl ?_
      refine rz_sipush (v := 255) d_M_memory_17 (by decide) ?_
      refine rz_iand d_M_memory_20 ?_
      refine rz_pure (pc' := 25) d_M_memory_21 rfl ?_
      exact rz_ireti d_M_memory_25 rfl rfl ((w.2 b1).2 b2).2
theorem p_M_power_0 {S : rz_S} {K : rz_S → Prop} (w : rz mM_power 2 [(0, .ref 116), (1, .int 0)] [] S (rz_v K)) : rz mM_power 0 [(0, .ref 116)] [] S (rz_v K) := by
  refine rz_iconst (v := 0) d_M_power_0 (by decide) ?_
  refine rz_pure (pc' := 2) (l' := [(1, .int 0), (0, .ref 116)]) d_M_power_1 rfl ?_
  exact rz_pick (ks := [0, 1]) (l := [(0, .ref 116), (1, .int 0)]) rfl rfl (by decide) rfl w
theorem p_M_power_2 {S : rz_S} {K : rz_S → Prop} {a1 : Int32} (w : ((15 ≤ a1 → rz_ev mM_sets [.ref 116, .int 73, .int 0, .int 0] (rz_uI (rz_uI S 116 2 (-1)) 116 3 (-1)) (rz_v (fun Sq2 => rz mM_power 61 [(0, .ref 116), (1, .int 0)] [] (rz_uI (rz_uI (rz_uI (rz_uI Sq2 116 61 0) 116 62 0) 116 67 0) 116 68 0) (rz_v K)))) ∧ (¬ 15 ≤ a1 → rx_in a1 15 = true ∧ rz mM_power 2 [(0, .ref 116), (1, .int (a1 + 1))] [] (rz_fA S 126 (upd (S.1 126) a1.toNatClampNeg 0)) (rz_v K)))) : rz mM_power 2 [(0, .ref 116), (1, .int a1)] [] S (rz_v K) := by
  refine rz_pure (pc' := 3) d_M_power_2 rfl ?_
  refine rz_bipush (v := 15) d_M_power_3 (by decide) ?_
  refine rz_icmpge (tgt := 21) d_M_power_5 rfl (fun b1 => ?_) (fun b1 => ?_)
  · skip
    refine rz_pure (pc' := 22) d_M_power_21 rfl ?_
    refine rz_iconst (v := -1) d_M_power_22 (by decide) ?_
    refine rz_puti d_M_power_23 f_12_90 rfl rfl rfl ?_
    refine rz_pure (pc' := 27) d_M_power_26 rfl ?_
    refine rz_iconst (v := -1) d_M_power_27 (by decide) ?_
    refine rz_puti d_M_power_28 f_12_93 rfl rfl rfl ?_
    refine rz_pure (pc' := 32) d_M_power_31 rfl ?_
    refine rz_bipush (v := 73) d_M_power_32 (by decide) ?_
    refine rz_iconst (v := 0) d_M_power_34 (by decide) ?_
    refine rz_iconst (v := 0) d_M_power_35 (by decide) ?_
    refine rz_callVv (t := [.int 0, .int 0, .int 73]) d_M_power_36 w_12_239 rfl rfl rfl (w.1 b1) (fun Sq2 q2 => ?_)
    refine rz_pure (pc' := 40) d_M_power_39 rfl ?_
    refine rz_iconst (v := 0) d_M_power_40 (by decide) ?_
    refine rz_puti d_M_power_41 f_12_242 rfl rfl rfl ?_
    refine rz_pure (pc' := 45) d_M_power_44 rfl ?_
    refine rz_iconst (v := 0) d_M_power_45 (by decide) ?_
    refine rz_puti d_M_power_46 f_12_245 rfl rfl rfl ?_
    refine rz_pure (pc' := 50) d_M_power_49 rfl ?_
    refine rz_iconst (v := 0) d_M_power_50 (by decide) ?_
    refine rz_puti d_M_power_51 f_12_371 rfl rfl rfl ?_
    refine rz_pure (pc' := 55) d_M_power_54 rfl ?_
    refine rz_iconst (v := 0) d_M_power_55 (by decide) ?_
    refine rz_puti d_M_power_56 f_12_374 rfl rfl rfl ?_
    refine rz_iconst (v := 0) d_M_power_59 (by decide) ?_
    refine rz_pure (pc' := 61) (l' := [(1, .int 0), (0, .ref 116)]) d_M_power_60 rfl ?_
    exact rz_pick (ks := [0, 1]) (l := [(0, .ref 116), (1, .int 0)]) rfl rfl (by decide) rfl q2
  · skip
    refine rz_pure (pc' := 9) d_M_power_8 rfl ?_
    refine rz_getr d_M_power_9 f_12_248 rfl rfl ?_
    refine rz_pure (pc' := 13) d_M_power_12 rfl ?_
    refine rz_iconst (v := 0) d_M_power_13 (by decide) ?_
    refine rz_iastv (F := S.1 126) (i := a1.toNatClampNeg) d_M_power_14 rfl (w.2 b1).1 rfl rfl ?_
    refine rz_pure (pc' := 18) (l' := [(1, .int (a1 + 1)), (0, .ref 116)]) d_M_power_15 rfl ?_
    refine rz_pure (pc' := 2) d_M_power_18 rfl ?_
    exact rz_pick (ks := [0, 1]) (l := [(0, .ref 116), (1, .int (a1 + 1))]) rfl rfl (by decide) rfl (w.2 b1).2
theorem p_M_power_61 {S : rz_S} {K : rz_S → Prop} {a1 : Int32} (w : ((2048 ≤ a1 → K (rz_uI (rz_uI (rz_uI (rz_uI (rz_uI (rz_uI (rz_uI S 116 75 0) 116 76 0) 116 77 0) 116 78 0) 116 79 0) 116 82 0) 116 81 0)) ∧ (¬ 2048 ≤ a1 → rx_in a1 2048 = true ∧ rz mM_power 61 [(0, .ref 116), (1, .int (a1 + 1))] [] (rz_fA S 155 (upd (S.1 155) a1.toNatClampNeg (vp_nar .byte 0))) (rz_v K)))) : rz mM_power 61 [(0, .ref 116), (1, .int a1)] [] S (rz_v K) := by
  refine rz_pure (pc' := 62) d_M_power_61 rfl ?_
  refine rz_sipush (v := 2048) d_M_power_62 (by decide) ?_
  refine rz_icmpge (tgt := 81) d_M_power_65 rfl (fun b1 => ?_) (fun b1 => ?_)
  · skip
    refine rz_pure (pc' := 82) d_M_power_81 rfl ?_
    refine rz_iconst (v := 0) d_M_power_82 (by decide) ?_
    refine rz_puti d_M_power_83 f_12_626 rfl rfl rfl ?_
    refine rz_pure (pc' := 87) d_M_power_86 rfl ?_
    refine rz_iconst (v := 0) d_M_power_87 (by decide) ?_
    refine rz_puti d_M_power_88 f_12_629 rfl rfl rfl ?_
    refine rz_pure (pc' := 92) d_M_power_91 rfl ?_
    refine rz_iconst (v := 0) d_M_power_92 (by decide) ?_
    refine rz_puti d_M_power_93 f_12_632 rfl rfl rfl ?_
    refine rz_pure (pc' := 97) d_M_power_96 rfl ?_
    refine rz_iconst (v := 0) d_M_power_97 (by decide) ?_
    refine rz_puti d_M_power_98 f_12_635 rfl rfl rfl ?_
    refine rz_pure (pc' := 102) d_M_power_101 rfl ?_
    refine rz_iconst (v := 0) d_M_power_102 (by decide) ?_
    refine rz_puti d_M_power_103 f_12_638 rfl rfl rfl ?_
    refine rz_pure (pc' := 107) d_M_power_106 rfl ?_
    refine rz_iconst (v := 0) d_M_power_107 (by decide) ?_
    refine rz_puti d_M_power_108 f_12_647 rfl rfl rfl ?_
    refine rz_pure (pc' := 112) d_M_power_111 rfl ?_
    refine rz_iconst (v := 0) d_M_power_112 (by decide) ?_
    refine rz_puti d_M_power_113 f_12_641 rfl rfl rfl ?_
    exact rz_vretv d_M_power_116 rfl (w.1 b1)
  · skip
    refine rz_pure (pc' := 69) d_M_power_68 rfl ?_
    refine rz_getr d_M_power_69 f_12_614 rfl rfl ?_
    refine rz_pure (pc' := 73) d_M_power_72 rfl ?_
    refine rz_iconst (v := 0) d_M_power_73 (by decide) ?_
    refine rz_bastv (F := S.1 155) (i := a1.toNatClampNeg) d_M_power_74 rfl (w.2 b1).1 rfl rfl ?_
    refine rz_pure (pc' := 78) (l' := [(1, .int (a1 + 1)), (0, .ref 116)]) d_M_power_75 rfl ?_
    refine rz_pure (pc' := 61) d_M_power_78 rfl ?_
    exact rz_pick (ks := [0, 1]) (l := [(0, .ref 116), (1, .int (a1 + 1))]) rfl rfl (by decide) rfl (w.2 b1).2
