/-! what each block of the code asks (printed by wpgen.py) -/
theorem d_Disk_format_0 : decode (rm_code mDisk_format) 0 = .ok (.aload_n 0, 1) := by decide +kernel
theorem d_Disk_format_1 : decode (rm_code mDisk_format) 1 = .ok (.iload_n 1, 1) := by decide +kernel
theorem d_Disk_format_2 : decode (rm_code mDisk_format) 2 = .ok (.invokevirtual 94, 3) := by decide +kernel
theorem d_Disk_format_5 : decode (rm_code mDisk_format) 5 = .ok (.astore 4, 2) := by decide +kernel
theorem d_Disk_format_7 : decode (rm_code mDisk_format) 7 = .ok (.aload 4, 2) := by decide +kernel
theorem d_Disk_format_9 : decode (rm_code mDisk_format) 9 = .ok (.ifnull (10), 3) := by decide +kernel
theorem d_Disk_format_12 : decode (rm_code mDisk_format) 12 = .ok (.aload_n 0, 1) := by decide +kernel
theorem d_Disk_format_13 : decode (rm_code mDisk_format) 13 = .ok (.getfield 121, 3) := by decide +kernel
theorem d_Disk_format_16 : decode (rm_code mDisk_format) 16 = .ok (.ifCond .eq (15), 3) := by decide +kernel
theorem d_Disk_format_19 : decode (rm_code mDisk_format) 19 = .ok (.aload_n 0, 1) := by decide +kernel
theorem d_Disk_format_20 : decode (rm_code mDisk_format) 20 = .ok (.getfield 40, 3) := by decide +kernel
theorem d_Disk_format_23 : decode (rm_code mDisk_format) 23 = .ok (.bipush (26), 2) := by decide +kernel
theorem d_Disk_format_25 : decode (rm_code mDisk_format) 25 = .ok (.iload_n 1, 1) := by decide +kernel
theorem d_Disk_format_26 : decode (rm_code mDisk_format) 26 = .ok (.iconst 0, 1) := by decide +kernel
theorem d_Disk_format_27 : decode (rm_code mDisk_format) 27 = .ok (.invokevirtual 88, 3) := by decide +kernel
theorem d_Disk_format_30 : decode (rm_code mDisk_format) 30 = .ok (.ireturn, 1) := by decide +kernel
theorem d_Disk_format_31 : decode (rm_code mDisk_format) 31 = .ok (.aload 4, 2) := by decide +kernel
theorem d_Disk_format_33 : decode (rm_code mDisk_format) 33 = .ok (.iconst 0, 1) := by decide +kernel
theorem d_Disk_format_34 : decode (rm_code mDisk_format) 34 = .ok (.iconst 0, 1) := by decide +kernel
theorem d_Disk_format_35 : decode (rm_code mDisk_format) 35 = .ok (.invokevirtual 72, 3) := by decide +kernel
theorem d_Disk_format_38 : decode (rm_code mDisk_format) 38 = .ok (.aload_n 0, 1) := by decide +kernel
theorem d_Disk_format_39 : decode (rm_code mDisk_format) 39 = .ok (.aconst_null, 1) := by decide +kernel
theorem d_Disk_format_40 : decode (rm_code mDisk_format) 40 = .ok (.invokevirtual 125, 3) := by decide +kernel
theorem d_Disk_format_43 : decode (rm_code mDisk_format) 43 = .ok (.iconst 0, 1) := by decide +kernel
theorem d_Disk_format_44 : decode (rm_code mDisk_format) 44 = .ok (.istore 5, 2) := by decide +kernel
theorem d_Disk_format_46 : decode (rm_code mDisk_format) 46 = .ok (.iload 5, 2) := by decide +kernel
theorem d_Disk_format_48 : decode (rm_code mDisk_format) 48 = .ok (.aload 4, 2) := by decide +kernel
theorem d_Disk_format_50 : decode (rm_code mDisk_format) 50 = .ok (.getfield 137, 3) := by decide +kernel
theorem d_Disk_format_53 : decode (rm_code mDisk_format) 53 = .ok (.if_icmp .ge (61), 3) := by decide +kernel
theorem d_Disk_format_56 : decode (rm_code mDisk_format) 56 = .ok (.aload_n 0, 1) := by decide +kernel
theorem d_Disk_format_57 : decode (rm_code mDisk_format) 57 = .ok (.iload_n 1, 1) := by decide +kernel
theorem d_Disk_format_58 : decode (rm_code mDisk_format) 58 = .ok (.iload 5, 2) := by decide +kernel
theorem d_Disk_format_60 : decode (rm_code mDisk_format) 60 = .ok (.iload_n 2, 1) := by decide +kernel
theorem d_Disk_format_61 : decode (rm_code mDisk_format) 61 = .ok (.iload_n 3, 1) := by decide +kernel
theorem d_Disk_format_62 : decode (rm_code mDisk_format) 62 = .ok (.invokevirtual 140, 3) := by decide +kernel
theorem d_Disk_format_65 : decode (rm_code mDisk_format) 65 = .ok (.aload_n 0, 1) := by decide +kernel
theorem d_Disk_format_66 : decode (rm_code mDisk_format) 66 = .ok (.getfield 24, 3) := by decide +kernel
theorem d_Disk_format_69 : decode (rm_code mDisk_format) 69 = .ok (.aload_n 0, 1) := by decide +kernel
theorem d_Disk_format_70 : decode (rm_code mDisk_format) 70 = .ok (.getfield 28, 3) := by decide +kernel
theorem d_Disk_format_73 : decode (rm_code mDisk_format) 73 = .ok (.invokestatic 144, 3) := by decide +kernel
theorem d_Disk_format_76 : decode (rm_code mDisk_format) 76 = .ok (.aload 4, 2) := by decide +kernel
theorem d_Disk_format_78 : decode (rm_code mDisk_format) 78 = .ok (.aload_n 0, 1) := by decide +kernel
theorem d_Disk_format_79 : decode (rm_code mDisk_format) 79 = .ok (.getfield 28, 3) := by decide +kernel
theorem d_Disk_format_82 : decode (rm_code mDisk_format) 82 = .ok (.invokevirtual 131, 3) := by decide +kernel
theorem d_Disk_format_85 : decode (rm_code mDisk_format) 85 = .ok (.aload 4, 2) := by decide +kernel
theorem d_Disk_format_87 : decode (rm_code mDisk_format) 87 = .ok (.bipush (9), 2) := by decide +kernel
theorem d_Disk_format_89 : decode (rm_code mDisk_format) 89 = .ok (.invokevirtual 148, 3) := by decide +kernel
theorem d_Disk_format_92 : decode (rm_code mDisk_format) 92 = .ok (.aload 4, 2) := by decide +kernel
theorem d_Disk_format_94 : decode (rm_code mDisk_format) 94 = .ok (.aload_n 0, 1) := by decide +kernel
theorem d_Disk_format_95 : decode (rm_code mDisk_format) 95 = .ok (.getfield 34, 3) := by decide +kernel
theorem d_Disk_format_98 : decode (rm_code mDisk_format) 98 = .ok (.invokevirtual 131, 3) := by decide +kernel
theorem d_Disk_format_101 : decode (rm_code mDisk_format) 101 = .ok (.aload 4, 2) := by decide +kernel
theorem d_Disk_format_103 : decode (rm_code mDisk_format) 103 = .ok (.bipush (8), 2) := by decide +kernel
theorem d_Disk_format_105 : decode (rm_code mDisk_format) 105 = .ok (.invokevirtual 148, 3) := by decide +kernel
theorem d_Disk_format_108 : decode (rm_code mDisk_format) 108 = .ok (.iinc 5 (1), 3) := by decide +kernel
theorem d_Disk_format_111 : decode (rm_code mDisk_format) 111 = .ok (.goto (-65), 3) := by decide +kernel
theorem d_Disk_format_114 : decode (rm_code mDisk_format) 114 = .ok (.aload 4, 2) := by decide +kernel
theorem d_Disk_format_116 : decode (rm_code mDisk_format) 116 = .ok (.invokevirtual 151, 3) := by decide +kernel
theorem d_Disk_format_119 : decode (rm_code mDisk_format) 119 = .ok (.iconst 0, 1) := by decide +kernel
theorem d_Disk_format_120 : decode (rm_code mDisk_format) 120 = .ok (.ireturn, 1) := by decide +kernel
theorem p_Disk_format_0 {S : rz_S} {K : Int32 → rz_S → Prop} {a1 : Int32} {a2 : Int32} {a3 : Int32} (w : rz_ev mDisk_ring [.ref 6, .int a1] S (rz_r (fun xq1 Sq1 => rz mDisk_format 5 [(0, .ref 6), (1, .int a1), (2, .int a2), (3, .int a3)] (xq1 :: []) Sq1 (rz_i K)))) : rz mDisk_format 0 [(0, .ref 6), (1, .int a1), (2, .int a2), (3, .int a3)] [] S (rz_i K) := by
  refine rz_pure (pc' := 1) d_Disk_format_0 rfl ?_
  refine rz_pure (pc' := 2) d_Disk_format_1 rfl ?_
  refine rz_callVr (t := [.int a1]) d_Disk_format_2 w_4_94 rfl rfl rfl w (fun xq1 Sq1 q1 => ?_)
  exact rz_pick (ks := [0, 1, 2, 3]) (l := [(0, .ref 6), (1, .int a1), (2, .int a2), (3, .int a3)]) rfl rfl (by decide) rfl q1
theorem p_Disk_format_5 {S : rz_S} {K : Int32 → rz_S → Prop} {a1 : Int32} {a2 : Int32} {a3 : Int32} (w : rz mDisk_format 19 [(0, .ref 6), (1, .int a1)] [] S (rz_i K)) : rz mDisk_format 5 [(0, .ref 6), (1, .int a1), (2, .int a2), (3, .int a3)] [.null] S (rz_i K) := by
  refine rz_pure (pc' := 7) (l' := [(4, .null), (0, .ref 6), (1, .int a1), (2, .int a2), (3, .int a3)]) d_Disk_format_5 rfl ?_
  refine rz_pure (pc' := 9) d_Disk_format_7 rfl ?_
  refine rz_pure (pc' := 19) d_Disk_format_9 rfl ?_
  exact rz_pick (ks := [0, 1]) (l := [(0, .ref 6), (1, .int a1)]) rfl rfl (by decide) rfl w
theorem p_Disk_format_5' {S : rz_S} {K : Int32 → rz_S → Prop} {a1 : Int32} {a2 : Int32} {a3 : Int32} {s0 : Nat} (hs0 : rgP s0) (w : ((S.2 6 0 = 0 → rz_ev mRing_goTo [.ref s0, .int 0, .int 0] S (rz_v (fun Sq2 => rz_ev mDisk_codeData [.ref 6, .null] Sq2 (rz_v (fun Sq3 => rz mDisk_format 46 [(0, .ref 6), (1, .int a1), (2, .int a2), (3, .int a3), (4, .ref s0), (5, .int 0)] [] Sq3 (rz_i K)))))) ∧ (¬ S.2 6 0 = 0 → rz mDisk_format 19 [(0, .ref 6), (1, .int a1)] [] S (rz_i K)))) : rz mDisk_format 5 [(0, .ref 6), (1, .int a1), (2, .int a2), (3, .int a3)] [.ref s0] S (rz_i K) := by
  have zs0 := rgZ hs0
  refine rz_pure (pc' := 7) (l' := [(4, .ref s0), (0, .ref 6), (1, .int a1), (2, .int a2), (3, .int a3)]) d_Disk_format_5 rfl ?_
  refine rz_pure (pc' := 9) d_Disk_format_7 rfl ?_
  refine rz_pure (pc' := 12) d_Disk_format_9 rfl ?_
  refine rz_pure (pc' := 13) d_Disk_format_12 rfl ?_
  refine rz_getiv (v := S.2 6 0) d_Disk_format_13 f_4_121 rfl rfl rfl ?_
  refine rz_ifeq (tgt := 31) d_Disk_format_16 rfl (fun b1 => ?_) (fun b1 => ?_)
  · skip
    refine rz_pure (pc' := 33) d_Disk_format_31 rfl ?_
    refine rz_iconst (v := 0) d_Disk_format_33 (by decide) ?_
    refine rz_iconst (v := 0) d_Disk_format_34 (by decide) ?_
    refine rz_callVv (t := [.int 0, .int 0]) d_Disk_format_35 w_4_72 rfl (rgT hs0) rfl (w.1 b1) (fun Sq2 q2 => ?_)
    refine rz_pure (pc' := 39) d_Disk_format_38 rfl ?_
    refine rz_pure (pc' := 40) d_Disk_format_39 rfl ?_
    refine rz_callVv (t := [.null]) d_Disk_format_40 w_4_125 rfl rfl rfl q2 (fun Sq3 q3 => ?_)
    refine rz_iconst (v := 0) d_Disk_format_43 (by decide) ?_
    refine rz_pure (pc' := 46) (l' := [(5, .int 0), (4, .ref s0), (0, .ref 6), (1, .int a1), (2, .int a2), (3, .int a3)]) d_Disk_format_44 rfl ?_
    exact rz_pick (ks := [0, 1, 2, 3, 4, 5]) (l := [(0, .ref 6), (1, .int a1), (2, .int a2), (3, .int a3), (4, .ref s0), (5, .int 0)]) rfl rfl (by decide) rfl q3
  · skip
    exact rz_pick (ks := [0, 1]) (l := [(0, .ref 6), (1, .int a1)]) rfl rfl (by decide) rfl (w.2 b1)
theorem p_Disk_format_19 {S : rz_S} {K : Int32 → rz_S → Prop} {a1 : Int32} (w : rz_ev mStatus_set [.ref 3, .int 26, .int a1, .int 0] S (rz_i (fun xq1 Sq1 => K xq1 Sq1))) : rz mDisk_format 19 [(0, .ref 6), (1, .int a1)] [] S (rz_i K) := by
  refine rz_pure (pc' := 20) d_Disk_format_19 rfl ?_
  refine rz_getr d_Disk_format_20 f_4_40 rfl rfl ?_
  refine rz_bipush (v := 26) d_Disk_format_23 (by decide) ?_
  refine rz_pure (pc' := 26) d_Disk_format_25 rfl ?_
  refine rz_iconst (v := 0) d_Disk_format_26 (by decide) ?_
  refine rz_callVi (t := [.int 0, .int a1, .int 26]) d_Disk_format_27 w_4_88 rfl rfl rfl w (fun xq1 Sq1 q1 => ?_)
  exact rz_ireti d_Disk_format_30 rfl rfl q1
theorem p_Disk_format_46 {S : rz_S} {K : Int32 → rz_S → Prop} {a1 : Int32} {a2 : Int32} {a3 : Int32} {a4 : Nat} (ha4 : rgP a4) {a5 : Int32} (w : ((S.2 a4 0 ≤ a5 → rz_ev mRing_putGapToEnd [.ref a4] S (rz_v (fun Sq2 => K 0 Sq2))) ∧ (¬ S.2 a4 0 ≤ a5 → rz_ev mDisk_fillHeader [.ref 6, .int a1, .int a5, .int a2, .int a3] S (rz_v (fun Sq3 => rz_ev mDisk_encode [.ref 8, .ref 9] Sq3 (rz_v (fun Sq4 => rz_ev mRing_putMarked [.ref a4, .ref 9] Sq4 (rz_v (fun Sq5 => rz_ev mRing_putGap [.ref a4, .int 9] Sq5 (rz_v (fun Sq6 => rz_ev mRing_putMarked [.ref a4, .ref 11] Sq6 (rz_v (fun Sq7 => rz_ev mRing_putGap [.ref a4, .int 8] Sq7 (rz_v (fun Sq8 => rz mDisk_format 46 [(0, .ref 6), (1, .int a1), (2, .int a2), (3, .int a3), (4, .ref a4), (5, .int (a5 + 1))] [] Sq8 (rz_i K)))))))))))))))) : rz mDisk_format 46 [(0, .ref 6), (1, .int a1), (2, .int a2), (3, .int a3), (4, .ref a4), (5, .int a5)] [] S (rz_i K) := by
  have za4 := rgZ ha4
  refine rz_pure (pc' := 48) d_Disk_format_46 rfl ?_
  refine rz_pure (pc' := 50) d_Disk_format_48 rfl ?_
  refine rz_getiv (v := S.2 a4 0) d_Disk_format_50 f_4_137 (rgT ha4) rfl rfl ?_
  refine rz_icmpge (tgt := 114) d_Disk_format_53 rfl (fun b1 => ?_) (fun b1 => ?_)
  · skip
    refine rz_pure (pc' := 116) d_Disk_format_114 rfl ?_
    refine rz_callVv (t := []) d_Disk_format_116 w_4_151 rfl (rgT ha4) rfl (w.1 b1) (fun Sq2 q2 => ?_)
    refine rz_iconst (v := 0) d_Disk_format_119 (by decide) ?_
    exact rz_ireti d_Disk_format_120 rfl rfl q2
  · skip
    refine rz_pure (pc' := 57) d_Disk_format_56 rfl ?_
    refine rz_pure (pc' := 58) d_Disk_format_57 rfl ?_
    refine rz_pure (pc' := 60) d_Disk_format_58 rfl ?_
    refine rz_pure (pc' := 61) d_Disk_format_60 rfl ?_
    refine rz_pure (pc' := 62) d_Disk_format_61 rfl ?_
    refine rz_callVv (t := [.int a3, .int a2, .int a5, .int a1]) d_Disk_format_62 w_4_140 rfl rfl rfl (w.2 b1) (fun Sq3 q3 => ?_)
    refine rz_pure (pc' := 66) d_Disk_format_65 rfl ?_
    refine rz_getr d_Disk_format_66 f_4_24 rfl rfl ?_
    refine rz_pure (pc' := 70) d_Disk_format_69 rfl ?_
    refine rz_getr d_Disk_format_70 f_4_28 rfl rfl ?_
    refine rz_callSv (t := [.ref 9, .ref 8]) d_Disk_format_73 rfl w_4_144 rfl rfl q3 (fun Sq4 q4 => ?_)
    refine rz_pure (pc' := 78) d_Disk_format_76 rfl ?_
    refine rz_pure (pc' := 79) d_Disk_format_78 rfl ?_
    refine rz_getr d_Disk_format_79 f_4_28 rfl rfl ?_
    refine rz_callVv (t := [.ref 9]) d_Disk_format_82 w_4_131 rfl (rgT ha4) rfl q4 (fun Sq5 q5 => ?_)
    refine rz_pure (pc' := 87) d_Disk_format_85 rfl ?_
    refine rz_bipush (v := 9) d_Disk_format_87 (by decide) ?_
    refine rz_callVv (t := [.int 9]) d_Disk_format_89 w_4_148 rfl (rgT ha4) rfl q5 (fun Sq6 q6 => ?_)
    refine rz_pure (pc' := 94) d_Disk_format_92 rfl ?_
    refine rz_pure (pc' := 95) d_Disk_format_94 rfl ?_
    refine rz_getr d_Disk_format_95 f_4_34 rfl rfl ?_
    refine rz_callVv (t := [.ref 11]) d_Disk_format_98 w_4_131 rfl (rgT ha4) rfl q6 (fun Sq7 q7 => ?_)
    refine rz_pure (pc' := 103) d_Disk_format_101 rfl ?_
    refine rz_bipush (v := 8) d_Disk_format_103 (by decide) ?_
    refine rz_callVv (t := [.int 8]) d_Disk_format_105 w_4_148 rfl (rgT ha4) rfl q7 (fun Sq8 q8 => ?_)
    refine rz_pure (pc' := 111) (l' := [(5, .int (a5 + 1)), (0, .ref 6), (1, .int a1), (2, .int a2), (3, .int a3), (4, .ref a4)]) d_Disk_format_108 rfl ?_
    refine rz_pure (pc' := 46) d_Disk_format_111 rfl ?_
    exact rz_pick (ks := [0, 1, 2, 3, 4, 5]) (l := [(0, .ref 6), (1, .int a1), (2, .int a2), (3, .int a3), (4, .ref a4), (5, .int (a5 + 1))]) rfl rfl (by decide) rfl q8
theorem d_Disk_ring_0 : decode (rm_code mDisk_ring) 0 = .ok (.iload_n 1, 1) := by decide +kernel
theorem d_Disk_ring_1 : decode (rm_code mDisk_ring) 1 = .ok (.iconst 1, 1) := by decide +kernel
theorem d_Disk_ring_2 : decode (rm_code mDisk_ring) 2 = .ok (.if_icmp .lt (20), 3) := by decide +kernel
theorem d_Disk_ring_5 : decode (rm_code mDisk_ring) 5 = .ok (.iload_n 1, 1) := by decide +kernel
theorem d_Disk_ring_6 : decode (rm_code mDisk_ring) 6 = .ok (.bipush (12), 2) := by decide +kernel
theorem d_Disk_ring_8 : decode (rm_code mDisk_ring) 8 = .ok (.if_icmp .gt (14), 3) := by decide +kernel
theorem d_Disk_ring_11 : decode (rm_code mDisk_ring) 11 = .ok (.aload_n 0, 1) := by decide +kernel
theorem d_Disk_ring_12 : decode (rm_code mDisk_ring) 12 = .ok (.getfield 20, 3) := by decide +kernel
theorem d_Disk_ring_15 : decode (rm_code mDisk_ring) 15 = .ok (.iload_n 1, 1) := by decide +kernel
theorem d_Disk_ring_16 : decode (rm_code mDisk_ring) 16 = .ok (.iconst 1, 1) := by decide +kernel
theorem d_Disk_ring_17 : decode (rm_code mDisk_ring) 17 = .ok (.isub, 1) := by decide +kernel
theorem d_Disk_ring_18 : decode (rm_code mDisk_ring) 18 = .ok (.aaload, 1) := by decide +kernel
theorem d_Disk_ring_19 : decode (rm_code mDisk_ring) 19 = .ok (.goto (4), 3) := by decide +kernel
theorem d_Disk_ring_22 : decode (rm_code mDisk_ring) 22 = .ok (.aconst_null, 1) := by decide +kernel
theorem d_Disk_ring_23 : decode (rm_code mDisk_ring) 23 = .ok (.areturn, 1) := by decide +kernel
theorem p_Disk_ring_0 {S : rz_S} {K : Value → rz_S → Prop} {a1 : Int32} (w : ((a1 < 1 → K (.null) S) ∧ (¬ a1 < 1 → ((12 < a1 → K (.null) S) ∧ (¬ 12 < a1 → rx_in (a1 - 1) 12 = true ∧ K (.ref (13 + 2 * (a1 - 1).toNatClampNeg)) S))))) : rz mDisk_ring 0 [(0, .ref 6), (1, .int a1)] [] S (rz_r K) := by
  refine rz_pure (pc' := 1) d_Disk_ring_0 rfl ?_
  refine rz_iconst (v := 1) d_Disk_ring_1 (by decide) ?_
  refine rz_icmplt (tgt := 22) d_Disk_ring_2 rfl (fun b1 => ?_) (fun b1 => ?_)
  · skip
    refine rz_pure (pc' := 23) d_Disk_ring_22 rfl ?_
    exact rz_anull d_Disk_ring_23 rfl ⟨_, rfl, (w.1 b1)⟩
  · skip
    refine rz_pure (pc' := 6) d_Disk_ring_5 rfl ?_
    refine rz_bipush (v := 12) d_Disk_ring_6 (by decide) ?_
    refine rz_icmpgt (tgt := 22) d_Disk_ring_8 rfl (fun b2 => ?_) (fun b2 => ?_)
    · skip
      refine rz_pure (pc' := 23) d_Disk_ring_22 rfl ?_
      exact rz_anull d_Disk_ring_23 rfl ⟨_, rfl, ((w.2 b1).1 b2)⟩
    · skip
      refine rz_pure (pc' := 12) d_Disk_ring_11 rfl ?_
      refine rz_getr d_Disk_ring_12 f_4_20 rfl rfl ?_
      refine rz_pure (pc' := 16) d_Disk_ring_15 rfl ?_
      refine rz_iconst (v := 1) d_Disk_ring_16 (by decide) ?_
      refine rz_isub d_Disk_ring_17 ?_
      have e3 := rgI ((w.2 b1).2 b2).1
      have ze3 := rgZ e3
      refine rz_aldR d_Disk_ring_18 rfl ((w.2 b1).2 b2).1 ?_
      refine rz_pure (pc' := 23) d_Disk_ring_19 rfl ?_
      exact rz_aret d_Disk_ring_23 rfl ⟨_, rfl, ((w.2 b1).2 b2).2⟩
theorem d_Disk_codeData_0 : decode (rm_code mDisk_codeData) 0 = .ok (.iconst 0, 1) := by decide +kernel
theorem d_Disk_codeData_1 : decode (rm_code mDisk_codeData) 1 = .ok (.istore_n 2, 1) := by decide +kernel
theorem d_Disk_codeData_2 : decode (rm_code mDisk_codeData) 2 = .ok (.aload_n 0, 1) := by decide +kernel
theorem d_Disk_codeData_3 : decode (rm_code mDisk_codeData) 3 = .ok (.getfield 31, 3) := by decide +kernel
theorem d_Disk_codeData_6 : decode (rm_code mDisk_codeData) 6 = .ok (.iconst 0, 1) := by decide +kernel
theorem d_Disk_codeData_7 : decode (rm_code mDisk_codeData) 7 = .ok (.bipush (7), 2) := by decide +kernel
theorem d_Disk_codeData_9 : decode (rm_code mDisk_codeData) 9 = .ok (.iastore, 1) := by decide +kernel
theorem d_Disk_codeData_10 : decode (rm_code mDisk_codeData) 10 = .ok (.iconst 0, 1) := by decide +kernel
theorem d_Disk_codeData_11 : decode (rm_code mDisk_codeData) 11 = .ok (.istore_n 3, 1) := by decide +kernel
theorem d_Disk_codeData_12 : decode (rm_code mDisk_codeData) 12 = .ok (.iload_n 3, 1) := by decide +kernel
theorem d_Disk_codeData_13 : decode (rm_code mDisk_codeData) 13 = .ok (.bipush (64), 2) := by decide +kernel
theorem d_Disk_codeData_15 : decode (rm_code mDisk_codeData) 15 = .ok (.if_icmp .ge (45), 3) := by decide +kernel
theorem d_Disk_codeData_18 : decode (rm_code mDisk_codeData) 18 = .ok (.aload_n 0, 1) := by decide +kernel
theorem d_Disk_codeData_19 : decode (rm_code mDisk_codeData) 19 = .ok (.getfield 31, 3) := by decide +kernel
theorem d_Disk_codeData_22 : decode (rm_code mDisk_codeData) 22 = .ok (.iload_n 3, 1) := by decide +kernel
theorem d_Disk_codeData_23 : decode (rm_code mDisk_codeData) 23 = .ok (.iconst 1, 1) := by decide +kernel
theorem d_Disk_codeData_24 : decode (rm_code mDisk_codeData) 24 = .ok (.iadd, 1) := by decide +kernel
theorem d_Disk_codeData_25 : decode (rm_code mDisk_codeData) 25 = .ok (.aload_n 1, 1) := by decide +kernel
theorem d_Disk_codeData_26 : decode (rm_code mDisk_codeData) 26 = .ok (.ifnull (15), 3) := by decide +kernel
theorem d_Disk_codeData_29 : decode (rm_code mDisk_codeData) 29 = .ok (.iload_n 3, 1) := by decide +kernel
theorem d_Disk_codeData_30 : decode (rm_code mDisk_codeData) 30 = .ok (.aload_n 1, 1) := by decide +kernel
theorem d_Disk_codeData_31 : decode (rm_code mDisk_codeData) 31 = .ok (.arraylength, 1) := by decide +kernel
theorem d_Disk_codeData_32 : decode (rm_code mDisk_codeData) 32 = .ok (.if_icmp .ge (9), 3) := by decide +kernel
theorem d_Disk_codeData_35 : decode (rm_code mDisk_codeData) 35 = .ok (.aload_n 1, 1) := by decide +kernel
theorem d_Disk_codeData_36 : decode (rm_code mDisk_codeData) 36 = .ok (.iload_n 3, 1) := by decide +kernel
theorem d_Disk_codeData_37 : decode (rm_code mDisk_codeData) 37 = .ok (.iaload, 1) := by decide +kernel
theorem d_Disk_codeData_38 : decode (rm_code mDisk_codeData) 38 = .ok (.goto (4), 3) := by decide +kernel
theorem d_Disk_codeData_41 : decode (rm_code mDisk_codeData) 41 = .ok (.iconst 0, 1) := by decide +kernel
theorem d_Disk_codeData_42 : decode (rm_code mDisk_codeData) 42 = .ok (.iastore, 1) := by decide +kernel
theorem d_Disk_codeData_43 : decode (rm_code mDisk_codeData) 43 = .ok (.iload_n 2, 1) := by decide +kernel
theorem d_Disk_codeData_44 : decode (rm_code mDisk_codeData) 44 = .ok (.aload_n 0, 1) := by decide +kernel
theorem d_Disk_codeData_45 : decode (rm_code mDisk_codeData) 45 = .ok (.getfield 31, 3) := by decide +kernel
theorem d_Disk_codeData_48 : decode (rm_code mDisk_codeData) 48 = .ok (.iload_n 3, 1) := by decide +kernel
theorem d_Disk_codeData_49 : decode (rm_code mDisk_codeData) 49 = .ok (.iconst 1, 1) := by decide +kernel
theorem d_Disk_codeData_50 : decode (rm_code mDisk_codeData) 50 = .ok (.iadd, 1) := by decide +kernel
theorem d_Disk_codeData_51 : decode (rm_code mDisk_codeData) 51 = .ok (.iaload, 1) := by decide +kernel
theorem d_Disk_codeData_52 : decode (rm_code mDisk_codeData) 52 = .ok (.ixor, 1) := by decide +kernel
theorem d_Disk_codeData_53 : decode (rm_code mDisk_codeData) 53 = .ok (.istore_n 2, 1) := by decide +kernel
theorem d_Disk_codeData_54 : decode (rm_code mDisk_codeData) 54 = .ok (.iinc 3 (1), 3) := by decide +kernel
theorem d_Disk_codeData_57 : decode (rm_code mDisk_codeData) 57 = .ok (.goto (-45), 3) := by decide +kernel
theorem d_Disk_codeData_60 : decode (rm_code mDisk_codeData) 60 = .ok (.aload_n 0, 1) := by decide +kernel
theorem d_Disk_codeData_61 : decode (rm_code mDisk_codeData) 61 = .ok (.getfield 31, 3) := by decide +kernel
theorem d_Disk_codeData_64 : decode (rm_code mDisk_codeData) 64 = .ok (.bipush (65), 2) := by decide +kernel
theorem d_Disk_codeData_66 : decode (rm_code mDisk_codeData) 66 = .ok (.iload_n 2, 1) := by decide +kernel
theorem d_Disk_codeData_67 : decode (rm_code mDisk_codeData) 67 = .ok (.iastore, 1) := by decide +kernel
theorem d_Disk_codeData_68 : decode (rm_code mDisk_codeData) 68 = .ok (.aload_n 0, 1) := by decide +kernel
theorem d_Disk_codeData_69 : decode (rm_code mDisk_codeData) 69 = .ok (.getfield 31, 3) := by decide +kernel
theorem d_Disk_codeData_72 : decode (rm_code mDisk_codeData) 72 = .ok (.bipush (66), 2) := by decide +kernel
theorem d_Disk_codeData_74 : decode (rm_code mDisk_codeData) 74 = .ok (.iconst 0, 1) := by decide +kernel
theorem d_Disk_codeData_75 : decode (rm_code mDisk_codeData) 75 = .ok (.iastore, 1) := by decide +kernel
theorem d_Disk_codeData_76 : decode (rm_code mDisk_codeData) 76 = .ok (.aload_n 0, 1) := by decide +kernel
theorem d_Disk_codeData_77 : decode (rm_code mDisk_codeData) 77 = .ok (.getfield 31, 3) := by decide +kernel
theorem d_Disk_codeData_80 : decode (rm_code mDisk_codeData) 80 = .ok (.bipush (67), 2) := by decide +kernel
theorem d_Disk_codeData_82 : decode (rm_code mDisk_codeData) 82 = .ok (.iconst 0, 1) := by decide +kernel
theorem d_Disk_codeData_83 : decode (rm_code mDisk_codeData) 83 = .ok (.iastore, 1) := by decide +kernel
theorem d_Disk_codeData_84 : decode (rm_code mDisk_codeData) 84 = .ok (.aload_n 0, 1) := by decide +kernel
theorem d_Disk_codeData_85 : decode (rm_code mDisk_codeData) 85 = .ok (.getfield 31, 3) := by decide +kernel
theorem d_Disk_codeData_88 : decode (rm_code mDisk_codeData) 88 = .ok (.aload_n 0, 1) := by decide +kernel
theorem d_Disk_codeData_89 : decode (rm_code mDisk_codeData) 89 = .ok (.getfield 34, 3) := by decide +kernel
theorem d_Disk_codeData_92 : decode (rm_code mDisk_codeData) 92 = .ok (.invokestatic 144, 3) := by decide +kernel
theorem d_Disk_codeData_95 : decode (rm_code mDisk_codeData) 95 = .ok (.return_, 1) := by decide +kernel
theorem p_Disk_codeData_0 {S : rz_S} {K : rz_S → Prop} {a1 na1 : Nat} (ha1 : rz_T[a1]? = some (.inl (0, na1))) (w : rz mDisk_codeData 12 [(0, .ref 6), (1, .ref a1), (2, .int 0), (3, .int 0)] [] (rz_fA S 10 (upd (S.1 10) 0 7)) (rz_v K)) : rz mDisk_codeData 0 [(0, .ref 6), (1, .ref a1)] [] S (rz_v K) := by
  refine rz_iconst (v := 0) d_Disk_codeData_0 (by decide) ?_
  refine rz_pure (pc' := 2) (l' := [(2, .int 0), (0, .ref 6), (1, .ref a1)]) d_Disk_codeData_1 rfl ?_
  refine rz_pure (pc' := 3) d_Disk_codeData_2 rfl ?_
  refine rz_getr d_Disk_codeData_3 f_4_31 rfl rfl ?_
  refine rz_iconst (v := 0) d_Disk_codeData_6 (by decide) ?_
  refine rz_bipush (v := 7) d_Disk_codeData_7 (by decide) ?_
  refine rz_iastv (F := S.1 10) (i := 0) d_Disk_codeData_9 rfl (by decide) rfl (by decide) ?_
  refine rz_iconst (v := 0) d_Disk_codeData_10 (by decide) ?_
  refine rz_pure (pc' := 12) (l' := [(3, .int 0), (2, .int 0), (0, .ref 6), (1, .ref a1)]) d_Disk_codeData_11 rfl ?_
  exact rz_pick (ks := [0, 1, 2, 3]) (l := [(0, .ref 6), (1, .ref a1), (2, .int 0), (3, .int 0)]) rfl rfl (by decide) rfl w
theorem p_Disk_codeData_12 {S : rz_S} {K : rz_S → Prop} {a1 na1 : Nat} (ha1 : rz_T[a1]? = some (.inl (0, na1))) {a2 : Int32} {a3 : Int32} (w : ((64 ≤ a3 → rz_ev mDisk_encode [.ref 10, .ref 11] (rz_fA (rz_fA (rz_fA S 10 (upd (S.1 10) 65 a2)) 10 (upd (upd (S.1 10) 65 a2) 66 0)) 10 (upd (upd (upd (S.1 10) 65 a2) 66 0) 67 0)) (rz_v (fun Sq2 => K Sq2))) ∧ (¬ 64 ≤ a3 → ((Int32.ofNat na1 ≤ a3 → rz mDisk_codeData 41 [(0, .ref 6), (1, .ref a1), (2, .int a2), (3, .int a3)] [.int (a3 + 1), .ref 10] S (rz_v K)) ∧ (¬ Int32.ofNat na1 ≤ a3 → rx_in a3 na1 = true ∧ rz mDisk_codeData 42 [(0, .ref 6), (1, .ref a1), (2, .int a2), (3, .int a3)] [.int (S.1 a1 a3.toNatClampNeg), .int (a3 + 1), .ref 10] S (rz_v K)))))) : rz mDisk_codeData 12 [(0, .ref 6), (1, .ref a1), (2, .int a2), (3, .int a3)] [] S (rz_v K) := by
  refine rz_pure (pc' := 13) d_Disk_codeData_12 rfl ?_
  refine rz_bipush (v := 64) d_Disk_codeData_13 (by decide) ?_
  refine rz_icmpge (tgt := 60) d_Disk_codeData_15 rfl (fun b1 => ?_) (fun b1 => ?_)
  · skip
    refine rz_pure (pc' := 61) d_Disk_codeData_60 rfl ?_
    refine rz_getr d_Disk_codeData_61 f_4_31 rfl rfl ?_
    refine rz_bipush (v := 65) d_Disk_codeData_64 (by decide) ?_
    refine rz_pure (pc' := 67) d_Disk_codeData_66 rfl ?_
    refine rz_iastv (F := S.1 10) (i := 65) d_Disk_codeData_67 rfl (by decide) rfl (by decide) ?_
    refine rz_pure (pc' := 69) d_Disk_codeData_68 rfl ?_
    refine rz_getr d_Disk_codeData_69 f_4_31 rfl rfl ?_
    refine rz_bipush (v := 66) d_Disk_codeData_72 (by decide) ?_
    refine rz_iconst (v := 0) d_Disk_codeData_74 (by decide) ?_
    refine rz_iastv (F := upd (S.1 10) 65 a2) (i := 66) d_Disk_codeData_75 rfl (by decide) rz_fA_s (by decide) ?_
    refine rz_pure (pc' := 77) d_Disk_codeData_76 rfl ?_
    refine rz_getr d_Disk_codeData_77 f_4_31 rfl rfl ?_
    refine rz_bipush (v := 67) d_Disk_codeData_80 (by decide) ?_
    refine rz_iconst (v := 0) d_Disk_codeData_82 (by decide) ?_
    refine rz_iastv (F := upd (upd (S.1 10) 65 a2) 66 0) (i := 67) d_Disk_codeData_83 rfl (by decide) rz_fA_s (by decide) ?_
    refine rz_pure (pc' := 85) d_Disk_codeData_84 rfl ?_
    refine rz_getr d_Disk_codeData_85 f_4_31 rfl rfl ?_
    refine rz_pure (pc' := 89) d_Disk_codeData_88 rfl ?_
    refine rz_getr d_Disk_codeData_89 f_4_34 rfl rfl ?_
    refine rz_callSv (t := [.ref 11, .ref 10]) d_Disk_codeData_92 rfl w_4_144 rfl rfl (w.1 b1) (fun Sq2 q2 => ?_)
    exact rz_vretv d_Disk_codeData_95 rfl q2
  · skip
    refine rz_pure (pc' := 19) d_Disk_codeData_18 rfl ?_
    refine rz_getr d_Disk_codeData_19 f_4_31 rfl rfl ?_
    refine rz_pure (pc' := 23) d_Disk_codeData_22 rfl ?_
    refine rz_iconst (v := 1) d_Disk_codeData_23 (by decide) ?_
    refine rz_iadd d_Disk_codeData_24 ?_
    refine rz_pure (pc' := 26) d_Disk_codeData_25 rfl ?_
    refine rz_pure (pc' := 29) d_Disk_codeData_26 rfl ?_
    refine rz_pure (pc' := 30) d_Disk_codeData_29 rfl ?_
    refine rz_pure (pc' := 31) d_Disk_codeData_30 rfl ?_
    refine rz_alenv (v := Int32.ofNat na1) d_Disk_codeData_31 (ha1) (by decide) rfl ?_
    refine rz_icmpge (tgt := 41) d_Disk_codeData_32 rfl (fun b3 => ?_) (fun b3 => ?_)
    · skip
      exact rz_pick (ks := [0, 1, 2, 3]) (l := [(0, .ref 6), (1, .ref a1), (2, .int a2), (3, .int a3)]) rfl rfl (by decide) rfl ((w.2 b1).1 b3)
    · skip
      refine rz_pure (pc' := 36) d_Disk_codeData_35 rfl ?_
      refine rz_pure (pc' := 37) d_Disk_codeData_36 rfl ?_
      refine rz_ialdv (F := S.1 a1) (i := a3.toNatClampNeg) d_Disk_codeData_37 (ha1) ((w.2 b1).2 b3).1 rfl rfl ?_
      refine rz_pure (pc' := 42) d_Disk_codeData_38 rfl ?_
      exact rz_pick (ks := [0, 1, 2, 3]) (l := [(0, .ref 6), (1, .ref a1), (2, .int a2), (3, .int a3)]) rfl rfl (by decide) rfl ((w.2 b1).2 b3).2
theorem p_Disk_codeData_41 {S : rz_S} {K : rz_S → Prop} {a1 na1 : Nat} (ha1 : rz_T[a1]? = some (.inl (0, na1))) {a2 : Int32} {a3 : Int32} {s0 : Int32} (w : rz mDisk_codeData 42 [(0, .ref 6), (1, .ref a1), (2, .int a2), (3, .int a3)] [.int 0, .int s0, .ref 10] S (rz_v K)) : rz mDisk_codeData 41 [(0, .ref 6), (1, .ref a1), (2, .int a2), (3, .int a3)] [.int s0, .ref 10] S (rz_v K) := by
  refine rz_iconst (v := 0) d_Disk_codeData_41 (by decide) ?_
  exact rz_pick (ks := [0, 1, 2, 3]) (l := [(0, .ref 6), (1, .ref a1), (2, .int a2), (3, .int a3)]) rfl rfl (by decide) rfl w
theorem p_Disk_codeData_42 {S : rz_S} {K : rz_S → Prop} {a1 na1 : Nat} (ha1 : rz_T[a1]? = some (.inl (0, na1))) {a2 : Int32} {a3 : Int32} {s0 : Int32} {s1 : Int32} (w : rx_in s1 68 = true ∧ rx_in (a3 + 1) 68 = true ∧ rz mDisk_codeData 12 [(0, .ref 6), (1, .ref a1), (2, .int (a2 ^^^ ((upd (S.1 10) s1.toNatClampNeg s0) ((a3 + 1).toNatClampNeg)))), (3, .int (a3 + 1))] [] (rz_fA S 10 (upd (S.1 10) s1.toNatClampNeg s0)) (rz_v K)) : rz mDisk_codeData 42 [(0, .ref 6), (1, .ref a1), (2, .int a2), (3, .int a3)] [.int s0, .int s1, .ref 10] S (rz_v K) := by
  refine rz_iastv (F := S.1 10) (i := s1.toNatClampNeg) d_Disk_codeData_42 rfl w.1 rfl rfl ?_
  refine rz_pure (pc' := 44) d_Disk_codeData_43 rfl ?_
  refine rz_pure (pc' := 45) d_Disk_codeData_44 rfl ?_
  refine rz_getr d_Disk_codeData_45 f_4_31 rfl rfl ?_
  refine rz_pure (pc' := 49) d_Disk_codeData_48 rfl ?_
  refine rz_iconst (v := 1) d_Disk_codeData_49 (by decide) ?_
  refine rz_iadd d_Disk_codeData_50 ?_
  refine rz_ialdv (F := upd (S.1 10) s1.toNatClampNeg s0) (i := (a3 + 1).toNatClampNeg) d_Disk_codeData_51 rfl w.2.1 rz_fA_s rfl ?_
  refine rz_ixor d_Disk_codeData_52 ?_
  refine rz_pure (pc' := 54) (l' := [(2, .int (a2 ^^^ ((upd (S.1 10) s1.toNatClampNeg s0) ((a3 + 1).toNatClampNeg)))), (0, .ref 6), (1, .ref a1), (3, .int a3)]) d_Disk_codeData_53 rfl ?_
  refine rz_pure (pc' := 57) (l' := [(3, .int (a3 + 1)), (2, .int (a2 ^^^ ((upd (S.1 10) s1.toNatClampNeg s0) ((a3 + 1).toNatClampNeg)))), (0, .ref 6), (1, .ref a1)]) d_Disk_codeData_54 rfl ?_
  refine rz_pure (pc' := 12) d_Disk_codeData_57 rfl ?_
  exact rz_pick (ks := [0, 1, 2, 3]) (l := [(0, .ref 6), (1, .ref a1), (2, .int (a2 ^^^ ((upd (S.1 10) s1.toNatClampNeg s0) ((a3 + 1).toNatClampNeg)))), (3, .int (a3 + 1))]) rfl rfl (by decide) rfl w.2.2
theorem p_Disk_codeData_0n {S : rz_S} {K : rz_S → Prop} (w : rz mDisk_codeData 12 [(0, .ref 6), (1, .null), (2, .int 0), (3, .int 0)] [] (rz_fA S 10 (upd (S.1 10) 0 7)) (rz_v K)) : rz mDisk_codeData 0 [(0, .ref 6), (1, .null)] [] S (rz_v K) := by
  refine rz_iconst (v := 0) d_Disk_codeData_0 (by decide) ?_
  refine rz_pure (pc' := 2) (l' := [(2, .int 0), (0, .ref 6), (1, .null)]) d_Disk_codeData_1 rfl ?_
  refine rz_pure (pc' := 3) d_Disk_codeData_2 rfl ?_
  refine rz_getr d_Disk_codeData_3 f_4_31 rfl rfl ?_
  refine rz_iconst (v := 0) d_Disk_codeData_6 (by decide) ?_
  refine rz_bipush (v := 7) d_Disk_codeData_7 (by decide) ?_
  refine rz_iastv (F := S.1 10) (i := 0) d_Disk_codeData_9 rfl (by decide) rfl (by decide) ?_
  refine rz_iconst (v := 0) d_Disk_codeData_10 (by decide) ?_
  refine rz_pure (pc' := 12) (l' := [(3, .int 0), (2, .int 0), (0, .ref 6), (1, .null)]) d_Disk_codeData_11 rfl ?_
  exact rz_pick (ks := [0, 1, 2, 3]) (l := [(0, .ref 6), (1, .null), (2, .int 0), (3, .int 0)]) rfl rfl (by decide) rfl w
theorem p_Disk_codeData_12n {S : rz_S} {K : rz_S → Prop} {a2 : Int32} {a3 : Int32} (w : ((64 ≤ a3 → rz_ev mDisk_encode [.ref 10, .ref 11] (rz_fA (rz_fA (rz_fA S 10 (upd (S.1 10) 65 a2)) 10 (upd (upd (S.1 10) 65 a2) 66 0)) 10 (upd (upd (upd (S.1 10) 65 a2) 66 0) 67 0)) (rz_v (fun Sq2 => K Sq2))) ∧ (¬ 64 ≤ a3 → rz mDisk_codeData 41 [(0, .ref 6), (1, .null), (2, .int a2), (3, .int a3)] [.int (a3 + 1), .ref 10] S (rz_v K)))) : rz mDisk_codeData 12 [(0, .ref 6), (1, .null), (2, .int a2), (3, .int a3)] [] S (rz_v K) := by
  refine rz_pure (pc' := 13) d_Disk_codeData_12 rfl ?_
  refine rz_bipush (v := 64) d_Disk_codeData_13 (by decide) ?_
  refine rz_icmpge (tgt := 60) d_Disk_codeData_15 rfl (fun b1 => ?_) (fun b1 => ?_)
  · skip
    refine rz_pure (pc' := 61) d_Disk_codeData_60 rfl ?_
    refine rz_getr d_Disk_codeData_61 f_4_31 rfl rfl ?_
    refine rz_bipush (v := 65) d_Disk_codeData_64 (by decide) ?_
    refine rz_pure (pc' := 67) d_Disk_codeData_66 rfl ?_
    refine rz_iastv (F := S.1 10) (i := 65) d_Disk_codeData_67 rfl (by decide) rfl (by decide) ?_
    refine rz_pure (pc' := 69) d_Disk_codeData_68 rfl ?_
    refine rz_getr d_Disk_codeData_69 f_4_31 rfl rfl ?_
    refine rz_bipush (v := 66) d_Disk_codeData_72 (by decide) ?_
    refine rz_iconst (v := 0) d_Disk_codeData_74 (by decide) ?_
    refine rz_iastv (F := upd (S.1 10) 65 a2) (i := 66) d_Disk_codeData_75 rfl (by decide) rz_fA_s (by decide) ?_
    refine rz_pure (pc' := 77) d_Disk_codeData_76 rfl ?_
    refine rz_getr d_Disk_codeData_77 f_4_31 rfl rfl ?_
    refine rz_bipush (v := 67) d_Disk_codeData_80 (by decide) ?_
    refine rz_iconst (v := 0) d_Disk_codeData_82 (by decide) ?_
    refine rz_iastv (F := upd (upd (S.1 10) 65 a2) 66 0) (i := 67) d_Disk_codeData_83 rfl (by decide) rz_fA_s (by decide) ?_
    refine rz_pure (pc' := 85) d_Disk_codeData_84 rfl ?_
    refine rz_getr d_Disk_codeData_85 f_4_31 rfl rfl ?_
    refine rz_pure (pc' := 89) d_Disk_codeData_88 rfl ?_
    refine rz_getr d_Disk_codeData_89 f_4_34 rfl rfl ?_
    refine rz_callSv (t := [.ref 11, .ref 10]) d_Disk_codeData_92 rfl w_4_144 rfl rfl (w.1 b1) (fun Sq2 q2 => ?_)
    exact rz_vretv d_Disk_codeData_95 rfl q2
  · skip
    refine rz_pure (pc' := 19) d_Disk_codeData_18 rfl ?_
    refine rz_getr d_Disk_codeData_19 f_4_31 rfl rfl ?_
    refine rz_pure (pc' := 23) d_Disk_codeData_22 rfl ?_
    refine rz_iconst (v := 1) d_Disk_codeData_23 (by decide) ?_
    refine rz_iadd d_Disk_codeData_24 ?_
    refine rz_pure (pc' := 26) d_Disk_codeData_25 rfl ?_
    refine rz_pure (pc' := 41) d_Disk_codeData_26 rfl ?_
    exact rz_pick (ks := [0, 1, 2, 3]) (l := [(0, .ref 6), (1, .null), (2, .int a2), (3, .int a3)]) rfl rfl (by decide) rfl (w.2 b1)
theorem p_Disk_codeData_41n {S : rz_S} {K : rz_S → Prop} {a2 : Int32} {a3 : Int32} {s0 : Int32} (w : rz mDisk_codeData 42 [(0, .ref 6), (1, .null), (2, .int a2), (3, .int a3)] [.int 0, .int s0, .ref 10] S (rz_v K)) : rz mDisk_codeData 41 [(0, .ref 6), (1, .null), (2, .int a2), (3, .int a3)] [.int s0, .ref 10] S (rz_v K) := by
  refine rz_iconst (v := 0) d_Disk_codeData_41 (by decide) ?_
  exact rz_pick (ks := [0, 1, 2, 3]) (l := [(0, .ref 6), (1, .null), (2, .int a2), (3, .int a3)]) rfl rfl (by decide) rfl w
theorem p_Disk_codeData_42n {S : rz_S} {K : rz_S → Prop} {a2 : Int32} {a3 : Int32} {s0 : Int32} {s1 : Int32} (w : rx_in s1 68 = true ∧ rx_in (a3 + 1) 68 = true ∧ rz mDisk_codeData 12 [(0, .ref 6), (1, .null), (2, .int (a2 ^^^ ((upd (S.1 10) s1.toNatClampNeg s0) ((a3 + 1).toNatClampNeg)))), (3, .int (a3 + 1))] [] (rz_fA S 10 (upd (S.1 10) s1.toNatClampNeg s0)) (rz_v K)) : rz mDisk_codeData 42 [(0, .ref 6), (1, .null), (2, .int a2), (3, .int a3)] [.int s0, .int s1, .ref 10] S (rz_v K) := by
  refine rz_iastv (F := S.1 10) (i := s1.toNatClampNeg) d_Disk_codeData_42 rfl w.1 rfl rfl ?_
  refine rz_pure (pc' := 44) d_Disk_codeData_43 rfl ?_
  refine rz_pure (pc' := 45) d_Disk_codeData_44 rfl ?_
  refine rz_getr d_Disk_codeData_45 f_4_31 rfl rfl ?_
  refine rz_pure (pc' := 49) d_Disk_codeData_48 rfl ?_
  refine rz_iconst (v := 1) d_Disk_codeData_49 (by decide) ?_
  refine rz_iadd d_Disk_codeData_50 ?_
  refine rz_ialdv (F := upd (S.1 10) s1.toNatClampNeg s0) (i := (a3 + 1).toNatClampNeg) d_Disk_codeData_51 rfl w.2.1 rz_fA_s rfl ?_
  refine rz_ixor d_Disk_codeData_52 ?_
  refine rz_pure (pc' := 54) (l' := [(2, .int (a2 ^^^ ((upd (S.1 10) s1.toNatClampNeg s0) ((a3 + 1).toNatClampNeg)))), (0, .ref 6), (1, .null), (3, .int a3)]) d_Disk_codeData_53 rfl ?_
  refine rz_pure (pc' := 57) (l' := [(3, .int (a3 + 1)), (2, .int (a2 ^^^ ((upd (S.1 10) s1.toNatClampNeg s0) ((a3 + 1).toNatClampNeg)))), (0, .ref 6), (1, .null)]) d_Disk_codeData_54 rfl ?_
  refine rz_pure (pc' := 12) d_Disk_codeData_57 rfl ?_
  exact rz_pick (ks := [0, 1, 2, 3]) (l := [(0, .ref 6), (1, .null), (2, .int (a2 ^^^ ((upd (S.1 10) s1.toNatClampNeg s0) ((a3 + 1).toNatClampNeg)))), (3, .int (a3 + 1))]) rfl rfl (by decide) rfl w.2.2
theorem d_Disk_encode_0 : decode (rm_code mDisk_encode) 0 = .ok (.iconst 0, 1) := by decide +kernel
theorem d_Disk_encode_1 : decode (rm_code mDisk_encode) 1 = .ok (.istore_n 2, 1) := by decide +kernel
theorem d_Disk_encode_2 : decode (rm_code mDisk_encode) 2 = .ok (.iconst 0, 1) := by decide +kernel
theorem d_Disk_encode_3 : decode (rm_code mDisk_encode) 3 = .ok (.istore_n 3, 1) := by decide +kernel
theorem d_Disk_encode_4 : decode (rm_code mDisk_encode) 4 = .ok (.iconst 0, 1) := by decide +kernel
theorem d_Disk_encode_5 : decode (rm_code mDisk_encode) 5 = .ok (.istore 4, 2) := by decide +kernel
theorem d_Disk_encode_7 : decode (rm_code mDisk_encode) 7 = .ok (.iconst 0, 1) := by decide +kernel
theorem d_Disk_encode_8 : decode (rm_code mDisk_encode) 8 = .ok (.istore 5, 2) := by decide +kernel
theorem d_Disk_encode_10 : decode (rm_code mDisk_encode) 10 = .ok (.iload 5, 2) := by decide +kernel
theorem d_Disk_encode_12 : decode (rm_code mDisk_encode) 12 = .ok (.iconst 2, 1) := by decide +kernel
theorem d_Disk_encode_13 : decode (rm_code mDisk_encode) 13 = .ok (.aload_n 0, 1) := by decide +kernel
theorem d_Disk_encode_14 : decode (rm_code mDisk_encode) 14 = .ok (.arraylength, 1) := by decide +kernel
theorem d_Disk_encode_15 : decode (rm_code mDisk_encode) 15 = .ok (.imul, 1) := by decide +kernel
theorem d_Disk_encode_16 : decode (rm_code mDisk_encode) 16 = .ok (.if_icmp .ge (81), 3) := by decide +kernel
theorem d_Disk_encode_19 : decode (rm_code mDisk_encode) 19 = .ok (.aload_n 0, 1) := by decide +kernel
theorem d_Disk_encode_20 : decode (rm_code mDisk_encode) 20 = .ok (.iload 5, 2) := by decide +kernel
theorem d_Disk_encode_22 : decode (rm_code mDisk_encode) 22 = .ok (.iconst 1, 1) := by decide +kernel
theorem d_Disk_encode_23 : decode (rm_code mDisk_encode) 23 = .ok (.ishr, 1) := by decide +kernel
theorem d_Disk_encode_24 : decode (rm_code mDisk_encode) 24 = .ok (.iaload, 1) := by decide +kernel
theorem d_Disk_encode_25 : decode (rm_code mDisk_encode) 25 = .ok (.iload 5, 2) := by decide +kernel
theorem d_Disk_encode_27 : decode (rm_code mDisk_encode) 27 = .ok (.iconst 1, 1) := by decide +kernel
theorem d_Disk_encode_28 : decode (rm_code mDisk_encode) 28 = .ok (.iand, 1) := by decide +kernel
theorem d_Disk_encode_29 : decode (rm_code mDisk_encode) 29 = .ok (.ifCond .ne (7), 3) := by decide +kernel
theorem d_Disk_encode_32 : decode (rm_code mDisk_encode) 32 = .ok (.iconst 4, 1) := by decide +kernel
theorem d_Disk_encode_33 : decode (rm_code mDisk_encode) 33 = .ok (.goto (4), 3) := by decide +kernel
theorem d_Disk_encode_36 : decode (rm_code mDisk_encode) 36 = .ok (.iconst 0, 1) := by decide +kernel
theorem d_Disk_encode_37 : decode (rm_code mDisk_encode) 37 = .ok (.ishr, 1) := by decide +kernel
theorem d_Disk_encode_38 : decode (rm_code mDisk_encode) 38 = .ok (.bipush (15), 2) := by decide +kernel
theorem d_Disk_encode_40 : decode (rm_code mDisk_encode) 40 = .ok (.iand, 1) := by decide +kernel
theorem d_Disk_encode_41 : decode (rm_code mDisk_encode) 41 = .ok (.istore 6, 2) := by decide +kernel
theorem d_Disk_encode_43 : decode (rm_code mDisk_encode) 43 = .ok (.iload_n 2, 1) := by decide +kernel
theorem d_Disk_encode_44 : decode (rm_code mDisk_encode) 44 = .ok (.iconst 5, 1) := by decide +kernel
theorem d_Disk_encode_45 : decode (rm_code mDisk_encode) 45 = .ok (.ishl, 1) := by decide +kernel
theorem d_Disk_encode_46 : decode (rm_code mDisk_encode) 46 = .ok (.getstatic 161, 3) := by decide +kernel
theorem d_Disk_encode_49 : decode (rm_code mDisk_encode) 49 = .ok (.iload 6, 2) := by decide +kernel
theorem d_Disk_encode_51 : decode (rm_code mDisk_encode) 51 = .ok (.iaload, 1) := by decide +kernel
theorem d_Disk_encode_52 : decode (rm_code mDisk_encode) 52 = .ok (.ior, 1) := by decide +kernel
theorem d_Disk_encode_53 : decode (rm_code mDisk_encode) 53 = .ok (.sipush (4095), 3) := by decide +kernel
theorem d_Disk_encode_56 : decode (rm_code mDisk_encode) 56 = .ok (.iand, 1) := by decide +kernel
theorem d_Disk_encode_57 : decode (rm_code mDisk_encode) 57 = .ok (.istore_n 2, 1) := by decide +kernel
theorem d_Disk_encode_58 : decode (rm_code mDisk_encode) 58 = .ok (.iinc 3 (5), 3) := by decide +kernel
theorem d_Disk_encode_61 : decode (rm_code mDisk_encode) 61 = .ok (.iload_n 3, 1) := by decide +kernel
theorem d_Disk_encode_62 : decode (rm_code mDisk_encode) 62 = .ok (.bipush (8), 2) := by decide +kernel
theorem d_Disk_encode_64 : decode (rm_code mDisk_encode) 64 = .ok (.if_icmp .lt (27), 3) := by decide +kernel
theorem d_Disk_encode_67 : decode (rm_code mDisk_encode) 67 = .ok (.iload 4, 2) := by decide +kernel
theorem d_Disk_encode_69 : decode (rm_code mDisk_encode) 69 = .ok (.aload_n 1, 1) := by decide +kernel
theorem d_Disk_encode_70 : decode (rm_code mDisk_encode) 70 = .ok (.arraylength, 1) := by decide +kernel
theorem d_Disk_encode_71 : decode (rm_code mDisk_encode) 71 = .ok (.if_icmp .ge (20), 3) := by decide +kernel
theorem d_Disk_encode_74 : decode (rm_code mDisk_encode) 74 = .ok (.iinc 3 (-8), 3) := by decide +kernel
theorem d_Disk_encode_77 : decode (rm_code mDisk_encode) 77 = .ok (.aload_n 1, 1) := by decide +kernel
theorem d_Disk_encode_78 : decode (rm_code mDisk_encode) 78 = .ok (.iload 4, 2) := by decide +kernel
theorem d_Disk_encode_80 : decode (rm_code mDisk_encode) 80 = .ok (.iload_n 2, 1) := by decide +kernel
theorem d_Disk_encode_81 : decode (rm_code mDisk_encode) 81 = .ok (.iload_n 3, 1) := by decide +kernel
theorem d_Disk_encode_82 : decode (rm_code mDisk_encode) 82 = .ok (.ishr, 1) := by decide +kernel
theorem d_Disk_encode_83 : decode (rm_code mDisk_encode) 83 = .ok (.sipush (255), 3) := by decide +kernel
theorem d_Disk_encode_86 : decode (rm_code mDisk_encode) 86 = .ok (.iand, 1) := by decide +kernel
theorem d_Disk_encode_87 : decode (rm_code mDisk_encode) 87 = .ok (.iastore, 1) := by decide +kernel
theorem d_Disk_encode_88 : decode (rm_code mDisk_encode) 88 = .ok (.iinc 4 (1), 3) := by decide +kernel
theorem d_Disk_encode_91 : decode (rm_code mDisk_encode) 91 = .ok (.iinc 5 (1), 3) := by decide +kernel
theorem d_Disk_encode_94 : decode (rm_code mDisk_encode) 94 = .ok (.goto (-84), 3) := by decide +kernel
theorem d_Disk_encode_97 : decode (rm_code mDisk_encode) 97 = .ok (.return_, 1) := by decide +kernel
theorem p_Disk_encode_0 {S : rz_S} {K : rz_S → Prop} {a0 na0 : Nat} (ha0 : rz_T[a0]? = some (.inl (0, na0))) {a1 na1 : Nat} (ha1 : rz_T[a1]? = some (.inl (0, na1))) (w : rz mDisk_encode 10 [(0, .ref a0), (1, .ref a1), (2, .int 0), (3, .int 0), (4, .int 0), (5, .int 0)] [] S (rz_v K)) : rz mDisk_encode 0 [(0, .ref a0), (1, .ref a1)] [] S (rz_v K) := by
  refine rz_iconst (v := 0) d_Disk_encode_0 (by decide) ?_
  refine rz_pure (pc' := 2) (l' := [(2, .int 0), (0, .ref a0), (1, .ref a1)]) d_Disk_encode_1 rfl ?_
  refine rz_iconst (v := 0) d_Disk_encode_2 (by decide) ?_
  refine rz_pure (pc' := 4) (l' := [(3, .int 0), (2, .int 0), (0, .ref a0), (1, .ref a1)]) d_Disk_encode_3 rfl ?_
  refine rz_iconst (v := 0) d_Disk_encode_4 (by decide) ?_
  refine rz_pure (pc' := 7) (l' := [(4, .int 0), (3, .int 0), (2, .int 0), (0, .ref a0), (1, .ref a1)]) d_Disk_encode_5 rfl ?_
  refine rz_iconst (v := 0) d_Disk_encode_7 (by decide) ?_
  refine rz_pure (pc' := 10) (l' := [(5, .int 0), (4, .int 0), (3, .int 0), (2, .int 0), (0, .ref a0), (1, .ref a1)]) d_Disk_encode_8 rfl ?_
  exact rz_pick (ks := [0, 1, 2, 3, 4, 5]) (l := [(0, .ref a0), (1, .ref a1), (2, .int 0), (3, .int 0), (4, .int 0), (5, .int 0)]) rfl rfl (by decide) rfl w
theorem p_Disk_encode_10 {S : rz_S} {K : rz_S → Prop} {a0 na0 : Nat} (ha0 : rz_T[a0]? = some (.inl (0, na0))) {a1 na1 : Nat} (ha1 : rz_T[a1]? = some (.inl (0, na1))) {a2 : Int32} {a3 : Int32} {a4 : Int32} {a5 : Int32} (w : ((2 * (Int32.ofNat na0) ≤ a5 → K S) ∧ (¬ 2 * (Int32.ofNat na0) ≤ a5 → rx_in (a5 >>> ((1 : Int32) &&& 31)) na0 = true ∧ ((a5 &&& 1 = 0 → rz mDisk_encode 37 [(0, .ref a0), (1, .ref a1), (2, .int a2), (3, .int a3), (4, .int a4), (5, .int a5)] [.int 4, .int (S.1 a0 ((a5 >>> ((1 : Int32) &&& 31)).toNatClampNeg))] S (rz_v K)) ∧ (¬ a5 &&& 1 = 0 → rz mDisk_encode 37 [(0, .ref a0), (1, .ref a1), (2, .int a2), (3, .int a3), (4, .int a4), (5, .int a5)] [.int 0, .int (S.1 a0 ((a5 >>> ((1 : Int32) &&& 31)).toNatClampNeg))] S (rz_v K)))))) : rz mDisk_encode 10 [(0, .ref a0), (1, .ref a1), (2, .int a2), (3, .int a3), (4, .int a4), (5, .int a5)] [] S (rz_v K) := by
  refine rz_pure (pc' := 12) d_Disk_encode_10 rfl ?_
  refine rz_iconst (v := 2) d_Disk_encode_12 (by decide) ?_
  refine rz_pure (pc' := 14) d_Disk_encode_13 rfl ?_
  refine rz_alenv (v := Int32.ofNat na0) d_Disk_encode_14 (ha0) (by decide) rfl ?_
  refine rz_imul d_Disk_encode_15 ?_
  refine rz_icmpge (tgt := 97) d_Disk_encode_16 rfl (fun b1 => ?_) (fun b1 => ?_)
  · skip
    exact rz_vretv d_Disk_encode_97 rfl (w.1 b1)
  · skip
    refine rz_pure (pc' := 20) d_Disk_encode_19 rfl ?_
    refine rz_pure (pc' := 22) d_Disk_encode_20 rfl ?_
    refine rz_iconst (v := 1) d_Disk_encode_22 (by decide) ?_
    refine rz_ishr d_Disk_encode_23 ?_
    refine rz_ialdv (F := S.1 a0) (i := (a5 >>> ((1 : Int32) &&& 31)).toNatClampNeg) d_Disk_encode_24 (ha0) (w.2 b1).1 rfl rfl ?_
    refine rz_pure (pc' := 27) d_Disk_encode_25 rfl ?_
    refine rz_iconst (v := 1) d_Disk_encode_27 (by decide) ?_
    refine rz_iand d_Disk_encode_28 ?_
    refine rz_ifne (tgt := 36) d_Disk_encode_29 rfl (fun b2 => ?_) (fun b2 => ?_)
    · skip
      refine rz_iconst (v := 0) d_Disk_encode_36 (by decide) ?_
      exact rz_pick (ks := [0, 1, 2, 3, 4, 5]) (l := [(0, .ref a0), (1, .ref a1), (2, .int a2), (3, .int a3), (4, .int a4), (5, .int a5)]) rfl rfl (by decide) rfl ((w.2 b1).2.2 b2)
    · skip
      refine rz_iconst (v := 4) d_Disk_encode_32 (by decide) ?_
      refine rz_pure (pc' := 37) d_Disk_encode_33 rfl ?_
      exact rz_pick (ks := [0, 1, 2, 3, 4, 5]) (l := [(0, .ref a0), (1, .ref a1), (2, .int a2), (3, .int a3), (4, .int a4), (5, .int a5)]) rfl rfl (by decide) rfl ((w.2 b1).2.1 b2)
theorem p_Disk_encode_37 {S : rz_S} {K : rz_S → Prop} {a0 na0 : Nat} (ha0 : rz_T[a0]? = some (.inl (0, na0))) {a1 na1 : Nat} (ha1 : rz_T[a1]? = some (.inl (0, na1))) {a2 : Int32} {a3 : Int32} {a4 : Int32} {a5 : Int32} {s0 : Int32} {s1 : Int32} (w : rx_in ((s1 >>> (s0 &&& 31)) &&& 15) 16 = true ∧ ((a3 + 5 < 8 → rz mDisk_encode 10 [(0, .ref a0), (1, .ref a1), (2, .int (((a2 <<< ((5 : Int32) &&& 31)) ||| (sa_v 2 (((s1 >>> (s0 &&& 31)) &&& 15).toNatClampNeg))) &&& 4095)), (3, .int (a3 + 5)), (4, .int a4), (5, .int (a5 + 1))] [] S (rz_v K)) ∧ (¬ a3 + 5 < 8 → ((Int32.ofNat na1 ≤ a4 → rz mDisk_encode 10 [(0, .ref a0), (1, .ref a1), (2, .int (((a2 <<< ((5 : Int32) &&& 31)) ||| (sa_v 2 (((s1 >>> (s0 &&& 31)) &&& 15).toNatClampNeg))) &&& 4095)), (3, .int (a3 + 5)), (4, .int a4), (5, .int (a5 + 1))] [] S (rz_v K)) ∧ (¬ Int32.ofNat na1 ≤ a4 → rx_in a4 na1 = true ∧ rz mDisk_encode 10 [(0, .ref a0), (1, .ref a1), (2, .int (((a2 <<< ((5 : Int32) &&& 31)) ||| (sa_v 2 (((s1 >>> (s0 &&& 31)) &&& 15).toNatClampNeg))) &&& 4095)), (3, .int (a3 + 5 + (-8))), (4, .int (a4 + 1)), (5, .int (a5 + 1))] [] (rz_fA S a1 (upd (S.1 a1) a4.toNatClampNeg (((((a2 <<< ((5 : Int32) &&& 31)) ||| (sa_v 2 (((s1 >>> (s0 &&& 31)) &&& 15).toNatClampNeg))) &&& 4095) >>> ((a3 + 5 + (-8)) &&& 31)) &&& 255))) (rz_v K)))))) : rz mDisk_encode 37 [(0, .ref a0), (1, .ref a1), (2, .int a2), (3, .int a3), (4, .int a4), (5, .int a5)] [.int s0, .int s1] S (rz_v K) := by
  refine rz_ishr d_Disk_encode_37 ?_
  refine rz_bipush (v := 15) d_Disk_encode_38 (by decide) ?_
  refine rz_iand d_Disk_encode_40 ?_
  refine rz_pure (pc' := 43) (l' := [(6, .int ((s1 >>> (s0 &&& 31)) &&& 15)), (0, .ref a0), (1, .ref a1), (2, .int a2), (3, .int a3), (4, .int a4), (5, .int a5)]) d_Disk_encode_41 rfl ?_
  refine rz_pure (pc' := 44) d_Disk_encode_43 rfl ?_
  refine rz_iconst (v := 5) d_Disk_encode_44 (by decide) ?_
  refine rz_ishl d_Disk_encode_45 ?_
  refine rz_stat (v := .ref 3000002) d_Disk_encode_46 rfl ?_
  refine rz_pure (pc' := 51) d_Disk_encode_49 rfl ?_
  refine rz_staldv (j := 2) (n := 16) (i := ((s1 >>> (s0 &&& 31)) &&& 15).toNatClampNeg) d_Disk_encode_51 rfl rfl rfl w.1 rfl ?_
  refine rz_ior d_Disk_encode_52 ?_
  refine rz_sipush (v := 4095) d_Disk_encode_53 (by decide) ?_
  refine rz_iand d_Disk_encode_56 ?_
  refine rz_pure (pc' := 58) (l' := [(2, .int (((a2 <<< ((5 : Int32) &&& 31)) ||| (sa_v 2 (((s1 >>> (s0 &&& 31)) &&& 15).toNatClampNeg))) &&& 4095)), (6, .int ((s1 >>> (s0 &&& 31)) &&& 15)), (0, .ref a0), (1, .ref a1), (3, .int a3), (4, .int a4), (5, .int a5)]) d_Disk_encode_57 rfl ?_
  refine rz_pure (pc' := 61) (l' := [(3, .int (a3 + 5)), (2, .int (((a2 <<< ((5 : Int32) &&& 31)) ||| (sa_v 2 (((s1 >>> (s0 &&& 31)) &&& 15).toNatClampNeg))) &&& 4095)), (6, .int ((s1 >>> (s0 &&& 31)) &&& 15)), (0, .ref a0), (1, .ref a1), (4, .int a4), (5, .int a5)]) d_Disk_encode_58 rfl ?_
  refine rz_pure (pc' := 62) d_Disk_encode_61 rfl ?_
  refine rz_bipush (v := 8) d_Disk_encode_62 (by decide) ?_
  refine rz_icmplt (tgt := 91) d_Disk_encode_64 rfl (fun b1 => ?_) (fun b1 => ?_)
  · skip
    refine rz_pure (pc' := 94) (l' := [(5, .int (a5 + 1)), (3, .int (a3 + 5)), (2, .int (((a2 <<< ((5 : Int32) &&& 31)) ||| (sa_v 2 (((s1 >>> (s0 &&& 31)) &&& 15).toNatClampNeg))) &&& 4095)), (6, .int ((s1 >>> (s0 &&& 31)) &&& 15)), (0, .ref a0), (1, .ref a1), (4, .int a4)]) d_Disk_encode_91 rfl ?_
    refine rz_pure (pc' := 10) d_Disk_encode_94 rfl ?_
    exact rz_pick (ks := [0, 1, 2, 3, 4, 5]) (l := [(0, .ref a0), (1, .ref a1), (2, .int (((a2 <<< ((5 : Int32) &&& 31)) ||| (sa_v 2 (((s1 >>> (s0 &&& 31)) &&& 15).toNatClampNeg))) &&& 4095)), (3, .int (a3 + 5)), (4, .int a4), (5, .int (a5 + 1))]) rfl rfl (by decide) rfl (w.2.1 b1)
  · skip
    refine rz_pure (pc' := 69) d_Disk_encode_67 rfl ?_
    refine rz_pure (pc' := 70) d_Disk_encode_69 rfl ?_
    refine rz_alenv (v := Int32.ofNat na1) d_Disk_encode_70 (ha1) (by decide) rfl ?_
    refine rz_icmpge (tgt := 91) d_Disk_encode_71 rfl (fun b2 => ?_) (fun b2 => ?_)
    · skip
      refine rz_pure (pc' := 94) (l' := [(5, .int (a5 + 1)), (3, .int (a3 + 5)), (2, .int (((a2 <<< ((5 : Int32) &&& 31)) ||| (sa_v 2 (((s1 >>> (s0 &&& 31)) &&& 15).toNatClampNeg))) &&& 4095)), (6, .int ((s1 >>> (s0 &&& 31)) &&& 15)), (0, .ref a0), (1, .ref a1), (4, .int a4)]) d_Disk_encode_91 rfl ?_
      refine rz_pure (pc' := 10) d_Disk_encode_94 rfl ?_
      exact rz_pick (ks := [0, 1, 2, 3, 4, 5]) (l := [(0, .ref a0), (1, .ref a1), (2, .int (((a2 <<< ((5 : Int32) &&& 31)) ||| (sa_v 2 (((s1 >>> (s0 &&& 31)) &&& 15).toNatClampNeg))) &&& 4095)), (3, .int (a3 + 5)), (4, .int a4), (5, .int (a5 + 1))]) rfl rfl (by decide) rfl ((w.2.2 b1).1 b2)
    · skip
      refine rz_pure (pc' := 77) (l' := [(3, .int (a3 + 5 + (-8))), (2, .int (((a2 <<< ((5 : Int32) &&& 31)) ||| (sa_v 2 (((s1 >>> (s0 &&& 31)) &&& 15).toNatClampNeg))) &&& 4095)), (6, .int ((s1 >>> (s0 &&& 31)) &&& 15)), (0, .ref a0), (1, .ref a1), (4, .int a4), (5, .int a5)]) d_Disk_encode_74 rfl ?_
      refine rz_pure (pc' := 78) d_Disk_encode_77 rfl ?_
      refine rz_pure (pc' := 80) d_Disk_encode_78 rfl ?_
      refine rz_pure (pc' := 81) d_Disk_encode_80 rfl ?_
      refine rz_pure (pc' := 82) d_Disk_encode_81 rfl ?_
      refine rz_ishr d_Disk_encode_82 ?_
      refine rz_sipush (v := 255) d_Disk_encode_83 (by decide) ?_
      refine rz_iand d_Disk_encode_86 ?_
      refine rz_iastv (F := S.1 a1) (i := a4.toNatClampNeg) d_Disk_encode_87 (ha1) ((w.2.2 b1).2 b2).1 rfl rfl ?_
      refine rz_pure (pc' := 91) (l' := [(4, .int (a4 + 1)), (3, .int (a3 + 5 + (-8))), (2, .int (((a2 <<< ((5 : Int32) &&& 31)) ||| (sa_v 2 (((s1 >>> (s0 &&& 31)) &&& 15).toNatClampNeg))) &&& 4095)), (6, .int ((s1 >>> (s0 &&& 31)) &&& 15)), (0, .ref a0), (1, .ref a1), (5, .int a5)]) d_Disk_encode_88 rfl ?_
      refine rz_pure (pc' := 94) (l' := [(5, .int (a5 + 1)), (4, .int (a4 + 1)), (3, .int (a3 + 5 + (-8))), (2, .int (((a2 <<< ((5 : Int32) &&& 31)) ||| (sa_v 2 (((s1 >>> (s0 &&& 31)) &&& 15).toNatClampNeg))) &&& 4095)), (6, .int ((s1 >>> (s0 &&& 31)) &&& 15)), (0, .ref a0), (1, .ref a1)]) d_Disk_encode_91 rfl ?_
      refine rz_pure (pc' := 10) d_Disk_encode_94 rfl ?_
      exact rz_pick (ks := [0, 1, 2, 3, 4, 5]) (l := [(0, .ref a0), (1, .ref a1), (2, .int (((a2 <<< ((5 : Int32) &&& 31)) ||| (sa_v 2 (((s1 >>> (s0 &&& 31)) &&& 15).toNatClampNeg))) &&& 4095)), (3, .int (a3 + 5 + (-8))), (4, .int (a4 + 1)), (5, .int (a5 + 1))]) rfl rfl (by decide) rfl ((w.2.2 b1).2 b2).2
theorem d_Disk_fillHeader_0 : decode (rm_code mDisk_fillHeader) 0 = .ok (.aload_n 0, 1) := by decide +kernel
theorem d_Disk_fillHeader_1 : decode (rm_code mDisk_fillHeader) 1 = .ok (.getfield 24, 3) := by decide +kernel
theorem d_Disk_fillHeader_4 : decode (rm_code mDisk_fillHeader) 4 = .ok (.iconst 0, 1) := by decide +kernel
theorem d_Disk_fillHeader_5 : decode (rm_code mDisk_fillHeader) 5 = .ok (.bipush (8), 2) := by decide +kernel
theorem d_Disk_fillHeader_7 : decode (rm_code mDisk_fillHeader) 7 = .ok (.iastore, 1) := by decide +kernel
theorem d_Disk_fillHeader_8 : decode (rm_code mDisk_fillHeader) 8 = .ok (.aload_n 0, 1) := by decide +kernel
theorem d_Disk_fillHeader_9 : decode (rm_code mDisk_fillHeader) 9 = .ok (.getfield 24, 3) := by decide +kernel
theorem d_Disk_fillHeader_12 : decode (rm_code mDisk_fillHeader) 12 = .ok (.iconst 1, 1) := by decide +kernel
theorem d_Disk_fillHeader_13 : decode (rm_code mDisk_fillHeader) 13 = .ok (.iload_n 2, 1) := by decide +kernel
theorem d_Disk_fillHeader_14 : decode (rm_code mDisk_fillHeader) 14 = .ok (.iload_n 1, 1) := by decide +kernel
theorem d_Disk_fillHeader_15 : decode (rm_code mDisk_fillHeader) 15 = .ok (.ixor, 1) := by decide +kernel
theorem d_Disk_fillHeader_16 : decode (rm_code mDisk_fillHeader) 16 = .ok (.iload_n 3, 1) := by decide +kernel
theorem d_Disk_fillHeader_17 : decode (rm_code mDisk_fillHeader) 17 = .ok (.ixor, 1) := by decide +kernel
theorem d_Disk_fillHeader_18 : decode (rm_code mDisk_fillHeader) 18 = .ok (.iload 4, 2) := by decide +kernel
theorem d_Disk_fillHeader_20 : decode (rm_code mDisk_fillHeader) 20 = .ok (.ixor, 1) := by decide +kernel
theorem d_Disk_fillHeader_21 : decode (rm_code mDisk_fillHeader) 21 = .ok (.iastore, 1) := by decide +kernel
theorem d_Disk_fillHeader_22 : decode (rm_code mDisk_fillHeader) 22 = .ok (.aload_n 0, 1) := by decide +kernel
theorem d_Disk_fillHeader_23 : decode (rm_code mDisk_fillHeader) 23 = .ok (.getfield 24, 3) := by decide +kernel
theorem d_Disk_fillHeader_26 : decode (rm_code mDisk_fillHeader) 26 = .ok (.iconst 2, 1) := by decide +kernel
theorem d_Disk_fillHeader_27 : decode (rm_code mDisk_fillHeader) 27 = .ok (.iload_n 2, 1) := by decide +kernel
theorem d_Disk_fillHeader_28 : decode (rm_code mDisk_fillHeader) 28 = .ok (.iastore, 1) := by decide +kernel
theorem d_Disk_fillHeader_29 : decode (rm_code mDisk_fillHeader) 29 = .ok (.aload_n 0, 1) := by decide +kernel
theorem d_Disk_fillHeader_30 : decode (rm_code mDisk_fillHeader) 30 = .ok (.getfield 24, 3) := by decide +kernel
theorem d_Disk_fillHeader_33 : decode (rm_code mDisk_fillHeader) 33 = .ok (.iconst 3, 1) := by decide +kernel
theorem d_Disk_fillHeader_34 : decode (rm_code mDisk_fillHeader) 34 = .ok (.iload_n 1, 1) := by decide +kernel
theorem d_Disk_fillHeader_35 : decode (rm_code mDisk_fillHeader) 35 = .ok (.iastore, 1) := by decide +kernel
theorem d_Disk_fillHeader_36 : decode (rm_code mDisk_fillHeader) 36 = .ok (.aload_n 0, 1) := by decide +kernel
theorem d_Disk_fillHeader_37 : decode (rm_code mDisk_fillHeader) 37 = .ok (.getfield 24, 3) := by decide +kernel
theorem d_Disk_fillHeader_40 : decode (rm_code mDisk_fillHeader) 40 = .ok (.iconst 4, 1) := by decide +kernel
theorem d_Disk_fillHeader_41 : decode (rm_code mDisk_fillHeader) 41 = .ok (.iload 4, 2) := by decide +kernel
theorem d_Disk_fillHeader_43 : decode (rm_code mDisk_fillHeader) 43 = .ok (.iastore, 1) := by decide +kernel
theorem d_Disk_fillHeader_44 : decode (rm_code mDisk_fillHeader) 44 = .ok (.aload_n 0, 1) := by decide +kernel
theorem d_Disk_fillHeader_45 : decode (rm_code mDisk_fillHeader) 45 = .ok (.getfield 24, 3) := by decide +kernel
theorem d_Disk_fillHeader_48 : decode (rm_code mDisk_fillHeader) 48 = .ok (.iconst 5, 1) := by decide +kernel
theorem d_Disk_fillHeader_49 : decode (rm_code mDisk_fillHeader) 49 = .ok (.iload_n 3, 1) := by decide +kernel
theorem d_Disk_fillHeader_50 : decode (rm_code mDisk_fillHeader) 50 = .ok (.iastore, 1) := by decide +kernel
theorem d_Disk_fillHeader_51 : decode (rm_code mDisk_fillHeader) 51 = .ok (.aload_n 0, 1) := by decide +kernel
theorem d_Disk_fillHeader_52 : decode (rm_code mDisk_fillHeader) 52 = .ok (.getfield 24, 3) := by decide +kernel
theorem d_Disk_fillHeader_55 : decode (rm_code mDisk_fillHeader) 55 = .ok (.bipush (6), 2) := by decide +kernel
theorem d_Disk_fillHeader_57 : decode (rm_code mDisk_fillHeader) 57 = .ok (.bipush (15), 2) := by decide +kernel
theorem d_Disk_fillHeader_59 : decode (rm_code mDisk_fillHeader) 59 = .ok (.iastore, 1) := by decide +kernel
theorem d_Disk_fillHeader_60 : decode (rm_code mDisk_fillHeader) 60 = .ok (.aload_n 0, 1) := by decide +kernel
theorem d_Disk_fillHeader_61 : decode (rm_code mDisk_fillHeader) 61 = .ok (.getfield 24, 3) := by decide +kernel
theorem d_Disk_fillHeader_64 : decode (rm_code mDisk_fillHeader) 64 = .ok (.bipush (7), 2) := by decide +kernel
theorem d_Disk_fillHeader_66 : decode (rm_code mDisk_fillHeader) 66 = .ok (.bipush (15), 2) := by decide +kernel
theorem d_Disk_fillHeader_68 : decode (rm_code mDisk_fillHeader) 68 = .ok (.iastore, 1) := by decide +kernel
theorem d_Disk_fillHeader_69 : decode (rm_code mDisk_fillHeader) 69 = .ok (.return_, 1) := by decide +kernel
theorem p_Disk_fillHeader_0 {S : rz_S} {K : rz_S → Prop} {a1 : Int32} {a2 : Int32} {a3 : Int32} {a4 : Int32} (w : K (rz_fA (rz_fA (rz_fA (rz_fA (rz_fA (rz_fA (rz_fA (rz_fA S 8 (upd (S.1 8) 0 8)) 8 (upd (upd (S.1 8) 0 8) 1 (((a2 ^^^ a1) ^^^ a3) ^^^ a4))) 8 (upd (upd (upd (S.1 8) 0 8) 1 (((a2 ^^^ a1) ^^^ a3) ^^^ a4)) 2 a2)) 8 (upd (upd (upd (upd (S.1 8) 0 8) 1 (((a2 ^^^ a1) ^^^ a3) ^^^ a4)) 2 a2) 3 a1)) 8 (upd (upd (upd (upd (upd (S.1 8) 0 8) 1 (((a2 ^^^ a1) ^^^ a3) ^^^ a4)) 2 a2) 3 a1) 4 a4)) 8 (upd (upd (upd (upd (upd (upd (S.1 8) 0 8) 1 (((a2 ^^^ a1) ^^^ a3) ^^^ a4)) 2 a2) 3 a1) 4 a4) 5 a3)) 8 (upd (upd (upd (upd (upd (upd (upd (S.1 8) 0 8) 1 (((a2 ^^^ a1) ^^^ a3) ^^^ a4)) 2 a2) 3 a1) 4 a4) 5 a3) 6 15)) 8 (upd (upd (upd (upd (upd (upd (upd (upd (S.1 8) 0 8) 1 (((a2 ^^^ a1) ^^^ a3) ^^^ a4)) 2 a2) 3 a1) 4 a4) 5 a3) 6 15) 7 15))) : rz mDisk_fillHeader 0 [(0, .ref 6), (1, .int a1), (2, .int a2), (3, .int a3), (4, .int a4)] [] S (rz_v K) := by
  refine rz_pure (pc' := 1) d_Disk_fillHeader_0 rfl ?_
  refine rz_getr d_Disk_fillHeader_1 f_4_24 rfl rfl ?_
  refine rz_iconst (v := 0) d_Disk_fillHeader_4 (by decide) ?_
  refine rz_bipush (v := 8) d_Disk_fillHeader_5 (by decide) ?_
  refine rz_iastv (F := S.1 8) (i := 0) d_Disk_fillHeader_7 rfl (by decide) rfl (by decide) ?_
  refine rz_pure (pc' := 9) d_Disk_fillHeader_8 rfl ?_
  refine rz_getr d_Disk_fillHeader_9 f_4_24 rfl rfl ?_
  refine rz_iconst (v := 1) d_Disk_fillHeader_12 (by decide) ?_
  refine rz_pure (pc' := 14) d_Disk_fillHeader_13 rfl ?_
  refine rz_pure (pc' := 15) d_Disk_fillHeader_14 rfl ?_
  refine rz_ixor d_Disk_fillHeader_15 ?_
  refine rz_pure (pc' := 17) d_Disk_fillHeader_16 rfl ?_
  refine rz_ixor d_Disk_fillHeader_17 ?_
  refine rz_pure (pc' := 20) d_Disk_fillHeader_18 rfl ?_
  refine rz_ixor d_Disk_fillHeader_20 ?_
  refine rz_iastv (F := upd (S.1 8) 0 8) (i := 1) d_Disk_fillHeader_21 rfl (by decide) rz_fA_s (by decide) ?_
  refine rz_pure (pc' := 23) d_Disk_fillHeader_22 rfl ?_
  refine rz_getr d_Disk_fillHeader_23 f_4_24 rfl rfl ?_
  refine rz_iconst (v := 2) d_Disk_fillHeader_26 (by decide) ?_
  refine rz_pure (pc' := 28) d_Disk_fillHeader_27 rfl ?_
  refine rz_iastv (F := upd (upd (S.1 8) 0 8) 1 (((a2 ^^^ a1) ^^^ a3) ^^^ a4)) (i := 2) d_Disk_fillHeader_28 rfl (by decide) rz_fA_s (by decide) ?_
  refine rz_pure (pc' := 30) d_Disk_fillHeader_29 rfl ?_
  refine rz_getr d_Disk_fillHeader_30 f_4_24 rfl rfl ?_
  refine rz_iconst (v := 3) d_Disk_fillHeader_33 (by decide) ?_
  refine rz_pure (pc' := 35) d_Disk_fillHeader_34 rfl ?_
  refine rz_iastv (F := upd (upd (upd (S.1 8) 0 8) 1 (((a2 ^^^ a1) ^^^ a3) ^^^ a4)) 2 a2) (i := 3) d_Disk_fillHeader_35 rfl (by decide) rz_fA_s (by decide) ?_
  refine rz_pure (pc' := 37) d_Disk_fillHeader_36 rfl ?_
  refine rz_getr d_Disk_fillHeader_37 f_4_24 rfl rfl ?_
  refine rz_iconst (v := 4) d_Disk_fillHeader_40 (by decide) ?_
  refine rz_pure (pc' := 43) d_Disk_fillHeader_41 rfl ?_
  refine rz_iastv (F := upd (upd (upd (upd (S.1 8) 0 8) 1 (((a2 ^^^ a1) ^^^ a3) ^^^ a4)) 2 a2) 3 a1) (i := 4) d_Disk_fillHeader_43 rfl (by decide) rz_fA_s (by decide) ?_
  refine rz_pure (pc' := 45) d_Disk_fillHeader_44 rfl ?_
  refine rz_getr d_Disk_fillHeader_45 f_4_24 rfl rfl ?_
  refine rz_iconst (v := 5) d_Disk_fillHeader_48 (by decide) ?_
  refine rz_pure (pc' := 50) d_Disk_fillHeader_49 rfl ?_
  refine rz_iastv (F := upd (upd (upd (upd (upd (S.1 8) 0 8) 1 (((a2 ^^^ a1) ^^^ a3) ^^^ a4)) 2 a2) 3 a1) 4 a4) (i := 5) d_Disk_fillHeader_50 rfl (by decide) rz_fA_s (by decide) ?_
  refine rz_pure (pc' := 52) d_Disk_fillHeader_51 rfl ?_
  refine rz_getr d_Disk_fillHeader_52 f_4_24 rfl rfl ?_
  refine rz_bipush (v := 6) d_Disk_fillHeader_55 (by decide) ?_
  refine rz_bipush (v := 15) d_Disk_fillHeader_57 (by decide) ?_
  refine rz_iastv (F := upd (upd (upd (upd (upd (upd (S.1 8) 0 8) 1 (((a2 ^^^ a1) ^^^ a3) ^^^ a4)) 2 a2) 3 a1) 4 a4) 5 a3) (i := 6) d_Disk_fillHeader_59 rfl (by decide) rz_fA_s (by decide) ?_
  refine rz_pure (pc' := 61) d_Disk_fillHeader_60 rfl ?_
  refine rz_getr d_Disk_fillHeader_61 f_4_24 rfl rfl ?_
  refine rz_bipush (v := 7) d_Disk_fillHeader_64 (by decide) ?_
  refine rz_bipush (v := 15) d_Disk_fillHeader_66 (by decide) ?_
  refine rz_iastv (F := upd (upd (upd (upd (upd (upd (upd (S.1 8) 0 8) 1 (((a2 ^^^ a1) ^^^ a3) ^^^ a4)) 2 a2) 3 a1) 4 a4) 5 a3) 6 15) (i := 7) d_Disk_fillHeader_68 rfl (by decide) rz_fA_s (by decide) ?_
  exact rz_vretv d_Disk_fillHeader_69 rfl w
theorem d_Disk_setId_0 : decode (rm_code mDisk_setId) 0 = .ok (.aload_n 0, 1) := by decide +kernel
theorem d_Disk_setId_1 : decode (rm_code mDisk_setId) 1 = .ok (.iload_n 1, 1) := by decide +kernel
theorem d_Disk_setId_2 : decode (rm_code mDisk_setId) 2 = .ok (.putfield 9, 3) := by decide +kernel
theorem d_Disk_setId_5 : decode (rm_code mDisk_setId) 5 = .ok (.aload_n 0, 1) := by decide +kernel
theorem d_Disk_setId_6 : decode (rm_code mDisk_setId) 6 = .ok (.iload_n 2, 1) := by decide +kernel
theorem d_Disk_setId_7 : decode (rm_code mDisk_setId) 7 = .ok (.putfield 15, 3) := by decide +kernel
theorem d_Disk_setId_10 : decode (rm_code mDisk_setId) 10 = .ok (.return_, 1) := by decide +kernel
theorem p_Disk_setId_0 {S : rz_S} {K : rz_S → Prop} {a1 : Int32} {a2 : Int32} (w : K (rz_uI (rz_uI S 6 1 a1) 6 2 a2)) : rz mDisk_setId 0 [(0, .ref 6), (1, .int a1), (2, .int a2)] [] S (rz_v K) := by
  refine rz_pure (pc' := 1) d_Disk_setId_0 rfl ?_
  refine rz_pure (pc' := 2) d_Disk_setId_1 rfl ?_
  refine rz_puti d_Disk_setId_2 f_4_9 rfl rfl rfl ?_
  refine rz_pure (pc' := 6) d_Disk_setId_5 rfl ?_
  refine rz_pure (pc' := 7) d_Disk_setId_6 rfl ?_
  refine rz_puti d_Disk_setId_7 f_4_15 rfl rfl rfl ?_
  exact rz_vretv d_Disk_setId_10 rfl w
theorem d_Disk_hasId_0 : decode (rm_code mDisk_hasId) 0 = .ok (.aload_n 0, 1) := by decide +kernel
theorem d_Disk_hasId_1 : decode (rm_code mDisk_hasId) 1 = .ok (.getfield 9, 3) := by decide +kernel
theorem d_Disk_hasId_4 : decode (rm_code mDisk_hasId) 4 = .ok (.iconst (-1), 1) := by decide +kernel
theorem d_Disk_hasId_5 : decode (rm_code mDisk_hasId) 5 = .ok (.if_icmp .eq (7), 3) := by decide +kernel
theorem d_Disk_hasId_8 : decode (rm_code mDisk_hasId) 8 = .ok (.iconst 1, 1) := by decide +kernel
theorem d_Disk_hasId_9 : decode (rm_code mDisk_hasId) 9 = .ok (.goto (4), 3) := by decide +kernel
theorem d_Disk_hasId_12 : decode (rm_code mDisk_hasId) 12 = .ok (.iconst 0, 1) := by decide +kernel
theorem d_Disk_hasId_13 : decode (rm_code mDisk_hasId) 13 = .ok (.ireturn, 1) := by decide +kernel
theorem p_Disk_hasId_0 {S : rz_S} {K : Int32 → rz_S → Prop} (w : ((S.2 6 1 = (-1) → K 0 S) ∧ (¬ S.2 6 1 = (-1) → K 1 S))) : rz mDisk_hasId 0 [(0, .ref 6)] [] S (rz_i K) := by
  refine rz_pure (pc' := 1) d_Disk_hasId_0 rfl ?_
  refine rz_getiv (v := S.2 6 1) d_Disk_hasId_1 f_4_9 rfl rfl rfl ?_
  refine rz_iconst (v := -1) d_Disk_hasId_4 (by decide) ?_
  refine rz_icmpeq (tgt := 12) d_Disk_hasId_5 rfl (fun b1 => ?_) (fun b1 => ?_)
  · skip
    refine rz_iconst (v := 0) d_Disk_hasId_12 (by decide) ?_
    exact rz_ireti d_Disk_hasId_13 rfl (by decide) (w.1 b1)
  · skip
    refine rz_iconst (v := 1) d_Disk_hasId_8 (by decide) ?_
    refine rz_pure (pc' := 13) d_Disk_hasId_9 rfl ?_
    exact rz_ireti d_Disk_hasId_13 rfl (by decide) (w.2 b1)
theorem d_Disk_takeId_0 : decode (rm_code mDisk_takeId) 0 = .ok (.aload_n 0, 1) := by decide +kernel
theorem d_Disk_takeId_1 : decode (rm_code mDisk_takeId) 1 = .ok (.invokevirtual 53, 3) := by decide +kernel
theorem d_Disk_takeId_4 : decode (rm_code mDisk_takeId) 4 = .ok (.aload_n 0, 1) := by decide +kernel
theorem d_Disk_takeId_5 : decode (rm_code mDisk_takeId) 5 = .ok (.getfield 20, 3) := by decide +kernel
theorem d_Disk_takeId_8 : decode (rm_code mDisk_takeId) 8 = .ok (.bipush (6), 2) := by decide +kernel
theorem d_Disk_takeId_10 : decode (rm_code mDisk_takeId) 10 = .ok (.aaload, 1) := by decide +kernel
theorem d_Disk_takeId_11 : decode (rm_code mDisk_takeId) 11 = .ok (.astore_n 1, 1) := by decide +kernel
theorem d_Disk_takeId_12 : decode (rm_code mDisk_takeId) 12 = .ok (.aload_n 1, 1) := by decide +kernel
theorem d_Disk_takeId_13 : decode (rm_code mDisk_takeId) 13 = .ok (.aload_n 1, 1) := by decide +kernel
theorem d_Disk_takeId_14 : decode (rm_code mDisk_takeId) 14 = .ok (.iconst 0, 1) := by decide +kernel
theorem d_Disk_takeId_15 : decode (rm_code mDisk_takeId) 15 = .ok (.invokevirtual 56, 3) := by decide +kernel
theorem d_Disk_takeId_18 : decode (rm_code mDisk_takeId) 18 = .ok (.invokevirtual 60, 3) := by decide +kernel
theorem d_Disk_takeId_21 : decode (rm_code mDisk_takeId) 21 = .ok (.aload_n 1, 1) := by decide +kernel
theorem d_Disk_takeId_22 : decode (rm_code mDisk_takeId) 22 = .ok (.invokevirtual 64, 3) := by decide +kernel
theorem d_Disk_takeId_25 : decode (rm_code mDisk_takeId) 25 = .ok (.istore_n 2, 1) := by decide +kernel
theorem d_Disk_takeId_26 : decode (rm_code mDisk_takeId) 26 = .ok (.iconst 0, 1) := by decide +kernel
theorem d_Disk_takeId_27 : decode (rm_code mDisk_takeId) 27 = .ok (.istore_n 3, 1) := by decide +kernel
theorem d_Disk_takeId_28 : decode (rm_code mDisk_takeId) 28 = .ok (.iload_n 3, 1) := by decide +kernel
theorem d_Disk_takeId_29 : decode (rm_code mDisk_takeId) 29 = .ok (.bipush (32), 2) := by decide +kernel
theorem d_Disk_takeId_31 : decode (rm_code mDisk_takeId) 31 = .ok (.if_icmp .ge (103), 3) := by decide +kernel
theorem d_Disk_takeId_34 : decode (rm_code mDisk_takeId) 34 = .ok (.iload_n 2, 1) := by decide +kernel
theorem d_Disk_takeId_35 : decode (rm_code mDisk_takeId) 35 = .ok (.iconst (-1), 1) := by decide +kernel
theorem d_Disk_takeId_36 : decode (rm_code mDisk_takeId) 36 = .ok (.if_icmp .eq (98), 3) := by decide +kernel
theorem d_Disk_takeId_39 : decode (rm_code mDisk_takeId) 39 = .ok (.aload_n 0, 1) := by decide +kernel
theorem d_Disk_takeId_40 : decode (rm_code mDisk_takeId) 40 = .ok (.invokevirtual 68, 3) := by decide +kernel
theorem d_Disk_takeId_43 : decode (rm_code mDisk_takeId) 43 = .ok (.ifCond .ne (91), 3) := by decide +kernel
theorem d_Disk_takeId_46 : decode (rm_code mDisk_takeId) 46 = .ok (.aload_n 1, 1) := by decide +kernel
theorem d_Disk_takeId_47 : decode (rm_code mDisk_takeId) 47 = .ok (.iload_n 2, 1) := by decide +kernel
theorem d_Disk_takeId_48 : decode (rm_code mDisk_takeId) 48 = .ok (.aload_n 1, 1) := by decide +kernel
theorem d_Disk_takeId_49 : decode (rm_code mDisk_takeId) 49 = .ok (.iload_n 2, 1) := by decide +kernel
theorem d_Disk_takeId_50 : decode (rm_code mDisk_takeId) 50 = .ok (.invokevirtual 56, 3) := by decide +kernel
theorem d_Disk_takeId_53 : decode (rm_code mDisk_takeId) 53 = .ok (.invokevirtual 72, 3) := by decide +kernel
theorem d_Disk_takeId_56 : decode (rm_code mDisk_takeId) 56 = .ok (.iconst 0, 1) := by decide +kernel
theorem d_Disk_takeId_57 : decode (rm_code mDisk_takeId) 57 = .ok (.istore 4, 2) := by decide +kernel
theorem d_Disk_takeId_59 : decode (rm_code mDisk_takeId) 59 = .ok (.iload 4, 2) := by decide +kernel
theorem d_Disk_takeId_61 : decode (rm_code mDisk_takeId) 61 = .ok (.aload_n 0, 1) := by decide +kernel
theorem d_Disk_takeId_62 : decode (rm_code mDisk_takeId) 62 = .ok (.getfield 28, 3) := by decide +kernel
theorem d_Disk_takeId_65 : decode (rm_code mDisk_takeId) 65 = .ok (.arraylength, 1) := by decide +kernel
theorem d_Disk_takeId_66 : decode (rm_code mDisk_takeId) 66 = .ok (.if_icmp .ge (20), 3) := by decide +kernel
theorem d_Disk_takeId_69 : decode (rm_code mDisk_takeId) 69 = .ok (.aload_n 0, 1) := by decide +kernel
theorem d_Disk_takeId_70 : decode (rm_code mDisk_takeId) 70 = .ok (.getfield 28, 3) := by decide +kernel
theorem d_Disk_takeId_73 : decode (rm_code mDisk_takeId) 73 = .ok (.iload 4, 2) := by decide +kernel
theorem d_Disk_takeId_75 : decode (rm_code mDisk_takeId) 75 = .ok (.aload_n 1, 1) := by decide +kernel
theorem d_Disk_takeId_76 : decode (rm_code mDisk_takeId) 76 = .ok (.invokevirtual 75, 3) := by decide +kernel
theorem d_Disk_takeId_79 : decode (rm_code mDisk_takeId) 79 = .ok (.iastore, 1) := by decide +kernel
theorem d_Disk_takeId_80 : decode (rm_code mDisk_takeId) 80 = .ok (.iinc 4 (1), 3) := by decide +kernel
theorem d_Disk_takeId_83 : decode (rm_code mDisk_takeId) 83 = .ok (.goto (-24), 3) := by decide +kernel
theorem d_Disk_takeId_86 : decode (rm_code mDisk_takeId) 86 = .ok (.aload_n 0, 1) := by decide +kernel
theorem d_Disk_takeId_87 : decode (rm_code mDisk_takeId) 87 = .ok (.getfield 28, 3) := by decide +kernel
theorem d_Disk_takeId_90 : decode (rm_code mDisk_takeId) 90 = .ok (.aload_n 0, 1) := by decide +kernel
theorem d_Disk_takeId_91 : decode (rm_code mDisk_takeId) 91 = .ok (.getfield 24, 3) := by decide +kernel
theorem d_Disk_takeId_94 : decode (rm_code mDisk_takeId) 94 = .ok (.invokestatic 78, 3) := by decide +kernel
theorem d_Disk_takeId_97 : decode (rm_code mDisk_takeId) 97 = .ok (.ifCond .eq (26), 3) := by decide +kernel
theorem d_Disk_takeId_100 : decode (rm_code mDisk_takeId) 100 = .ok (.aload_n 0, 1) := by decide +kernel
theorem d_Disk_takeId_101 : decode (rm_code mDisk_takeId) 101 = .ok (.invokevirtual 82, 3) := by decide +kernel
theorem d_Disk_takeId_104 : decode (rm_code mDisk_takeId) 104 = .ok (.ifCond .eq (19), 3) := by decide +kernel
theorem d_Disk_takeId_107 : decode (rm_code mDisk_takeId) 107 = .ok (.aload_n 0, 1) := by decide +kernel
theorem d_Disk_takeId_108 : decode (rm_code mDisk_takeId) 108 = .ok (.aload_n 0, 1) := by decide +kernel
theorem d_Disk_takeId_109 : decode (rm_code mDisk_takeId) 109 = .ok (.getfield 24, 3) := by decide +kernel
theorem d_Disk_takeId_112 : decode (rm_code mDisk_takeId) 112 = .ok (.iconst 5, 1) := by decide +kernel
theorem d_Disk_takeId_113 : decode (rm_code mDisk_takeId) 113 = .ok (.iaload, 1) := by decide +kernel
theorem d_Disk_takeId_114 : decode (rm_code mDisk_takeId) 114 = .ok (.aload_n 0, 1) := by decide +kernel
theorem d_Disk_takeId_115 : decode (rm_code mDisk_takeId) 115 = .ok (.getfield 24, 3) := by decide +kernel
theorem d_Disk_takeId_118 : decode (rm_code mDisk_takeId) 118 = .ok (.iconst 4, 1) := by decide +kernel
theorem d_Disk_takeId_119 : decode (rm_code mDisk_takeId) 119 = .ok (.iaload, 1) := by decide +kernel
theorem d_Disk_takeId_120 : decode (rm_code mDisk_takeId) 120 = .ok (.invokevirtual 85, 3) := by decide +kernel
theorem d_Disk_takeId_123 : decode (rm_code mDisk_takeId) 123 = .ok (.aload_n 1, 1) := by decide +kernel
theorem d_Disk_takeId_124 : decode (rm_code mDisk_takeId) 124 = .ok (.invokevirtual 64, 3) := by decide +kernel
theorem d_Disk_takeId_127 : decode (rm_code mDisk_takeId) 127 = .ok (.istore_n 2, 1) := by decide +kernel
theorem d_Disk_takeId_128 : decode (rm_code mDisk_takeId) 128 = .ok (.iinc 3 (1), 3) := by decide +kernel
theorem d_Disk_takeId_131 : decode (rm_code mDisk_takeId) 131 = .ok (.goto (-103), 3) := by decide +kernel
theorem d_Disk_takeId_134 : decode (rm_code mDisk_takeId) 134 = .ok (.aload_n 0, 1) := by decide +kernel
theorem d_Disk_takeId_135 : decode (rm_code mDisk_takeId) 135 = .ok (.invokevirtual 68, 3) := by decide +kernel
theorem d_Disk_takeId_138 : decode (rm_code mDisk_takeId) 138 = .ok (.ifCond .eq (7), 3) := by decide +kernel
theorem d_Disk_takeId_141 : decode (rm_code mDisk_takeId) 141 = .ok (.iconst 0, 1) := by decide +kernel
theorem d_Disk_takeId_142 : decode (rm_code mDisk_takeId) 142 = .ok (.goto (15), 3) := by decide +kernel
theorem d_Disk_takeId_145 : decode (rm_code mDisk_takeId) 145 = .ok (.aload_n 0, 1) := by decide +kernel
theorem d_Disk_takeId_146 : decode (rm_code mDisk_takeId) 146 = .ok (.getfield 40, 3) := by decide +kernel
theorem d_Disk_takeId_149 : decode (rm_code mDisk_takeId) 149 = .ok (.bipush (74), 2) := by decide +kernel
theorem d_Disk_takeId_151 : decode (rm_code mDisk_takeId) 151 = .ok (.bipush (7), 2) := by decide +kernel
theorem d_Disk_takeId_153 : decode (rm_code mDisk_takeId) 153 = .ok (.iconst 0, 1) := by decide +kernel
theorem d_Disk_takeId_154 : decode (rm_code mDisk_takeId) 154 = .ok (.invokevirtual 88, 3) := by decide +kernel
theorem d_Disk_takeId_157 : decode (rm_code mDisk_takeId) 157 = .ok (.ireturn, 1) := by decide +kernel
theorem p_Disk_takeId_0 {S : rz_S} {K : Int32 → rz_S → Prop} (w : rz_ev mDisk_dropId [.ref 6] S (rz_v (fun Sq1 => rz_ev mRing_onesAhead [.ref 25, .int 0] Sq1 (rz_i (fun xq2 Sq2 => rz_ev mRing_startRound [.ref 25, .int xq2] Sq2 (rz_v (fun Sq3 => rz_ev mRing_nextFirst [.ref 25] Sq3 (rz_i (fun xq4 Sq4 => rz mDisk_takeId 28 [(0, .ref 6), (1, .ref 25), (2, .int xq4), (3, .int 0)] [] Sq4 (rz_i K)))))))))) : rz mDisk_takeId 0 [(0, .ref 6)] [] S (rz_i K) := by
  refine rz_pure (pc' := 1) d_Disk_takeId_0 rfl ?_
  refine rz_callVv (t := []) d_Disk_takeId_1 w_4_53 rfl rfl rfl w (fun Sq1 q1 => ?_)
  refine rz_pure (pc' := 5) d_Disk_takeId_4 rfl ?_
  refine rz_getr d_Disk_takeId_5 f_4_20 rfl rfl ?_
  refine rz_bipush (v := 6) d_Disk_takeId_8 (by decide) ?_
  refine rz_aald (a := rgL) d_Disk_takeId_10 rfl rfl (by decide) ?_
  refine rz_pure (pc' := 12) (l' := [(1, .ref 25), (0, .ref 6)]) d_Disk_takeId_11 rfl ?_
  refine rz_pure (pc' := 13) d_Disk_takeId_12 rfl ?_
  refine rz_pure (pc' := 14) d_Disk_takeId_13 rfl ?_
  refine rz_iconst (v := 0) d_Disk_takeId_14 (by decide) ?_
  refine rz_callVi (t := [.int 0]) d_Disk_takeId_15 w_4_56 rfl rfl rfl q1 (fun xq2 Sq2 q2 => ?_)
  refine rz_callVv (t := [.int xq2]) d_Disk_takeId_18 w_4_60 rfl rfl rfl q2 (fun Sq3 q3 => ?_)
  refine rz_pure (pc' := 22) d_Disk_takeId_21 rfl ?_
  refine rz_callVi (t := []) d_Disk_takeId_22 w_4_64 rfl rfl rfl q3 (fun xq4 Sq4 q4 => ?_)
  refine rz_pure (pc' := 26) (l' := [(2, .int xq4), (1, .ref 25), (0, .ref 6)]) d_Disk_takeId_25 rfl ?_
  refine rz_iconst (v := 0) d_Disk_takeId_26 (by decide) ?_
  refine rz_pure (pc' := 28) (l' := [(3, .int 0), (2, .int xq4), (1, .ref 25), (0, .ref 6)]) d_Disk_takeId_27 rfl ?_
  exact rz_pick (ks := [0, 1, 2, 3]) (l := [(0, .ref 6), (1, .ref 25), (2, .int xq4), (3, .int 0)]) rfl rfl (by decide) rfl q4
theorem p_Disk_takeId_28 {S : rz_S} {K : Int32 → rz_S → Prop} {a1 : Nat} (ha1 : rgP a1) {a2 : Int32} {a3 : Int32} (w : ((32 ≤ a3 → rz mDisk_takeId 134 [(0, .ref 6)] [] S (rz_i K)) ∧ (¬ 32 ≤ a3 → ((a2 = (-1) → rz mDisk_takeId 134 [(0, .ref 6)] [] S (rz_i K)) ∧ (¬ a2 = (-1) → rz_ev mDisk_hasId [.ref 6] S (rz_i (fun xq3 Sq3 => ((xq3 = 0 → rz_ev mRing_onesAhead [.ref a1, .int a2] Sq3 (rz_i (fun xq5 Sq5 => rz_ev mRing_goTo [.ref a1, .int a2, .int xq5] Sq5 (rz_v (fun Sq6 => rz mDisk_takeId 59 [(0, .ref 6), (1, .ref a1), (3, .int a3), (4, .int 0)] [] Sq6 (rz_i K)))))) ∧ (¬ xq3 = 0 → rz mDisk_takeId 134 [(0, .ref 6)] [] Sq3 (rz_i K)))))))))) : rz mDisk_takeId 28 [(0, .ref 6), (1, .ref a1), (2, .int a2), (3, .int a3)] [] S (rz_i K) := by
  have za1 := rgZ ha1
  refine rz_pure (pc' := 29) d_Disk_takeId_28 rfl ?_
  refine rz_bipush (v := 32) d_Disk_takeId_29 (by decide) ?_
  refine rz_icmpge (tgt := 134) d_Disk_takeId_31 rfl (fun b1 => ?_) (fun b1 => ?_)
  · skip
    exact rz_pick (ks := [0]) (l := [(0, .ref 6)]) rfl rfl (by decide) rfl (w.1 b1)
  · skip
    refine rz_pure (pc' := 35) d_Disk_takeId_34 rfl ?_
    refine rz_iconst (v := -1) d_Disk_takeId_35 (by decide) ?_
    refine rz_icmpeq (tgt := 134) d_Disk_takeId_36 rfl (fun b2 => ?_) (fun b2 => ?_)
    · skip
      exact rz_pick (ks := [0]) (l := [(0, .ref 6)]) rfl rfl (by decide) rfl ((w.2 b1).1 b2)
    · skip
      refine rz_pure (pc' := 40) d_Disk_takeId_39 rfl ?_
      refine rz_callVi (t := []) d_Disk_takeId_40 w_4_68 rfl rfl rfl ((w.2 b1).2 b2) (fun xq3 Sq3 q3 => ?_)
      refine rz_ifne (tgt := 134) d_Disk_takeId_43 rfl (fun b4 => ?_) (fun b4 => ?_)
      · skip
        exact rz_pick (ks := [0]) (l := [(0, .ref 6)]) rfl rfl (by decide) rfl (q3.2 b4)
      · skip
        refine rz_pure (pc' := 47) d_Disk_takeId_46 rfl ?_
        refine rz_pure (pc' := 48) d_Disk_takeId_47 rfl ?_
        refine rz_pure (pc' := 49) d_Disk_takeId_48 rfl ?_
        refine rz_pure (pc' := 50) d_Disk_takeId_49 rfl ?_
        refine rz_callVi (t := [.int a2]) d_Disk_takeId_50 w_4_56 rfl (rgT ha1) rfl (q3.1 b4) (fun xq5 Sq5 q5 => ?_)
        refine rz_callVv (t := [.int xq5, .int a2]) d_Disk_takeId_53 w_4_72 rfl (rgT ha1) rfl q5 (fun Sq6 q6 => ?_)
        refine rz_iconst (v := 0) d_Disk_takeId_56 (by decide) ?_
        refine rz_pure (pc' := 59) (l' := [(4, .int 0), (0, .ref 6), (1, .ref a1), (2, .int a2), (3, .int a3)]) d_Disk_takeId_57 rfl ?_
        exact rz_pick (ks := [0, 1, 3, 4]) (l := [(0, .ref 6), (1, .ref a1), (3, .int a3), (4, .int 0)]) rfl rfl (by decide) rfl q6
theorem p_Disk_takeId_134 {S : rz_S} {K : Int32 → rz_S → Prop} (w : rz_ev mDisk_hasId [.ref 6] S (rz_i (fun xq1 Sq1 => ((xq1 = 0 → rz_ev mStatus_set [.ref 3, .int 74, .int 7, .int 0] Sq1 (rz_i (fun xq3 Sq3 => K xq3 Sq3))) ∧ (¬ xq1 = 0 → K 0 Sq1))))) : rz mDisk_takeId 134 [(0, .ref 6)] [] S (rz_i K) := by
  refine rz_pure (pc' := 135) d_Disk_takeId_134 rfl ?_
  refine rz_callVi (t := []) d_Disk_takeId_135 w_4_68 rfl rfl rfl w (fun xq1 Sq1 q1 => ?_)
  refine rz_ifeq (tgt := 145) d_Disk_takeId_138 rfl (fun b2 => ?_) (fun b2 => ?_)
  · skip
    refine rz_pure (pc' := 146) d_Disk_takeId_145 rfl ?_
    refine rz_getr d_Disk_takeId_146 f_4_40 rfl rfl ?_
    refine rz_bipush (v := 74) d_Disk_takeId_149 (by decide) ?_
    refine rz_bipush (v := 7) d_Disk_takeId_151 (by decide) ?_
    refine rz_iconst (v := 0) d_Disk_takeId_153 (by decide) ?_
    refine rz_callVi (t := [.int 0, .int 7, .int 74]) d_Disk_takeId_154 w_4_88 rfl rfl rfl (q1.1 b2) (fun xq3 Sq3 q3 => ?_)
    exact rz_ireti d_Disk_takeId_157 rfl rfl q3
  · skip
    refine rz_iconst (v := 0) d_Disk_takeId_141 (by decide) ?_
    refine rz_pure (pc' := 157) d_Disk_takeId_142 rfl ?_
    exact rz_ireti d_Disk_takeId_157 rfl rfl (q1.2 b2)
theorem p_Disk_takeId_59 {S : rz_S} {K : Int32 → rz_S → Prop} {a1 : Nat} (ha1 : rgP a1) {a3 : Int32} {a4 : Int32} (w : ((10 ≤ a4 → rz_ev mDisk_decode [.ref 9, .ref 8] S (rz_i (fun xq2 Sq2 => ((xq2 = 0 → rz mDisk_takeId 123 [(0, .ref 6), (1, .ref a1), (3, .int a3)] [] Sq2 (rz_i K)) ∧ (¬ xq2 = 0 → rz_ev mDisk_isHeader [.ref 6] Sq2 (rz_i (fun xq4 Sq4 => ((xq4 = 0 → rz mDisk_takeId 123 [(0, .ref 6), (1, .ref a1), (3, .int a3)] [] Sq4 (rz_i K)) ∧ (¬ xq4 = 0 → rz_ev mDisk_setId [.ref 6, .int (Sq4.1 8 5), .int (Sq4.1 8 4)] Sq4 (rz_v (fun Sq6 => rz mDisk_takeId 123 [(0, .ref 6), (1, .ref a1), (3, .int a3)] [] Sq6 (rz_i K)))))))))))) ∧ (¬ 10 ≤ a4 → rz_ev mRing_next [.ref a1] S (rz_i (fun xq7 Sq7 => rx_in a4 10 = true ∧ rz mDisk_takeId 59 [(0, .ref 6), (1, .ref a1), (3, .int a3), (4, .int (a4 + 1))] [] (rz_fA Sq7 9 (upd (Sq7.1 9) a4.toNatClampNeg xq7)) (rz_i K)))))) : rz mDisk_takeId 59 [(0, .ref 6), (1, .ref a1), (3, .int a3), (4, .int a4)] [] S (rz_i K) := by
  have za1 := rgZ ha1
  refine rz_pure (pc' := 61) d_Disk_takeId_59 rfl ?_
  refine rz_pure (pc' := 62) d_Disk_takeId_61 rfl ?_
  refine rz_getr d_Disk_takeId_62 f_4_28 rfl rfl ?_
  refine rz_alenv (v := 10) d_Disk_takeId_65 rfl (by decide) rfl ?_
  refine rz_icmpge (tgt := 86) d_Disk_takeId_66 rfl (fun b1 => ?_) (fun b1 => ?_)
  · skip
    refine rz_pure (pc' := 87) d_Disk_takeId_86 rfl ?_
    refine rz_getr d_Disk_takeId_87 f_4_28 rfl rfl ?_
    refine rz_pure (pc' := 91) d_Disk_takeId_90 rfl ?_
    refine rz_getr d_Disk_takeId_91 f_4_24 rfl rfl ?_
    refine rz_callSi (t := [.ref 8, .ref 9]) d_Disk_takeId_94 rfl w_4_78 rfl rfl (w.1 b1) (fun xq2 Sq2 q2 => ?_)
    refine rz_ifeq (tgt := 123) d_Disk_takeId_97 rfl (fun b3 => ?_) (fun b3 => ?_)
    · skip
      exact rz_pick (ks := [0, 1, 3]) (l := [(0, .ref 6), (1, .ref a1), (3, .int a3)]) rfl rfl (by decide) rfl (q2.1 b3)
    · skip
      refine rz_pure (pc' := 101) d_Disk_takeId_100 rfl ?_
      refine rz_callVi (t := []) d_Disk_takeId_101 w_4_82 rfl rfl rfl (q2.2 b3) (fun xq4 Sq4 q4 => ?_)
      refine rz_ifeq (tgt := 123) d_Disk_takeId_104 rfl (fun b5 => ?_) (fun b5 => ?_)
      · skip
        exact rz_pick (ks := [0, 1, 3]) (l := [(0, .ref 6), (1, .ref a1), (3, .int a3)]) rfl rfl (by decide) rfl (q4.1 b5)
      · skip
        refine rz_pure (pc' := 108) d_Disk_takeId_107 rfl ?_
        refine rz_pure (pc' := 109) d_Disk_takeId_108 rfl ?_
        refine rz_getr d_Disk_takeId_109 f_4_24 rfl rfl ?_
        refine rz_iconst (v := 5) d_Disk_takeId_112 (by decide) ?_
        refine rz_ialdv (F := Sq4.1 8) (i := 5) d_Disk_takeId_113 rfl (by decide) rfl (by decide) ?_
        refine rz_pure (pc' := 115) d_Disk_takeId_114 rfl ?_
        refine rz_getr d_Disk_takeId_115 f_4_24 rfl rfl ?_
        refine rz_iconst (v := 4) d_Disk_takeId_118 (by decide) ?_
        refine rz_ialdv (F := Sq4.1 8) (i := 4) d_Disk_takeId_119 rfl (by decide) rfl (by decide) ?_
        refine rz_callVv (t := [.int (Sq4.1 8 4), .int (Sq4.1 8 5)]) d_Disk_takeId_120 w_4_85 rfl rfl rfl (q4.2 b5) (fun Sq6 q6 => ?_)
        exact rz_pick (ks := [0, 1, 3]) (l := [(0, .ref 6), (1, .ref a1), (3, .int a3)]) rfl rfl (by decide) rfl q6
  · skip
    refine rz_pure (pc' := 70) d_Disk_takeId_69 rfl ?_
    refine rz_getr d_Disk_takeId_70 f_4_28 rfl rfl ?_
    refine rz_pure (pc' := 75) d_Disk_takeId_73 rfl ?_
    refine rz_pure (pc' := 76) d_Disk_takeId_75 rfl ?_
    refine rz_callVi (t := []) d_Disk_takeId_76 w_4_75 rfl (rgT ha1) rfl (w.2 b1) (fun xq7 Sq7 q7 => ?_)
    refine rz_iastv (F := Sq7.1 9) (i := a4.toNatClampNeg) d_Disk_takeId_79 rfl q7.1 rfl rfl ?_
    refine rz_pure (pc' := 83) (l' := [(4, .int (a4 + 1)), (0, .ref 6), (1, .ref a1), (3, .int a3)]) d_Disk_takeId_80 rfl ?_
    refine rz_pure (pc' := 59) d_Disk_takeId_83 rfl ?_
    exact rz_pick (ks := [0, 1, 3, 4]) (l := [(0, .ref 6), (1, .ref a1), (3, .int a3), (4, .int (a4 + 1))]) rfl rfl (by decide) rfl q7.2
theorem p_Disk_takeId_123 {S : rz_S} {K : Int32 → rz_S → Prop} {a1 : Nat} (ha1 : rgP a1) {a3 : Int32} (w : rz_ev mRing_nextFirst [.ref a1] S (rz_i (fun xq1 Sq1 => rz mDisk_takeId 28 [(0, .ref 6), (1, .ref a1), (2, .int xq1), (3, .int (a3 + 1))] [] Sq1 (rz_i K)))) : rz mDisk_takeId 123 [(0, .ref 6), (1, .ref a1), (3, .int a3)] [] S (rz_i K) := by
  have za1 := rgZ ha1
  refine rz_pure (pc' := 124) d_Disk_takeId_123 rfl ?_
  refine rz_callVi (t := []) d_Disk_takeId_124 w_4_64 rfl (rgT ha1) rfl w (fun xq1 Sq1 q1 => ?_)
  refine rz_pure (pc' := 128) (l' := [(2, .int xq1), (0, .ref 6), (1, .ref a1), (3, .int a3)]) d_Disk_takeId_127 rfl ?_
  refine rz_pure (pc' := 131) (l' := [(3, .int (a3 + 1)), (2, .int xq1), (0, .ref 6), (1, .ref a1)]) d_Disk_takeId_128 rfl ?_
  refine rz_pure (pc' := 28) d_Disk_takeId_131 rfl ?_
  exact rz_pick (ks := [0, 1, 2, 3]) (l := [(0, .ref 6), (1, .ref a1), (2, .int xq1), (3, .int (a3 + 1))]) rfl rfl (by decide) rfl q1
theorem p_Disk_dropId_0 {S : rz_S} {K : rz_S → Prop} (w : K (rz_uI (rz_uI S 6 1 (-1)) 6 2 (-1))) : rz mDisk_dropId 0 [(0, .ref 6)] [] S (rz_v K) := by
  refine rz_pure (pc' := 1) d_Disk_dropId_0 rfl ?_
  refine rz_iconst (v := -1) d_Disk_dropId_1 (by decide) ?_
  refine rz_puti d_Disk_dropId_2 f_4_9 rfl rfl rfl ?_
  refine rz_pure (pc' := 6) d_Disk_dropId_5 rfl ?_
  refine rz_iconst (v := -1) d_Disk_dropId_6 (by decide) ?_
  refine rz_puti d_Disk_dropId_7 f_4_15 rfl rfl rfl ?_
  exact rz_vretv d_Disk_dropId_10 rfl w
theorem d_Disk_decode_0 : decode (rm_code mDisk_decode) 0 = .ok (.iconst 0, 1) := by decide +kernel
theorem d_Disk_decode_1 : decode (rm_code mDisk_decode) 1 = .ok (.istore_n 2, 1) := by decide +kernel
theorem d_Disk_decode_2 : decode (rm_code mDisk_decode) 2 = .ok (.iconst 0, 1) := by decide +kernel
theorem d_Disk_decode_3 : decode (rm_code mDisk_decode) 3 = .ok (.istore_n 3, 1) := by decide +kernel
theorem d_Disk_decode_4 : decode (rm_code mDisk_decode) 4 = .ok (.iconst 0, 1) := by decide +kernel
theorem d_Disk_decode_5 : decode (rm_code mDisk_decode) 5 = .ok (.istore 4, 2) := by decide +kernel
theorem d_Disk_decode_7 : decode (rm_code mDisk_decode) 7 = .ok (.iconst 0, 1) := by decide +kernel
theorem d_Disk_decode_8 : decode (rm_code mDisk_decode) 8 = .ok (.istore 5, 2) := by decide +kernel
theorem d_Disk_decode_10 : decode (rm_code mDisk_decode) 10 = .ok (.iload 5, 2) := by decide +kernel
theorem d_Disk_decode_12 : decode (rm_code mDisk_decode) 12 = .ok (.iconst 2, 1) := by decide +kernel
theorem d_Disk_decode_13 : decode (rm_code mDisk_decode) 13 = .ok (.aload_n 1, 1) := by decide +kernel
theorem d_Disk_decode_14 : decode (rm_code mDisk_decode) 14 = .ok (.arraylength, 1) := by decide +kernel
theorem d_Disk_decode_15 : decode (rm_code mDisk_decode) 15 = .ok (.imul, 1) := by decide +kernel
theorem d_Disk_decode_16 : decode (rm_code mDisk_decode) 16 = .ok (.if_icmp .ge (100), 3) := by decide +kernel
theorem d_Disk_decode_19 : decode (rm_code mDisk_decode) 19 = .ok (.iload_n 3, 1) := by decide +kernel
theorem d_Disk_decode_20 : decode (rm_code mDisk_decode) 20 = .ok (.iconst 5, 1) := by decide +kernel
theorem d_Disk_decode_21 : decode (rm_code mDisk_decode) 21 = .ok (.if_icmp .ge (30), 3) := by decide +kernel
theorem d_Disk_decode_24 : decode (rm_code mDisk_decode) 24 = .ok (.iload 4, 2) := by decide +kernel
theorem d_Disk_decode_26 : decode (rm_code mDisk_decode) 26 = .ok (.aload_n 0, 1) := by decide +kernel
theorem d_Disk_decode_27 : decode (rm_code mDisk_decode) 27 = .ok (.arraylength, 1) := by decide +kernel
theorem d_Disk_decode_28 : decode (rm_code mDisk_decode) 28 = .ok (.if_icmp .ge (23), 3) := by decide +kernel
theorem d_Disk_decode_31 : decode (rm_code mDisk_decode) 31 = .ok (.iload_n 2, 1) := by decide +kernel
theorem d_Disk_decode_32 : decode (rm_code mDisk_decode) 32 = .ok (.bipush (8), 2) := by decide +kernel
theorem d_Disk_decode_34 : decode (rm_code mDisk_decode) 34 = .ok (.ishl, 1) := by decide +kernel
theorem d_Disk_decode_35 : decode (rm_code mDisk_decode) 35 = .ok (.sipush (4095), 3) := by decide +kernel
theorem d_Disk_decode_38 : decode (rm_code mDisk_decode) 38 = .ok (.iand, 1) := by decide +kernel
theorem d_Disk_decode_39 : decode (rm_code mDisk_decode) 39 = .ok (.aload_n 0, 1) := by decide +kernel
theorem d_Disk_decode_40 : decode (rm_code mDisk_decode) 40 = .ok (.iload 4, 2) := by decide +kernel
theorem d_Disk_decode_42 : decode (rm_code mDisk_decode) 42 = .ok (.iaload, 1) := by decide +kernel
theorem d_Disk_decode_43 : decode (rm_code mDisk_decode) 43 = .ok (.ior, 1) := by decide +kernel
theorem d_Disk_decode_44 : decode (rm_code mDisk_decode) 44 = .ok (.istore_n 2, 1) := by decide +kernel
theorem d_Disk_decode_45 : decode (rm_code mDisk_decode) 45 = .ok (.iinc 3 (8), 3) := by decide +kernel
theorem d_Disk_decode_48 : decode (rm_code mDisk_decode) 48 = .ok (.iinc 4 (1), 3) := by decide +kernel
theorem d_Disk_decode_51 : decode (rm_code mDisk_decode) 51 = .ok (.iinc 3 (-5), 3) := by decide +kernel
theorem d_Disk_decode_54 : decode (rm_code mDisk_decode) 54 = .ok (.iload_n 3, 1) := by decide +kernel
theorem d_Disk_decode_55 : decode (rm_code mDisk_decode) 55 = .ok (.ifCond .lt (16), 3) := by decide +kernel
theorem d_Disk_decode_58 : decode (rm_code mDisk_decode) 58 = .ok (.getstatic 164, 3) := by decide +kernel
theorem d_Disk_decode_61 : decode (rm_code mDisk_decode) 61 = .ok (.iload_n 2, 1) := by decide +kernel
theorem d_Disk_decode_62 : decode (rm_code mDisk_decode) 62 = .ok (.iload_n 3, 1) := by decide +kernel
theorem d_Disk_decode_63 : decode (rm_code mDisk_decode) 63 = .ok (.ishr, 1) := by decide +kernel
theorem d_Disk_decode_64 : decode (rm_code mDisk_decode) 64 = .ok (.bipush (31), 2) := by decide +kernel
theorem d_Disk_decode_66 : decode (rm_code mDisk_decode) 66 = .ok (.iand, 1) := by decide +kernel
theorem d_Disk_decode_67 : decode (rm_code mDisk_decode) 67 = .ok (.iaload, 1) := by decide +kernel
theorem d_Disk_decode_68 : decode (rm_code mDisk_decode) 68 = .ok (.goto (4), 3) := by decide +kernel
theorem d_Disk_decode_71 : decode (rm_code mDisk_decode) 71 = .ok (.iconst (-1), 1) := by decide +kernel
theorem d_Disk_decode_72 : decode (rm_code mDisk_decode) 72 = .ok (.istore 6, 2) := by decide +kernel
theorem d_Disk_decode_74 : decode (rm_code mDisk_decode) 74 = .ok (.iload 6, 2) := by decide +kernel
theorem d_Disk_decode_76 : decode (rm_code mDisk_decode) 76 = .ok (.ifCond .ge (5), 3) := by decide +kernel
theorem d_Disk_decode_79 : decode (rm_code mDisk_decode) 79 = .ok (.iconst 0, 1) := by decide +kernel
theorem d_Disk_decode_80 : decode (rm_code mDisk_decode) 80 = .ok (.ireturn, 1) := by decide +kernel
theorem d_Disk_decode_81 : decode (rm_code mDisk_decode) 81 = .ok (.aload_n 1, 1) := by decide +kernel
theorem d_Disk_decode_82 : decode (rm_code mDisk_decode) 82 = .ok (.iload 5, 2) := by decide +kernel
theorem d_Disk_decode_84 : decode (rm_code mDisk_decode) 84 = .ok (.iconst 1, 1) := by decide +kernel
theorem d_Disk_decode_85 : decode (rm_code mDisk_decode) 85 = .ok (.ishr, 1) := by decide +kernel
theorem d_Disk_decode_86 : decode (rm_code mDisk_decode) 86 = .ok (.iload 5, 2) := by decide +kernel
theorem d_Disk_decode_88 : decode (rm_code mDisk_decode) 88 = .ok (.iconst 1, 1) := by decide +kernel
theorem d_Disk_decode_89 : decode (rm_code mDisk_decode) 89 = .ok (.iand, 1) := by decide +kernel
theorem d_Disk_decode_90 : decode (rm_code mDisk_decode) 90 = .ok (.ifCond .ne (10), 3) := by decide +kernel
theorem d_Disk_decode_93 : decode (rm_code mDisk_decode) 93 = .ok (.iload 6, 2) := by decide +kernel
theorem d_Disk_decode_95 : decode (rm_code mDisk_decode) 95 = .ok (.iconst 4, 1) := by decide +kernel
theorem d_Disk_decode_96 : decode (rm_code mDisk_decode) 96 = .ok (.ishl, 1) := by decide +kernel
theorem d_Disk_decode_97 : decode (rm_code mDisk_decode) 97 = .ok (.goto (12), 3) := by decide +kernel
theorem d_Disk_decode_100 : decode (rm_code mDisk_decode) 100 = .ok (.aload_n 1, 1) := by decide +kernel
theorem d_Disk_decode_101 : decode (rm_code mDisk_decode) 101 = .ok (.iload 5, 2) := by decide +kernel
theorem d_Disk_decode_103 : decode (rm_code mDisk_decode) 103 = .ok (.iconst 1, 1) := by decide +kernel
theorem d_Disk_decode_104 : decode (rm_code mDisk_decode) 104 = .ok (.ishr, 1) := by decide +kernel
theorem d_Disk_decode_105 : decode (rm_code mDisk_decode) 105 = .ok (.iaload, 1) := by decide +kernel
theorem d_Disk_decode_106 : decode (rm_code mDisk_decode) 106 = .ok (.iload 6, 2) := by decide +kernel
theorem d_Disk_decode_108 : decode (rm_code mDisk_decode) 108 = .ok (.ior, 1) := by decide +kernel
theorem d_Disk_decode_109 : decode (rm_code mDisk_decode) 109 = .ok (.iastore, 1) := by decide +kernel
theorem d_Disk_decode_110 : decode (rm_code mDisk_decode) 110 = .ok (.iinc 5 (1), 3) := by decide +kernel
theorem d_Disk_decode_113 : decode (rm_code mDisk_decode) 113 = .ok (.goto (-103), 3) := by decide +kernel
theorem d_Disk_decode_116 : decode (rm_code mDisk_decode) 116 = .ok (.iconst 1, 1) := by decide +kernel
theorem d_Disk_decode_117 : decode (rm_code mDisk_decode) 117 = .ok (.ireturn, 1) := by decide +kernel
theorem p_Disk_decode_0 {S : rz_S} {K : Int32 → rz_S → Prop} {a0 na0 : Nat} (ha0 : rz_T[a0]? = some (.inl (0, na0))) {a1 na1 : Nat} (ha1 : rz_T[a1]? = some (.inl (0, na1))) (w : rz mDisk_decode 10 [(0, .ref a0), (1, .ref a1), (2, .int 0), (3, .int 0), (4, .int 0), (5, .int 0)] [] S (rz_i K)) : rz mDisk_decode 0 [(0, .ref a0), (1, .ref a1)] [] S (rz_i K) := by
  refine rz_iconst (v := 0) d_Disk_decode_0 (by decide) ?_
  refine rz_pure (pc' := 2) (l' := [(2, .int 0), (0, .ref a0), (1, .ref a1)]) d_Disk_decode_1 rfl ?_
  refine rz_iconst (v := 0) d_Disk_decode_2 (by decide) ?_
  refine rz_pure (pc' := 4) (l' := [(3, .int 0), (2, .int 0), (0, .ref a0), (1, .ref a1)]) d_Disk_decode_3 rfl ?_
  refine rz_iconst (v := 0) d_Disk_decode_4 (by decide) ?_
  refine rz_pure (pc' := 7) (l' := [(4, .int 0), (3, .int 0), (2, .int 0), (0, .ref a0), (1, .ref a1)]) d_Disk_decode_5 rfl ?_
  refine rz_iconst (v := 0) d_Disk_decode_7 (by decide) ?_
  refine rz_pure (pc' := 10) (l' := [(5, .int 0), (4, .int 0), (3, .int 0), (2, .int 0), (0, .ref a0), (1, .ref a1)]) d_Disk_decode_8 rfl ?_
  exact rz_pick (ks := [0, 1, 2, 3, 4, 5]) (l := [(0, .ref a0), (1, .ref a1), (2, .int 0), (3, .int 0), (4, .int 0), (5, .int 0)]) rfl rfl (by decide) rfl w
theorem p_Disk_decode_10 {S : rz_S} {K : Int32 → rz_S → Prop} {a0 na0 : Nat} (ha0 : rz_T[a0]? = some (.inl (0, na0))) {a1 na1 : Nat} (ha1 : rz_T[a1]? = some (.inl (0, na1))) {a2 : Int32} {a3 : Int32} {a4 : Int32} {a5 : Int32} (w : ((2 * (Int32.ofNat na1) ≤ a5 → K 1 S) ∧ (¬ 2 * (Int32.ofNat na1) ≤ a5 → ((5 ≤ a3 → rz mDisk_decode 51 [(0, .ref a0), (1, .ref a1), (2, .int a2), (3, .int a3), (4, .int a4), (5, .int a5)] [] S (rz_i K)) ∧ (¬ 5 ≤ a3 → ((Int32.ofNat na0 ≤ a4 → rz mDisk_decode 51 [(0, .ref a0), (1, .ref a1), (2, .int a2), (3, .int a3), (4, .int a4), (5, .int a5)] [] S (rz_i K)) ∧ (¬ Int32.ofNat na0 ≤ a4 → rx_in a4 na0 = true ∧ rz mDisk_decode 51 [(0, .ref a0), (1, .ref a1), (2, .int (((a2 <<< ((8 : Int32) &&& 31)) &&& 4095) ||| (S.1 a0 a4.toNatClampNeg))), (3, .int (a3 + 8)), (4, .int (a4 + 1)), (5, .int a5)] [] S (rz_i K)))))))) : rz mDisk_decode 10 [(0, .ref a0), (1, .ref a1), (2, .int a2), (3, .int a3), (4, .int a4), (5, .int a5)] [] S (rz_i K) := by
  refine rz_pure (pc' := 12) d_Disk_decode_10 rfl ?_
  refine rz_iconst (v := 2) d_Disk_decode_12 (by decide) ?_
  refine rz_pure (pc' := 14) d_Disk_decode_13 rfl ?_
  refine rz_alenv (v := Int32.ofNat na1) d_Disk_decode_14 (ha1) (by decide) rfl ?_
  refine rz_imul d_Disk_decode_15 ?_
  refine rz_icmpge (tgt := 116) d_Disk_decode_16 rfl (fun b1 => ?_) (fun b1 => ?_)
  · skip
    refine rz_iconst (v := 1) d_Disk_decode_116 (by decide) ?_
    exact rz_ireti d_Disk_decode_117 rfl (by decide) (w.1 b1)
  · skip
    refine rz_pure (pc' := 20) d_Disk_decode_19 rfl ?_
    refine rz_iconst (v := 5) d_Disk_decode_20 (by decide) ?_
    refine rz_icmpge (tgt := 51) d_Disk_decode_21 rfl (fun b2 => ?_) (fun b2 => ?_)
    · skip
      exact rz_pick (ks := [0, 1, 2, 3, 4, 5]) (l := [(0, .ref a0), (1, .ref a1), (2, .int a2), (3, .int a3), (4, .int a4), (5, .int a5)]) rfl rfl (by decide) rfl ((w.2 b1).1 b2)
    · skip
      refine rz_pure (pc' := 26) d_Disk_decode_24 rfl ?_
      refine rz_pure (pc' := 27) d_Disk_decode_26 rfl ?_
      refine rz_alenv (v := Int32.ofNat na0) d_Disk_decode_27 (ha0) (by decide) rfl ?_
      refine rz_icmpge (tgt := 51) d_Disk_decode_28 rfl (fun b3 => ?_) (fun b3 => ?_)
      · skip
        exact rz_pick (ks := [0, 1, 2, 3, 4, 5]) (l := [(0, .ref a0), (1, .ref a1), (2, .int a2), (3, .int a3), (4, .int a4), (5, .int a5)]) rfl rfl (by decide) rfl (((w.2 b1).2 b2).1 b3)
      · skip
        refine rz_pure (pc' := 32) d_Disk_decode_31 rfl ?_
        refine rz_bipush (v := 8) d_Disk_decode_32 (by decide) ?_
        refine rz_ishl d_Disk_decode_34 ?_
        refine rz_sipush (v := 4095) d_Disk_decode_35 (by decide) ?_
        refine rz_iand d_Disk_decode_38 ?_
        refine rz_pure (pc' := 40) d_Disk_decode_39 rfl ?_
        refine rz_pure (pc' := 42) d_Disk_decode_40 rfl ?_
        refine rz_ialdv (F := S.1 a0) (i := a4.toNatClampNeg) d_Disk_decode_42 (ha0) (((w.2 b1).2 b2).2 b3).1 rfl rfl ?_
        refine rz_ior d_Disk_decode_43 ?_
        refine rz_pure (pc' := 45) (l' := [(2, .int (((a2 <<< ((8 : Int32) &&& 31)) &&& 4095) ||| (S.1 a0 a4.toNatClampNeg))), (0, .ref a0), (1, .ref a1), (3, .int a3), (4, .int a4), (5, .int a5)]) d_Disk_decode_44 rfl ?_
        refine rz_pure (pc' := 48) (l' := [(3, .int (a3 + 8)), (2, .int (((a2 <<< ((8 : Int32) &&& 31)) &&& 4095) ||| (S.1 a0 a4.toNatClampNeg))), (0, .ref a0), (1, .ref a1), (4, .int a4), (5, .int a5)]) d_Disk_decode_45 rfl ?_
        refine rz_pure (pc' := 51) (l' := [(4, .int (a4 + 1)), (3, .int (a3 + 8)), (2, .int (((a2 <<< ((8 : Int32) &&& 31)) &&& 4095) ||| (S.1 a0 a4.toNatClampNeg))), (0, .ref a0), (1, .ref a1), (5, .int a5)]) d_Disk_decode_48 rfl ?_
        exact rz_pick (ks := [0, 1, 2, 3, 4, 5]) (l := [(0, .ref a0), (1, .ref a1), (2, .int (((a2 <<< ((8 : Int32) &&& 31)) &&& 4095) ||| (S.1 a0 a4.toNatClampNeg))), (3, .int (a3 + 8)), (4, .int (a4 + 1)), (5, .int a5)]) rfl rfl (by decide) rfl (((w.2 b1).2 b2).2 b3).2
theorem p_Disk_decode_51 {S : rz_S} {K : Int32 → rz_S → Prop} {a0 na0 : Nat} (ha0 : rz_T[a0]? = some (.inl (0, na0))) {a1 na1 : Nat} (ha1 : rz_T[a1]? = some (.inl (0, na1))) {a2 : Int32} {a3 : Int32} {a4 : Int32} {a5 : Int32} (w : ((a3 + (-5) < 0 → rz mDisk_decode 72 [(0, .ref a0), (1, .ref a1), (2, .int a2), (3, .int (a3 + (-5))), (4, .int a4), (5, .int a5)] [.int (-1)] S (rz_i K)) ∧ (¬ a3 + (-5) < 0 → rx_in ((a2 >>> ((a3 + (-5)) &&& 31)) &&& 31) 32 = true ∧ rz mDisk_decode 72 [(0, .ref a0), (1, .ref a1), (2, .int a2), (3, .int (a3 + (-5))), (4, .int a4), (5, .int a5)] [.int (sa_v 3 (((a2 >>> ((a3 + (-5)) &&& 31)) &&& 31).toNatClampNeg))] S (rz_i K)))) : rz mDisk_decode 51 [(0, .ref a0), (1, .ref a1), (2, .int a2), (3, .int a3), (4, .int a4), (5, .int a5)] [] S (rz_i K) := by
  refine rz_pure (pc' := 54) (l' := [(3, .int (a3 + (-5))), (0, .ref a0), (1, .ref a1), (2, .int a2), (4, .int a4), (5, .int a5)]) d_Disk_decode_51 rfl ?_
  refine rz_pure (pc' := 55) d_Disk_decode_54 rfl ?_
  refine rz_iflt (tgt := 71) d_Disk_decode_55 rfl (fun b1 => ?_) (fun b1 => ?_)
  · skip
    refine rz_iconst (v := -1) d_Disk_decode_71 (by decide) ?_
    exact rz_pick (ks := [0, 1, 2, 3, 4, 5]) (l := [(0, .ref a0), (1, .ref a1), (2, .int a2), (3, .int (a3 + (-5))), (4, .int a4), (5, .int a5)]) rfl rfl (by decide) rfl (w.1 b1)
  · skip
    refine rz_stat (v := .ref 3000003) d_Disk_decode_58 rfl ?_
    refine rz_pure (pc' := 62) d_Disk_decode_61 rfl ?_
    refine rz_pure (pc' := 63) d_Disk_decode_62 rfl ?_
    refine rz_ishr d_Disk_decode_63 ?_
    refine rz_bipush (v := 31) d_Disk_decode_64 (by decide) ?_
    refine rz_iand d_Disk_decode_66 ?_
    refine rz_staldv (j := 3) (n := 32) (i := ((a2 >>> ((a3 + (-5)) &&& 31)) &&& 31).toNatClampNeg) d_Disk_decode_67 rfl rfl rfl (w.2 b1).1 rfl ?_
    refine rz_pure (pc' := 72) d_Disk_decode_68 rfl ?_
    exact rz_pick (ks := [0, 1, 2, 3, 4, 5]) (l := [(0, .ref a0), (1, .ref a1), (2, .int a2), (3, .int (a3 + (-5))), (4, .int a4), (5, .int a5)]) rfl rfl (by decide) rfl (w.2 b1).2
theorem p_Disk_decode_72 {S : rz_S} {K : Int32 → rz_S → Prop} {a0 na0 : Nat} (ha0 : rz_T[a0]? = some (.inl (0, na0))) {a1 na1 : Nat} (ha1 : rz_T[a1]? = some (.inl (0, na1))) {a2 : Int32} {a3 : Int32} {a4 : Int32} {a5 : Int32} {s0 : Int32} (w : ((0 ≤ s0 → ((a5 &&& 1 = 0 → rx_in (a5 >>> ((1 : Int32) &&& 31)) na1 = true ∧ rz mDisk_decode 10 [(0, .ref a0), (1, .ref a1), (2, .int a2), (3, .int a3), (4, .int a4), (5, .int (a5 + 1))] [] (rz_fA S a1 (upd (S.1 a1) ((a5 >>> ((1 : Int32) &&& 31)).toNatClampNeg) (s0 <<< ((4 : Int32) &&& 31)))) (rz_i K)) ∧ (¬ a5 &&& 1 = 0 → rx_in (a5 >>> ((1 : Int32) &&& 31)) na1 = true ∧ rz mDisk_decode 10 [(0, .ref a0), (1, .ref a1), (2, .int a2), (3, .int a3), (4, .int a4), (5, .int (a5 + 1))] [] (rz_fA S a1 (upd (S.1 a1) ((a5 >>> ((1 : Int32) &&& 31)).toNatClampNeg) ((S.1 a1 ((a5 >>> ((1 : Int32) &&& 31)).toNatClampNeg)) ||| s0))) (rz_i K)))) ∧ (¬ 0 ≤ s0 → K 0 S))) : rz mDisk_decode 72 [(0, .ref a0), (1, .ref a1), (2, .int a2), (3, .int a3), (4, .int a4), (5, .int a5)] [.int s0] S (rz_i K) := by
  refine rz_pure (pc' := 74) (l' := [(6, .int s0), (0, .ref a0), (1, .ref a1), (2, .int a2), (3, .int a3), (4, .int a4), (5, .int a5)]) d_Disk_decode_72 rfl ?_
  refine rz_pure (pc' := 76) d_Disk_decode_74 rfl ?_
  refine rz_ifge (tgt := 81) d_Disk_decode_76 rfl (fun b1 => ?_) (fun b1 => ?_)
  · skip
    refine rz_pure (pc' := 82) d_Disk_decode_81 rfl ?_
    refine rz_pure (pc' := 84) d_Disk_decode_82 rfl ?_
    refine rz_iconst (v := 1) d_Disk_decode_84 (by decide) ?_
    refine rz_ishr d_Disk_decode_85 ?_
    refine rz_pure (pc' := 88) d_Disk_decode_86 rfl ?_
    refine rz_iconst (v := 1) d_Disk_decode_88 (by decide) ?_
    refine rz_iand d_Disk_decode_89 ?_
    refine rz_ifne (tgt := 100) d_Disk_decode_90 rfl (fun b2 => ?_) (fun b2 => ?_)
    · skip
      refine rz_pure (pc' := 101) d_Disk_decode_100 rfl ?_
      refine rz_pure (pc' := 103) d_Disk_decode_101 rfl ?_
      refine rz_iconst (v := 1) d_Disk_decode_103 (by decide) ?_
      refine rz_ishr d_Disk_decode_104 ?_
      refine rz_ialdv (F := S.1 a1) (i := (a5 >>> ((1 : Int32) &&& 31)).toNatClampNeg) d_Disk_decode_105 (ha1) ((w.1 b1).2 b2).1 rfl rfl ?_
      refine rz_pure (pc' := 108) d_Disk_decode_106 rfl ?_
      refine rz_ior d_Disk_decode_108 ?_
      refine rz_iastv (F := S.1 a1) (i := (a5 >>> ((1 : Int32) &&& 31)).toNatClampNeg) d_Disk_decode_109 (ha1) ((w.1 b1).2 b2).1 rfl rfl ?_
      refine rz_pure (pc' := 113) (l' := [(5, .int (a5 + 1)), (6, .int s0), (0, .ref a0), (1, .ref a1), (2, .int a2), (3, .int a3), (4, .int a4)]) d_Disk_decode_110 rfl ?_
      refine rz_pure (pc' := 10) d_Disk_decode_113 rfl ?_
      exact rz_pick (ks := [0, 1, 2, 3, 4, 5]) (l := [(0, .ref a0), (1, .ref a1), (2, .int a2), (3, .int a3), (4, .int a4), (5, .int (a5 + 1))]) rfl rfl (by decide) rfl ((w.1 b1).2 b2).2
    · skip
      refine rz_pure (pc' := 95) d_Disk_decode_93 rfl ?_
      refine rz_iconst (v := 4) d_Disk_decode_95 (by decide) ?_
      refine rz_ishl d_Disk_decode_96 ?_
      refine rz_pure (pc' := 109) d_Disk_decode_97 rfl ?_
      refine rz_iastv (F := S.1 a1) (i := (a5 >>> ((1 : Int32) &&& 31)).toNatClampNeg) d_Disk_decode_109 (ha1) ((w.1 b1).1 b2).1 rfl rfl ?_
      refine rz_pure (pc' := 113) (l' := [(5, .int (a5 + 1)), (6, .int s0), (0, .ref a0), (1, .ref a1), (2, .int a2), (3, .int a3), (4, .int a4)]) d_Disk_decode_110 rfl ?_
      refine rz_pure (pc' := 10) d_Disk_decode_113 rfl ?_
      exact rz_pick (ks := [0, 1, 2, 3, 4, 5]) (l := [(0, .ref a0), (1, .ref a1), (2, .int a2), (3, .int a3), (4, .int a4), (5, .int (a5 + 1))]) rfl rfl (by decide) rfl ((w.1 b1).1 b2).2
  · skip
    refine rz_iconst (v := 0) d_Disk_decode_79 (by decide) ?_
    exact rz_ireti d_Disk_decode_80 rfl (by decide) (w.2 b1)
theorem d_Disk_isHeader_0 : decode (rm_code mDisk_isHeader) 0 = .ok (.aload_n 0, 1) := by decide +kernel
theorem d_Disk_isHeader_1 : decode (rm_code mDisk_isHeader) 1 = .ok (.getfield 24, 3) := by decide +kernel
theorem d_Disk_isHeader_4 : decode (rm_code mDisk_isHeader) 4 = .ok (.iconst 0, 1) := by decide +kernel
theorem d_Disk_isHeader_5 : decode (rm_code mDisk_isHeader) 5 = .ok (.iaload, 1) := by decide +kernel
theorem d_Disk_isHeader_6 : decode (rm_code mDisk_isHeader) 6 = .ok (.bipush (8), 2) := by decide +kernel
theorem d_Disk_isHeader_8 : decode (rm_code mDisk_isHeader) 8 = .ok (.if_icmp .ne (43), 3) := by decide +kernel
theorem d_Disk_isHeader_11 : decode (rm_code mDisk_isHeader) 11 = .ok (.aload_n 0, 1) := by decide +kernel
theorem d_Disk_isHeader_12 : decode (rm_code mDisk_isHeader) 12 = .ok (.getfield 24, 3) := by decide +kernel
theorem d_Disk_isHeader_15 : decode (rm_code mDisk_isHeader) 15 = .ok (.iconst 1, 1) := by decide +kernel
theorem d_Disk_isHeader_16 : decode (rm_code mDisk_isHeader) 16 = .ok (.iaload, 1) := by decide +kernel
theorem d_Disk_isHeader_17 : decode (rm_code mDisk_isHeader) 17 = .ok (.aload_n 0, 1) := by decide +kernel
theorem d_Disk_isHeader_18 : decode (rm_code mDisk_isHeader) 18 = .ok (.getfield 24, 3) := by decide +kernel
theorem d_Disk_isHeader_21 : decode (rm_code mDisk_isHeader) 21 = .ok (.iconst 2, 1) := by decide +kernel
theorem d_Disk_isHeader_22 : decode (rm_code mDisk_isHeader) 22 = .ok (.iaload, 1) := by decide +kernel
theorem d_Disk_isHeader_23 : decode (rm_code mDisk_isHeader) 23 = .ok (.aload_n 0, 1) := by decide +kernel
theorem d_Disk_isHeader_24 : decode (rm_code mDisk_isHeader) 24 = .ok (.getfield 24, 3) := by decide +kernel
theorem d_Disk_isHeader_27 : decode (rm_code mDisk_isHeader) 27 = .ok (.iconst 3, 1) := by decide +kernel
theorem d_Disk_isHeader_28 : decode (rm_code mDisk_isHeader) 28 = .ok (.iaload, 1) := by decide +kernel
theorem d_Disk_isHeader_29 : decode (rm_code mDisk_isHeader) 29 = .ok (.ixor, 1) := by decide +kernel
theorem d_Disk_isHeader_30 : decode (rm_code mDisk_isHeader) 30 = .ok (.aload_n 0, 1) := by decide +kernel
theorem d_Disk_isHeader_31 : decode (rm_code mDisk_isHeader) 31 = .ok (.getfield 24, 3) := by decide +kernel
theorem d_Disk_isHeader_34 : decode (rm_code mDisk_isHeader) 34 = .ok (.iconst 4, 1) := by decide +kernel
theorem d_Disk_isHeader_35 : decode (rm_code mDisk_isHeader) 35 = .ok (.iaload, 1) := by decide +kernel
theorem d_Disk_isHeader_36 : decode (rm_code mDisk_isHeader) 36 = .ok (.ixor, 1) := by decide +kernel
theorem d_Disk_isHeader_37 : decode (rm_code mDisk_isHeader) 37 = .ok (.aload_n 0, 1) := by decide +kernel
theorem d_Disk_isHeader_38 : decode (rm_code mDisk_isHeader) 38 = .ok (.getfield 24, 3) := by decide +kernel
theorem d_Disk_isHeader_41 : decode (rm_code mDisk_isHeader) 41 = .ok (.iconst 5, 1) := by decide +kernel
theorem d_Disk_isHeader_42 : decode (rm_code mDisk_isHeader) 42 = .ok (.iaload, 1) := by decide +kernel
theorem d_Disk_isHeader_43 : decode (rm_code mDisk_isHeader) 43 = .ok (.ixor, 1) := by decide +kernel
theorem d_Disk_isHeader_44 : decode (rm_code mDisk_isHeader) 44 = .ok (.if_icmp .ne (7), 3) := by decide +kernel
theorem d_Disk_isHeader_47 : decode (rm_code mDisk_isHeader) 47 = .ok (.iconst 1, 1) := by decide +kernel
theorem d_Disk_isHeader_48 : decode (rm_code mDisk_isHeader) 48 = .ok (.goto (4), 3) := by decide +kernel
theorem d_Disk_isHeader_51 : decode (rm_code mDisk_isHeader) 51 = .ok (.iconst 0, 1) := by decide +kernel
theorem d_Disk_isHeader_52 : decode (rm_code mDisk_isHeader) 52 = .ok (.ireturn, 1) := by decide +kernel
theorem p_Disk_isHeader_0 {S : rz_S} {K : Int32 → rz_S → Prop} (w : ((S.1 8 0 = 8 → ((S.1 8 1 = (((S.1 8 2) ^^^ (S.1 8 3)) ^^^ (S.1 8 4)) ^^^ (S.1 8 5) → K 1 S) ∧ (¬ S.1 8 1 = (((S.1 8 2) ^^^ (S.1 8 3)) ^^^ (S.1 8 4)) ^^^ (S.1 8 5) → K 0 S))) ∧ (¬ S.1 8 0 = 8 → K 0 S))) : rz mDisk_isHeader 0 [(0, .ref 6)] [] S (rz_i K) := by
  refine rz_pure (pc' := 1) d_Disk_isHeader_0 rfl ?_
  refine rz_getr d_Disk_isHeader_1 f_4_24 rfl rfl ?_
  refine rz_iconst (v := 0) d_Disk_isHeader_4 (by decide) ?_
  refine rz_ialdv (F := S.1 8) (i := 0) d_Disk_isHeader_5 rfl (by decide) rfl (by decide) ?_
  refine rz_bipush (v := 8) d_Disk_isHeader_6 (by decide) ?_
  refine rz_icmpne (tgt := 51) d_Disk_isHeader_8 rfl (fun b1 => ?_) (fun b1 => ?_)
  · skip
    refine rz_iconst (v := 0) d_Disk_isHeader_51 (by decide) ?_
    exact rz_ireti d_Disk_isHeader_52 rfl (by decide) (w.2 b1)
  · skip
    refine rz_pure (pc' := 12) d_Disk_isHeader_11 rfl ?_
    refine rz_getr d_Disk_isHeader_12 f_4_24 rfl rfl ?_
    refine rz_iconst (v := 1) d_Disk_isHeader_15 (by decide) ?_
    refine rz_ialdv (F := S.1 8) (i := 1) d_Disk_isHeader_16 rfl (by decide) rfl (by decide) ?_
    refine rz_pure (pc' := 18) d_Disk_isHeader_17 rfl ?_
    refine rz_getr d_Disk_isHeader_18 f_4_24 rfl rfl ?_
    refine rz_iconst (v := 2) d_Disk_isHeader_21 (by decide) ?_
    refine rz_ialdv (F := S.1 8) (i := 2) d_Disk_isHeader_22 rfl (by decide) rfl (by decide) ?_
    refine rz_pure (pc' := 24) d_Disk_isHeader_23 rfl ?_
    refine rz_getr d_Disk_isHeader_24 f_4_24 rfl rfl ?_
    refine rz_iconst (v := 3) d_Disk_isHeader_27 (by decide) ?_
    refine rz_ialdv (F := S.1 8) (i := 3) d_Disk_isHeader_28 rfl (by decide) rfl (by decide) ?_
    refine rz_ixor d_Disk_isHeader_29 ?_
    refine rz_pure (pc' := 31) d_Disk_isHeader_30 rfl ?_
    refine rz_getr d_Disk_isHeader_31 f_4_24 rfl rfl ?_
    refine rz_iconst (v := 4) d_Disk_isHeader_34 (by decide) ?_
    refine rz_ialdv (F := S.1 8) (i := 4) d_Disk_isHeader_35 rfl (by decide) rfl (by decide) ?_
    refine rz_ixor d_Disk_isHeader_36 ?_
    refine rz_pure (pc' := 38) d_Disk_isHeader_37 rfl ?_
    refine rz_getr d_Disk_isHeader_38 f_4_24 rfl rfl ?_
    refine rz_iconst (v := 5) d_Disk_isHeader_41 (by decide) ?_
    refine rz_ialdv (F := S.1 8) (i := 5) d_Disk_isHeader_42 rfl (by decide) rfl (by decide) ?_
    refine rz_ixor d_Disk_isHeader_43 ?_
    refine rz_icmpne (tgt := 51) d_Disk_isHeader_44 rfl (fun b2 => ?_) (fun b2 => ?_)
    · skip
      refine rz_iconst (v := 0) d_Disk_isHeader_51 (by decide) ?_
      exact rz_ireti d_Disk_isHeader_52 rfl (by decide) ((w.1 b1).2 b2)
    · skip
      refine rz_iconst (v := 1) d_Disk_isHeader_47 (by decide) ?_
      refine rz_pure (pc' := 52) d_Disk_isHeader_48 rfl ?_
      exact rz_ireti d_Disk_isHeader_52 rfl (by decide) ((w.1 b1).1 b2)
theorem d_Disk_sectorsOf_0 : decode (rm_code mDisk_sectorsOf) 0 = .ok (.iload_n 0, 1) := by decide +kernel
theorem d_Disk_sectorsOf_1 : decode (rm_code mDisk_sectorsOf) 1 = .ok (.iconst 1, 1) := by decide +kernel
theorem d_Disk_sectorsOf_2 : decode (rm_code mDisk_sectorsOf) 2 = .ok (.if_icmp .lt (19), 3) := by decide +kernel
theorem d_Disk_sectorsOf_5 : decode (rm_code mDisk_sectorsOf) 5 = .ok (.iload_n 0, 1) := by decide +kernel
theorem d_Disk_sectorsOf_6 : decode (rm_code mDisk_sectorsOf) 6 = .ok (.bipush (12), 2) := by decide +kernel
theorem d_Disk_sectorsOf_8 : decode (rm_code mDisk_sectorsOf) 8 = .ok (.if_icmp .gt (13), 3) := by decide +kernel
theorem d_Disk_sectorsOf_11 : decode (rm_code mDisk_sectorsOf) 11 = .ok (.getstatic 47, 3) := by decide +kernel
theorem d_Disk_sectorsOf_14 : decode (rm_code mDisk_sectorsOf) 14 = .ok (.iload_n 0, 1) := by decide +kernel
theorem d_Disk_sectorsOf_15 : decode (rm_code mDisk_sectorsOf) 15 = .ok (.iconst 1, 1) := by decide +kernel
theorem d_Disk_sectorsOf_16 : decode (rm_code mDisk_sectorsOf) 16 = .ok (.isub, 1) := by decide +kernel
theorem d_Disk_sectorsOf_17 : decode (rm_code mDisk_sectorsOf) 17 = .ok (.iaload, 1) := by decide +kernel
theorem d_Disk_sectorsOf_18 : decode (rm_code mDisk_sectorsOf) 18 = .ok (.goto (4), 3) := by decide +kernel
theorem d_Disk_sectorsOf_21 : decode (rm_code mDisk_sectorsOf) 21 = .ok (.iconst 0, 1) := by decide +kernel
theorem d_Disk_sectorsOf_22 : decode (rm_code mDisk_sectorsOf) 22 = .ok (.ireturn, 1) := by decide +kernel
theorem p_Disk_sectorsOf_0 {S : rz_S} {K : Int32 → rz_S → Prop} {a0 : Int32} (w : ((a0 < 1 → K 0 S) ∧ (¬ a0 < 1 → ((12 < a0 → K 0 S) ∧ (¬ 12 < a0 → rx_in (a0 - 1) 12 = true ∧ K (sa_v 1 ((a0 - 1).toNatClampNeg)) S))))) : rz mDisk_sectorsOf 0 [(0, .int a0)] [] S (rz_i K) := by
  refine rz_pure (pc' := 1) d_Disk_sectorsOf_0 rfl ?_
  refine rz_iconst (v := 1) d_Disk_sectorsOf_1 (by decide) ?_
  refine rz_icmplt (tgt := 21) d_Disk_sectorsOf_2 rfl (fun b1 => ?_) (fun b1 => ?_)
  · skip
    refine rz_iconst (v := 0) d_Disk_sectorsOf_21 (by decide) ?_
    exact rz_ireti d_Disk_sectorsOf_22 rfl rfl (w.1 b1)
  · skip
    refine rz_pure (pc' := 6) d_Disk_sectorsOf_5 rfl ?_
    refine rz_bipush (v := 12) d_Disk_sectorsOf_6 (by decide) ?_
    refine rz_icmpgt (tgt := 21) d_Disk_sectorsOf_8 rfl (fun b2 => ?_) (fun b2 => ?_)
    · skip
      refine rz_iconst (v := 0) d_Disk_sectorsOf_21 (by decide) ?_
      exact rz_ireti d_Disk_sectorsOf_22 rfl rfl ((w.2 b1).1 b2)
    · skip
      refine rz_stat (v := .ref 3000001) d_Disk_sectorsOf_11 rfl ?_
      refine rz_pure (pc' := 15) d_Disk_sectorsOf_14 rfl ?_
      refine rz_iconst (v := 1) d_Disk_sectorsOf_15 (by decide) ?_
      refine rz_isub d_Disk_sectorsOf_16 ?_
      refine rz_staldv (j := 1) (n := 12) (i := (a0 - 1).toNatClampNeg) d_Disk_sectorsOf_17 rfl rfl rfl ((w.2 b1).2 b2).1 rfl ?_
      refine rz_pure (pc' := 22) d_Disk_sectorsOf_18 rfl ?_
      exact rz_ireti d_Disk_sectorsOf_22 rfl rfl ((w.2 b1).2 b2).2
theorem d_Disk_isLegal_0 : decode (rm_code mDisk_isLegal) 0 = .ok (.iload_n 0, 1) := by decide +kernel
theorem d_Disk_isLegal_1 : decode (rm_code mDisk_isLegal) 1 = .ok (.iconst 1, 1) := by decide +kernel
theorem d_Disk_isLegal_2 : decode (rm_code mDisk_isLegal) 2 = .ok (.if_icmp .lt (28), 3) := by decide +kernel
theorem d_Disk_isLegal_5 : decode (rm_code mDisk_isLegal) 5 = .ok (.iload_n 0, 1) := by decide +kernel
theorem d_Disk_isLegal_6 : decode (rm_code mDisk_isLegal) 6 = .ok (.bipush (12), 2) := by decide +kernel
theorem d_Disk_isLegal_8 : decode (rm_code mDisk_isLegal) 8 = .ok (.if_icmp .gt (22), 3) := by decide +kernel
theorem d_Disk_isLegal_11 : decode (rm_code mDisk_isLegal) 11 = .ok (.iload_n 1, 1) := by decide +kernel
theorem d_Disk_isLegal_12 : decode (rm_code mDisk_isLegal) 12 = .ok (.ifCond .lt (18), 3) := by decide +kernel
theorem d_Disk_isLegal_15 : decode (rm_code mDisk_isLegal) 15 = .ok (.iload_n 1, 1) := by decide +kernel
theorem d_Disk_isLegal_16 : decode (rm_code mDisk_isLegal) 16 = .ok (.getstatic 47, 3) := by decide +kernel
theorem d_Disk_isLegal_19 : decode (rm_code mDisk_isLegal) 19 = .ok (.iload_n 0, 1) := by decide +kernel
theorem d_Disk_isLegal_20 : decode (rm_code mDisk_isLegal) 20 = .ok (.iconst 1, 1) := by decide +kernel
theorem d_Disk_isLegal_21 : decode (rm_code mDisk_isLegal) 21 = .ok (.isub, 1) := by decide +kernel
theorem d_Disk_isLegal_22 : decode (rm_code mDisk_isLegal) 22 = .ok (.iaload, 1) := by decide +kernel
theorem d_Disk_isLegal_23 : decode (rm_code mDisk_isLegal) 23 = .ok (.if_icmp .ge (7), 3) := by decide +kernel
theorem d_Disk_isLegal_26 : decode (rm_code mDisk_isLegal) 26 = .ok (.iconst 1, 1) := by decide +kernel
theorem d_Disk_isLegal_27 : decode (rm_code mDisk_isLegal) 27 = .ok (.goto (4), 3) := by decide +kernel
theorem d_Disk_isLegal_30 : decode (rm_code mDisk_isLegal) 30 = .ok (.iconst 0, 1) := by decide +kernel
theorem d_Disk_isLegal_31 : decode (rm_code mDisk_isLegal) 31 = .ok (.ireturn, 1) := by decide +kernel
theorem p_Disk_isLegal_0 {S : rz_S} {K : Int32 → rz_S → Prop} {a0 : Int32} {a1 : Int32} (w : ((a0 < 1 → K 0 S) ∧ (¬ a0 < 1 → ((12 < a0 → K 0 S) ∧ (¬ 12 < a0 → ((a1 < 0 → K 0 S) ∧ (¬ a1 < 0 → rx_in (a0 - 1) 12 = true ∧ ((sa_v 1 ((a0 - 1).toNatClampNeg) ≤ a1 → K 0 S) ∧ (¬ sa_v 1 ((a0 - 1).toNatClampNeg) ≤ a1 → K 1 S))))))))) : rz mDisk_isLegal 0 [(0, .int a0), (1, .int a1)] [] S (rz_i K) := by
  refine rz_pure (pc' := 1) d_Disk_isLegal_0 rfl ?_
  refine rz_iconst (v := 1) d_Disk_isLegal_1 (by decide) ?_
  refine rz_icmplt (tgt := 30) d_Disk_isLegal_2 rfl (fun b1 => ?_) (fun b1 => ?_)
  · skip
    refine rz_iconst (v := 0) d_Disk_isLegal_30 (by decide) ?_
    exact rz_ireti d_Disk_isLegal_31 rfl (by decide) (w.1 b1)
  · skip
    refine rz_pure (pc' := 6) d_Disk_isLegal_5 rfl ?_
    refine rz_bipush (v := 12) d_Disk_isLegal_6 (by decide) ?_
    refine rz_icmpgt (tgt := 30) d_Disk_isLegal_8 rfl (fun b2 => ?_) (fun b2 => ?_)
    · skip
      refine rz_iconst (v := 0) d_Disk_isLegal_30 (by decide) ?_
      exact rz_ireti d_Disk_isLegal_31 rfl (by decide) ((w.2 b1).1 b2)
    · skip
      refine rz_pure (pc' := 12) d_Disk_isLegal_11 rfl ?_
      refine rz_iflt (tgt := 30) d_Disk_isLegal_12 rfl (fun b3 => ?_) (fun b3 => ?_)
      · skip
        refine rz_iconst (v := 0) d_Disk_isLegal_30 (by decide) ?_
        exact rz_ireti d_Disk_isLegal_31 rfl (by decide) (((w.2 b1).2 b2).1 b3)
      · skip
        refine rz_pure (pc' := 16) d_Disk_isLegal_15 rfl ?_
        refine rz_stat (v := .ref 3000001) d_Disk_isLegal_16 rfl ?_
        refine rz_pure (pc' := 20) d_Disk_isLegal_19 rfl ?_
        refine rz_iconst (v := 1) d_Disk_isLegal_20 (by decide) ?_
        refine rz_isub d_Disk_isLegal_21 ?_
        refine rz_staldv (j := 1) (n := 12) (i := (a0 - 1).toNatClampNeg) d_Disk_isLegal_22 rfl rfl rfl (((w.2 b1).2 b2).2 b3).1 rfl ?_
        refine rz_icmpge (tgt := 30) d_Disk_isLegal_23 rfl (fun b4 => ?_) (fun b4 => ?_)
        · skip
          refine rz_iconst (v := 0) d_Disk_isLegal_30 (by decide) ?_
          exact rz_ireti d_Disk_isLegal_31 rfl (by decide) ((((w.2 b1).2 b2).2 b3).2.1 b4)
        · skip
          refine rz_iconst (v := 1) d_Disk_isLegal_26 (by decide) ?_
          refine rz_pure (pc' := 31) d_Disk_isLegal_27 rfl ?_
          exact rz_ireti d_Disk_isLegal_31 rfl (by decide) ((((w.2 b1).2 b2).2 b3).2.2 b4)
theorem d_Disk_writeBlock_0 : decode (rm_code mDisk_writeBlock) 0 = .ok (.aload_n 0, 1) := by decide +kernel
theorem d_Disk_writeBlock_1 : decode (rm_code mDisk_writeBlock) 1 = .ok (.iload_n 1, 1) := by decide +kernel
theorem d_Disk_writeBlock_2 : decode (rm_code mDisk_writeBlock) 2 = .ok (.invokevirtual 94, 3) := by decide +kernel
theorem d_Disk_writeBlock_5 : decode (rm_code mDisk_writeBlock) 5 = .ok (.astore 4, 2) := by decide +kernel
theorem d_Disk_writeBlock_7 : decode (rm_code mDisk_writeBlock) 7 = .ok (.aload 4, 2) := by decide +kernel
theorem d_Disk_writeBlock_9 : decode (rm_code mDisk_writeBlock) 9 = .ok (.ifnull (10), 3) := by decide +kernel
theorem d_Disk_writeBlock_12 : decode (rm_code mDisk_writeBlock) 12 = .ok (.aload_n 3, 1) := by decide +kernel
theorem d_Disk_writeBlock_13 : decode (rm_code mDisk_writeBlock) 13 = .ok (.arraylength, 1) := by decide +kernel
theorem d_Disk_writeBlock_14 : decode (rm_code mDisk_writeBlock) 14 = .ok (.bipush (64), 2) := by decide +kernel
theorem d_Disk_writeBlock_16 : decode (rm_code mDisk_writeBlock) 16 = .ok (.if_icmp .ge (15), 3) := by decide +kernel
theorem d_Disk_writeBlock_19 : decode (rm_code mDisk_writeBlock) 19 = .ok (.aload_n 0, 1) := by decide +kernel
theorem d_Disk_writeBlock_20 : decode (rm_code mDisk_writeBlock) 20 = .ok (.getfield 40, 3) := by decide +kernel
theorem d_Disk_writeBlock_23 : decode (rm_code mDisk_writeBlock) 23 = .ok (.bipush (66), 2) := by decide +kernel
theorem d_Disk_writeBlock_25 : decode (rm_code mDisk_writeBlock) 25 = .ok (.iload_n 1, 1) := by decide +kernel
theorem d_Disk_writeBlock_26 : decode (rm_code mDisk_writeBlock) 26 = .ok (.iload_n 2, 1) := by decide +kernel
theorem d_Disk_writeBlock_27 : decode (rm_code mDisk_writeBlock) 27 = .ok (.invokevirtual 88, 3) := by decide +kernel
theorem d_Disk_writeBlock_30 : decode (rm_code mDisk_writeBlock) 30 = .ok (.ireturn, 1) := by decide +kernel
theorem d_Disk_writeBlock_31 : decode (rm_code mDisk_writeBlock) 31 = .ok (.aload_n 0, 1) := by decide +kernel
theorem d_Disk_writeBlock_32 : decode (rm_code mDisk_writeBlock) 32 = .ok (.getfield 121, 3) := by decide +kernel
theorem d_Disk_writeBlock_35 : decode (rm_code mDisk_writeBlock) 35 = .ok (.ifCond .eq (15), 3) := by decide +kernel
theorem d_Disk_writeBlock_38 : decode (rm_code mDisk_writeBlock) 38 = .ok (.aload_n 0, 1) := by decide +kernel
theorem d_Disk_writeBlock_39 : decode (rm_code mDisk_writeBlock) 39 = .ok (.getfield 40, 3) := by decide +kernel
theorem d_Disk_writeBlock_42 : decode (rm_code mDisk_writeBlock) 42 = .ok (.bipush (26), 2) := by decide +kernel
theorem d_Disk_writeBlock_44 : decode (rm_code mDisk_writeBlock) 44 = .ok (.iload_n 1, 1) := by decide +kernel
theorem d_Disk_writeBlock_45 : decode (rm_code mDisk_writeBlock) 45 = .ok (.iload_n 2, 1) := by decide +kernel
theorem d_Disk_writeBlock_46 : decode (rm_code mDisk_writeBlock) 46 = .ok (.invokevirtual 88, 3) := by decide +kernel
theorem d_Disk_writeBlock_49 : decode (rm_code mDisk_writeBlock) 49 = .ok (.ireturn, 1) := by decide +kernel
theorem d_Disk_writeBlock_50 : decode (rm_code mDisk_writeBlock) 50 = .ok (.aload_n 0, 1) := by decide +kernel
theorem d_Disk_writeBlock_51 : decode (rm_code mDisk_writeBlock) 51 = .ok (.invokevirtual 68, 3) := by decide +kernel
theorem d_Disk_writeBlock_54 : decode (rm_code mDisk_writeBlock) 54 = .ok (.ifCond .ne (18), 3) := by decide +kernel
theorem d_Disk_writeBlock_57 : decode (rm_code mDisk_writeBlock) 57 = .ok (.aload_n 0, 1) := by decide +kernel
theorem d_Disk_writeBlock_58 : decode (rm_code mDisk_writeBlock) 58 = .ok (.invokevirtual 98, 3) := by decide +kernel
theorem d_Disk_writeBlock_61 : decode (rm_code mDisk_writeBlock) 61 = .ok (.ifCond .eq (11), 3) := by decide +kernel
theorem d_Disk_writeBlock_64 : decode (rm_code mDisk_writeBlock) 64 = .ok (.aload_n 0, 1) := by decide +kernel
theorem d_Disk_writeBlock_65 : decode (rm_code mDisk_writeBlock) 65 = .ok (.getfield 40, 3) := by decide +kernel
theorem d_Disk_writeBlock_68 : decode (rm_code mDisk_writeBlock) 68 = .ok (.getfield 101, 3) := by decide +kernel
theorem d_Disk_writeBlock_71 : decode (rm_code mDisk_writeBlock) 71 = .ok (.ireturn, 1) := by decide +kernel
theorem d_Disk_writeBlock_72 : decode (rm_code mDisk_writeBlock) 72 = .ok (.aload_n 0, 1) := by decide +kernel
theorem d_Disk_writeBlock_73 : decode (rm_code mDisk_writeBlock) 73 = .ok (.aload 4, 2) := by decide +kernel
theorem d_Disk_writeBlock_75 : decode (rm_code mDisk_writeBlock) 75 = .ok (.iload_n 1, 1) := by decide +kernel
theorem d_Disk_writeBlock_76 : decode (rm_code mDisk_writeBlock) 76 = .ok (.iload_n 2, 1) := by decide +kernel
theorem d_Disk_writeBlock_77 : decode (rm_code mDisk_writeBlock) 77 = .ok (.invokevirtual 104, 3) := by decide +kernel
theorem d_Disk_writeBlock_80 : decode (rm_code mDisk_writeBlock) 80 = .ok (.istore 5, 2) := by decide +kernel
theorem d_Disk_writeBlock_82 : decode (rm_code mDisk_writeBlock) 82 = .ok (.iload 5, 2) := by decide +kernel
theorem d_Disk_writeBlock_84 : decode (rm_code mDisk_writeBlock) 84 = .ok (.ifCond .eq (15), 3) := by decide +kernel
theorem d_Disk_writeBlock_87 : decode (rm_code mDisk_writeBlock) 87 = .ok (.aload_n 0, 1) := by decide +kernel
theorem d_Disk_writeBlock_88 : decode (rm_code mDisk_writeBlock) 88 = .ok (.getfield 40, 3) := by decide +kernel
theorem d_Disk_writeBlock_91 : decode (rm_code mDisk_writeBlock) 91 = .ok (.iload 5, 2) := by decide +kernel
theorem d_Disk_writeBlock_93 : decode (rm_code mDisk_writeBlock) 93 = .ok (.iload_n 1, 1) := by decide +kernel
theorem d_Disk_writeBlock_94 : decode (rm_code mDisk_writeBlock) 94 = .ok (.iload_n 2, 1) := by decide +kernel
theorem d_Disk_writeBlock_95 : decode (rm_code mDisk_writeBlock) 95 = .ok (.invokevirtual 88, 3) := by decide +kernel
theorem d_Disk_writeBlock_98 : decode (rm_code mDisk_writeBlock) 98 = .ok (.ireturn, 1) := by decide +kernel
theorem d_Disk_writeBlock_99 : decode (rm_code mDisk_writeBlock) 99 = .ok (.aload_n 0, 1) := by decide +kernel
theorem d_Disk_writeBlock_100 : decode (rm_code mDisk_writeBlock) 100 = .ok (.aload_n 3, 1) := by decide +kernel
theorem d_Disk_writeBlock_101 : decode (rm_code mDisk_writeBlock) 101 = .ok (.invokevirtual 125, 3) := by decide +kernel
theorem d_Disk_writeBlock_104 : decode (rm_code mDisk_writeBlock) 104 = .ok (.aload 4, 2) := by decide +kernel
theorem d_Disk_writeBlock_106 : decode (rm_code mDisk_writeBlock) 106 = .ok (.bipush (9), 2) := by decide +kernel
theorem d_Disk_writeBlock_108 : decode (rm_code mDisk_writeBlock) 108 = .ok (.invokevirtual 128, 3) := by decide +kernel
theorem d_Disk_writeBlock_111 : decode (rm_code mDisk_writeBlock) 111 = .ok (.aload 4, 2) := by decide +kernel
theorem d_Disk_writeBlock_113 : decode (rm_code mDisk_writeBlock) 113 = .ok (.aload_n 0, 1) := by decide +kernel
theorem d_Disk_writeBlock_114 : decode (rm_code mDisk_writeBlock) 114 = .ok (.getfield 34, 3) := by decide +kernel
theorem d_Disk_writeBlock_117 : decode (rm_code mDisk_writeBlock) 117 = .ok (.invokevirtual 131, 3) := by decide +kernel
theorem d_Disk_writeBlock_120 : decode (rm_code mDisk_writeBlock) 120 = .ok (.aload_n 0, 1) := by decide +kernel
theorem d_Disk_writeBlock_121 : decode (rm_code mDisk_writeBlock) 121 = .ok (.aload 4, 2) := by decide +kernel
theorem d_Disk_writeBlock_123 : decode (rm_code mDisk_writeBlock) 123 = .ok (.iload_n 1, 1) := by decide +kernel
theorem d_Disk_writeBlock_124 : decode (rm_code mDisk_writeBlock) 124 = .ok (.iload_n 2, 1) := by decide +kernel
theorem d_Disk_writeBlock_125 : decode (rm_code mDisk_writeBlock) 125 = .ok (.invokevirtual 104, 3) := by decide +kernel
theorem d_Disk_writeBlock_128 : decode (rm_code mDisk_writeBlock) 128 = .ok (.ifCond .ne (7), 3) := by decide +kernel
theorem d_Disk_writeBlock_131 : decode (rm_code mDisk_writeBlock) 131 = .ok (.iconst 1, 1) := by decide +kernel
theorem d_Disk_writeBlock_132 : decode (rm_code mDisk_writeBlock) 132 = .ok (.goto (4), 3) := by decide +kernel
theorem d_Disk_writeBlock_135 : decode (rm_code mDisk_writeBlock) 135 = .ok (.iconst 0, 1) := by decide +kernel
theorem d_Disk_writeBlock_136 : decode (rm_code mDisk_writeBlock) 136 = .ok (.istore 6, 2) := by decide +kernel
theorem d_Disk_writeBlock_138 : decode (rm_code mDisk_writeBlock) 138 = .ok (.iload 6, 2) := by decide +kernel
theorem d_Disk_writeBlock_140 : decode (rm_code mDisk_writeBlock) 140 = .ok (.ifCond .eq (25), 3) := by decide +kernel
theorem d_Disk_writeBlock_143 : decode (rm_code mDisk_writeBlock) 143 = .ok (.aload 4, 2) := by decide +kernel
theorem d_Disk_writeBlock_145 : decode (rm_code mDisk_writeBlock) 145 = .ok (.aload_n 0, 1) := by decide +kernel
theorem d_Disk_writeBlock_146 : decode (rm_code mDisk_writeBlock) 146 = .ok (.getfield 37, 3) := by decide +kernel
theorem d_Disk_writeBlock_149 : decode (rm_code mDisk_writeBlock) 149 = .ok (.invokevirtual 108, 3) := by decide +kernel
theorem d_Disk_writeBlock_152 : decode (rm_code mDisk_writeBlock) 152 = .ok (.aload_n 0, 1) := by decide +kernel
theorem d_Disk_writeBlock_153 : decode (rm_code mDisk_writeBlock) 153 = .ok (.getfield 37, 3) := by decide +kernel
theorem d_Disk_writeBlock_156 : decode (rm_code mDisk_writeBlock) 156 = .ok (.aload_n 0, 1) := by decide +kernel
theorem d_Disk_writeBlock_157 : decode (rm_code mDisk_writeBlock) 157 = .ok (.getfield 34, 3) := by decide +kernel
theorem d_Disk_writeBlock_160 : decode (rm_code mDisk_writeBlock) 160 = .ok (.invokestatic 134, 3) := by decide +kernel
theorem d_Disk_writeBlock_163 : decode (rm_code mDisk_writeBlock) 163 = .ok (.istore 6, 2) := by decide +kernel
theorem d_Disk_writeBlock_165 : decode (rm_code mDisk_writeBlock) 165 = .ok (.iload 6, 2) := by decide +kernel
theorem d_Disk_writeBlock_167 : decode (rm_code mDisk_writeBlock) 167 = .ok (.ifCond .eq (7), 3) := by decide +kernel
theorem d_Disk_writeBlock_170 : decode (rm_code mDisk_writeBlock) 170 = .ok (.iconst 0, 1) := by decide +kernel
theorem d_Disk_writeBlock_171 : decode (rm_code mDisk_writeBlock) 171 = .ok (.goto (14), 3) := by decide +kernel
theorem d_Disk_writeBlock_174 : decode (rm_code mDisk_writeBlock) 174 = .ok (.aload_n 0, 1) := by decide +kernel
theorem d_Disk_writeBlock_175 : decode (rm_code mDisk_writeBlock) 175 = .ok (.getfield 40, 3) := by decide +kernel
theorem d_Disk_writeBlock_178 : decode (rm_code mDisk_writeBlock) 178 = .ok (.bipush (25), 2) := by decide +kernel
theorem d_Disk_writeBlock_180 : decode (rm_code mDisk_writeBlock) 180 = .ok (.iload_n 1, 1) := by decide +kernel
theorem d_Disk_writeBlock_181 : decode (rm_code mDisk_writeBlock) 181 = .ok (.iload_n 2, 1) := by decide +kernel
theorem d_Disk_writeBlock_182 : decode (rm_code mDisk_writeBlock) 182 = .ok (.invokevirtual 88, 3) := by decide +kernel
theorem d_Disk_writeBlock_185 : decode (rm_code mDisk_writeBlock) 185 = .ok (.ireturn, 1) := by decide +kernel
theorem p_Disk_writeBlock_0 {S : rz_S} {K : Int32 → rz_S → Prop} {a1 : Int32} {a2 : Int32} {a3 na3 : Nat} (ha3 : rz_T[a3]? = some (.inl (0, na3))) (w : rz_ev mDisk_ring [.ref 6, .int a1] S (rz_r (fun xq1 Sq1 => rz mDisk_writeBlock 5 [(0, .ref 6), (1, .int a1), (2, .int a2), (3, .ref a3)] (xq1 :: []) Sq1 (rz_i K)))) : rz mDisk_writeBlock 0 [(0, .ref 6), (1, .int a1), (2, .int a2), (3, .ref a3)] [] S (rz_i K) := by
  refine rz_pure (pc' := 1) d_Disk_writeBlock_0 rfl ?_
  refine rz_pure (pc' := 2) d_Disk_writeBlock_1 rfl ?_
  refine rz_callVr (t := [.int a1]) d_Disk_writeBlock_2 w_4_94 rfl rfl rfl w (fun xq1 Sq1 q1 => ?_)
  exact rz_pick (ks := [0, 1, 2, 3]) (l := [(0, .ref 6), (1, .int a1), (2, .int a2), (3, .ref a3)]) rfl rfl (by decide) rfl q1
theorem p_Disk_writeBlock_5 {S : rz_S} {K : Int32 → rz_S → Prop} {a1 : Int32} {a2 : Int32} {a3 na3 : Nat} (ha3 : rz_T[a3]? = some (.inl (0, na3))) (w : rz mDisk_writeBlock 19 [(0, .ref 6), (1, .int a1), (2, .int a2)] [] S (rz_i K)) : rz mDisk_writeBlock 5 [(0, .ref 6), (1, .int a1), (2, .int a2), (3, .ref a3)] [.null] S (rz_i K) := by
  refine rz_pure (pc' := 7) (l' := [(4, .null), (0, .ref 6), (1, .int a1), (2, .int a2), (3, .ref a3)]) d_Disk_writeBlock_5 rfl ?_
  refine rz_pure (pc' := 9) d_Disk_writeBlock_7 rfl ?_
  refine rz_pure (pc' := 19) d_Disk_writeBlock_9 rfl ?_
  exact rz_pick (ks := [0, 1, 2]) (l := [(0, .ref 6), (1, .int a1), (2, .int a2)]) rfl rfl (by decide) rfl w
theorem p_Disk_writeBlock_5' {S : rz_S} {K : Int32 → rz_S → Prop} {a1 : Int32} {a2 : Int32} {a3 na3 : Nat} (ha3 : rz_T[a3]? = some (.inl (0, na3))) {s0 : Nat} (hs0 : rgP s0) (w : ((64 ≤ Int32.ofNat na3 → ((S.2 6 0 = 0 → rz_ev mDisk_hasId [.ref 6] S (rz_i (fun xq3 Sq3 => ((xq3 = 0 → rz_ev mDisk_takeId [.ref 6] Sq3 (rz_i (fun xq5 Sq5 => ((xq5 = 0 → rz mDisk_writeBlock 72 [(0, .ref 6), (1, .int a1), (2, .int a2), (3, .ref a3), (4, .ref s0)] [] Sq5 (rz_i K)) ∧ (¬ xq5 = 0 → K (Sq5.2 3 0) Sq5))))) ∧ (¬ xq3 = 0 → rz mDisk_writeBlock 72 [(0, .ref 6), (1, .int a1), (2, .int a2), (3, .ref a3), (4, .ref s0)] [] Sq3 (rz_i K)))))) ∧ (¬ S.2 6 0 = 0 → rz_ev mStatus_set [.ref 3, .int 26, .int a1, .int a2] S (rz_i (fun xq7 Sq7 => K xq7 Sq7))))) ∧ (¬ 64 ≤ Int32.ofNat na3 → rz mDisk_writeBlock 19 [(0, .ref 6), (1, .int a1), (2, .int a2)] [] S (rz_i K)))) : rz mDisk_writeBlock 5 [(0, .ref 6), (1, .int a1), (2, .int a2), (3, .ref a3)] [.ref s0] S (rz_i K) := by
  have zs0 := rgZ hs0
  refine rz_pure (pc' := 7) (l' := [(4, .ref s0), (0, .ref 6), (1, .int a1), (2, .int a2), (3, .ref a3)]) d_Disk_writeBlock_5 rfl ?_
  refine rz_pure (pc' := 9) d_Disk_writeBlock_7 rfl ?_
  refine rz_pure (pc' := 12) d_Disk_writeBlock_9 rfl ?_
  refine rz_pure (pc' := 13) d_Disk_writeBlock_12 rfl ?_
  refine rz_alenv (v := Int32.ofNat na3) d_Disk_writeBlock_13 (ha3) (by decide) rfl ?_
  refine rz_bipush (v := 64) d_Disk_writeBlock_14 (by decide) ?_
  refine rz_icmpge (tgt := 31) d_Disk_writeBlock_16 rfl (fun b1 => ?_) (fun b1 => ?_)
  · skip
    refine rz_pure (pc' := 32) d_Disk_writeBlock_31 rfl ?_
    refine rz_getiv (v := S.2 6 0) d_Disk_writeBlock_32 f_4_121 rfl rfl rfl ?_
    refine rz_ifeq (tgt := 50) d_Disk_writeBlock_35 rfl (fun b2 => ?_) (fun b2 => ?_)
    · skip
      refine rz_pure (pc' := 51) d_Disk_writeBlock_50 rfl ?_
      refine rz_callVi (t := []) d_Disk_writeBlock_51 w_4_68 rfl rfl rfl ((w.1 b1).1 b2) (fun xq3 Sq3 q3 => ?_)
      refine rz_ifne (tgt := 72) d_Disk_writeBlock_54 rfl (fun b4 => ?_) (fun b4 => ?_)
      · skip
        exact rz_pick (ks := [0, 1, 2, 3, 4]) (l := [(0, .ref 6), (1, .int a1), (2, .int a2), (3, .ref a3), (4, .ref s0)]) rfl rfl (by decide) rfl (q3.2 b4)
      · skip
        refine rz_pure (pc' := 58) d_Disk_writeBlock_57 rfl ?_
        refine rz_callVi (t := []) d_Disk_writeBlock_58 w_4_98 rfl rfl rfl (q3.1 b4) (fun xq5 Sq5 q5 => ?_)
        refine rz_ifeq (tgt := 72) d_Disk_writeBlock_61 rfl (fun b6 => ?_) (fun b6 => ?_)
        · skip
          exact rz_pick (ks := [0, 1, 2, 3, 4]) (l := [(0, .ref 6), (1, .int a1), (2, .int a2), (3, .ref a3), (4, .ref s0)]) rfl rfl (by decide) rfl (q5.1 b6)
        · skip
          refine rz_pure (pc' := 65) d_Disk_writeBlock_64 rfl ?_
          refine rz_getr d_Disk_writeBlock_65 f_4_40 rfl rfl ?_
          refine rz_getiv (v := Sq5.2 3 0) d_Disk_writeBlock_68 f_4_101 rfl rfl rfl ?_
          exact rz_ireti d_Disk_writeBlock_71 rfl rfl (q5.2 b6)
    · skip
      refine rz_pure (pc' := 39) d_Disk_writeBlock_38 rfl ?_
      refine rz_getr d_Disk_writeBlock_39 f_4_40 rfl rfl ?_
      refine rz_bipush (v := 26) d_Disk_writeBlock_42 (by decide) ?_
      refine rz_pure (pc' := 45) d_Disk_writeBlock_44 rfl ?_
      refine rz_pure (pc' := 46) d_Disk_writeBlock_45 rfl ?_
      refine rz_callVi (t := [.int a2, .int a1, .int 26]) d_Disk_writeBlock_46 w_4_88 rfl rfl rfl ((w.1 b1).2 b2) (fun xq7 Sq7 q7 => ?_)
      exact rz_ireti d_Disk_writeBlock_49 rfl rfl q7
  · skip
    exact rz_pick (ks := [0, 1, 2]) (l := [(0, .ref 6), (1, .int a1), (2, .int a2)]) rfl rfl (by decide) rfl (w.2 b1)
theorem p_Disk_writeBlock_19 {S : rz_S} {K : Int32 → rz_S → Prop} {a1 : Int32} {a2 : Int32} (w : rz_ev mStatus_set [.ref 3, .int 66, .int a1, .int a2] S (rz_i (fun xq1 Sq1 => K xq1 Sq1))) : rz mDisk_writeBlock 19 [(0, .ref 6), (1, .int a1), (2, .int a2)] [] S (rz_i K) := by
  refine rz_pure (pc' := 20) d_Disk_writeBlock_19 rfl ?_
  refine rz_getr d_Disk_writeBlock_20 f_4_40 rfl rfl ?_
  refine rz_bipush (v := 66) d_Disk_writeBlock_23 (by decide) ?_
  refine rz_pure (pc' := 26) d_Disk_writeBlock_25 rfl ?_
  refine rz_pure (pc' := 27) d_Disk_writeBlock_26 rfl ?_
  refine rz_callVi (t := [.int a2, .int a1, .int 66]) d_Disk_writeBlock_27 w_4_88 rfl rfl rfl w (fun xq1 Sq1 q1 => ?_)
  exact rz_ireti d_Disk_writeBlock_30 rfl rfl q1
theorem p_Disk_writeBlock_72 {S : rz_S} {K : Int32 → rz_S → Prop} {a1 : Int32} {a2 : Int32} {a3 na3 : Nat} (ha3 : rz_T[a3]? = some (.inl (0, na3))) {a4 : Nat} (ha4 : rgP a4) (w : rz_ev mDisk_seek [.ref 6, .ref a4, .int a1, .int a2] S (rz_i (fun xq1 Sq1 => ((xq1 = 0 → rz_ev mDisk_codeData [.ref 6, .ref a3] Sq1 (rz_v (fun Sq3 => rz_ev mRing_skip [.ref a4, .int 9] Sq3 (rz_v (fun Sq4 => rz_ev mRing_putMarked [.ref a4, .ref 11] Sq4 (rz_v (fun Sq5 => rz_ev mDisk_seek [.ref 6, .ref a4, .int a1, .int a2] Sq5 (rz_i (fun xq6 Sq6 => ((xq6 = 0 → rz mDisk_writeBlock 136 [(0, .ref 6), (1, .int a1), (2, .int a2), (4, .ref a4)] [.int 1] Sq6 (rz_i K)) ∧ (¬ xq6 = 0 → rz mDisk_writeBlock 136 [(0, .ref 6), (1, .int a1), (2, .int a2), (4, .ref a4)] [.int 0] Sq6 (rz_i K)))))))))))) ∧ (¬ xq1 = 0 → rz_ev mStatus_set [.ref 3, .int xq1, .int a1, .int a2] Sq1 (rz_i (fun xq8 Sq8 => K xq8 Sq8))))))) : rz mDisk_writeBlock 72 [(0, .ref 6), (1, .int a1), (2, .int a2), (3, .ref a3), (4, .ref a4)] [] S (rz_i K) := by
  have za4 := rgZ ha4
  refine rz_pure (pc' := 73) d_Disk_writeBlock_72 rfl ?_
  refine rz_pure (pc' := 75) d_Disk_writeBlock_73 rfl ?_
  refine rz_pure (pc' := 76) d_Disk_writeBlock_75 rfl ?_
  refine rz_pure (pc' := 77) d_Disk_writeBlock_76 rfl ?_
  refine rz_callVi (t := [.int a2, .int a1, .ref a4]) d_Disk_writeBlock_77 w_4_104 rfl rfl rfl w (fun xq1 Sq1 q1 => ?_)
  refine rz_pure (pc' := 82) (l' := [(5, .int xq1), (0, .ref 6), (1, .int a1), (2, .int a2), (3, .ref a3), (4, .ref a4)]) d_Disk_writeBlock_80 rfl ?_
  refine rz_pure (pc' := 84) d_Disk_writeBlock_82 rfl ?_
  refine rz_ifeq (tgt := 99) d_Disk_writeBlock_84 rfl (fun b2 => ?_) (fun b2 => ?_)
  · skip
    refine rz_pure (pc' := 100) d_Disk_writeBlock_99 rfl ?_
    refine rz_pure (pc' := 101) d_Disk_writeBlock_100 rfl ?_
    refine rz_callVv (t := [.ref a3]) d_Disk_writeBlock_101 w_4_125 rfl rfl rfl (q1.1 b2) (fun Sq3 q3 => ?_)
    refine rz_pure (pc' := 106) d_Disk_writeBlock_104 rfl ?_
    refine rz_bipush (v := 9) d_Disk_writeBlock_106 (by decide) ?_
    refine rz_callVv (t := [.int 9]) d_Disk_writeBlock_108 w_4_128 rfl (rgT ha4) rfl q3 (fun Sq4 q4 => ?_)
    refine rz_pure (pc' := 113) d_Disk_writeBlock_111 rfl ?_
    refine rz_pure (pc' := 114) d_Disk_writeBlock_113 rfl ?_
    refine rz_getr d_Disk_writeBlock_114 f_4_34 rfl rfl ?_
    refine rz_callVv (t := [.ref 11]) d_Disk_writeBlock_117 w_4_131 rfl (rgT ha4) rfl q4 (fun Sq5 q5 => ?_)
    refine rz_pure (pc' := 121) d_Disk_writeBlock_120 rfl ?_
    refine rz_pure (pc' := 123) d_Disk_writeBlock_121 rfl ?_
    refine rz_pure (pc' := 124) d_Disk_writeBlock_123 rfl ?_
    refine rz_pure (pc' := 125) d_Disk_writeBlock_124 rfl ?_
    refine rz_callVi (t := [.int a2, .int a1, .ref a4]) d_Disk_writeBlock_125 w_4_104 rfl rfl rfl q5 (fun xq6 Sq6 q6 => ?_)
    refine rz_ifne (tgt := 135) d_Disk_writeBlock_128 rfl (fun b7 => ?_) (fun b7 => ?_)
    · skip
      refine rz_iconst (v := 0) d_Disk_writeBlock_135 (by decide) ?_
      exact rz_pick (ks := [0, 1, 2, 4]) (l := [(0, .ref 6), (1, .int a1), (2, .int a2), (4, .ref a4)]) rfl rfl (by decide) rfl (q6.2 b7)
    · skip
      refine rz_iconst (v := 1) d_Disk_writeBlock_131 (by decide) ?_
      refine rz_pure (pc' := 136) d_Disk_writeBlock_132 rfl ?_
      exact rz_pick (ks := [0, 1, 2, 4]) (l := [(0, .ref 6), (1, .int a1), (2, .int a2), (4, .ref a4)]) rfl rfl (by decide) rfl (q6.1 b7)
  · skip
    refine rz_pure (pc' := 88) d_Disk_writeBlock_87 rfl ?_
    refine rz_getr d_Disk_writeBlock_88 f_4_40 rfl rfl ?_
    refine rz_pure (pc' := 93) d_Disk_writeBlock_91 rfl ?_
    refine rz_pure (pc' := 94) d_Disk_writeBlock_93 rfl ?_
    refine rz_pure (pc' := 95) d_Disk_writeBlock_94 rfl ?_
    refine rz_callVi (t := [.int a2, .int a1, .int xq1]) d_Disk_writeBlock_95 w_4_88 rfl rfl rfl (q1.2 b2) (fun xq8 Sq8 q8 => ?_)
    exact rz_ireti d_Disk_writeBlock_98 rfl rfl q8
theorem p_Disk_writeBlock_136 {S : rz_S} {K : Int32 → rz_S → Prop} {a1 : Int32} {a2 : Int32} {a4 : Nat} (ha4 : rgP a4) {s0 : Int32} (w : ((s0 = 0 → rz mDisk_writeBlock 165 [(0, .ref 6), (1, .int a1), (2, .int a2), (6, .int s0)] [] S (rz_i K)) ∧ (¬ s0 = 0 → rz_ev mRing_gatherFromFirst [.ref a4, .ref 12] S (rz_v (fun Sq2 => rz_ev mDisk_areSame [.ref 12, .ref 11] Sq2 (rz_i (fun xq3 Sq3 => rz mDisk_writeBlock 165 [(0, .ref 6), (1, .int a1), (2, .int a2), (6, .int xq3)] [] Sq3 (rz_i K)))))))) : rz mDisk_writeBlock 136 [(0, .ref 6), (1, .int a1), (2, .int a2), (4, .ref a4)] [.int s0] S (rz_i K) := by
  have za4 := rgZ ha4
  refine rz_pure (pc' := 138) (l' := [(6, .int s0), (0, .ref 6), (1, .int a1), (2, .int a2), (4, .ref a4)]) d_Disk_writeBlock_136 rfl ?_
  refine rz_pure (pc' := 140) d_Disk_writeBlock_138 rfl ?_
  refine rz_ifeq (tgt := 165) d_Disk_writeBlock_140 rfl (fun b1 => ?_) (fun b1 => ?_)
  · skip
    exact rz_pick (ks := [0, 1, 2, 6]) (l := [(0, .ref 6), (1, .int a1), (2, .int a2), (6, .int s0)]) rfl rfl (by decide) rfl (w.1 b1)
  · skip
    refine rz_pure (pc' := 145) d_Disk_writeBlock_143 rfl ?_
    refine rz_pure (pc' := 146) d_Disk_writeBlock_145 rfl ?_
    refine rz_getr d_Disk_writeBlock_146 f_4_37 rfl rfl ?_
    refine rz_callVv (t := [.ref 12]) d_Disk_writeBlock_149 w_4_108 rfl (rgT ha4) rfl (w.2 b1) (fun Sq2 q2 => ?_)
    refine rz_pure (pc' := 153) d_Disk_writeBlock_152 rfl ?_
    refine rz_getr d_Disk_writeBlock_153 f_4_37 rfl rfl ?_
    refine rz_pure (pc' := 157) d_Disk_writeBlock_156 rfl ?_
    refine rz_getr d_Disk_writeBlock_157 f_4_34 rfl rfl ?_
    refine rz_callSi (t := [.ref 11, .ref 12]) d_Disk_writeBlock_160 rfl w_4_134 rfl rfl q2 (fun xq3 Sq3 q3 => ?_)
    refine rz_pure (pc' := 165) (l' := [(6, .int xq3), (0, .ref 6), (1, .int a1), (2, .int a2), (4, .ref a4)]) d_Disk_writeBlock_163 rfl ?_
    exact rz_pick (ks := [0, 1, 2, 6]) (l := [(0, .ref 6), (1, .int a1), (2, .int a2), (6, .int xq3)]) rfl rfl (by decide) rfl q3
theorem p_Disk_writeBlock_165 {S : rz_S} {K : Int32 → rz_S → Prop} {a1 : Int32} {a2 : Int32} {a6 : Int32} (w : ((a6 = 0 → rz_ev mStatus_set [.ref 3, .int 25, .int a1, .int a2] S (rz_i (fun xq2 Sq2 => K xq2 Sq2))) ∧ (¬ a6 = 0 → K 0 S))) : rz mDisk_writeBlock 165 [(0, .ref 6), (1, .int a1), (2, .int a2), (6, .int a6)] [] S (rz_i K) := by
  refine rz_pure (pc' := 167) d_Disk_writeBlock_165 rfl ?_
  refine rz_ifeq (tgt := 174) d_Disk_writeBlock_167 rfl (fun b1 => ?_) (fun b1 => ?_)
  · skip
    refine rz_pure (pc' := 175) d_Disk_writeBlock_174 rfl ?_
    refine rz_getr d_Disk_writeBlock_175 f_4_40 rfl rfl ?_
    refine rz_bipush (v := 25) d_Disk_writeBlock_178 (by decide) ?_
    refine rz_pure (pc' := 181) d_Disk_writeBlock_180 rfl ?_
    refine rz_pure (pc' := 182) d_Disk_writeBlock_181 rfl ?_
    refine rz_callVi (t := [.int a2, .int a1, .int 25]) d_Disk_writeBlock_182 w_4_88 rfl rfl rfl (w.1 b1) (fun xq2 Sq2 q2 => ?_)
    exact rz_ireti d_Disk_writeBlock_185 rfl rfl q2
  · skip
    refine rz_iconst (v := 0) d_Disk_writeBlock_170 (by decide) ?_
    refine rz_pure (pc' := 185) d_Disk_writeBlock_171 rfl ?_
    exact rz_ireti d_Disk_writeBlock_185 rfl rfl (w.2 b1)
theorem d_Disk_seek_0 : decode (rm_code mDisk_seek) 0 = .ok (.aload_n 0, 1) := by decide +kernel
theorem d_Disk_seek_1 : decode (rm_code mDisk_seek) 1 = .ok (.iload_n 2, 1) := by decide +kernel
theorem d_Disk_seek_2 : decode (rm_code mDisk_seek) 2 = .ok (.iload_n 3, 1) := by decide +kernel
theorem d_Disk_seek_3 : decode (rm_code mDisk_seek) 3 = .ok (.aload_n 0, 1) := by decide +kernel
theorem d_Disk_seek_4 : decode (rm_code mDisk_seek) 4 = .ok (.getfield 9, 3) := by decide +kernel
theorem d_Disk_seek_7 : decode (rm_code mDisk_seek) 7 = .ok (.aload_n 0, 1) := by decide +kernel
theorem d_Disk_seek_8 : decode (rm_code mDisk_seek) 8 = .ok (.getfield 15, 3) := by decide +kernel
theorem d_Disk_seek_11 : decode (rm_code mDisk_seek) 11 = .ok (.invokevirtual 140, 3) := by decide +kernel
theorem d_Disk_seek_14 : decode (rm_code mDisk_seek) 14 = .ok (.aload_n 0, 1) := by decide +kernel
theorem d_Disk_seek_15 : decode (rm_code mDisk_seek) 15 = .ok (.getfield 24, 3) := by decide +kernel
theorem d_Disk_seek_18 : decode (rm_code mDisk_seek) 18 = .ok (.aload_n 0, 1) := by decide +kernel
theorem d_Disk_seek_19 : decode (rm_code mDisk_seek) 19 = .ok (.getfield 28, 3) := by decide +kernel
theorem d_Disk_seek_22 : decode (rm_code mDisk_seek) 22 = .ok (.invokestatic 144, 3) := by decide +kernel
theorem d_Disk_seek_25 : decode (rm_code mDisk_seek) 25 = .ok (.aload_n 1, 1) := by decide +kernel
theorem d_Disk_seek_26 : decode (rm_code mDisk_seek) 26 = .ok (.aload_n 1, 1) := by decide +kernel
theorem d_Disk_seek_27 : decode (rm_code mDisk_seek) 27 = .ok (.iconst 0, 1) := by decide +kernel
theorem d_Disk_seek_28 : decode (rm_code mDisk_seek) 28 = .ok (.invokevirtual 56, 3) := by decide +kernel
theorem d_Disk_seek_31 : decode (rm_code mDisk_seek) 31 = .ok (.invokevirtual 60, 3) := by decide +kernel
theorem d_Disk_seek_34 : decode (rm_code mDisk_seek) 34 = .ok (.aload_n 1, 1) := by decide +kernel
theorem d_Disk_seek_35 : decode (rm_code mDisk_seek) 35 = .ok (.invokevirtual 64, 3) := by decide +kernel
theorem d_Disk_seek_38 : decode (rm_code mDisk_seek) 38 = .ok (.istore 4, 2) := by decide +kernel
theorem d_Disk_seek_40 : decode (rm_code mDisk_seek) 40 = .ok (.iload 4, 2) := by decide +kernel
theorem d_Disk_seek_42 : decode (rm_code mDisk_seek) 42 = .ok (.iconst (-1), 1) := by decide +kernel
theorem d_Disk_seek_43 : decode (rm_code mDisk_seek) 43 = .ok (.if_icmp .ne (6), 3) := by decide +kernel
theorem d_Disk_seek_46 : decode (rm_code mDisk_seek) 46 = .ok (.bipush (21), 2) := by decide +kernel
theorem d_Disk_seek_48 : decode (rm_code mDisk_seek) 48 = .ok (.ireturn, 1) := by decide +kernel
theorem d_Disk_seek_49 : decode (rm_code mDisk_seek) 49 = .ok (.iconst 0, 1) := by decide +kernel
theorem d_Disk_seek_50 : decode (rm_code mDisk_seek) 50 = .ok (.istore 5, 2) := by decide +kernel
theorem d_Disk_seek_52 : decode (rm_code mDisk_seek) 52 = .ok (.iload 5, 2) := by decide +kernel
theorem d_Disk_seek_54 : decode (rm_code mDisk_seek) 54 = .ok (.aload_n 1, 1) := by decide +kernel
theorem d_Disk_seek_55 : decode (rm_code mDisk_seek) 55 = .ok (.getfield 154, 3) := by decide +kernel
theorem d_Disk_seek_58 : decode (rm_code mDisk_seek) 58 = .ok (.if_icmp .ge (66), 3) := by decide +kernel
theorem d_Disk_seek_61 : decode (rm_code mDisk_seek) 61 = .ok (.iload 4, 2) := by decide +kernel
theorem d_Disk_seek_63 : decode (rm_code mDisk_seek) 63 = .ok (.iconst (-1), 1) := by decide +kernel
theorem d_Disk_seek_64 : decode (rm_code mDisk_seek) 64 = .ok (.if_icmp .eq (60), 3) := by decide +kernel
theorem d_Disk_seek_67 : decode (rm_code mDisk_seek) 67 = .ok (.aload_n 1, 1) := by decide +kernel
theorem d_Disk_seek_68 : decode (rm_code mDisk_seek) 68 = .ok (.iload 4, 2) := by decide +kernel
theorem d_Disk_seek_70 : decode (rm_code mDisk_seek) 70 = .ok (.aload_n 0, 1) := by decide +kernel
theorem d_Disk_seek_71 : decode (rm_code mDisk_seek) 71 = .ok (.getfield 28, 3) := by decide +kernel
theorem d_Disk_seek_74 : decode (rm_code mDisk_seek) 74 = .ok (.invokevirtual 157, 3) := by decide +kernel
theorem d_Disk_seek_77 : decode (rm_code mDisk_seek) 77 = .ok (.ifCond .eq (35), 3) := by decide +kernel
theorem d_Disk_seek_80 : decode (rm_code mDisk_seek) 80 = .ok (.iload 4, 2) := by decide +kernel
theorem d_Disk_seek_82 : decode (rm_code mDisk_seek) 82 = .ok (.bipush (8), 2) := by decide +kernel
theorem d_Disk_seek_84 : decode (rm_code mDisk_seek) 84 = .ok (.aload_n 0, 1) := by decide +kernel
theorem d_Disk_seek_85 : decode (rm_code mDisk_seek) 85 = .ok (.getfield 28, 3) := by decide +kernel
theorem d_Disk_seek_88 : decode (rm_code mDisk_seek) 88 = .ok (.arraylength, 1) := by decide +kernel
theorem d_Disk_seek_89 : decode (rm_code mDisk_seek) 89 = .ok (.imul, 1) := by decide +kernel
theorem d_Disk_seek_90 : decode (rm_code mDisk_seek) 90 = .ok (.iadd, 1) := by decide +kernel
theorem d_Disk_seek_91 : decode (rm_code mDisk_seek) 91 = .ok (.aload_n 1, 1) := by decide +kernel
theorem d_Disk_seek_92 : decode (rm_code mDisk_seek) 92 = .ok (.getfield 154, 3) := by decide +kernel
theorem d_Disk_seek_95 : decode (rm_code mDisk_seek) 95 = .ok (.irem, 1) := by decide +kernel
theorem d_Disk_seek_96 : decode (rm_code mDisk_seek) 96 = .ok (.istore 6, 2) := by decide +kernel
theorem d_Disk_seek_98 : decode (rm_code mDisk_seek) 98 = .ok (.aload_n 1, 1) := by decide +kernel
theorem d_Disk_seek_99 : decode (rm_code mDisk_seek) 99 = .ok (.iload 6, 2) := by decide +kernel
theorem d_Disk_seek_101 : decode (rm_code mDisk_seek) 101 = .ok (.aload_n 1, 1) := by decide +kernel
theorem d_Disk_seek_102 : decode (rm_code mDisk_seek) 102 = .ok (.iload 6, 2) := by decide +kernel
theorem d_Disk_seek_104 : decode (rm_code mDisk_seek) 104 = .ok (.invokevirtual 56, 3) := by decide +kernel
theorem d_Disk_seek_107 : decode (rm_code mDisk_seek) 107 = .ok (.invokevirtual 72, 3) := by decide +kernel
theorem d_Disk_seek_110 : decode (rm_code mDisk_seek) 110 = .ok (.iconst 0, 1) := by decide +kernel
theorem d_Disk_seek_111 : decode (rm_code mDisk_seek) 111 = .ok (.ireturn, 1) := by decide +kernel
theorem d_Disk_seek_112 : decode (rm_code mDisk_seek) 112 = .ok (.aload_n 1, 1) := by decide +kernel
theorem d_Disk_seek_113 : decode (rm_code mDisk_seek) 113 = .ok (.invokevirtual 64, 3) := by decide +kernel
theorem d_Disk_seek_116 : decode (rm_code mDisk_seek) 116 = .ok (.istore 4, 2) := by decide +kernel
theorem d_Disk_seek_118 : decode (rm_code mDisk_seek) 118 = .ok (.iinc 5 (1), 3) := by decide +kernel
theorem d_Disk_seek_121 : decode (rm_code mDisk_seek) 121 = .ok (.goto (-69), 3) := by decide +kernel
theorem d_Disk_seek_124 : decode (rm_code mDisk_seek) 124 = .ok (.bipush (20), 2) := by decide +kernel
theorem d_Disk_seek_126 : decode (rm_code mDisk_seek) 126 = .ok (.ireturn, 1) := by decide +kernel
theorem p_Disk_seek_0 {S : rz_S} {K : Int32 → rz_S → Prop} {a1 : Nat} (ha1 : rgP a1) {a2 : Int32} {a3 : Int32} (w : rz_ev mDisk_fillHeader [.ref 6, .int a2, .int a3, .int (S.2 6 1), .int (S.2 6 2)] S (rz_v (fun Sq1 => rz_ev mDisk_encode [.ref 8, .ref 9] Sq1 (rz_v (fun Sq2 => rz_ev mRing_onesAhead [.ref a1, .int 0] Sq2 (rz_i (fun xq3 Sq3 => rz_ev mRing_startRound [.ref a1, .int xq3] Sq3 (rz_v (fun Sq4 => rz_ev mRing_nextFirst [.ref a1] Sq4 (rz_i (fun xq5 Sq5 => ((xq5 = (-1) → K 21 Sq5) ∧ (¬ xq5 = (-1) → rz mDisk_seek 52 [(0, .ref 6), (1, .ref a1), (4, .int xq5), (5, .int 0)] [] Sq5 (rz_i K)))))))))))))) : rz mDisk_seek 0 [(0, .ref 6), (1, .ref a1), (2, .int a2), (3, .int a3)] [] S (rz_i K) := by
  have za1 := rgZ ha1
  refine rz_pure (pc' := 1) d_Disk_seek_0 rfl ?_
  refine rz_pure (pc' := 2) d_Disk_seek_1 rfl ?_
  refine rz_pure (pc' := 3) d_Disk_seek_2 rfl ?_
  refine rz_pure (pc' := 4) d_Disk_seek_3 rfl ?_
  refine rz_getiv (v := S.2 6 1) d_Disk_seek_4 f_4_9 rfl rfl rfl ?_
  refine rz_pure (pc' := 8) d_Disk_seek_7 rfl ?_
  refine rz_getiv (v := S.2 6 2) d_Disk_seek_8 f_4_15 rfl rfl rfl ?_
  refine rz_callVv (t := [.int (S.2 6 2), .int (S.2 6 1), .int a3, .int a2]) d_Disk_seek_11 w_4_140 rfl rfl rfl w (fun Sq1 q1 => ?_)
  refine rz_pure (pc' := 15) d_Disk_seek_14 rfl ?_
  refine rz_getr d_Disk_seek_15 f_4_24 rfl rfl ?_
  refine rz_pure (pc' := 19) d_Disk_seek_18 rfl ?_
  refine rz_getr d_Disk_seek_19 f_4_28 rfl rfl ?_
  refine rz_callSv (t := [.ref 9, .ref 8]) d_Disk_seek_22 rfl w_4_144 rfl rfl q1 (fun Sq2 q2 => ?_)
  refine rz_pure (pc' := 26) d_Disk_seek_25 rfl ?_
  refine rz_pure (pc' := 27) d_Disk_seek_26 rfl ?_
  refine rz_iconst (v := 0) d_Disk_seek_27 (by decide) ?_
  refine rz_callVi (t := [.int 0]) d_Disk_seek_28 w_4_56 rfl (rgT ha1) rfl q2 (fun xq3 Sq3 q3 => ?_)
  refine rz_callVv (t := [.int xq3]) d_Disk_seek_31 w_4_60 rfl (rgT ha1) rfl q3 (fun Sq4 q4 => ?_)
  refine rz_pure (pc' := 35) d_Disk_seek_34 rfl ?_
  refine rz_callVi (t := []) d_Disk_seek_35 w_4_64 rfl (rgT ha1) rfl q4 (fun xq5 Sq5 q5 => ?_)
  refine rz_pure (pc' := 40) (l' := [(4, .int xq5), (0, .ref 6), (1, .ref a1), (2, .int a2), (3, .int a3)]) d_Disk_seek_38 rfl ?_
  refine rz_pure (pc' := 42) d_Disk_seek_40 rfl ?_
  refine rz_iconst (v := -1) d_Disk_seek_42 (by decide) ?_
  refine rz_icmpne (tgt := 49) d_Disk_seek_43 rfl (fun b6 => ?_) (fun b6 => ?_)
  · skip
    refine rz_iconst (v := 0) d_Disk_seek_49 (by decide) ?_
    refine rz_pure (pc' := 52) (l' := [(5, .int 0), (4, .int xq5), (0, .ref 6), (1, .ref a1), (2, .int a2), (3, .int a3)]) d_Disk_seek_50 rfl ?_
    exact rz_pick (ks := [0, 1, 4, 5]) (l := [(0, .ref 6), (1, .ref a1), (4, .int xq5), (5, .int 0)]) rfl rfl (by decide) rfl (q5.2 b6)
  · skip
    refine rz_bipush (v := 21) d_Disk_seek_46 (by decide) ?_
    exact rz_ireti d_Disk_seek_48 rfl rfl (q5.1 b6)
theorem p_Disk_seek_52 {S : rz_S} {K : Int32 → rz_S → Prop} {a1 : Nat} (ha1 : rgP a1) {a4 : Int32} {a5 : Int32} (w : ((S.2 a1 1 ≤ a5 → K 20 S) ∧ (¬ S.2 a1 1 ≤ a5 → ((a4 = (-1) → K 20 S) ∧ (¬ a4 = (-1) → rz_ev mRing_holds [.ref a1, .int a4, .ref 9] S (rz_i (fun xq3 Sq3 => ((xq3 = 0 → rz_ev mRing_nextFirst [.ref a1] Sq3 (rz_i (fun xq5 Sq5 => rz mDisk_seek 52 [(0, .ref 6), (1, .ref a1), (4, .int xq5), (5, .int (a5 + 1))] [] Sq5 (rz_i K)))) ∧ (¬ xq3 = 0 → (¬ Sq3.2 a1 1 = 0) ∧ rz_ev mRing_onesAhead [.ref a1, .int ((a4 + (8 * 10)) - (a4 + (8 * 10)) / (Sq3.2 a1 1) * (Sq3.2 a1 1))] Sq3 (rz_i (fun xq6 Sq6 => rz_ev mRing_goTo [.ref a1, .int ((a4 + (8 * 10)) - (a4 + (8 * 10)) / (Sq3.2 a1 1) * (Sq3.2 a1 1)), .int xq6] Sq6 (rz_v (fun Sq7 => K 0 Sq7))))))))))))) : rz mDisk_seek 52 [(0, .ref 6), (1, .ref a1), (4, .int a4), (5, .int a5)] [] S (rz_i K) := by
  have za1 := rgZ ha1
  refine rz_pure (pc' := 54) d_Disk_seek_52 rfl ?_
  refine rz_pure (pc' := 55) d_Disk_seek_54 rfl ?_
  refine rz_getiv (v := S.2 a1 1) d_Disk_seek_55 f_4_154 (rgT ha1) rfl rfl ?_
  refine rz_icmpge (tgt := 124) d_Disk_seek_58 rfl (fun b1 => ?_) (fun b1 => ?_)
  · skip
    refine rz_bipush (v := 20) d_Disk_seek_124 (by decide) ?_
    exact rz_ireti d_Disk_seek_126 rfl rfl (w.1 b1)
  · skip
    refine rz_pure (pc' := 63) d_Disk_seek_61 rfl ?_
    refine rz_iconst (v := -1) d_Disk_seek_63 (by decide) ?_
    refine rz_icmpeq (tgt := 124) d_Disk_seek_64 rfl (fun b2 => ?_) (fun b2 => ?_)
    · skip
      refine rz_bipush (v := 20) d_Disk_seek_124 (by decide) ?_
      exact rz_ireti d_Disk_seek_126 rfl rfl ((w.2 b1).1 b2)
    · skip
      refine rz_pure (pc' := 68) d_Disk_seek_67 rfl ?_
      refine rz_pure (pc' := 70) d_Disk_seek_68 rfl ?_
      refine rz_pure (pc' := 71) d_Disk_seek_70 rfl ?_
      refine rz_getr d_Disk_seek_71 f_4_28 rfl rfl ?_
      refine rz_callVi (t := [.ref 9, .int a4]) d_Disk_seek_74 w_4_157 rfl (rgT ha1) rfl ((w.2 b1).2 b2) (fun xq3 Sq3 q3 => ?_)
      refine rz_ifeq (tgt := 112) d_Disk_seek_77 rfl (fun b4 => ?_) (fun b4 => ?_)
      · skip
        refine rz_pure (pc' := 113) d_Disk_seek_112 rfl ?_
        refine rz_callVi (t := []) d_Disk_seek_113 w_4_64 rfl (rgT ha1) rfl (q3.1 b4) (fun xq5 Sq5 q5 => ?_)
        refine rz_pure (pc' := 118) (l' := [(4, .int xq5), (0, .ref 6), (1, .ref a1), (5, .int a5)]) d_Disk_seek_116 rfl ?_
        refine rz_pure (pc' := 121) (l' := [(5, .int (a5 + 1)), (4, .int xq5), (0, .ref 6), (1, .ref a1)]) d_Disk_seek_118 rfl ?_
        refine rz_pure (pc' := 52) d_Disk_seek_121 rfl ?_
        exact rz_pick (ks := [0, 1, 4, 5]) (l := [(0, .ref 6), (1, .ref a1), (4, .int xq5), (5, .int (a5 + 1))]) rfl rfl (by decide) rfl q5
      · skip
        refine rz_pure (pc' := 82) d_Disk_seek_80 rfl ?_
        refine rz_bipush (v := 8) d_Disk_seek_82 (by decide) ?_
        refine rz_pure (pc' := 85) d_Disk_seek_84 rfl ?_
        refine rz_getr d_Disk_seek_85 f_4_28 rfl rfl ?_
        refine rz_alenv (v := 10) d_Disk_seek_88 rfl (by decide) rfl ?_
        refine rz_imul d_Disk_seek_89 ?_
        refine rz_iadd d_Disk_seek_90 ?_
        refine rz_pure (pc' := 92) d_Disk_seek_91 rfl ?_
        refine rz_getiv (v := Sq3.2 a1 1) d_Disk_seek_92 f_4_154 (rgT ha1) rfl rfl ?_
        refine rz_irem d_Disk_seek_95 (q3.2 b4).1 ?_
        refine rz_pure (pc' := 98) (l' := [(6, .int ((a4 + (8 * 10)) - (a4 + (8 * 10)) / (Sq3.2 a1 1) * (Sq3.2 a1 1))), (0, .ref 6), (1, .ref a1), (4, .int a4), (5, .int a5)]) d_Disk_seek_96 rfl ?_
        refine rz_pure (pc' := 99) d_Disk_seek_98 rfl ?_
        refine rz_pure (pc' := 101) d_Disk_seek_99 rfl ?_
        refine rz_pure (pc' := 102) d_Disk_seek_101 rfl ?_
        refine rz_pure (pc' := 104) d_Disk_seek_102 rfl ?_
        refine rz_callVi (t := [.int ((a4 + (8 * 10)) - (a4 + (8 * 10)) / (Sq3.2 a1 1) * (Sq3.2 a1 1))]) d_Disk_seek_104 w_4_56 rfl (rgT ha1) rfl (q3.2 b4).2 (fun xq6 Sq6 q6 => ?_)
        refine rz_callVv (t := [.int xq6, .int ((a4 + (8 * 10)) - (a4 + (8 * 10)) / (Sq3.2 a1 1) * (Sq3.2 a1 1))]) d_Disk_seek_107 w_4_72 rfl (rgT ha1) rfl q6 (fun Sq7 q7 => ?_)
        refine rz_iconst (v := 0) d_Disk_seek_110 (by decide) ?_
        exact rz_ireti d_Disk_seek_111 rfl rfl q7
theorem d_Disk_areSame_0 : decode (rm_code mDisk_areSame) 0 = .ok (.iconst 0, 1) := by decide +kernel
theorem d_Disk_areSame_1 : decode (rm_code mDisk_areSame) 1 = .ok (.istore_n 2, 1) := by decide +kernel
theorem d_Disk_areSame_2 : decode (rm_code mDisk_areSame) 2 = .ok (.iload_n 2, 1) := by decide +kernel
theorem d_Disk_areSame_3 : decode (rm_code mDisk_areSame) 3 = .ok (.aload_n 0, 1) := by decide +kernel
theorem d_Disk_areSame_4 : decode (rm_code mDisk_areSame) 4 = .ok (.arraylength, 1) := by decide +kernel
theorem d_Disk_areSame_5 : decode (rm_code mDisk_areSame) 5 = .ok (.if_icmp .ge (26), 3) := by decide +kernel
theorem d_Disk_areSame_8 : decode (rm_code mDisk_areSame) 8 = .ok (.iload_n 2, 1) := by decide +kernel
theorem d_Disk_areSame_9 : decode (rm_code mDisk_areSame) 9 = .ok (.aload_n 1, 1) := by decide +kernel
theorem d_Disk_areSame_10 : decode (rm_code mDisk_areSame) 10 = .ok (.arraylength, 1) := by decide +kernel
theorem d_Disk_areSame_11 : decode (rm_code mDisk_areSame) 11 = .ok (.if_icmp .ge (12), 3) := by decide +kernel
theorem d_Disk_areSame_14 : decode (rm_code mDisk_areSame) 14 = .ok (.aload_n 0, 1) := by decide +kernel
theorem d_Disk_areSame_15 : decode (rm_code mDisk_areSame) 15 = .ok (.iload_n 2, 1) := by decide +kernel
theorem d_Disk_areSame_16 : decode (rm_code mDisk_areSame) 16 = .ok (.iaload, 1) := by decide +kernel
theorem d_Disk_areSame_17 : decode (rm_code mDisk_areSame) 17 = .ok (.aload_n 1, 1) := by decide +kernel
theorem d_Disk_areSame_18 : decode (rm_code mDisk_areSame) 18 = .ok (.iload_n 2, 1) := by decide +kernel
theorem d_Disk_areSame_19 : decode (rm_code mDisk_areSame) 19 = .ok (.iaload, 1) := by decide +kernel
theorem d_Disk_areSame_20 : decode (rm_code mDisk_areSame) 20 = .ok (.if_icmp .eq (5), 3) := by decide +kernel
theorem d_Disk_areSame_23 : decode (rm_code mDisk_areSame) 23 = .ok (.iconst 0, 1) := by decide +kernel
theorem d_Disk_areSame_24 : decode (rm_code mDisk_areSame) 24 = .ok (.ireturn, 1) := by decide +kernel
theorem d_Disk_areSame_25 : decode (rm_code mDisk_areSame) 25 = .ok (.iinc 2 (1), 3) := by decide +kernel
theorem d_Disk_areSame_28 : decode (rm_code mDisk_areSame) 28 = .ok (.goto (-26), 3) := by decide +kernel
theorem d_Disk_areSame_31 : decode (rm_code mDisk_areSame) 31 = .ok (.iconst 1, 1) := by decide +kernel
theorem d_Disk_areSame_32 : decode (rm_code mDisk_areSame) 32 = .ok (.ireturn, 1) := by decide +kernel
theorem p_Disk_areSame_0 {S : rz_S} {K : Int32 → rz_S → Prop} {a0 na0 : Nat} (ha0 : rz_T[a0]? = some (.inl (0, na0))) {a1 na1 : Nat} (ha1 : rz_T[a1]? = some (.inl (0, na1))) (w : rz mDisk_areSame 2 [(0, .ref a0), (1, .ref a1), (2, .int 0)] [] S (rz_i K)) : rz mDisk_areSame 0 [(0, .ref a0), (1, .ref a1)] [] S (rz_i K) := by
  refine rz_iconst (v := 0) d_Disk_areSame_0 (by decide) ?_
  refine rz_pure (pc' := 2) (l' := [(2, .int 0), (0, .ref a0), (1, .ref a1)]) d_Disk_areSame_1 rfl ?_
  exact rz_pick (ks := [0, 1, 2]) (l := [(0, .ref a0), (1, .ref a1), (2, .int 0)]) rfl rfl (by decide) rfl w
theorem p_Disk_areSame_2 {S : rz_S} {K : Int32 → rz_S → Prop} {a0 na0 : Nat} (ha0 : rz_T[a0]? = some (.inl (0, na0))) {a1 na1 : Nat} (ha1 : rz_T[a1]? = some (.inl (0, na1))) {a2 : Int32} (w : ((Int32.ofNat na0 ≤ a2 → K 1 S) ∧ (¬ Int32.ofNat na0 ≤ a2 → ((Int32.ofNat na1 ≤ a2 → K 0 S) ∧ (¬ Int32.ofNat na1 ≤ a2 → rx_in a2 na0 = true ∧ rx_in a2 na1 = true ∧ ((S.1 a0 a2.toNatClampNeg = S.1 a1 a2.toNatClampNeg → rz mDisk_areSame 2 [(0, .ref a0), (1, .ref a1), (2, .int (a2 + 1))] [] S (rz_i K)) ∧ (¬ S.1 a0 a2.toNatClampNeg = S.1 a1 a2.toNatClampNeg → K 0 S))))))) : rz mDisk_areSame 2 [(0, .ref a0), (1, .ref a1), (2, .int a2)] [] S (rz_i K) := by
  refine rz_pure (pc' := 3) d_Disk_areSame_2 rfl ?_
  refine rz_pure (pc' := 4) d_Disk_areSame_3 rfl ?_
  refine rz_alenv (v := Int32.ofNat na0) d_Disk_areSame_4 (ha0) (by decide) rfl ?_
  refine rz_icmpge (tgt := 31) d_Disk_areSame_5 rfl (fun b1 => ?_) (fun b1 => ?_)
  · skip
    refine rz_iconst (v := 1) d_Disk_areSame_31 (by decide) ?_
    exact rz_ireti d_Disk_areSame_32 rfl (by decide) (w.1 b1)
  · skip
    refine rz_pure (pc' := 9) d_Disk_areSame_8 rfl ?_
    refine rz_pure (pc' := 10) d_Disk_areSame_9 rfl ?_
    refine rz_alenv (v := Int32.ofNat na1) d_Disk_areSame_10 (ha1) (by decide) rfl ?_
    refine rz_icmpge (tgt := 23) d_Disk_areSame_11 rfl (fun b2 => ?_) (fun b2 => ?_)
    · skip
      refine rz_iconst (v := 0) d_Disk_areSame_23 (by decide) ?_
      exact rz_ireti d_Disk_areSame_24 rfl (by decide) ((w.2 b1).1 b2)
    · skip
      refine rz_pure (pc' := 15) d_Disk_areSame_14 rfl ?_
      refine rz_pure (pc' := 16) d_Disk_areSame_15 rfl ?_
      refine rz_ialdv (F := S.1 a0) (i := a2.toNatClampNeg) d_Disk_areSame_16 (ha0) ((w.2 b1).2 b2).1 rfl rfl ?_
      refine rz_pure (pc' := 18) d_Disk_areSame_17 rfl ?_
      refine rz_pure (pc' := 19) d_Disk_areSame_18 rfl ?_
      refine rz_ialdv (F := S.1 a1) (i := a2.toNatClampNeg) d_Disk_areSame_19 (ha1) ((w.2 b1).2 b2).2.1 rfl rfl ?_
      refine rz_icmpeq (tgt := 25) d_Disk_areSame_20 rfl (fun b3 => ?_) (fun b3 => ?_)
      · skip
        refine rz_pure (pc' := 28) (l' := [(2, .int (a2 + 1)), (0, .ref a0), (1, .ref a1)]) d_Disk_areSame_25 rfl ?_
        refine rz_pure (pc' := 2) d_Disk_areSame_28 rfl ?_
        exact rz_pick (ks := [0, 1, 2]) (l := [(0, .ref a0), (1, .ref a1), (2, .int (a2 + 1))]) rfl rfl (by decide) rfl (((w.2 b1).2 b2).2.2.1 b3)
      · skip
        refine rz_iconst (v := 0) d_Disk_areSame_23 (by decide) ?_
        exact rz_ireti d_Disk_areSame_24 rfl (by decide) (((w.2 b1).2 b2).2.2.2 b3)
theorem d_Disk_readBlock_0 : decode (rm_code mDisk_readBlock) 0 = .ok (.aload_n 0, 1) := by decide +kernel
theorem d_Disk_readBlock_1 : decode (rm_code mDisk_readBlock) 1 = .ok (.iload_n 1, 1) := by decide +kernel
theorem d_Disk_readBlock_2 : decode (rm_code mDisk_readBlock) 2 = .ok (.invokevirtual 94, 3) := by decide +kernel
theorem d_Disk_readBlock_5 : decode (rm_code mDisk_readBlock) 5 = .ok (.astore 4, 2) := by decide +kernel
theorem d_Disk_readBlock_7 : decode (rm_code mDisk_readBlock) 7 = .ok (.aload 4, 2) := by decide +kernel
theorem d_Disk_readBlock_9 : decode (rm_code mDisk_readBlock) 9 = .ok (.ifnull (10), 3) := by decide +kernel
theorem d_Disk_readBlock_12 : decode (rm_code mDisk_readBlock) 12 = .ok (.aload_n 3, 1) := by decide +kernel
theorem d_Disk_readBlock_13 : decode (rm_code mDisk_readBlock) 13 = .ok (.arraylength, 1) := by decide +kernel
theorem d_Disk_readBlock_14 : decode (rm_code mDisk_readBlock) 14 = .ok (.bipush (64), 2) := by decide +kernel
theorem d_Disk_readBlock_16 : decode (rm_code mDisk_readBlock) 16 = .ok (.if_icmp .ge (15), 3) := by decide +kernel
theorem d_Disk_readBlock_19 : decode (rm_code mDisk_readBlock) 19 = .ok (.aload_n 0, 1) := by decide +kernel
theorem d_Disk_readBlock_20 : decode (rm_code mDisk_readBlock) 20 = .ok (.getfield 40, 3) := by decide +kernel
theorem d_Disk_readBlock_23 : decode (rm_code mDisk_readBlock) 23 = .ok (.bipush (66), 2) := by decide +kernel
theorem d_Disk_readBlock_25 : decode (rm_code mDisk_readBlock) 25 = .ok (.iload_n 1, 1) := by decide +kernel
theorem d_Disk_readBlock_26 : decode (rm_code mDisk_readBlock) 26 = .ok (.iload_n 2, 1) := by decide +kernel
theorem d_Disk_readBlock_27 : decode (rm_code mDisk_readBlock) 27 = .ok (.invokevirtual 88, 3) := by decide +kernel
theorem d_Disk_readBlock_30 : decode (rm_code mDisk_readBlock) 30 = .ok (.ireturn, 1) := by decide +kernel
theorem d_Disk_readBlock_31 : decode (rm_code mDisk_readBlock) 31 = .ok (.aload_n 0, 1) := by decide +kernel
theorem d_Disk_readBlock_32 : decode (rm_code mDisk_readBlock) 32 = .ok (.invokevirtual 68, 3) := by decide +kernel
theorem d_Disk_readBlock_35 : decode (rm_code mDisk_readBlock) 35 = .ok (.ifCond .ne (18), 3) := by decide +kernel
theorem d_Disk_readBlock_38 : decode (rm_code mDisk_readBlock) 38 = .ok (.aload_n 0, 1) := by decide +kernel
theorem d_Disk_readBlock_39 : decode (rm_code mDisk_readBlock) 39 = .ok (.invokevirtual 98, 3) := by decide +kernel
theorem d_Disk_readBlock_42 : decode (rm_code mDisk_readBlock) 42 = .ok (.ifCond .eq (11), 3) := by decide +kernel
theorem d_Disk_readBlock_45 : decode (rm_code mDisk_readBlock) 45 = .ok (.aload_n 0, 1) := by decide +kernel
theorem d_Disk_readBlock_46 : decode (rm_code mDisk_readBlock) 46 = .ok (.getfield 40, 3) := by decide +kernel
theorem d_Disk_readBlock_49 : decode (rm_code mDisk_readBlock) 49 = .ok (.getfield 101, 3) := by decide +kernel
theorem d_Disk_readBlock_52 : decode (rm_code mDisk_readBlock) 52 = .ok (.ireturn, 1) := by decide +kernel
theorem d_Disk_readBlock_53 : decode (rm_code mDisk_readBlock) 53 = .ok (.aload_n 0, 1) := by decide +kernel
theorem d_Disk_readBlock_54 : decode (rm_code mDisk_readBlock) 54 = .ok (.aload 4, 2) := by decide +kernel
theorem d_Disk_readBlock_56 : decode (rm_code mDisk_readBlock) 56 = .ok (.iload_n 1, 1) := by decide +kernel
theorem d_Disk_readBlock_57 : decode (rm_code mDisk_readBlock) 57 = .ok (.iload_n 2, 1) := by decide +kernel
theorem d_Disk_readBlock_58 : decode (rm_code mDisk_readBlock) 58 = .ok (.invokevirtual 104, 3) := by decide +kernel
theorem d_Disk_readBlock_61 : decode (rm_code mDisk_readBlock) 61 = .ok (.istore 5, 2) := by decide +kernel
theorem d_Disk_readBlock_63 : decode (rm_code mDisk_readBlock) 63 = .ok (.iload 5, 2) := by decide +kernel
theorem d_Disk_readBlock_65 : decode (rm_code mDisk_readBlock) 65 = .ok (.ifCond .ne (18), 3) := by decide +kernel
theorem d_Disk_readBlock_68 : decode (rm_code mDisk_readBlock) 68 = .ok (.aload 4, 2) := by decide +kernel
theorem d_Disk_readBlock_70 : decode (rm_code mDisk_readBlock) 70 = .ok (.aload_n 0, 1) := by decide +kernel
theorem d_Disk_readBlock_71 : decode (rm_code mDisk_readBlock) 71 = .ok (.getfield 37, 3) := by decide +kernel
theorem d_Disk_readBlock_74 : decode (rm_code mDisk_readBlock) 74 = .ok (.invokevirtual 108, 3) := by decide +kernel
theorem d_Disk_readBlock_77 : decode (rm_code mDisk_readBlock) 77 = .ok (.aload_n 0, 1) := by decide +kernel
theorem d_Disk_readBlock_78 : decode (rm_code mDisk_readBlock) 78 = .ok (.invokevirtual 112, 3) := by decide +kernel
theorem d_Disk_readBlock_81 : decode (rm_code mDisk_readBlock) 81 = .ok (.istore 5, 2) := by decide +kernel
theorem d_Disk_readBlock_83 : decode (rm_code mDisk_readBlock) 83 = .ok (.iload 5, 2) := by decide +kernel
theorem d_Disk_readBlock_85 : decode (rm_code mDisk_readBlock) 85 = .ok (.ifCond .eq (15), 3) := by decide +kernel
theorem d_Disk_readBlock_88 : decode (rm_code mDisk_readBlock) 88 = .ok (.aload_n 0, 1) := by decide +kernel
theorem d_Disk_readBlock_89 : decode (rm_code mDisk_readBlock) 89 = .ok (.getfield 40, 3) := by decide +kernel
theorem d_Disk_readBlock_92 : decode (rm_code mDisk_readBlock) 92 = .ok (.iload 5, 2) := by decide +kernel
theorem d_Disk_readBlock_94 : decode (rm_code mDisk_readBlock) 94 = .ok (.iload_n 1, 1) := by decide +kernel
theorem d_Disk_readBlock_95 : decode (rm_code mDisk_readBlock) 95 = .ok (.iload_n 2, 1) := by decide +kernel
theorem d_Disk_readBlock_96 : decode (rm_code mDisk_readBlock) 96 = .ok (.invokevirtual 88, 3) := by decide +kernel
theorem d_Disk_readBlock_99 : decode (rm_code mDisk_readBlock) 99 = .ok (.ireturn, 1) := by decide +kernel
theorem d_Disk_readBlock_100 : decode (rm_code mDisk_readBlock) 100 = .ok (.aload_n 0, 1) := by decide +kernel
theorem d_Disk_readBlock_101 : decode (rm_code mDisk_readBlock) 101 = .ok (.getfield 31, 3) := by decide +kernel
theorem d_Disk_readBlock_104 : decode (rm_code mDisk_readBlock) 104 = .ok (.iconst 1, 1) := by decide +kernel
theorem d_Disk_readBlock_105 : decode (rm_code mDisk_readBlock) 105 = .ok (.aload_n 3, 1) := by decide +kernel
theorem d_Disk_readBlock_106 : decode (rm_code mDisk_readBlock) 106 = .ok (.iconst 0, 1) := by decide +kernel
theorem d_Disk_readBlock_107 : decode (rm_code mDisk_readBlock) 107 = .ok (.bipush (64), 2) := by decide +kernel
theorem d_Disk_readBlock_109 : decode (rm_code mDisk_readBlock) 109 = .ok (.invokestatic 115, 3) := by decide +kernel
theorem d_Disk_readBlock_112 : decode (rm_code mDisk_readBlock) 112 = .ok (.iconst 0, 1) := by decide +kernel
theorem d_Disk_readBlock_113 : decode (rm_code mDisk_readBlock) 113 = .ok (.ireturn, 1) := by decide +kernel
theorem p_Disk_readBlock_0 {S : rz_S} {K : Int32 → rz_S → Prop} {a1 : Int32} {a2 : Int32} {a3 na3 : Nat} (ha3 : rz_T[a3]? = some (.inl (0, na3))) (w : rz_ev mDisk_ring [.ref 6, .int a1] S (rz_r (fun xq1 Sq1 => rz mDisk_readBlock 5 [(0, .ref 6), (1, .int a1), (2, .int a2), (3, .ref a3)] (xq1 :: []) Sq1 (rz_i K)))) : rz mDisk_readBlock 0 [(0, .ref 6), (1, .int a1), (2, .int a2), (3, .ref a3)] [] S (rz_i K) := by
  refine rz_pure (pc' := 1) d_Disk_readBlock_0 rfl ?_
  refine rz_pure (pc' := 2) d_Disk_readBlock_1 rfl ?_
  refine rz_callVr (t := [.int a1]) d_Disk_readBlock_2 w_4_94 rfl rfl rfl w (fun xq1 Sq1 q1 => ?_)
  exact rz_pick (ks := [0, 1, 2, 3]) (l := [(0, .ref 6), (1, .int a1), (2, .int a2), (3, .ref a3)]) rfl rfl (by decide) rfl q1
theorem p_Disk_readBlock_5 {S : rz_S} {K : Int32 → rz_S → Prop} {a1 : Int32} {a2 : Int32} {a3 na3 : Nat} (ha3 : rz_T[a3]? = some (.inl (0, na3))) (w : rz mDisk_readBlock 19 [(0, .ref 6), (1, .int a1), (2, .int a2)] [] S (rz_i K)) : rz mDisk_readBlock 5 [(0, .ref 6), (1, .int a1), (2, .int a2), (3, .ref a3)] [.null] S (rz_i K) := by
  refine rz_pure (pc' := 7) (l' := [(4, .null), (0, .ref 6), (1, .int a1), (2, .int a2), (3, .ref a3)]) d_Disk_readBlock_5 rfl ?_
  refine rz_pure (pc' := 9) d_Disk_readBlock_7 rfl ?_
  refine rz_pure (pc' := 19) d_Disk_readBlock_9 rfl ?_
  exact rz_pick (ks := [0, 1, 2]) (l := [(0, .ref 6), (1, .int a1), (2, .int a2)]) rfl rfl (by decide) rfl w
theorem p_Disk_readBlock_5' {S : rz_S} {K : Int32 → rz_S → Prop} {a1 : Int32} {a2 : Int32} {a3 na3 : Nat} (ha3 : rz_T[a3]? = some (.inl (0, na3))) {s0 : Nat} (hs0 : rgP s0) (w : ((64 ≤ Int32.ofNat na3 → rz_ev mDisk_hasId [.ref 6] S (rz_i (fun xq2 Sq2 => ((xq2 = 0 → rz_ev mDisk_takeId [.ref 6] Sq2 (rz_i (fun xq4 Sq4 => ((xq4 = 0 → rz mDisk_readBlock 53 [(0, .ref 6), (1, .int a1), (2, .int a2), (3, .ref a3), (4, .ref s0)] [] Sq4 (rz_i K)) ∧ (¬ xq4 = 0 → K (Sq4.2 3 0) Sq4))))) ∧ (¬ xq2 = 0 → rz mDisk_readBlock 53 [(0, .ref 6), (1, .int a1), (2, .int a2), (3, .ref a3), (4, .ref s0)] [] Sq2 (rz_i K)))))) ∧ (¬ 64 ≤ Int32.ofNat na3 → rz mDisk_readBlock 19 [(0, .ref 6), (1, .int a1), (2, .int a2)] [] S (rz_i K)))) : rz mDisk_readBlock 5 [(0, .ref 6), (1, .int a1), (2, .int a2), (3, .ref a3)] [.ref s0] S (rz_i K) := by
  have zs0 := rgZ hs0
  refine rz_pure (pc' := 7) (l' := [(4, .ref s0), (0, .ref 6), (1, .int a1), (2, .int a2), (3, .ref a3)]) d_Disk_readBlock_5 rfl ?_
  refine rz_pure (pc' := 9) d_Disk_readBlock_7 rfl ?_
  refine rz_pure (pc' := 12) d_Disk_readBlock_9 rfl ?_
  refine rz_pure (pc' := 13) d_Disk_readBlock_12 rfl ?_
  refine rz_alenv (v := Int32.ofNat na3) d_Disk_readBlock_13 (ha3) (by decide) rfl ?_
  refine rz_bipush (v := 64) d_Disk_readBlock_14 (by decide) ?_
  refine rz_icmpge (tgt := 31) d_Disk_readBlock_16 rfl (fun b1 => ?_) (fun b1 => ?_)
  · skip
    refine rz_pure (pc' := 32) d_Disk_readBlock_31 rfl ?_
    refine rz_callVi (t := []) d_Disk_readBlock_32 w_4_68 rfl rfl rfl (w.1 b1) (fun xq2 Sq2 q2 => ?_)
    refine rz_ifne (tgt := 53) d_Disk_readBlock_35 rfl (fun b3 => ?_) (fun b3 => ?_)
    · skip
      exact rz_pick (ks := [0, 1, 2, 3, 4]) (l := [(0, .ref 6), (1, .int a1), (2, .int a2), (3, .ref a3), (4, .ref s0)]) rfl rfl (by decide) rfl (q2.2 b3)
    · skip
      refine rz_pure (pc' := 39) d_Disk_readBlock_38 rfl ?_
      refine rz_callVi (t := []) d_Disk_readBlock_39 w_4_98 rfl rfl rfl (q2.1 b3) (fun xq4 Sq4 q4 => ?_)
      refine rz_ifeq (tgt := 53) d_Disk_readBlock_42 rfl (fun b5 => ?_) (fun b5 => ?_)
      · skip
        exact rz_pick (ks := [0, 1, 2, 3, 4]) (l := [(0, .ref 6), (1, .int a1), (2, .int a2), (3, .ref a3), (4, .ref s0)]) rfl rfl (by decide) rfl (q4.1 b5)
      · skip
        refine rz_pure (pc' := 46) d_Disk_readBlock_45 rfl ?_
        refine rz_getr d_Disk_readBlock_46 f_4_40 rfl rfl ?_
        refine rz_getiv (v := Sq4.2 3 0) d_Disk_readBlock_49 f_4_101 rfl rfl rfl ?_
        exact rz_ireti d_Disk_readBlock_52 rfl rfl (q4.2 b5)
  · skip
    exact rz_pick (ks := [0, 1, 2]) (l := [(0, .ref 6), (1, .int a1), (2, .int a2)]) rfl rfl (by decide) rfl (w.2 b1)
theorem p_Disk_readBlock_19 {S : rz_S} {K : Int32 → rz_S → Prop} {a1 : Int32} {a2 : Int32} (w : rz_ev mStatus_set [.ref 3, .int 66, .int a1, .int a2] S (rz_i (fun xq1 Sq1 => K xq1 Sq1))) : rz mDisk_readBlock 19 [(0, .ref 6), (1, .int a1), (2, .int a2)] [] S (rz_i K) := by
  refine rz_pure (pc' := 20) d_Disk_readBlock_19 rfl ?_
  refine rz_getr d_Disk_readBlock_20 f_4_40 rfl rfl ?_
  refine rz_bipush (v := 66) d_Disk_readBlock_23 (by decide) ?_
  refine rz_pure (pc' := 26) d_Disk_readBlock_25 rfl ?_
  refine rz_pure (pc' := 27) d_Disk_readBlock_26 rfl ?_
  refine rz_callVi (t := [.int a2, .int a1, .int 66]) d_Disk_readBlock_27 w_4_88 rfl rfl rfl w (fun xq1 Sq1 q1 => ?_)
  exact rz_ireti d_Disk_readBlock_30 rfl rfl q1
theorem p_Disk_readBlock_53 {S : rz_S} {K : Int32 → rz_S → Prop} {a1 : Int32} {a2 : Int32} {a3 na3 : Nat} (ha3 : rz_T[a3]? = some (.inl (0, na3))) {a4 : Nat} (ha4 : rgP a4) (w : rz_ev mDisk_seek [.ref 6, .ref a4, .int a1, .int a2] S (rz_i (fun xq1 Sq1 => ((xq1 = 0 → rz_ev mRing_gatherFromFirst [.ref a4, .ref 12] Sq1 (rz_v (fun Sq3 => rz_ev mDisk_dataFault [.ref 6] Sq3 (rz_i (fun xq4 Sq4 => rz mDisk_readBlock 83 [(0, .ref 6), (1, .int a1), (2, .int a2), (3, .ref a3), (5, .int xq4)] [] Sq4 (rz_i K)))))) ∧ (¬ xq1 = 0 → rz mDisk_readBlock 83 [(0, .ref 6), (1, .int a1), (2, .int a2), (3, .ref a3), (5, .int xq1)] [] Sq1 (rz_i K)))))) : rz mDisk_readBlock 53 [(0, .ref 6), (1, .int a1), (2, .int a2), (3, .ref a3), (4, .ref a4)] [] S (rz_i K) := by
  have za4 := rgZ ha4
  refine rz_pure (pc' := 54) d_Disk_readBlock_53 rfl ?_
  refine rz_pure (pc' := 56) d_Disk_readBlock_54 rfl ?_
  refine rz_pure (pc' := 57) d_Disk_readBlock_56 rfl ?_
  refine rz_pure (pc' := 58) d_Disk_readBlock_57 rfl ?_
  refine rz_callVi (t := [.int a2, .int a1, .ref a4]) d_Disk_readBlock_58 w_4_104 rfl rfl rfl w (fun xq1 Sq1 q1 => ?_)
  refine rz_pure (pc' := 63) (l' := [(5, .int xq1), (0, .ref 6), (1, .int a1), (2, .int a2), (3, .ref a3), (4, .ref a4)]) d_Disk_readBlock_61 rfl ?_
  refine rz_pure (pc' := 65) d_Disk_readBlock_63 rfl ?_
  refine rz_ifne (tgt := 83) d_Disk_readBlock_65 rfl (fun b2 => ?_) (fun b2 => ?_)
  · skip
    exact rz_pick (ks := [0, 1, 2, 3, 5]) (l := [(0, .ref 6), (1, .int a1), (2, .int a2), (3, .ref a3), (5, .int xq1)]) rfl rfl (by decide) rfl (q1.2 b2)
  · skip
    refine rz_pure (pc' := 70) d_Disk_readBlock_68 rfl ?_
    refine rz_pure (pc' := 71) d_Disk_readBlock_70 rfl ?_
    refine rz_getr d_Disk_readBlock_71 f_4_37 rfl rfl ?_
    refine rz_callVv (t := [.ref 12]) d_Disk_readBlock_74 w_4_108 rfl (rgT ha4) rfl (q1.1 b2) (fun Sq3 q3 => ?_)
    refine rz_pure (pc' := 78) d_Disk_readBlock_77 rfl ?_
    refine rz_callVi (t := []) d_Disk_readBlock_78 w_4_112 rfl rfl rfl q3 (fun xq4 Sq4 q4 => ?_)
    refine rz_pure (pc' := 83) (l' := [(5, .int xq4), (0, .ref 6), (1, .int a1), (2, .int a2), (3, .ref a3), (4, .ref a4)]) d_Disk_readBlock_81 rfl ?_
    exact rz_pick (ks := [0, 1, 2, 3, 5]) (l := [(0, .ref 6), (1, .int a1), (2, .int a2), (3, .ref a3), (5, .int xq4)]) rfl rfl (by decide) rfl q4
theorem p_Disk_readBlock_83 {S : rz_S} {K : Int32 → rz_S → Prop} {a1 : Int32} {a2 : Int32} {a3 na3 : Nat} (ha3 : rz_T[a3]? = some (.inl (0, na3))) {a5 : Int32} (w : ((a5 = 0 → 0 + 64 ≤ na3 ∧ K 0 (rz_fA S a3 (va_cpy (S.1 10) (S.1 a3) 1 0 64))) ∧ (¬ a5 = 0 → rz_ev mStatus_set [.ref 3, .int a5, .int a1, .int a2] S (rz_i (fun xq2 Sq2 => K xq2 Sq2))))) : rz mDisk_readBlock 83 [(0, .ref 6), (1, .int a1), (2, .int a2), (3, .ref a3), (5, .int a5)] [] S (rz_i K) := by
  refine rz_pure (pc' := 85) d_Disk_readBlock_83 rfl ?_
  refine rz_ifeq (tgt := 100) d_Disk_readBlock_85 rfl (fun b1 => ?_) (fun b1 => ?_)
  · skip
    refine rz_pure (pc' := 101) d_Disk_readBlock_100 rfl ?_
    refine rz_getr d_Disk_readBlock_101 f_4_31 rfl rfl ?_
    refine rz_iconst (v := 1) d_Disk_readBlock_104 (by decide) ?_
    refine rz_pure (pc' := 106) d_Disk_readBlock_105 rfl ?_
    refine rz_iconst (v := 0) d_Disk_readBlock_106 (by decide) ?_
    refine rz_bipush (v := 64) d_Disk_readBlock_107 (by decide) ?_
    refine rz_cpyv (F := S.1 10) (G := S.1 a3) (sp := 1) (dp := 0) (m := 64) d_Disk_readBlock_109 rfl rfl (ha3) rfl rfl (by decide) (by decide) (w.1 b1).1 rfl ?_
    refine rz_iconst (v := 0) d_Disk_readBlock_112 (by decide) ?_
    exact rz_ireti d_Disk_readBlock_113 rfl rfl (w.1 b1).2
  · skip
    refine rz_pure (pc' := 89) d_Disk_readBlock_88 rfl ?_
    refine rz_getr d_Disk_readBlock_89 f_4_40 rfl rfl ?_
    refine rz_pure (pc' := 94) d_Disk_readBlock_92 rfl ?_
    refine rz_pure (pc' := 95) d_Disk_readBlock_94 rfl ?_
    refine rz_pure (pc' := 96) d_Disk_readBlock_95 rfl ?_
    refine rz_callVi (t := [.int a2, .int a1, .int a5]) d_Disk_readBlock_96 w_4_88 rfl rfl rfl (w.2 b1) (fun xq2 Sq2 q2 => ?_)
    exact rz_ireti d_Disk_readBlock_99 rfl rfl q2
theorem d_Disk_dataFault_0 : decode (rm_code mDisk_dataFault) 0 = .ok (.aload_n 0, 1) := by decide +kernel
theorem d_Disk_dataFault_1 : decode (rm_code mDisk_dataFault) 1 = .ok (.getfield 37, 3) := by decide +kernel
theorem d_Disk_dataFault_4 : decode (rm_code mDisk_dataFault) 4 = .ok (.iconst 0, 1) := by decide +kernel
theorem d_Disk_dataFault_5 : decode (rm_code mDisk_dataFault) 5 = .ok (.iaload, 1) := by decide +kernel
theorem d_Disk_dataFault_6 : decode (rm_code mDisk_dataFault) 6 = .ok (.bipush (85), 2) := by decide +kernel
theorem d_Disk_dataFault_8 : decode (rm_code mDisk_dataFault) 8 = .ok (.if_icmp .ne (16), 3) := by decide +kernel
theorem d_Disk_dataFault_11 : decode (rm_code mDisk_dataFault) 11 = .ok (.aload_n 0, 1) := by decide +kernel
theorem d_Disk_dataFault_12 : decode (rm_code mDisk_dataFault) 12 = .ok (.getfield 37, 3) := by decide +kernel
theorem d_Disk_dataFault_15 : decode (rm_code mDisk_dataFault) 15 = .ok (.iconst 1, 1) := by decide +kernel
theorem d_Disk_dataFault_16 : decode (rm_code mDisk_dataFault) 16 = .ok (.iaload, 1) := by decide +kernel
theorem d_Disk_dataFault_17 : decode (rm_code mDisk_dataFault) 17 = .ok (.bipush (6), 2) := by decide +kernel
theorem d_Disk_dataFault_19 : decode (rm_code mDisk_dataFault) 19 = .ok (.ishr, 1) := by decide +kernel
theorem d_Disk_dataFault_20 : decode (rm_code mDisk_dataFault) 20 = .ok (.iconst 3, 1) := by decide +kernel
theorem d_Disk_dataFault_21 : decode (rm_code mDisk_dataFault) 21 = .ok (.if_icmp .eq (6), 3) := by decide +kernel
theorem d_Disk_dataFault_24 : decode (rm_code mDisk_dataFault) 24 = .ok (.bipush (22), 2) := by decide +kernel
theorem d_Disk_dataFault_26 : decode (rm_code mDisk_dataFault) 26 = .ok (.ireturn, 1) := by decide +kernel
theorem d_Disk_dataFault_27 : decode (rm_code mDisk_dataFault) 27 = .ok (.aload_n 0, 1) := by decide +kernel
theorem d_Disk_dataFault_28 : decode (rm_code mDisk_dataFault) 28 = .ok (.getfield 37, 3) := by decide +kernel
theorem d_Disk_dataFault_31 : decode (rm_code mDisk_dataFault) 31 = .ok (.aload_n 0, 1) := by decide +kernel
theorem d_Disk_dataFault_32 : decode (rm_code mDisk_dataFault) 32 = .ok (.getfield 31, 3) := by decide +kernel
theorem d_Disk_dataFault_35 : decode (rm_code mDisk_dataFault) 35 = .ok (.invokestatic 78, 3) := by decide +kernel
theorem d_Disk_dataFault_38 : decode (rm_code mDisk_dataFault) 38 = .ok (.ifCond .ne (6), 3) := by decide +kernel
theorem d_Disk_dataFault_41 : decode (rm_code mDisk_dataFault) 41 = .ok (.bipush (24), 2) := by decide +kernel
theorem d_Disk_dataFault_43 : decode (rm_code mDisk_dataFault) 43 = .ok (.ireturn, 1) := by decide +kernel
theorem d_Disk_dataFault_44 : decode (rm_code mDisk_dataFault) 44 = .ok (.iconst 0, 1) := by decide +kernel
theorem d_Disk_dataFault_45 : decode (rm_code mDisk_dataFault) 45 = .ok (.istore_n 1, 1) := by decide +kernel
theorem d_Disk_dataFault_46 : decode (rm_code mDisk_dataFault) 46 = .ok (.iconst 1, 1) := by decide +kernel
theorem d_Disk_dataFault_47 : decode (rm_code mDisk_dataFault) 47 = .ok (.istore_n 2, 1) := by decide +kernel
theorem d_Disk_dataFault_48 : decode (rm_code mDisk_dataFault) 48 = .ok (.iload_n 2, 1) := by decide +kernel
theorem d_Disk_dataFault_49 : decode (rm_code mDisk_dataFault) 49 = .ok (.bipush (64), 2) := by decide +kernel
theorem d_Disk_dataFault_51 : decode (rm_code mDisk_dataFault) 51 = .ok (.if_icmp .gt (18), 3) := by decide +kernel
theorem d_Disk_dataFault_54 : decode (rm_code mDisk_dataFault) 54 = .ok (.iload_n 1, 1) := by decide +kernel
theorem d_Disk_dataFault_55 : decode (rm_code mDisk_dataFault) 55 = .ok (.aload_n 0, 1) := by decide +kernel
theorem d_Disk_dataFault_56 : decode (rm_code mDisk_dataFault) 56 = .ok (.getfield 31, 3) := by decide +kernel
theorem d_Disk_dataFault_59 : decode (rm_code mDisk_dataFault) 59 = .ok (.iload_n 2, 1) := by decide +kernel
theorem d_Disk_dataFault_60 : decode (rm_code mDisk_dataFault) 60 = .ok (.iaload, 1) := by decide +kernel
theorem d_Disk_dataFault_61 : decode (rm_code mDisk_dataFault) 61 = .ok (.ixor, 1) := by decide +kernel
theorem d_Disk_dataFault_62 : decode (rm_code mDisk_dataFault) 62 = .ok (.istore_n 1, 1) := by decide +kernel
theorem d_Disk_dataFault_63 : decode (rm_code mDisk_dataFault) 63 = .ok (.iinc 2 (1), 3) := by decide +kernel
theorem d_Disk_dataFault_66 : decode (rm_code mDisk_dataFault) 66 = .ok (.goto (-18), 3) := by decide +kernel
theorem d_Disk_dataFault_69 : decode (rm_code mDisk_dataFault) 69 = .ok (.iload_n 1, 1) := by decide +kernel
theorem d_Disk_dataFault_70 : decode (rm_code mDisk_dataFault) 70 = .ok (.aload_n 0, 1) := by decide +kernel
theorem d_Disk_dataFault_71 : decode (rm_code mDisk_dataFault) 71 = .ok (.getfield 31, 3) := by decide +kernel
theorem d_Disk_dataFault_74 : decode (rm_code mDisk_dataFault) 74 = .ok (.bipush (65), 2) := by decide +kernel
theorem d_Disk_dataFault_76 : decode (rm_code mDisk_dataFault) 76 = .ok (.iaload, 1) := by decide +kernel
theorem d_Disk_dataFault_77 : decode (rm_code mDisk_dataFault) 77 = .ok (.if_icmp .ne (7), 3) := by decide +kernel
theorem d_Disk_dataFault_80 : decode (rm_code mDisk_dataFault) 80 = .ok (.iconst 0, 1) := by decide +kernel
theorem d_Disk_dataFault_81 : decode (rm_code mDisk_dataFault) 81 = .ok (.goto (5), 3) := by decide +kernel
theorem d_Disk_dataFault_84 : decode (rm_code mDisk_dataFault) 84 = .ok (.bipush (23), 2) := by decide +kernel
theorem d_Disk_dataFault_86 : decode (rm_code mDisk_dataFault) 86 = .ok (.ireturn, 1) := by decide +kernel
theorem p_Disk_dataFault_0 {S : rz_S} {K : Int32 → rz_S → Prop} (w : ((S.1 12 0 = 85 → (((S.1 12 1) >>> ((6 : Int32) &&& 31) = 3 → rz_ev mDisk_decode [.ref 12, .ref 10] S (rz_i (fun xq3 Sq3 => ((xq3 = 0 → K 24 Sq3) ∧ (¬ xq3 = 0 → rz mDisk_dataFault 48 [(0, .ref 6), (1, .int 0), (2, .int 1)] [] Sq3 (rz_i K)))))) ∧ (¬ (S.1 12 1) >>> ((6 : Int32) &&& 31) = 3 → K 22 S))) ∧ (¬ S.1 12 0 = 85 → K 22 S))) : rz mDisk_dataFault 0 [(0, .ref 6)] [] S (rz_i K) := by
  refine rz_pure (pc' := 1) d_Disk_dataFault_0 rfl ?_
  refine rz_getr d_Disk_dataFault_1 f_4_37 rfl rfl ?_
  refine rz_iconst (v := 0) d_Disk_dataFault_4 (by decide) ?_
  refine rz_ialdv (F := S.1 12) (i := 0) d_Disk_dataFault_5 rfl (by decide) rfl (by decide) ?_
  refine rz_bipush (v := 85) d_Disk_dataFault_6 (by decide) ?_
  refine rz_icmpne (tgt := 24) d_Disk_dataFault_8 rfl (fun b1 => ?_) (fun b1 => ?_)
  · skip
    refine rz_bipush (v := 22) d_Disk_dataFault_24 (by decide) ?_
    exact rz_ireti d_Disk_dataFault_26 rfl rfl (w.2 b1)
  · skip
    refine rz_pure (pc' := 12) d_Disk_dataFault_11 rfl ?_
    refine rz_getr d_Disk_dataFault_12 f_4_37 rfl rfl ?_
    refine rz_iconst (v := 1) d_Disk_dataFault_15 (by decide) ?_
    refine rz_ialdv (F := S.1 12) (i := 1) d_Disk_dataFault_16 rfl (by decide) rfl (by decide) ?_
    refine rz_bipush (v := 6) d_Disk_dataFault_17 (by decide) ?_
    refine rz_ishr d_Disk_dataFault_19 ?_
    refine rz_iconst (v := 3) d_Disk_dataFault_20 (by decide) ?_
    refine rz_icmpeq (tgt := 27) d_Disk_dataFault_21 rfl (fun b2 => ?_) (fun b2 => ?_)
    · skip
      refine rz_pure (pc' := 28) d_Disk_dataFault_27 rfl ?_
      refine rz_getr d_Disk_dataFault_28 f_4_37 rfl rfl ?_
      refine rz_pure (pc' := 32) d_Disk_dataFault_31 rfl ?_
      refine rz_getr d_Disk_dataFault_32 f_4_31 rfl rfl ?_
      refine rz_callSi (t := [.ref 10, .ref 12]) d_Disk_dataFault_35 rfl w_4_78 rfl rfl ((w.1 b1).1 b2) (fun xq3 Sq3 q3 => ?_)
      refine rz_ifne (tgt := 44) d_Disk_dataFault_38 rfl (fun b4 => ?_) (fun b4 => ?_)
      · skip
        refine rz_iconst (v := 0) d_Disk_dataFault_44 (by decide) ?_
        refine rz_pure (pc' := 46) (l' := [(1, .int 0), (0, .ref 6)]) d_Disk_dataFault_45 rfl ?_
        refine rz_iconst (v := 1) d_Disk_dataFault_46 (by decide) ?_
        refine rz_pure (pc' := 48) (l' := [(2, .int 1), (1, .int 0), (0, .ref 6)]) d_Disk_dataFault_47 rfl ?_
        exact rz_pick (ks := [0, 1, 2]) (l := [(0, .ref 6), (1, .int 0), (2, .int 1)]) rfl rfl (by decide) rfl (q3.2 b4)
      · skip
        refine rz_bipush (v := 24) d_Disk_dataFault_41 (by decide) ?_
        exact rz_ireti d_Disk_dataFault_43 rfl rfl (q3.1 b4)
    · skip
      refine rz_bipush (v := 22) d_Disk_dataFault_24 (by decide) ?_
      exact rz_ireti d_Disk_dataFault_26 rfl rfl ((w.1 b1).2 b2)
theorem p_Disk_dataFault_48 {S : rz_S} {K : Int32 → rz_S → Prop} {a1 : Int32} {a2 : Int32} (w : ((64 < a2 → ((a1 = S.1 10 65 → K 0 S) ∧ (¬ a1 = S.1 10 65 → K 23 S))) ∧ (¬ 64 < a2 → rx_in a2 68 = true ∧ rz mDisk_dataFault 48 [(0, .ref 6), (1, .int (a1 ^^^ (S.1 10 a2.toNatClampNeg))), (2, .int (a2 + 1))] [] S (rz_i K)))) : rz mDisk_dataFault 48 [(0, .ref 6), (1, .int a1), (2, .int a2)] [] S (rz_i K) := by
  refine rz_pure (pc' := 49) d_Disk_dataFault_48 rfl ?_
  refine rz_bipush (v := 64) d_Disk_dataFault_49 (by decide) ?_
  refine rz_icmpgt (tgt := 69) d_Disk_dataFault_51 rfl (fun b1 => ?_) (fun b1 => ?_)
  · skip
    refine rz_pure (pc' := 70) d_Disk_dataFault_69 rfl ?_
    refine rz_pure (pc' := 71) d_Disk_dataFault_70 rfl ?_
    refine rz_getr d_Disk_dataFault_71 f_4_31 rfl rfl ?_
    refine rz_bipush (v := 65) d_Disk_dataFault_74 (by decide) ?_
    refine rz_ialdv (F := S.1 10) (i := 65) d_Disk_dataFault_76 rfl (by decide) rfl (by decide) ?_
    refine rz_icmpne (tgt := 84) d_Disk_dataFault_77 rfl (fun b2 => ?_) (fun b2 => ?_)
    · skip
      refine rz_bipush (v := 23) d_Disk_dataFault_84 (by decide) ?_
      exact rz_ireti d_Disk_dataFault_86 rfl rfl ((w.1 b1).2 b2)
    · skip
      refine rz_iconst (v := 0) d_Disk_dataFault_80 (by decide) ?_
      refine rz_pure (pc' := 86) d_Disk_dataFault_81 rfl ?_
      exact rz_ireti d_Disk_dataFault_86 rfl rfl ((w.1 b1).1 b2)
  · skip
    refine rz_pure (pc' := 55) d_Disk_dataFault_54 rfl ?_
    refine rz_pure (pc' := 56) d_Disk_dataFault_55 rfl ?_
    refine rz_getr d_Disk_dataFault_56 f_4_31 rfl rfl ?_
    refine rz_pure (pc' := 60) d_Disk_dataFault_59 rfl ?_
    refine rz_ialdv (F := S.1 10) (i := a2.toNatClampNeg) d_Disk_dataFault_60 rfl (w.2 b1).1 rfl rfl ?_
    refine rz_ixor d_Disk_dataFault_61 ?_
    refine rz_pure (pc' := 63) (l' := [(1, .int (a1 ^^^ (S.1 10 a2.toNatClampNeg))), (0, .ref 6), (2, .int a2)]) d_Disk_dataFault_62 rfl ?_
    refine rz_pure (pc' := 66) (l' := [(2, .int (a2 + 1)), (1, .int (a1 ^^^ (S.1 10 a2.toNatClampNeg))), (0, .ref 6)]) d_Disk_dataFault_63 rfl ?_
    refine rz_pure (pc' := 48) d_Disk_dataFault_66 rfl ?_
    exact rz_pick (ks := [0, 1, 2]) (l := [(0, .ref 6), (1, .int (a1 ^^^ (S.1 10 a2.toNatClampNeg))), (2, .int (a2 + 1))]) rfl rfl (by decide) rfl (w.2 b1).2
