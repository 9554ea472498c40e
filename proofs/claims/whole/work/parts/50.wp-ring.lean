/-! what each block of the code asks (printed by wpgen.py) -/
theorem d_Ring_goTo_0 : decode (rm_code mRing_goTo) 0 = .ok (.aload_n 0, 1) := by decide +kernel
theorem d_Ring_goTo_1 : decode (rm_code mRing_goTo) 1 = .ok (.iload_n 1, 1) := by decide +kernel
theorem d_Ring_goTo_2 : decode (rm_code mRing_goTo) 2 = .ok (.ifCond .lt (15), 3) := by decide +kernel
theorem d_Ring_goTo_5 : decode (rm_code mRing_goTo) 5 = .ok (.iload_n 1, 1) := by decide +kernel
theorem d_Ring_goTo_6 : decode (rm_code mRing_goTo) 6 = .ok (.aload_n 0, 1) := by decide +kernel
theorem d_Ring_goTo_7 : decode (rm_code mRing_goTo) 7 = .ok (.getfield 21, 3) := by decide +kernel
theorem d_Ring_goTo_10 : decode (rm_code mRing_goTo) 10 = .ok (.if_icmp .ge (7), 3) := by decide +kernel
theorem d_Ring_goTo_13 : decode (rm_code mRing_goTo) 13 = .ok (.iload_n 1, 1) := by decide +kernel
theorem d_Ring_goTo_14 : decode (rm_code mRing_goTo) 14 = .ok (.goto (4), 3) := by decide +kernel
theorem d_Ring_goTo_17 : decode (rm_code mRing_goTo) 17 = .ok (.iconst 0, 1) := by decide +kernel
theorem d_Ring_goTo_18 : decode (rm_code mRing_goTo) 18 = .ok (.putfield 36, 3) := by decide +kernel
theorem d_Ring_goTo_21 : decode (rm_code mRing_goTo) 21 = .ok (.aload_n 0, 1) := by decide +kernel
theorem d_Ring_goTo_22 : decode (rm_code mRing_goTo) 22 = .ok (.iload_n 2, 1) := by decide +kernel
theorem d_Ring_goTo_23 : decode (rm_code mRing_goTo) 23 = .ok (.putfield 43, 3) := by decide +kernel
theorem d_Ring_goTo_26 : decode (rm_code mRing_goTo) 26 = .ok (.return_, 1) := by decide +kernel
theorem p_Ring_goTo_0 {S : rz_S} {K : rz_S → Prop} {a0 : Nat} (ha0 : rgP a0) {a1 : Int32} {a2 : Int32} (w : ((a1 < 0 → K (rz_uI (rz_uI S a0 3 0) a0 4 a2)) ∧ (¬ a1 < 0 → ((S.2 a0 1 ≤ a1 → K (rz_uI (rz_uI S a0 3 0) a0 4 a2)) ∧ (¬ S.2 a0 1 ≤ a1 → K (rz_uI (rz_uI S a0 3 a1) a0 4 a2)))))) : rz mRing_goTo 0 [(0, .ref a0), (1, .int a1), (2, .int a2)] [] S (rz_v K) := by
  have za0 := rgZ ha0
  refine rz_pure (pc' := 1) d_Ring_goTo_0 rfl ?_
  refine rz_pure (pc' := 2) d_Ring_goTo_1 rfl ?_
  refine rz_iflt (tgt := 17) d_Ring_goTo_2 rfl (fun b1 => ?_) (fun b1 => ?_)
  · skip
    refine rz_iconst (v := 0) d_Ring_goTo_17 (by decide) ?_
    refine rz_puti d_Ring_goTo_18 f_8_36 (rgT ha0) rfl rfl ?_
    refine rz_pure (pc' := 22) d_Ring_goTo_21 rfl ?_
    refine rz_pure (pc' := 23) d_Ring_goTo_22 rfl ?_
    refine rz_puti d_Ring_goTo_23 f_8_43 (rgT ha0) rfl rfl ?_
    exact rz_vretv d_Ring_goTo_26 rfl (w.1 b1)
  · skip
    refine rz_pure (pc' := 6) d_Ring_goTo_5 rfl ?_
    refine rz_pure (pc' := 7) d_Ring_goTo_6 rfl ?_
    refine rz_getiv (v := S.2 a0 1) d_Ring_goTo_7 f_8_21 (rgT ha0) rfl rfl ?_
    refine rz_icmpge (tgt := 17) d_Ring_goTo_10 rfl (fun b2 => ?_) (fun b2 => ?_)
    · skip
      refine rz_iconst (v := 0) d_Ring_goTo_17 (by decide) ?_
      refine rz_puti d_Ring_goTo_18 f_8_36 (rgT ha0) rfl rfl ?_
      refine rz_pure (pc' := 22) d_Ring_goTo_21 rfl ?_
      refine rz_pure (pc' := 23) d_Ring_goTo_22 rfl ?_
      refine rz_puti d_Ring_goTo_23 f_8_43 (rgT ha0) rfl rfl ?_
      exact rz_vretv d_Ring_goTo_26 rfl ((w.2 b1).1 b2)
    · skip
      refine rz_pure (pc' := 14) d_Ring_goTo_13 rfl ?_
      refine rz_pure (pc' := 18) d_Ring_goTo_14 rfl ?_
      refine rz_puti d_Ring_goTo_18 f_8_36 (rgT ha0) rfl rfl ?_
      refine rz_pure (pc' := 22) d_Ring_goTo_21 rfl ?_
      refine rz_pure (pc' := 23) d_Ring_goTo_22 rfl ?_
      refine rz_puti d_Ring_goTo_23 f_8_43 (rgT ha0) rfl rfl ?_
      exact rz_vretv d_Ring_goTo_26 rfl ((w.2 b1).2 b2)
theorem d_Ring_putMarked_0 : decode (rm_code mRing_putMarked) 0 = .ok (.aload_n 0, 1) := by decide +kernel
theorem d_Ring_putMarked_1 : decode (rm_code mRing_putMarked) 1 = .ok (.getfield 36, 3) := by decide +kernel
theorem d_Ring_putMarked_4 : decode (rm_code mRing_putMarked) 4 = .ok (.istore_n 2, 1) := by decide +kernel
theorem d_Ring_putMarked_5 : decode (rm_code mRing_putMarked) 5 = .ok (.iconst 0, 1) := by decide +kernel
theorem d_Ring_putMarked_6 : decode (rm_code mRing_putMarked) 6 = .ok (.istore_n 3, 1) := by decide +kernel
theorem d_Ring_putMarked_7 : decode (rm_code mRing_putMarked) 7 = .ok (.iload_n 3, 1) := by decide +kernel
theorem d_Ring_putMarked_8 : decode (rm_code mRing_putMarked) 8 = .ok (.iconst 5, 1) := by decide +kernel
theorem d_Ring_putMarked_9 : decode (rm_code mRing_putMarked) 9 = .ok (.aload_n 1, 1) := by decide +kernel
theorem d_Ring_putMarked_10 : decode (rm_code mRing_putMarked) 10 = .ok (.arraylength, 1) := by decide +kernel
theorem d_Ring_putMarked_11 : decode (rm_code mRing_putMarked) 11 = .ok (.iadd, 1) := by decide +kernel
theorem d_Ring_putMarked_12 : decode (rm_code mRing_putMarked) 12 = .ok (.if_icmp .ge (58), 3) := by decide +kernel
theorem d_Ring_putMarked_15 : decode (rm_code mRing_putMarked) 15 = .ok (.aload_n 0, 1) := by decide +kernel
theorem d_Ring_putMarked_16 : decode (rm_code mRing_putMarked) 16 = .ok (.iload_n 2, 1) := by decide +kernel
theorem d_Ring_putMarked_17 : decode (rm_code mRing_putMarked) 17 = .ok (.iload_n 3, 1) := by decide +kernel
theorem d_Ring_putMarked_18 : decode (rm_code mRing_putMarked) 18 = .ok (.iconst 5, 1) := by decide +kernel
theorem d_Ring_putMarked_19 : decode (rm_code mRing_putMarked) 19 = .ok (.if_icmp .ge (9), 3) := by decide +kernel
theorem d_Ring_putMarked_22 : decode (rm_code mRing_putMarked) 22 = .ok (.sipush (255), 3) := by decide +kernel
theorem d_Ring_putMarked_25 : decode (rm_code mRing_putMarked) 25 = .ok (.goto (8), 3) := by decide +kernel
theorem d_Ring_putMarked_28 : decode (rm_code mRing_putMarked) 28 = .ok (.aload_n 1, 1) := by decide +kernel
theorem d_Ring_putMarked_29 : decode (rm_code mRing_putMarked) 29 = .ok (.iload_n 3, 1) := by decide +kernel
theorem d_Ring_putMarked_30 : decode (rm_code mRing_putMarked) 30 = .ok (.iconst 5, 1) := by decide +kernel
theorem d_Ring_putMarked_31 : decode (rm_code mRing_putMarked) 31 = .ok (.isub, 1) := by decide +kernel
theorem d_Ring_putMarked_32 : decode (rm_code mRing_putMarked) 32 = .ok (.iaload, 1) := by decide +kernel
theorem d_Ring_putMarked_33 : decode (rm_code mRing_putMarked) 33 = .ok (.invokevirtual 32, 3) := by decide +kernel
theorem d_Ring_putMarked_36 : decode (rm_code mRing_putMarked) 36 = .ok (.iload_n 2, 1) := by decide +kernel
theorem d_Ring_putMarked_37 : decode (rm_code mRing_putMarked) 37 = .ok (.bipush (8), 2) := by decide +kernel
theorem d_Ring_putMarked_39 : decode (rm_code mRing_putMarked) 39 = .ok (.iadd, 1) := by decide +kernel
theorem d_Ring_putMarked_40 : decode (rm_code mRing_putMarked) 40 = .ok (.aload_n 0, 1) := by decide +kernel
theorem d_Ring_putMarked_41 : decode (rm_code mRing_putMarked) 41 = .ok (.getfield 21, 3) := by decide +kernel
theorem d_Ring_putMarked_44 : decode (rm_code mRing_putMarked) 44 = .ok (.if_icmp .ge (10), 3) := by decide +kernel
theorem d_Ring_putMarked_47 : decode (rm_code mRing_putMarked) 47 = .ok (.iload_n 2, 1) := by decide +kernel
theorem d_Ring_putMarked_48 : decode (rm_code mRing_putMarked) 48 = .ok (.bipush (8), 2) := by decide +kernel
theorem d_Ring_putMarked_50 : decode (rm_code mRing_putMarked) 50 = .ok (.iadd, 1) := by decide +kernel
theorem d_Ring_putMarked_51 : decode (rm_code mRing_putMarked) 51 = .ok (.goto (12), 3) := by decide +kernel
theorem d_Ring_putMarked_54 : decode (rm_code mRing_putMarked) 54 = .ok (.iload_n 2, 1) := by decide +kernel
theorem d_Ring_putMarked_55 : decode (rm_code mRing_putMarked) 55 = .ok (.bipush (8), 2) := by decide +kernel
theorem d_Ring_putMarked_57 : decode (rm_code mRing_putMarked) 57 = .ok (.iadd, 1) := by decide +kernel
theorem d_Ring_putMarked_58 : decode (rm_code mRing_putMarked) 58 = .ok (.aload_n 0, 1) := by decide +kernel
theorem d_Ring_putMarked_59 : decode (rm_code mRing_putMarked) 59 = .ok (.getfield 21, 3) := by decide +kernel
theorem d_Ring_putMarked_62 : decode (rm_code mRing_putMarked) 62 = .ok (.isub, 1) := by decide +kernel
theorem d_Ring_putMarked_63 : decode (rm_code mRing_putMarked) 63 = .ok (.istore_n 2, 1) := by decide +kernel
theorem d_Ring_putMarked_64 : decode (rm_code mRing_putMarked) 64 = .ok (.iinc 3 (1), 3) := by decide +kernel
theorem d_Ring_putMarked_67 : decode (rm_code mRing_putMarked) 67 = .ok (.goto (-60), 3) := by decide +kernel
theorem d_Ring_putMarked_70 : decode (rm_code mRing_putMarked) 70 = .ok (.aload_n 0, 1) := by decide +kernel
theorem d_Ring_putMarked_71 : decode (rm_code mRing_putMarked) 71 = .ok (.iload_n 2, 1) := by decide +kernel
theorem d_Ring_putMarked_72 : decode (rm_code mRing_putMarked) 72 = .ok (.putfield 36, 3) := by decide +kernel
theorem d_Ring_putMarked_75 : decode (rm_code mRing_putMarked) 75 = .ok (.return_, 1) := by decide +kernel
theorem p_Ring_putMarked_0 {S : rz_S} {K : rz_S → Prop} {a0 : Nat} (ha0 : rgP a0) {a1 na1 : Nat} (ha1 : rz_T[a1]? = some (.inl (0, na1))) (w : rz mRing_putMarked 7 [(0, .ref a0), (1, .ref a1), (2, .int (S.2 a0 3)), (3, .int 0)] [] S (rz_v K)) : rz mRing_putMarked 0 [(0, .ref a0), (1, .ref a1)] [] S (rz_v K) := by
  have za0 := rgZ ha0
  refine rz_pure (pc' := 1) d_Ring_putMarked_0 rfl ?_
  refine rz_getiv (v := S.2 a0 3) d_Ring_putMarked_1 f_8_36 (rgT ha0) rfl rfl ?_
  refine rz_pure (pc' := 5) (l' := [(2, .int (S.2 a0 3)), (0, .ref a0), (1, .ref a1)]) d_Ring_putMarked_4 rfl ?_
  refine rz_iconst (v := 0) d_Ring_putMarked_5 (by decide) ?_
  refine rz_pure (pc' := 7) (l' := [(3, .int 0), (2, .int (S.2 a0 3)), (0, .ref a0), (1, .ref a1)]) d_Ring_putMarked_6 rfl ?_
  exact rz_pick (ks := [0, 1, 2, 3]) (l := [(0, .ref a0), (1, .ref a1), (2, .int (S.2 a0 3)), (3, .int 0)]) rfl rfl (by decide) rfl w
theorem p_Ring_putMarked_7 {S : rz_S} {K : rz_S → Prop} {a0 : Nat} (ha0 : rgP a0) {a1 na1 : Nat} (ha1 : rz_T[a1]? = some (.inl (0, na1))) {a2 : Int32} {a3 : Int32} (w : ((5 + (Int32.ofNat na1) ≤ a3 → K (rz_uI S a0 3 a2)) ∧ (¬ 5 + (Int32.ofNat na1) ≤ a3 → ((5 ≤ a3 → rx_in (a3 - 5) na1 = true ∧ rz mRing_putMarked 33 [(0, .ref a0), (1, .ref a1), (2, .int a2), (3, .int a3)] [.int (S.1 a1 ((a3 - 5).toNatClampNeg)), .int a2, .ref a0] S (rz_v K)) ∧ (¬ 5 ≤ a3 → rz mRing_putMarked 33 [(0, .ref a0), (1, .ref a1), (2, .int a2), (3, .int a3)] [.int 255, .int a2, .ref a0] S (rz_v K)))))) : rz mRing_putMarked 7 [(0, .ref a0), (1, .ref a1), (2, .int a2), (3, .int a3)] [] S (rz_v K) := by
  have za0 := rgZ ha0
  refine rz_pure (pc' := 8) d_Ring_putMarked_7 rfl ?_
  refine rz_iconst (v := 5) d_Ring_putMarked_8 (by decide) ?_
  refine rz_pure (pc' := 10) d_Ring_putMarked_9 rfl ?_
  refine rz_alenv (v := Int32.ofNat na1) d_Ring_putMarked_10 (ha1) (by decide) rfl ?_
  refine rz_iadd d_Ring_putMarked_11 ?_
  refine rz_icmpge (tgt := 70) d_Ring_putMarked_12 rfl (fun b1 => ?_) (fun b1 => ?_)
  · skip
    refine rz_pure (pc' := 71) d_Ring_putMarked_70 rfl ?_
    refine rz_pure (pc' := 72) d_Ring_putMarked_71 rfl ?_
    refine rz_puti d_Ring_putMarked_72 f_8_36 (rgT ha0) rfl rfl ?_
    exact rz_vretv d_Ring_putMarked_75 rfl (w.1 b1)
  · skip
    refine rz_pure (pc' := 16) d_Ring_putMarked_15 rfl ?_
    refine rz_pure (pc' := 17) d_Ring_putMarked_16 rfl ?_
    refine rz_pure (pc' := 18) d_Ring_putMarked_17 rfl ?_
    refine rz_iconst (v := 5) d_Ring_putMarked_18 (by decide) ?_
    refine rz_icmpge (tgt := 28) d_Ring_putMarked_19 rfl (fun b2 => ?_) (fun b2 => ?_)
    · skip
      refine rz_pure (pc' := 29) d_Ring_putMarked_28 rfl ?_
      refine rz_pure (pc' := 30) d_Ring_putMarked_29 rfl ?_
      refine rz_iconst (v := 5) d_Ring_putMarked_30 (by decide) ?_
      refine rz_isub d_Ring_putMarked_31 ?_
      refine rz_ialdv (F := S.1 a1) (i := (a3 - 5).toNatClampNeg) d_Ring_putMarked_32 (ha1) ((w.2 b1).1 b2).1 rfl rfl ?_
      exact rz_pick (ks := [0, 1, 2, 3]) (l := [(0, .ref a0), (1, .ref a1), (2, .int a2), (3, .int a3)]) rfl rfl (by decide) rfl ((w.2 b1).1 b2).2
    · skip
      refine rz_sipush (v := 255) d_Ring_putMarked_22 (by decide) ?_
      refine rz_pure (pc' := 33) d_Ring_putMarked_25 rfl ?_
      exact rz_pick (ks := [0, 1, 2, 3]) (l := [(0, .ref a0), (1, .ref a1), (2, .int a2), (3, .int a3)]) rfl rfl (by decide) rfl ((w.2 b1).2 b2)
theorem p_Ring_putMarked_33 {S : rz_S} {K : rz_S → Prop} {a0 : Nat} (ha0 : rgP a0) {a1 na1 : Nat} (ha1 : rz_T[a1]? = some (.inl (0, na1))) {a2 : Int32} {a3 : Int32} {s0 : Int32} {s1 : Int32} {s2 : Nat} (hs2 : rgP s2) (w : rz_ev mRing_put [.ref s2, .int s1, .int s0] S (rz_v (fun Sq1 => ((Sq1.2 a0 1 ≤ a2 + 8 → rz mRing_putMarked 7 [(0, .ref a0), (1, .ref a1), (2, .int ((a2 + 8) - (Sq1.2 a0 1))), (3, .int (a3 + 1))] [] Sq1 (rz_v K)) ∧ (¬ Sq1.2 a0 1 ≤ a2 + 8 → rz mRing_putMarked 7 [(0, .ref a0), (1, .ref a1), (2, .int (a2 + 8)), (3, .int (a3 + 1))] [] Sq1 (rz_v K)))))) : rz mRing_putMarked 33 [(0, .ref a0), (1, .ref a1), (2, .int a2), (3, .int a3)] [.int s0, .int s1, .ref s2] S (rz_v K) := by
  have za0 := rgZ ha0
  have zs2 := rgZ hs2
  refine rz_callVv (t := [.int s0, .int s1]) d_Ring_putMarked_33 w_8_32 rfl (rgT hs2) rfl w (fun Sq1 q1 => ?_)
  refine rz_pure (pc' := 37) d_Ring_putMarked_36 rfl ?_
  refine rz_bipush (v := 8) d_Ring_putMarked_37 (by decide) ?_
  refine rz_iadd d_Ring_putMarked_39 ?_
  refine rz_pure (pc' := 41) d_Ring_putMarked_40 rfl ?_
  refine rz_getiv (v := Sq1.2 a0 1) d_Ring_putMarked_41 f_8_21 (rgT ha0) rfl rfl ?_
  refine rz_icmpge (tgt := 54) d_Ring_putMarked_44 rfl (fun b2 => ?_) (fun b2 => ?_)
  · skip
    refine rz_pure (pc' := 55) d_Ring_putMarked_54 rfl ?_
    refine rz_bipush (v := 8) d_Ring_putMarked_55 (by decide) ?_
    refine rz_iadd d_Ring_putMarked_57 ?_
    refine rz_pure (pc' := 59) d_Ring_putMarked_58 rfl ?_
    refine rz_getiv (v := Sq1.2 a0 1) d_Ring_putMarked_59 f_8_21 (rgT ha0) rfl rfl ?_
    refine rz_isub d_Ring_putMarked_62 ?_
    refine rz_pure (pc' := 64) (l' := [(2, .int ((a2 + 8) - (Sq1.2 a0 1))), (0, .ref a0), (1, .ref a1), (3, .int a3)]) d_Ring_putMarked_63 rfl ?_
    refine rz_pure (pc' := 67) (l' := [(3, .int (a3 + 1)), (2, .int ((a2 + 8) - (Sq1.2 a0 1))), (0, .ref a0), (1, .ref a1)]) d_Ring_putMarked_64 rfl ?_
    refine rz_pure (pc' := 7) d_Ring_putMarked_67 rfl ?_
    exact rz_pick (ks := [0, 1, 2, 3]) (l := [(0, .ref a0), (1, .ref a1), (2, .int ((a2 + 8) - (Sq1.2 a0 1))), (3, .int (a3 + 1))]) rfl rfl (by decide) rfl (q1.1 b2)
  · skip
    refine rz_pure (pc' := 48) d_Ring_putMarked_47 rfl ?_
    refine rz_bipush (v := 8) d_Ring_putMarked_48 (by decide) ?_
    refine rz_iadd d_Ring_putMarked_50 ?_
    refine rz_pure (pc' := 63) d_Ring_putMarked_51 rfl ?_
    refine rz_pure (pc' := 64) (l' := [(2, .int (a2 + 8)), (0, .ref a0), (1, .ref a1), (3, .int a3)]) d_Ring_putMarked_63 rfl ?_
    refine rz_pure (pc' := 67) (l' := [(3, .int (a3 + 1)), (2, .int (a2 + 8)), (0, .ref a0), (1, .ref a1)]) d_Ring_putMarked_64 rfl ?_
    refine rz_pure (pc' := 7) d_Ring_putMarked_67 rfl ?_
    exact rz_pick (ks := [0, 1, 2, 3]) (l := [(0, .ref a0), (1, .ref a1), (2, .int (a2 + 8)), (3, .int (a3 + 1))]) rfl rfl (by decide) rfl (q1.2 b2)
theorem d_Ring_put_0 : decode (rm_code mRing_put) 0 = .ok (.iload_n 1, 1) := by decide +kernel
theorem d_Ring_put_1 : decode (rm_code mRing_put) 1 = .ok (.aload_n 0, 1) := by decide +kernel
theorem d_Ring_put_2 : decode (rm_code mRing_put) 2 = .ok (.getfield 21, 3) := by decide +kernel
theorem d_Ring_put_5 : decode (rm_code mRing_put) 5 = .ok (.if_icmp .lt (12), 3) := by decide +kernel
theorem d_Ring_put_8 : decode (rm_code mRing_put) 8 = .ok (.iload_n 1, 1) := by decide +kernel
theorem d_Ring_put_9 : decode (rm_code mRing_put) 9 = .ok (.aload_n 0, 1) := by decide +kernel
theorem d_Ring_put_10 : decode (rm_code mRing_put) 10 = .ok (.getfield 21, 3) := by decide +kernel
theorem d_Ring_put_13 : decode (rm_code mRing_put) 13 = .ok (.isub, 1) := by decide +kernel
theorem d_Ring_put_14 : decode (rm_code mRing_put) 14 = .ok (.goto (4), 3) := by decide +kernel
theorem d_Ring_put_17 : decode (rm_code mRing_put) 17 = .ok (.iload_n 1, 1) := by decide +kernel
theorem d_Ring_put_18 : decode (rm_code mRing_put) 18 = .ok (.istore_n 3, 1) := by decide +kernel
theorem d_Ring_put_19 : decode (rm_code mRing_put) 19 = .ok (.iload_n 3, 1) := by decide +kernel
theorem d_Ring_put_20 : decode (rm_code mRing_put) 20 = .ok (.iconst 3, 1) := by decide +kernel
theorem d_Ring_put_21 : decode (rm_code mRing_put) 21 = .ok (.ishr, 1) := by decide +kernel
theorem d_Ring_put_22 : decode (rm_code mRing_put) 22 = .ok (.istore 4, 2) := by decide +kernel
theorem d_Ring_put_24 : decode (rm_code mRing_put) 24 = .ok (.iload 4, 2) := by decide +kernel
theorem d_Ring_put_26 : decode (rm_code mRing_put) 26 = .ok (.ifCond .lt (13), 3) := by decide +kernel
theorem d_Ring_put_29 : decode (rm_code mRing_put) 29 = .ok (.iload 4, 2) := by decide +kernel
theorem d_Ring_put_31 : decode (rm_code mRing_put) 31 = .ok (.aload_n 0, 1) := by decide +kernel
theorem d_Ring_put_32 : decode (rm_code mRing_put) 32 = .ok (.getfield 15, 3) := by decide +kernel
theorem d_Ring_put_35 : decode (rm_code mRing_put) 35 = .ok (.arraylength, 1) := by decide +kernel
theorem d_Ring_put_36 : decode (rm_code mRing_put) 36 = .ok (.if_icmp .lt (4), 3) := by decide +kernel
theorem d_Ring_put_39 : decode (rm_code mRing_put) 39 = .ok (.return_, 1) := by decide +kernel
theorem d_Ring_put_40 : decode (rm_code mRing_put) 40 = .ok (.iload 4, 2) := by decide +kernel
theorem d_Ring_put_42 : decode (rm_code mRing_put) 42 = .ok (.iconst 1, 1) := by decide +kernel
theorem d_Ring_put_43 : decode (rm_code mRing_put) 43 = .ok (.iadd, 1) := by decide +kernel
theorem d_Ring_put_44 : decode (rm_code mRing_put) 44 = .ok (.aload_n 0, 1) := by decide +kernel
theorem d_Ring_put_45 : decode (rm_code mRing_put) 45 = .ok (.getfield 15, 3) := by decide +kernel
theorem d_Ring_put_48 : decode (rm_code mRing_put) 48 = .ok (.arraylength, 1) := by decide +kernel
theorem d_Ring_put_49 : decode (rm_code mRing_put) 49 = .ok (.if_icmp .ge (10), 3) := by decide +kernel
theorem d_Ring_put_52 : decode (rm_code mRing_put) 52 = .ok (.iload 4, 2) := by decide +kernel
theorem d_Ring_put_54 : decode (rm_code mRing_put) 54 = .ok (.iconst 1, 1) := by decide +kernel
theorem d_Ring_put_55 : decode (rm_code mRing_put) 55 = .ok (.iadd, 1) := by decide +kernel
theorem d_Ring_put_56 : decode (rm_code mRing_put) 56 = .ok (.goto (4), 3) := by decide +kernel
theorem d_Ring_put_59 : decode (rm_code mRing_put) 59 = .ok (.iconst 0, 1) := by decide +kernel
theorem d_Ring_put_60 : decode (rm_code mRing_put) 60 = .ok (.istore 5, 2) := by decide +kernel
theorem d_Ring_put_62 : decode (rm_code mRing_put) 62 = .ok (.bipush (8), 2) := by decide +kernel
theorem d_Ring_put_64 : decode (rm_code mRing_put) 64 = .ok (.iload_n 3, 1) := by decide +kernel
theorem d_Ring_put_65 : decode (rm_code mRing_put) 65 = .ok (.bipush (7), 2) := by decide +kernel
theorem d_Ring_put_67 : decode (rm_code mRing_put) 67 = .ok (.iand, 1) := by decide +kernel
theorem d_Ring_put_68 : decode (rm_code mRing_put) 68 = .ok (.isub, 1) := by decide +kernel
theorem d_Ring_put_69 : decode (rm_code mRing_put) 69 = .ok (.istore 6, 2) := by decide +kernel
theorem d_Ring_put_71 : decode (rm_code mRing_put) 71 = .ok (.aload_n 0, 1) := by decide +kernel
theorem d_Ring_put_72 : decode (rm_code mRing_put) 72 = .ok (.getfield 15, 3) := by decide +kernel
theorem d_Ring_put_75 : decode (rm_code mRing_put) 75 = .ok (.iload 4, 2) := by decide +kernel
theorem d_Ring_put_77 : decode (rm_code mRing_put) 77 = .ok (.iaload, 1) := by decide +kernel
theorem d_Ring_put_78 : decode (rm_code mRing_put) 78 = .ok (.bipush (8), 2) := by decide +kernel
theorem d_Ring_put_80 : decode (rm_code mRing_put) 80 = .ok (.ishl, 1) := by decide +kernel
theorem d_Ring_put_81 : decode (rm_code mRing_put) 81 = .ok (.aload_n 0, 1) := by decide +kernel
theorem d_Ring_put_82 : decode (rm_code mRing_put) 82 = .ok (.getfield 15, 3) := by decide +kernel
theorem d_Ring_put_85 : decode (rm_code mRing_put) 85 = .ok (.iload 5, 2) := by decide +kernel
theorem d_Ring_put_87 : decode (rm_code mRing_put) 87 = .ok (.iaload, 1) := by decide +kernel
theorem d_Ring_put_88 : decode (rm_code mRing_put) 88 = .ok (.ior, 1) := by decide +kernel
theorem d_Ring_put_89 : decode (rm_code mRing_put) 89 = .ok (.sipush (255), 3) := by decide +kernel
theorem d_Ring_put_92 : decode (rm_code mRing_put) 92 = .ok (.iload 6, 2) := by decide +kernel
theorem d_Ring_put_94 : decode (rm_code mRing_put) 94 = .ok (.ishl, 1) := by decide +kernel
theorem d_Ring_put_95 : decode (rm_code mRing_put) 95 = .ok (.iconst (-1), 1) := by decide +kernel
theorem d_Ring_put_96 : decode (rm_code mRing_put) 96 = .ok (.ixor, 1) := by decide +kernel
theorem d_Ring_put_97 : decode (rm_code mRing_put) 97 = .ok (.iand, 1) := by decide +kernel
theorem d_Ring_put_98 : decode (rm_code mRing_put) 98 = .ok (.iload_n 2, 1) := by decide +kernel
theorem d_Ring_put_99 : decode (rm_code mRing_put) 99 = .ok (.iload 6, 2) := by decide +kernel
theorem d_Ring_put_101 : decode (rm_code mRing_put) 101 = .ok (.ishl, 1) := by decide +kernel
theorem d_Ring_put_102 : decode (rm_code mRing_put) 102 = .ok (.ior, 1) := by decide +kernel
theorem d_Ring_put_103 : decode (rm_code mRing_put) 103 = .ok (.istore 7, 2) := by decide +kernel
theorem d_Ring_put_105 : decode (rm_code mRing_put) 105 = .ok (.aload_n 0, 1) := by decide +kernel
theorem d_Ring_put_106 : decode (rm_code mRing_put) 106 = .ok (.getfield 15, 3) := by decide +kernel
theorem d_Ring_put_109 : decode (rm_code mRing_put) 109 = .ok (.iload 4, 2) := by decide +kernel
theorem d_Ring_put_111 : decode (rm_code mRing_put) 111 = .ok (.iload 7, 2) := by decide +kernel
theorem d_Ring_put_113 : decode (rm_code mRing_put) 113 = .ok (.bipush (8), 2) := by decide +kernel
theorem d_Ring_put_115 : decode (rm_code mRing_put) 115 = .ok (.ishr, 1) := by decide +kernel
theorem d_Ring_put_116 : decode (rm_code mRing_put) 116 = .ok (.sipush (255), 3) := by decide +kernel
theorem d_Ring_put_119 : decode (rm_code mRing_put) 119 = .ok (.iand, 1) := by decide +kernel
theorem d_Ring_put_120 : decode (rm_code mRing_put) 120 = .ok (.iastore, 1) := by decide +kernel
theorem d_Ring_put_121 : decode (rm_code mRing_put) 121 = .ok (.aload_n 0, 1) := by decide +kernel
theorem d_Ring_put_122 : decode (rm_code mRing_put) 122 = .ok (.getfield 15, 3) := by decide +kernel
theorem d_Ring_put_125 : decode (rm_code mRing_put) 125 = .ok (.iload 5, 2) := by decide +kernel
theorem d_Ring_put_127 : decode (rm_code mRing_put) 127 = .ok (.iload 7, 2) := by decide +kernel
theorem d_Ring_put_129 : decode (rm_code mRing_put) 129 = .ok (.sipush (255), 3) := by decide +kernel
theorem d_Ring_put_132 : decode (rm_code mRing_put) 132 = .ok (.iand, 1) := by decide +kernel
theorem d_Ring_put_133 : decode (rm_code mRing_put) 133 = .ok (.iastore, 1) := by decide +kernel
theorem d_Ring_put_134 : decode (rm_code mRing_put) 134 = .ok (.return_, 1) := by decide +kernel
theorem p_Ring_put_0 {S : rz_S} {K : rz_S → Prop} {a0 : Nat} (ha0 : rgP a0) {a1 : Int32} {a2 : Int32} (w : ((a1 < S.2 a0 1 → rz mRing_put 18 [(0, .ref a0), (2, .int a2)] [.int a1] S (rz_v K)) ∧ (¬ a1 < S.2 a0 1 → rz mRing_put 18 [(0, .ref a0), (2, .int a2)] [.int (a1 - (S.2 a0 1))] S (rz_v K)))) : rz mRing_put 0 [(0, .ref a0), (1, .int a1), (2, .int a2)] [] S (rz_v K) := by
  have za0 := rgZ ha0
  refine rz_pure (pc' := 1) d_Ring_put_0 rfl ?_
  refine rz_pure (pc' := 2) d_Ring_put_1 rfl ?_
  refine rz_getiv (v := S.2 a0 1) d_Ring_put_2 f_8_21 (rgT ha0) rfl rfl ?_
  refine rz_icmplt (tgt := 17) d_Ring_put_5 rfl (fun b1 => ?_) (fun b1 => ?_)
  · skip
    refine rz_pure (pc' := 18) d_Ring_put_17 rfl ?_
    exact rz_pick (ks := [0, 2]) (l := [(0, .ref a0), (2, .int a2)]) rfl rfl (by decide) rfl (w.1 b1)
  · skip
    refine rz_pure (pc' := 9) d_Ring_put_8 rfl ?_
    refine rz_pure (pc' := 10) d_Ring_put_9 rfl ?_
    refine rz_getiv (v := S.2 a0 1) d_Ring_put_10 f_8_21 (rgT ha0) rfl rfl ?_
    refine rz_isub d_Ring_put_13 ?_
    refine rz_pure (pc' := 18) d_Ring_put_14 rfl ?_
    exact rz_pick (ks := [0, 2]) (l := [(0, .ref a0), (2, .int a2)]) rfl rfl (by decide) rfl (w.2 b1)
theorem p_Ring_put_18 {S : rz_S} {K : rz_S → Prop} {a0 : Nat} (ha0 : rgP a0) {a2 : Int32} {s0 : Int32} (w : ((s0 >>> ((3 : Int32) &&& 31) < 0 → K S) ∧ (¬ s0 >>> ((3 : Int32) &&& 31) < 0 → ((s0 >>> ((3 : Int32) &&& 31) < Int32.ofNat (rgN a0) → ((Int32.ofNat (rgN a0) ≤ (s0 >>> ((3 : Int32) &&& 31)) + 1 → rz mRing_put 60 [(0, .ref a0), (2, .int a2), (3, .int s0), (4, .int (s0 >>> ((3 : Int32) &&& 31)))] [.int 0] S (rz_v K)) ∧ (¬ Int32.ofNat (rgN a0) ≤ (s0 >>> ((3 : Int32) &&& 31)) + 1 → rz mRing_put 60 [(0, .ref a0), (2, .int a2), (3, .int s0), (4, .int (s0 >>> ((3 : Int32) &&& 31)))] [.int ((s0 >>> ((3 : Int32) &&& 31)) + 1)] S (rz_v K)))) ∧ (¬ s0 >>> ((3 : Int32) &&& 31) < Int32.ofNat (rgN a0) → K S))))) : rz mRing_put 18 [(0, .ref a0), (2, .int a2)] [.int s0] S (rz_v K) := by
  have za0 := rgZ ha0
  refine rz_pure (pc' := 19) (l' := [(3, .int s0), (0, .ref a0), (2, .int a2)]) d_Ring_put_18 rfl ?_
  refine rz_pure (pc' := 20) d_Ring_put_19 rfl ?_
  refine rz_iconst (v := 3) d_Ring_put_20 (by decide) ?_
  refine rz_ishr d_Ring_put_21 ?_
  refine rz_pure (pc' := 24) (l' := [(4, .int (s0 >>> ((3 : Int32) &&& 31))), (3, .int s0), (0, .ref a0), (2, .int a2)]) d_Ring_put_22 rfl ?_
  refine rz_pure (pc' := 26) d_Ring_put_24 rfl ?_
  refine rz_iflt (tgt := 39) d_Ring_put_26 rfl (fun b1 => ?_) (fun b1 => ?_)
  · skip
    exact rz_vretv d_Ring_put_39 rfl (w.1 b1)
  · skip
    refine rz_pure (pc' := 31) d_Ring_put_29 rfl ?_
    refine rz_pure (pc' := 32) d_Ring_put_31 rfl ?_
    refine rz_getr d_Ring_put_32 f_8_15 (rgT ha0) rfl ?_
    refine rz_alenv (v := Int32.ofNat (rgN a0)) d_Ring_put_35 (rgC ha0) (by decide) rfl ?_
    refine rz_icmplt (tgt := 40) d_Ring_put_36 rfl (fun b2 => ?_) (fun b2 => ?_)
    · skip
      refine rz_pure (pc' := 42) d_Ring_put_40 rfl ?_
      refine rz_iconst (v := 1) d_Ring_put_42 (by decide) ?_
      refine rz_iadd d_Ring_put_43 ?_
      refine rz_pure (pc' := 45) d_Ring_put_44 rfl ?_
      refine rz_getr d_Ring_put_45 f_8_15 (rgT ha0) rfl ?_
      refine rz_alenv (v := Int32.ofNat (rgN a0)) d_Ring_put_48 (rgC ha0) (by decide) rfl ?_
      refine rz_icmpge (tgt := 59) d_Ring_put_49 rfl (fun b3 => ?_) (fun b3 => ?_)
      · skip
        refine rz_iconst (v := 0) d_Ring_put_59 (by decide) ?_
        exact rz_pick (ks := [0, 2, 3, 4]) (l := [(0, .ref a0), (2, .int a2), (3, .int s0), (4, .int (s0 >>> ((3 : Int32) &&& 31)))]) rfl rfl (by decide) rfl (((w.2 b1).1 b2).1 b3)
      · skip
        refine rz_pure (pc' := 54) d_Ring_put_52 rfl ?_
        refine rz_iconst (v := 1) d_Ring_put_54 (by decide) ?_
        refine rz_iadd d_Ring_put_55 ?_
        refine rz_pure (pc' := 60) d_Ring_put_56 rfl ?_
        exact rz_pick (ks := [0, 2, 3, 4]) (l := [(0, .ref a0), (2, .int a2), (3, .int s0), (4, .int (s0 >>> ((3 : Int32) &&& 31)))]) rfl rfl (by decide) rfl (((w.2 b1).1 b2).2 b3)
    · skip
      exact rz_vretv d_Ring_put_39 rfl ((w.2 b1).2 b2)
theorem p_Ring_put_60 {S : rz_S} {K : rz_S → Prop} {a0 : Nat} (ha0 : rgP a0) {a2 : Int32} {a3 : Int32} {a4 : Int32} {s0 : Int32} (w : rx_in a4 (rgN a0) = true ∧ rx_in s0 (rgN a0) = true ∧ K (rz_fA (rz_fA S (a0 + 1) (upd (S.1 (a0 + 1)) a4.toNatClampNeg (((((((S.1 (a0 + 1) a4.toNatClampNeg) <<< ((8 : Int32) &&& 31)) ||| (S.1 (a0 + 1) s0.toNatClampNeg)) &&& ((255 <<< ((8 - (a3 &&& 7)) &&& 31)) ^^^ (-1))) ||| (a2 <<< ((8 - (a3 &&& 7)) &&& 31))) >>> ((8 : Int32) &&& 31)) &&& 255))) (a0 + 1) (upd (upd (S.1 (a0 + 1)) a4.toNatClampNeg (((((((S.1 (a0 + 1) a4.toNatClampNeg) <<< ((8 : Int32) &&& 31)) ||| (S.1 (a0 + 1) s0.toNatClampNeg)) &&& ((255 <<< ((8 - (a3 &&& 7)) &&& 31)) ^^^ (-1))) ||| (a2 <<< ((8 - (a3 &&& 7)) &&& 31))) >>> ((8 : Int32) &&& 31)) &&& 255)) s0.toNatClampNeg ((((((S.1 (a0 + 1) a4.toNatClampNeg) <<< ((8 : Int32) &&& 31)) ||| (S.1 (a0 + 1) s0.toNatClampNeg)) &&& ((255 <<< ((8 - (a3 &&& 7)) &&& 31)) ^^^ (-1))) ||| (a2 <<< ((8 - (a3 &&& 7)) &&& 31))) &&& 255)))) : rz mRing_put 60 [(0, .ref a0), (2, .int a2), (3, .int a3), (4, .int a4)] [.int s0] S (rz_v K) := by
  have za0 := rgZ ha0
  refine rz_pure (pc' := 62) (l' := [(5, .int s0), (0, .ref a0), (2, .int a2), (3, .int a3), (4, .int a4)]) d_Ring_put_60 rfl ?_
  refine rz_bipush (v := 8) d_Ring_put_62 (by decide) ?_
  refine rz_pure (pc' := 65) d_Ring_put_64 rfl ?_
  refine rz_bipush (v := 7) d_Ring_put_65 (by decide) ?_
  refine rz_iand d_Ring_put_67 ?_
  refine rz_isub d_Ring_put_68 ?_
  refine rz_pure (pc' := 71) (l' := [(6, .int (8 - (a3 &&& 7))), (5, .int s0), (0, .ref a0), (2, .int a2), (3, .int a3), (4, .int a4)]) d_Ring_put_69 rfl ?_
  refine rz_pure (pc' := 72) d_Ring_put_71 rfl ?_
  refine rz_getr d_Ring_put_72 f_8_15 (rgT ha0) rfl ?_
  refine rz_pure (pc' := 77) d_Ring_put_75 rfl ?_
  refine rz_ialdv (F := S.1 (a0 + 1)) (i := a4.toNatClampNeg) d_Ring_put_77 (rgC ha0) w.1 rfl rfl ?_
  refine rz_bipush (v := 8) d_Ring_put_78 (by decide) ?_
  refine rz_ishl d_Ring_put_80 ?_
  refine rz_pure (pc' := 82) d_Ring_put_81 rfl ?_
  refine rz_getr d_Ring_put_82 f_8_15 (rgT ha0) rfl ?_
  refine rz_pure (pc' := 87) d_Ring_put_85 rfl ?_
  refine rz_ialdv (F := S.1 (a0 + 1)) (i := s0.toNatClampNeg) d_Ring_put_87 (rgC ha0) w.2.1 rfl rfl ?_
  refine rz_ior d_Ring_put_88 ?_
  refine rz_sipush (v := 255) d_Ring_put_89 (by decide) ?_
  refine rz_pure (pc' := 94) d_Ring_put_92 rfl ?_
  refine rz_ishl d_Ring_put_94 ?_
  refine rz_iconst (v := -1) d_Ring_put_95 (by decide) ?_
  refine rz_ixor d_Ring_put_96 ?_
  refine rz_iand d_Ring_put_97 ?_
  refine rz_pure (pc' := 99) d_Ring_put_98 rfl ?_
  refine rz_pure (pc' := 101) d_Ring_put_99 rfl ?_
  refine rz_ishl d_Ring_put_101 ?_
  refine rz_ior d_Ring_put_102 ?_
  refine rz_pure (pc' := 105) (l' := [(7, .int (((((S.1 (a0 + 1) a4.toNatClampNeg) <<< ((8 : Int32) &&& 31)) ||| (S.1 (a0 + 1) s0.toNatClampNeg)) &&& ((255 <<< ((8 - (a3 &&& 7)) &&& 31)) ^^^ (-1))) ||| (a2 <<< ((8 - (a3 &&& 7)) &&& 31)))), (6, .int (8 - (a3 &&& 7))), (5, .int s0), (0, .ref a0), (2, .int a2), (3, .int a3), (4, .int a4)]) d_Ring_put_103 rfl ?_
  refine rz_pure (pc' := 106) d_Ring_put_105 rfl ?_
  refine rz_getr d_Ring_put_106 f_8_15 (rgT ha0) rfl ?_
  refine rz_pure (pc' := 111) d_Ring_put_109 rfl ?_
  refine rz_pure (pc' := 113) d_Ring_put_111 rfl ?_
  refine rz_bipush (v := 8) d_Ring_put_113 (by decide) ?_
  refine rz_ishr d_Ring_put_115 ?_
  refine rz_sipush (v := 255) d_Ring_put_116 (by decide) ?_
  refine rz_iand d_Ring_put_119 ?_
  refine rz_iastv (F := S.1 (a0 + 1)) (i := a4.toNatClampNeg) d_Ring_put_120 (rgC ha0) w.1 rfl rfl ?_
  refine rz_pure (pc' := 122) d_Ring_put_121 rfl ?_
  refine rz_getr d_Ring_put_122 f_8_15 (rgT ha0) rfl ?_
  refine rz_pure (pc' := 127) d_Ring_put_125 rfl ?_
  refine rz_pure (pc' := 129) d_Ring_put_127 rfl ?_
  refine rz_sipush (v := 255) d_Ring_put_129 (by decide) ?_
  refine rz_iand d_Ring_put_132 ?_
  refine rz_iastv (F := upd (S.1 (a0 + 1)) a4.toNatClampNeg (((((((S.1 (a0 + 1) a4.toNatClampNeg) <<< ((8 : Int32) &&& 31)) ||| (S.1 (a0 + 1) s0.toNatClampNeg)) &&& ((255 <<< ((8 - (a3 &&& 7)) &&& 31)) ^^^ (-1))) ||| (a2 <<< ((8 - (a3 &&& 7)) &&& 31))) >>> ((8 : Int32) &&& 31)) &&& 255)) (i := s0.toNatClampNeg) d_Ring_put_133 (rgC ha0) w.2.1 rz_fA_s rfl ?_
  exact rz_vretv d_Ring_put_134 rfl w.2.2
theorem d_Ring_putGap_0 : decode (rm_code mRing_putGap) 0 = .ok (.iconst 0, 1) := by decide +kernel
theorem d_Ring_putGap_1 : decode (rm_code mRing_putGap) 1 = .ok (.istore_n 2, 1) := by decide +kernel
theorem d_Ring_putGap_2 : decode (rm_code mRing_putGap) 2 = .ok (.iload_n 2, 1) := by decide +kernel
theorem d_Ring_putGap_3 : decode (rm_code mRing_putGap) 3 = .ok (.iload_n 1, 1) := by decide +kernel
theorem d_Ring_putGap_4 : decode (rm_code mRing_putGap) 4 = .ok (.if_icmp .ge (59), 3) := by decide +kernel
theorem d_Ring_putGap_7 : decode (rm_code mRing_putGap) 7 = .ok (.aload_n 0, 1) := by decide +kernel
theorem d_Ring_putGap_8 : decode (rm_code mRing_putGap) 8 = .ok (.aload_n 0, 1) := by decide +kernel
theorem d_Ring_putGap_9 : decode (rm_code mRing_putGap) 9 = .ok (.getfield 36, 3) := by decide +kernel
theorem d_Ring_putGap_12 : decode (rm_code mRing_putGap) 12 = .ok (.bipush (85), 2) := by decide +kernel
theorem d_Ring_putGap_14 : decode (rm_code mRing_putGap) 14 = .ok (.invokevirtual 32, 3) := by decide +kernel
theorem d_Ring_putGap_17 : decode (rm_code mRing_putGap) 17 = .ok (.aload_n 0, 1) := by decide +kernel
theorem d_Ring_putGap_18 : decode (rm_code mRing_putGap) 18 = .ok (.aload_n 0, 1) := by decide +kernel
theorem d_Ring_putGap_19 : decode (rm_code mRing_putGap) 19 = .ok (.getfield 36, 3) := by decide +kernel
theorem d_Ring_putGap_22 : decode (rm_code mRing_putGap) 22 = .ok (.bipush (8), 2) := by decide +kernel
theorem d_Ring_putGap_24 : decode (rm_code mRing_putGap) 24 = .ok (.iadd, 1) := by decide +kernel
theorem d_Ring_putGap_25 : decode (rm_code mRing_putGap) 25 = .ok (.aload_n 0, 1) := by decide +kernel
theorem d_Ring_putGap_26 : decode (rm_code mRing_putGap) 26 = .ok (.getfield 21, 3) := by decide +kernel
theorem d_Ring_putGap_29 : decode (rm_code mRing_putGap) 29 = .ok (.if_icmp .ge (13), 3) := by decide +kernel
theorem d_Ring_putGap_32 : decode (rm_code mRing_putGap) 32 = .ok (.aload_n 0, 1) := by decide +kernel
theorem d_Ring_putGap_33 : decode (rm_code mRing_putGap) 33 = .ok (.getfield 36, 3) := by decide +kernel
theorem d_Ring_putGap_36 : decode (rm_code mRing_putGap) 36 = .ok (.bipush (8), 2) := by decide +kernel
theorem d_Ring_putGap_38 : decode (rm_code mRing_putGap) 38 = .ok (.iadd, 1) := by decide +kernel
theorem d_Ring_putGap_39 : decode (rm_code mRing_putGap) 39 = .ok (.goto (15), 3) := by decide +kernel
theorem d_Ring_putGap_42 : decode (rm_code mRing_putGap) 42 = .ok (.aload_n 0, 1) := by decide +kernel
theorem d_Ring_putGap_43 : decode (rm_code mRing_putGap) 43 = .ok (.getfield 36, 3) := by decide +kernel
theorem d_Ring_putGap_46 : decode (rm_code mRing_putGap) 46 = .ok (.bipush (8), 2) := by decide +kernel
theorem d_Ring_putGap_48 : decode (rm_code mRing_putGap) 48 = .ok (.iadd, 1) := by decide +kernel
theorem d_Ring_putGap_49 : decode (rm_code mRing_putGap) 49 = .ok (.aload_n 0, 1) := by decide +kernel
theorem d_Ring_putGap_50 : decode (rm_code mRing_putGap) 50 = .ok (.getfield 21, 3) := by decide +kernel
theorem d_Ring_putGap_53 : decode (rm_code mRing_putGap) 53 = .ok (.isub, 1) := by decide +kernel
theorem d_Ring_putGap_54 : decode (rm_code mRing_putGap) 54 = .ok (.putfield 36, 3) := by decide +kernel
theorem d_Ring_putGap_57 : decode (rm_code mRing_putGap) 57 = .ok (.iinc 2 (1), 3) := by decide +kernel
theorem d_Ring_putGap_60 : decode (rm_code mRing_putGap) 60 = .ok (.goto (-58), 3) := by decide +kernel
theorem d_Ring_putGap_63 : decode (rm_code mRing_putGap) 63 = .ok (.return_, 1) := by decide +kernel
theorem p_Ring_putGap_0 {S : rz_S} {K : rz_S → Prop} {a0 : Nat} (ha0 : rgP a0) {a1 : Int32} (w : rz mRing_putGap 2 [(0, .ref a0), (1, .int a1), (2, .int 0)] [] S (rz_v K)) : rz mRing_putGap 0 [(0, .ref a0), (1, .int a1)] [] S (rz_v K) := by
  have za0 := rgZ ha0
  refine rz_iconst (v := 0) d_Ring_putGap_0 (by decide) ?_
  refine rz_pure (pc' := 2) (l' := [(2, .int 0), (0, .ref a0), (1, .int a1)]) d_Ring_putGap_1 rfl ?_
  exact rz_pick (ks := [0, 1, 2]) (l := [(0, .ref a0), (1, .int a1), (2, .int 0)]) rfl rfl (by decide) rfl w
theorem p_Ring_putGap_2 {S : rz_S} {K : rz_S → Prop} {a0 : Nat} (ha0 : rgP a0) {a1 : Int32} {a2 : Int32} (w : ((a1 ≤ a2 → K S) ∧ (¬ a1 ≤ a2 → rz_ev mRing_put [.ref a0, .int (S.2 a0 3), .int 85] S (rz_v (fun Sq2 => ((Sq2.2 a0 1 ≤ (Sq2.2 a0 3) + 8 → rz mRing_putGap 2 [(0, .ref a0), (1, .int a1), (2, .int (a2 + 1))] [] (rz_uI Sq2 a0 3 (((Sq2.2 a0 3) + 8) - (Sq2.2 a0 1))) (rz_v K)) ∧ (¬ Sq2.2 a0 1 ≤ (Sq2.2 a0 3) + 8 → rz mRing_putGap 2 [(0, .ref a0), (1, .int a1), (2, .int (a2 + 1))] [] (rz_uI Sq2 a0 3 ((Sq2.2 a0 3) + 8)) (rz_v K)))))))) : rz mRing_putGap 2 [(0, .ref a0), (1, .int a1), (2, .int a2)] [] S (rz_v K) := by
  have za0 := rgZ ha0
  refine rz_pure (pc' := 3) d_Ring_putGap_2 rfl ?_
  refine rz_pure (pc' := 4) d_Ring_putGap_3 rfl ?_
  refine rz_icmpge (tgt := 63) d_Ring_putGap_4 rfl (fun b1 => ?_) (fun b1 => ?_)
  · skip
    exact rz_vretv d_Ring_putGap_63 rfl (w.1 b1)
  · skip
    refine rz_pure (pc' := 8) d_Ring_putGap_7 rfl ?_
    refine rz_pure (pc' := 9) d_Ring_putGap_8 rfl ?_
    refine rz_getiv (v := S.2 a0 3) d_Ring_putGap_9 f_8_36 (rgT ha0) rfl rfl ?_
    refine rz_bipush (v := 85) d_Ring_putGap_12 (by decide) ?_
    refine rz_callVv (t := [.int 85, .int (S.2 a0 3)]) d_Ring_putGap_14 w_8_32 rfl (rgT ha0) rfl (w.2 b1) (fun Sq2 q2 => ?_)
    refine rz_pure (pc' := 18) d_Ring_putGap_17 rfl ?_
    refine rz_pure (pc' := 19) d_Ring_putGap_18 rfl ?_
    refine rz_getiv (v := Sq2.2 a0 3) d_Ring_putGap_19 f_8_36 (rgT ha0) rfl rfl ?_
    refine rz_bipush (v := 8) d_Ring_putGap_22 (by decide) ?_
    refine rz_iadd d_Ring_putGap_24 ?_
    refine rz_pure (pc' := 26) d_Ring_putGap_25 rfl ?_
    refine rz_getiv (v := Sq2.2 a0 1) d_Ring_putGap_26 f_8_21 (rgT ha0) rfl rfl ?_
    refine rz_icmpge (tgt := 42) d_Ring_putGap_29 rfl (fun b3 => ?_) (fun b3 => ?_)
    · skip
      refine rz_pure (pc' := 43) d_Ring_putGap_42 rfl ?_
      refine rz_getiv (v := Sq2.2 a0 3) d_Ring_putGap_43 f_8_36 (rgT ha0) rfl rfl ?_
      refine rz_bipush (v := 8) d_Ring_putGap_46 (by decide) ?_
      refine rz_iadd d_Ring_putGap_48 ?_
      refine rz_pure (pc' := 50) d_Ring_putGap_49 rfl ?_
      refine rz_getiv (v := Sq2.2 a0 1) d_Ring_putGap_50 f_8_21 (rgT ha0) rfl rfl ?_
      refine rz_isub d_Ring_putGap_53 ?_
      refine rz_puti d_Ring_putGap_54 f_8_36 (rgT ha0) rfl rfl ?_
      refine rz_pure (pc' := 60) (l' := [(2, .int (a2 + 1)), (0, .ref a0), (1, .int a1)]) d_Ring_putGap_57 rfl ?_
      refine rz_pure (pc' := 2) d_Ring_putGap_60 rfl ?_
      exact rz_pick (ks := [0, 1, 2]) (l := [(0, .ref a0), (1, .int a1), (2, .int (a2 + 1))]) rfl rfl (by decide) rfl (q2.1 b3)
    · skip
      refine rz_pure (pc' := 33) d_Ring_putGap_32 rfl ?_
      refine rz_getiv (v := Sq2.2 a0 3) d_Ring_putGap_33 f_8_36 (rgT ha0) rfl rfl ?_
      refine rz_bipush (v := 8) d_Ring_putGap_36 (by decide) ?_
      refine rz_iadd d_Ring_putGap_38 ?_
      refine rz_pure (pc' := 54) d_Ring_putGap_39 rfl ?_
      refine rz_puti d_Ring_putGap_54 f_8_36 (rgT ha0) rfl rfl ?_
      refine rz_pure (pc' := 60) (l' := [(2, .int (a2 + 1)), (0, .ref a0), (1, .int a1)]) d_Ring_putGap_57 rfl ?_
      refine rz_pure (pc' := 2) d_Ring_putGap_60 rfl ?_
      exact rz_pick (ks := [0, 1, 2]) (l := [(0, .ref a0), (1, .int a1), (2, .int (a2 + 1))]) rfl rfl (by decide) rfl (q2.2 b3)
theorem d_Ring_putGapToEnd_0 : decode (rm_code mRing_putGapToEnd) 0 = .ok (.aload_n 0, 1) := by decide +kernel
theorem d_Ring_putGapToEnd_1 : decode (rm_code mRing_putGapToEnd) 1 = .ok (.iconst 0, 1) := by decide +kernel
theorem d_Ring_putGapToEnd_2 : decode (rm_code mRing_putGapToEnd) 2 = .ok (.aload_n 0, 1) := by decide +kernel
theorem d_Ring_putGapToEnd_3 : decode (rm_code mRing_putGapToEnd) 3 = .ok (.getfield 15, 3) := by decide +kernel
theorem d_Ring_putGapToEnd_6 : decode (rm_code mRing_putGapToEnd) 6 = .ok (.arraylength, 1) := by decide +kernel
theorem d_Ring_putGapToEnd_7 : decode (rm_code mRing_putGapToEnd) 7 = .ok (.aload_n 0, 1) := by decide +kernel
theorem d_Ring_putGapToEnd_8 : decode (rm_code mRing_putGapToEnd) 8 = .ok (.getfield 36, 3) := by decide +kernel
theorem d_Ring_putGapToEnd_11 : decode (rm_code mRing_putGapToEnd) 11 = .ok (.iconst 3, 1) := by decide +kernel
theorem d_Ring_putGapToEnd_12 : decode (rm_code mRing_putGapToEnd) 12 = .ok (.ishr, 1) := by decide +kernel
theorem d_Ring_putGapToEnd_13 : decode (rm_code mRing_putGapToEnd) 13 = .ok (.isub, 1) := by decide +kernel
theorem d_Ring_putGapToEnd_14 : decode (rm_code mRing_putGapToEnd) 14 = .ok (.invokestatic 9, 3) := by decide +kernel
theorem d_Ring_putGapToEnd_17 : decode (rm_code mRing_putGapToEnd) 17 = .ok (.invokevirtual 39, 3) := by decide +kernel
theorem d_Ring_putGapToEnd_20 : decode (rm_code mRing_putGapToEnd) 20 = .ok (.return_, 1) := by decide +kernel
theorem p_Ring_putGapToEnd_0 {S : rz_S} {K : rz_S → Prop} {a0 : Nat} (ha0 : rgP a0) (w : rz_ev mRing_putGap [.ref a0, .int (if 0 < (Int32.ofNat (rgN a0)) - ((S.2 a0 3) >>> ((3 : Int32) &&& 31)) then (Int32.ofNat (rgN a0)) - ((S.2 a0 3) >>> ((3 : Int32) &&& 31)) else 0)] S (rz_v (fun Sq1 => K Sq1))) : rz mRing_putGapToEnd 0 [(0, .ref a0)] [] S (rz_v K) := by
  have za0 := rgZ ha0
  refine rz_pure (pc' := 1) d_Ring_putGapToEnd_0 rfl ?_
  refine rz_iconst (v := 0) d_Ring_putGapToEnd_1 (by decide) ?_
  refine rz_pure (pc' := 3) d_Ring_putGapToEnd_2 rfl ?_
  refine rz_getr d_Ring_putGapToEnd_3 f_8_15 (rgT ha0) rfl ?_
  refine rz_alenv (v := Int32.ofNat (rgN a0)) d_Ring_putGapToEnd_6 (rgC ha0) (by decide) rfl ?_
  refine rz_pure (pc' := 8) d_Ring_putGapToEnd_7 rfl ?_
  refine rz_getiv (v := S.2 a0 3) d_Ring_putGapToEnd_8 f_8_36 (rgT ha0) rfl rfl ?_
  refine rz_iconst (v := 3) d_Ring_putGapToEnd_11 (by decide) ?_
  refine rz_ishr d_Ring_putGapToEnd_12 ?_
  refine rz_isub d_Ring_putGapToEnd_13 ?_
  refine rz_max d_Ring_putGapToEnd_14 rfl rfl rfl ?_
  refine rz_callVv (t := [.int (if 0 < (Int32.ofNat (rgN a0)) - ((S.2 a0 3) >>> ((3 : Int32) &&& 31)) then (Int32.ofNat (rgN a0)) - ((S.2 a0 3) >>> ((3 : Int32) &&& 31)) else 0)]) d_Ring_putGapToEnd_17 w_8_39 rfl (rgT ha0) rfl w (fun Sq1 q1 => ?_)
  exact rz_vretv d_Ring_putGapToEnd_20 rfl q1
theorem d_Ring_onesAhead_0 : decode (rm_code mRing_onesAhead) 0 = .ok (.iconst 0, 1) := by decide +kernel
theorem d_Ring_onesAhead_1 : decode (rm_code mRing_onesAhead) 1 = .ok (.istore_n 2, 1) := by decide +kernel
theorem d_Ring_onesAhead_2 : decode (rm_code mRing_onesAhead) 2 = .ok (.iload_n 1, 1) := by decide +kernel
theorem d_Ring_onesAhead_3 : decode (rm_code mRing_onesAhead) 3 = .ok (.istore_n 3, 1) := by decide +kernel
theorem d_Ring_onesAhead_4 : decode (rm_code mRing_onesAhead) 4 = .ok (.iconst 1, 1) := by decide +kernel
theorem d_Ring_onesAhead_5 : decode (rm_code mRing_onesAhead) 5 = .ok (.istore 4, 2) := by decide +kernel
theorem d_Ring_onesAhead_7 : decode (rm_code mRing_onesAhead) 7 = .ok (.iload_n 2, 1) := by decide +kernel
theorem d_Ring_onesAhead_8 : decode (rm_code mRing_onesAhead) 8 = .ok (.bipush (10), 2) := by decide +kernel
theorem d_Ring_onesAhead_10 : decode (rm_code mRing_onesAhead) 10 = .ok (.if_icmp .ge (78), 3) := by decide +kernel
theorem d_Ring_onesAhead_13 : decode (rm_code mRing_onesAhead) 13 = .ok (.iload 4, 2) := by decide +kernel
theorem d_Ring_onesAhead_15 : decode (rm_code mRing_onesAhead) 15 = .ok (.ifCond .eq (73), 3) := by decide +kernel
theorem d_Ring_onesAhead_18 : decode (rm_code mRing_onesAhead) 18 = .ok (.iload_n 3, 1) := by decide +kernel
theorem d_Ring_onesAhead_19 : decode (rm_code mRing_onesAhead) 19 = .ok (.ifCond .le (9), 3) := by decide +kernel
theorem d_Ring_onesAhead_22 : decode (rm_code mRing_onesAhead) 22 = .ok (.iload_n 3, 1) := by decide +kernel
theorem d_Ring_onesAhead_23 : decode (rm_code mRing_onesAhead) 23 = .ok (.iconst 1, 1) := by decide +kernel
theorem d_Ring_onesAhead_24 : decode (rm_code mRing_onesAhead) 24 = .ok (.isub, 1) := by decide +kernel
theorem d_Ring_onesAhead_25 : decode (rm_code mRing_onesAhead) 25 = .ok (.goto (9), 3) := by decide +kernel
theorem d_Ring_onesAhead_28 : decode (rm_code mRing_onesAhead) 28 = .ok (.aload_n 0, 1) := by decide +kernel
theorem d_Ring_onesAhead_29 : decode (rm_code mRing_onesAhead) 29 = .ok (.getfield 21, 3) := by decide +kernel
theorem d_Ring_onesAhead_32 : decode (rm_code mRing_onesAhead) 32 = .ok (.iconst 1, 1) := by decide +kernel
theorem d_Ring_onesAhead_33 : decode (rm_code mRing_onesAhead) 33 = .ok (.isub, 1) := by decide +kernel
theorem d_Ring_onesAhead_34 : decode (rm_code mRing_onesAhead) 34 = .ok (.istore_n 3, 1) := by decide +kernel
theorem d_Ring_onesAhead_35 : decode (rm_code mRing_onesAhead) 35 = .ok (.iload_n 3, 1) := by decide +kernel
theorem d_Ring_onesAhead_36 : decode (rm_code mRing_onesAhead) 36 = .ok (.aload_n 0, 1) := by decide +kernel
theorem d_Ring_onesAhead_37 : decode (rm_code mRing_onesAhead) 37 = .ok (.getfield 21, 3) := by decide +kernel
theorem d_Ring_onesAhead_40 : decode (rm_code mRing_onesAhead) 40 = .ok (.if_icmp .ge (29), 3) := by decide +kernel
theorem d_Ring_onesAhead_43 : decode (rm_code mRing_onesAhead) 43 = .ok (.aload_n 0, 1) := by decide +kernel
theorem d_Ring_onesAhead_44 : decode (rm_code mRing_onesAhead) 44 = .ok (.getfield 15, 3) := by decide +kernel
theorem d_Ring_onesAhead_47 : decode (rm_code mRing_onesAhead) 47 = .ok (.iload_n 3, 1) := by decide +kernel
theorem d_Ring_onesAhead_48 : decode (rm_code mRing_onesAhead) 48 = .ok (.iconst 3, 1) := by decide +kernel
theorem d_Ring_onesAhead_49 : decode (rm_code mRing_onesAhead) 49 = .ok (.ishr, 1) := by decide +kernel
theorem d_Ring_onesAhead_50 : decode (rm_code mRing_onesAhead) 50 = .ok (.iaload, 1) := by decide +kernel
theorem d_Ring_onesAhead_51 : decode (rm_code mRing_onesAhead) 51 = .ok (.bipush (7), 2) := by decide +kernel
theorem d_Ring_onesAhead_53 : decode (rm_code mRing_onesAhead) 53 = .ok (.iload_n 3, 1) := by decide +kernel
theorem d_Ring_onesAhead_54 : decode (rm_code mRing_onesAhead) 54 = .ok (.bipush (7), 2) := by decide +kernel
theorem d_Ring_onesAhead_56 : decode (rm_code mRing_onesAhead) 56 = .ok (.iand, 1) := by decide +kernel
theorem d_Ring_onesAhead_57 : decode (rm_code mRing_onesAhead) 57 = .ok (.isub, 1) := by decide +kernel
theorem d_Ring_onesAhead_58 : decode (rm_code mRing_onesAhead) 58 = .ok (.ishr, 1) := by decide +kernel
theorem d_Ring_onesAhead_59 : decode (rm_code mRing_onesAhead) 59 = .ok (.iconst 1, 1) := by decide +kernel
theorem d_Ring_onesAhead_60 : decode (rm_code mRing_onesAhead) 60 = .ok (.iand, 1) := by decide +kernel
theorem d_Ring_onesAhead_61 : decode (rm_code mRing_onesAhead) 61 = .ok (.iconst 1, 1) := by decide +kernel
theorem d_Ring_onesAhead_62 : decode (rm_code mRing_onesAhead) 62 = .ok (.if_icmp .ne (7), 3) := by decide +kernel
theorem d_Ring_onesAhead_65 : decode (rm_code mRing_onesAhead) 65 = .ok (.iconst 1, 1) := by decide +kernel
theorem d_Ring_onesAhead_66 : decode (rm_code mRing_onesAhead) 66 = .ok (.goto (4), 3) := by decide +kernel
theorem d_Ring_onesAhead_69 : decode (rm_code mRing_onesAhead) 69 = .ok (.iconst 0, 1) := by decide +kernel
theorem d_Ring_onesAhead_70 : decode (rm_code mRing_onesAhead) 70 = .ok (.istore 4, 2) := by decide +kernel
theorem d_Ring_onesAhead_72 : decode (rm_code mRing_onesAhead) 72 = .ok (.iload_n 2, 1) := by decide +kernel
theorem d_Ring_onesAhead_73 : decode (rm_code mRing_onesAhead) 73 = .ok (.iload 4, 2) := by decide +kernel
theorem d_Ring_onesAhead_75 : decode (rm_code mRing_onesAhead) 75 = .ok (.ifCond .eq (7), 3) := by decide +kernel
theorem d_Ring_onesAhead_78 : decode (rm_code mRing_onesAhead) 78 = .ok (.iconst 1, 1) := by decide +kernel
theorem d_Ring_onesAhead_79 : decode (rm_code mRing_onesAhead) 79 = .ok (.goto (4), 3) := by decide +kernel
theorem d_Ring_onesAhead_82 : decode (rm_code mRing_onesAhead) 82 = .ok (.iconst 0, 1) := by decide +kernel
theorem d_Ring_onesAhead_83 : decode (rm_code mRing_onesAhead) 83 = .ok (.iadd, 1) := by decide +kernel
theorem d_Ring_onesAhead_84 : decode (rm_code mRing_onesAhead) 84 = .ok (.istore_n 2, 1) := by decide +kernel
theorem d_Ring_onesAhead_85 : decode (rm_code mRing_onesAhead) 85 = .ok (.goto (-78), 3) := by decide +kernel
theorem d_Ring_onesAhead_88 : decode (rm_code mRing_onesAhead) 88 = .ok (.iload_n 2, 1) := by decide +kernel
theorem d_Ring_onesAhead_89 : decode (rm_code mRing_onesAhead) 89 = .ok (.ireturn, 1) := by decide +kernel
theorem p_Ring_onesAhead_0 {S : rz_S} {K : Int32 → rz_S → Prop} {a0 : Nat} (ha0 : rgP a0) {a1 : Int32} (w : rz mRing_onesAhead 7 [(0, .ref a0), (2, .int 0), (3, .int a1), (4, .int 1)] [] S (rz_i K)) : rz mRing_onesAhead 0 [(0, .ref a0), (1, .int a1)] [] S (rz_i K) := by
  have za0 := rgZ ha0
  refine rz_iconst (v := 0) d_Ring_onesAhead_0 (by decide) ?_
  refine rz_pure (pc' := 2) (l' := [(2, .int 0), (0, .ref a0), (1, .int a1)]) d_Ring_onesAhead_1 rfl ?_
  refine rz_pure (pc' := 3) d_Ring_onesAhead_2 rfl ?_
  refine rz_pure (pc' := 4) (l' := [(3, .int a1), (2, .int 0), (0, .ref a0), (1, .int a1)]) d_Ring_onesAhead_3 rfl ?_
  refine rz_iconst (v := 1) d_Ring_onesAhead_4 (by decide) ?_
  refine rz_pure (pc' := 7) (l' := [(4, .int 1), (3, .int a1), (2, .int 0), (0, .ref a0), (1, .int a1)]) d_Ring_onesAhead_5 rfl ?_
  exact rz_pick (ks := [0, 2, 3, 4]) (l := [(0, .ref a0), (2, .int 0), (3, .int a1), (4, .int 1)]) rfl rfl (by decide) rfl w
theorem p_Ring_onesAhead_7 {S : rz_S} {K : Int32 → rz_S → Prop} {a0 : Nat} (ha0 : rgP a0) {a2 : Int32} {a3 : Int32} {a4 : Int32} (w : ((10 ≤ a2 → K a2 S) ∧ (¬ 10 ≤ a2 → ((a4 = 0 → K a2 S) ∧ (¬ a4 = 0 → ((a3 ≤ 0 → rz mRing_onesAhead 34 [(0, .ref a0), (2, .int a2)] [.int ((S.2 a0 1) - 1)] S (rz_i K)) ∧ (¬ a3 ≤ 0 → rz mRing_onesAhead 34 [(0, .ref a0), (2, .int a2)] [.int (a3 - 1)] S (rz_i K)))))))) : rz mRing_onesAhead 7 [(0, .ref a0), (2, .int a2), (3, .int a3), (4, .int a4)] [] S (rz_i K) := by
  have za0 := rgZ ha0
  refine rz_pure (pc' := 8) d_Ring_onesAhead_7 rfl ?_
  refine rz_bipush (v := 10) d_Ring_onesAhead_8 (by decide) ?_
  refine rz_icmpge (tgt := 88) d_Ring_onesAhead_10 rfl (fun b1 => ?_) (fun b1 => ?_)
  · skip
    refine rz_pure (pc' := 89) d_Ring_onesAhead_88 rfl ?_
    exact rz_ireti d_Ring_onesAhead_89 rfl rfl (w.1 b1)
  · skip
    refine rz_pure (pc' := 15) d_Ring_onesAhead_13 rfl ?_
    refine rz_ifeq (tgt := 88) d_Ring_onesAhead_15 rfl (fun b2 => ?_) (fun b2 => ?_)
    · skip
      refine rz_pure (pc' := 89) d_Ring_onesAhead_88 rfl ?_
      exact rz_ireti d_Ring_onesAhead_89 rfl rfl ((w.2 b1).1 b2)
    · skip
      refine rz_pure (pc' := 19) d_Ring_onesAhead_18 rfl ?_
      refine rz_ifle (tgt := 28) d_Ring_onesAhead_19 rfl (fun b3 => ?_) (fun b3 => ?_)
      · skip
        refine rz_pure (pc' := 29) d_Ring_onesAhead_28 rfl ?_
        refine rz_getiv (v := S.2 a0 1) d_Ring_onesAhead_29 f_8_21 (rgT ha0) rfl rfl ?_
        refine rz_iconst (v := 1) d_Ring_onesAhead_32 (by decide) ?_
        refine rz_isub d_Ring_onesAhead_33 ?_
        exact rz_pick (ks := [0, 2]) (l := [(0, .ref a0), (2, .int a2)]) rfl rfl (by decide) rfl (((w.2 b1).2 b2).1 b3)
      · skip
        refine rz_pure (pc' := 23) d_Ring_onesAhead_22 rfl ?_
        refine rz_iconst (v := 1) d_Ring_onesAhead_23 (by decide) ?_
        refine rz_isub d_Ring_onesAhead_24 ?_
        refine rz_pure (pc' := 34) d_Ring_onesAhead_25 rfl ?_
        exact rz_pick (ks := [0, 2]) (l := [(0, .ref a0), (2, .int a2)]) rfl rfl (by decide) rfl (((w.2 b1).2 b2).2 b3)
theorem p_Ring_onesAhead_34 {S : rz_S} {K : Int32 → rz_S → Prop} {a0 : Nat} (ha0 : rgP a0) {a2 : Int32} {s0 : Int32} (w : ((S.2 a0 1 ≤ s0 → rz mRing_onesAhead 69 [(0, .ref a0), (2, .int a2), (3, .int s0)] [] S (rz_i K)) ∧ (¬ S.2 a0 1 ≤ s0 → rx_in (s0 >>> ((3 : Int32) &&& 31)) (rgN a0) = true ∧ ((((S.1 (a0 + 1) ((s0 >>> ((3 : Int32) &&& 31)).toNatClampNeg)) >>> ((7 - (s0 &&& 7)) &&& 31)) &&& 1 = 1 → rz mRing_onesAhead 70 [(0, .ref a0), (2, .int a2), (3, .int s0)] [.int 1] S (rz_i K)) ∧ (¬ ((S.1 (a0 + 1) ((s0 >>> ((3 : Int32) &&& 31)).toNatClampNeg)) >>> ((7 - (s0 &&& 7)) &&& 31)) &&& 1 = 1 → rz mRing_onesAhead 69 [(0, .ref a0), (2, .int a2), (3, .int s0)] [] S (rz_i K)))))) : rz mRing_onesAhead 34 [(0, .ref a0), (2, .int a2)] [.int s0] S (rz_i K) := by
  have za0 := rgZ ha0
  refine rz_pure (pc' := 35) (l' := [(3, .int s0), (0, .ref a0), (2, .int a2)]) d_Ring_onesAhead_34 rfl ?_
  refine rz_pure (pc' := 36) d_Ring_onesAhead_35 rfl ?_
  refine rz_pure (pc' := 37) d_Ring_onesAhead_36 rfl ?_
  refine rz_getiv (v := S.2 a0 1) d_Ring_onesAhead_37 f_8_21 (rgT ha0) rfl rfl ?_
  refine rz_icmpge (tgt := 69) d_Ring_onesAhead_40 rfl (fun b1 => ?_) (fun b1 => ?_)
  · skip
    exact rz_pick (ks := [0, 2, 3]) (l := [(0, .ref a0), (2, .int a2), (3, .int s0)]) rfl rfl (by decide) rfl (w.1 b1)
  · skip
    refine rz_pure (pc' := 44) d_Ring_onesAhead_43 rfl ?_
    refine rz_getr d_Ring_onesAhead_44 f_8_15 (rgT ha0) rfl ?_
    refine rz_pure (pc' := 48) d_Ring_onesAhead_47 rfl ?_
    refine rz_iconst (v := 3) d_Ring_onesAhead_48 (by decide) ?_
    refine rz_ishr d_Ring_onesAhead_49 ?_
    refine rz_ialdv (F := S.1 (a0 + 1)) (i := (s0 >>> ((3 : Int32) &&& 31)).toNatClampNeg) d_Ring_onesAhead_50 (rgC ha0) (w.2 b1).1 rfl rfl ?_
    refine rz_bipush (v := 7) d_Ring_onesAhead_51 (by decide) ?_
    refine rz_pure (pc' := 54) d_Ring_onesAhead_53 rfl ?_
    refine rz_bipush (v := 7) d_Ring_onesAhead_54 (by decide) ?_
    refine rz_iand d_Ring_onesAhead_56 ?_
    refine rz_isub d_Ring_onesAhead_57 ?_
    refine rz_ishr d_Ring_onesAhead_58 ?_
    refine rz_iconst (v := 1) d_Ring_onesAhead_59 (by decide) ?_
    refine rz_iand d_Ring_onesAhead_60 ?_
    refine rz_iconst (v := 1) d_Ring_onesAhead_61 (by decide) ?_
    refine rz_icmpne (tgt := 69) d_Ring_onesAhead_62 rfl (fun b2 => ?_) (fun b2 => ?_)
    · skip
      exact rz_pick (ks := [0, 2, 3]) (l := [(0, .ref a0), (2, .int a2), (3, .int s0)]) rfl rfl (by decide) rfl ((w.2 b1).2.2 b2)
    · skip
      refine rz_iconst (v := 1) d_Ring_onesAhead_65 (by decide) ?_
      refine rz_pure (pc' := 70) d_Ring_onesAhead_66 rfl ?_
      exact rz_pick (ks := [0, 2, 3]) (l := [(0, .ref a0), (2, .int a2), (3, .int s0)]) rfl rfl (by decide) rfl ((w.2 b1).2.1 b2)
theorem p_Ring_onesAhead_69 {S : rz_S} {K : Int32 → rz_S → Prop} {a0 : Nat} (ha0 : rgP a0) {a2 : Int32} {a3 : Int32} (w : rz mRing_onesAhead 70 [(0, .ref a0), (2, .int a2), (3, .int a3)] [.int 0] S (rz_i K)) : rz mRing_onesAhead 69 [(0, .ref a0), (2, .int a2), (3, .int a3)] [] S (rz_i K) := by
  have za0 := rgZ ha0
  refine rz_iconst (v := 0) d_Ring_onesAhead_69 (by decide) ?_
  exact rz_pick (ks := [0, 2, 3]) (l := [(0, .ref a0), (2, .int a2), (3, .int a3)]) rfl rfl (by decide) rfl w
theorem p_Ring_onesAhead_70 {S : rz_S} {K : Int32 → rz_S → Prop} {a0 : Nat} (ha0 : rgP a0) {a2 : Int32} {a3 : Int32} {s0 : Int32} (w : ((s0 = 0 → rz mRing_onesAhead 7 [(0, .ref a0), (2, .int (a2 + 0)), (3, .int a3), (4, .int s0)] [] S (rz_i K)) ∧ (¬ s0 = 0 → rz mRing_onesAhead 7 [(0, .ref a0), (2, .int (a2 + 1)), (3, .int a3), (4, .int s0)] [] S (rz_i K)))) : rz mRing_onesAhead 70 [(0, .ref a0), (2, .int a2), (3, .int a3)] [.int s0] S (rz_i K) := by
  have za0 := rgZ ha0
  refine rz_pure (pc' := 72) (l' := [(4, .int s0), (0, .ref a0), (2, .int a2), (3, .int a3)]) d_Ring_onesAhead_70 rfl ?_
  refine rz_pure (pc' := 73) d_Ring_onesAhead_72 rfl ?_
  refine rz_pure (pc' := 75) d_Ring_onesAhead_73 rfl ?_
  refine rz_ifeq (tgt := 82) d_Ring_onesAhead_75 rfl (fun b1 => ?_) (fun b1 => ?_)
  · skip
    refine rz_iconst (v := 0) d_Ring_onesAhead_82 (by decide) ?_
    refine rz_iadd d_Ring_onesAhead_83 ?_
    refine rz_pure (pc' := 85) (l' := [(2, .int (a2 + 0)), (4, .int s0), (0, .ref a0), (3, .int a3)]) d_Ring_onesAhead_84 rfl ?_
    refine rz_pure (pc' := 7) d_Ring_onesAhead_85 rfl ?_
    exact rz_pick (ks := [0, 2, 3, 4]) (l := [(0, .ref a0), (2, .int (a2 + 0)), (3, .int a3), (4, .int s0)]) rfl rfl (by decide) rfl (w.1 b1)
  · skip
    refine rz_iconst (v := 1) d_Ring_onesAhead_78 (by decide) ?_
    refine rz_pure (pc' := 83) d_Ring_onesAhead_79 rfl ?_
    refine rz_iadd d_Ring_onesAhead_83 ?_
    refine rz_pure (pc' := 85) (l' := [(2, .int (a2 + 1)), (4, .int s0), (0, .ref a0), (3, .int a3)]) d_Ring_onesAhead_84 rfl ?_
    refine rz_pure (pc' := 7) d_Ring_onesAhead_85 rfl ?_
    exact rz_pick (ks := [0, 2, 3, 4]) (l := [(0, .ref a0), (2, .int (a2 + 1)), (3, .int a3), (4, .int s0)]) rfl rfl (by decide) rfl (w.2 b1)
theorem d_Ring_startRound_0 : decode (rm_code mRing_startRound) 0 = .ok (.aload_n 0, 1) := by decide +kernel
theorem d_Ring_startRound_1 : decode (rm_code mRing_startRound) 1 = .ok (.iconst 0, 1) := by decide +kernel
theorem d_Ring_startRound_2 : decode (rm_code mRing_startRound) 2 = .ok (.putfield 46, 3) := by decide +kernel
theorem d_Ring_startRound_5 : decode (rm_code mRing_startRound) 5 = .ok (.aload_n 0, 1) := by decide +kernel
theorem d_Ring_startRound_6 : decode (rm_code mRing_startRound) 6 = .ok (.iload_n 1, 1) := by decide +kernel
theorem d_Ring_startRound_7 : decode (rm_code mRing_startRound) 7 = .ok (.putfield 49, 3) := by decide +kernel
theorem d_Ring_startRound_10 : decode (rm_code mRing_startRound) 10 = .ok (.return_, 1) := by decide +kernel
theorem p_Ring_startRound_0 {S : rz_S} {K : rz_S → Prop} {a0 : Nat} (ha0 : rgP a0) {a1 : Int32} (w : K (rz_uI (rz_uI S a0 6 0) a0 7 a1)) : rz mRing_startRound 0 [(0, .ref a0), (1, .int a1)] [] S (rz_v K) := by
  have za0 := rgZ ha0
  refine rz_pure (pc' := 1) d_Ring_startRound_0 rfl ?_
  refine rz_iconst (v := 0) d_Ring_startRound_1 (by decide) ?_
  refine rz_puti d_Ring_startRound_2 f_8_46 (rgT ha0) rfl rfl ?_
  refine rz_pure (pc' := 6) d_Ring_startRound_5 rfl ?_
  refine rz_pure (pc' := 7) d_Ring_startRound_6 rfl ?_
  refine rz_puti d_Ring_startRound_7 f_8_49 (rgT ha0) rfl rfl ?_
  exact rz_vretv d_Ring_startRound_10 rfl w
theorem d_Ring_nextFirst_0 : decode (rm_code mRing_nextFirst) 0 = .ok (.iconst (-1), 1) := by decide +kernel
theorem d_Ring_nextFirst_1 : decode (rm_code mRing_nextFirst) 1 = .ok (.istore_n 1, 1) := by decide +kernel
theorem d_Ring_nextFirst_2 : decode (rm_code mRing_nextFirst) 2 = .ok (.aload_n 0, 1) := by decide +kernel
theorem d_Ring_nextFirst_3 : decode (rm_code mRing_nextFirst) 3 = .ok (.getfield 46, 3) := by decide +kernel
theorem d_Ring_nextFirst_6 : decode (rm_code mRing_nextFirst) 6 = .ok (.aload_n 0, 1) := by decide +kernel
theorem d_Ring_nextFirst_7 : decode (rm_code mRing_nextFirst) 7 = .ok (.getfield 15, 3) := by decide +kernel
theorem d_Ring_nextFirst_10 : decode (rm_code mRing_nextFirst) 10 = .ok (.arraylength, 1) := by decide +kernel
theorem d_Ring_nextFirst_11 : decode (rm_code mRing_nextFirst) 11 = .ok (.if_icmp .ge (160), 3) := by decide +kernel
theorem d_Ring_nextFirst_14 : decode (rm_code mRing_nextFirst) 14 = .ok (.iload_n 1, 1) := by decide +kernel
theorem d_Ring_nextFirst_15 : decode (rm_code mRing_nextFirst) 15 = .ok (.iconst (-1), 1) := by decide +kernel
theorem d_Ring_nextFirst_16 : decode (rm_code mRing_nextFirst) 16 = .ok (.if_icmp .ne (155), 3) := by decide +kernel
theorem d_Ring_nextFirst_19 : decode (rm_code mRing_nextFirst) 19 = .ok (.aload_n 0, 1) := by decide +kernel
theorem d_Ring_nextFirst_20 : decode (rm_code mRing_nextFirst) 20 = .ok (.getfield 15, 3) := by decide +kernel
theorem d_Ring_nextFirst_23 : decode (rm_code mRing_nextFirst) 23 = .ok (.aload_n 0, 1) := by decide +kernel
theorem d_Ring_nextFirst_24 : decode (rm_code mRing_nextFirst) 24 = .ok (.getfield 46, 3) := by decide +kernel
theorem d_Ring_nextFirst_27 : decode (rm_code mRing_nextFirst) 27 = .ok (.iaload, 1) := by decide +kernel
theorem d_Ring_nextFirst_28 : decode (rm_code mRing_nextFirst) 28 = .ok (.istore_n 2, 1) := by decide +kernel
theorem d_Ring_nextFirst_29 : decode (rm_code mRing_nextFirst) 29 = .ok (.iconst 0, 1) := by decide +kernel
theorem d_Ring_nextFirst_30 : decode (rm_code mRing_nextFirst) 30 = .ok (.istore_n 3, 1) := by decide +kernel
theorem d_Ring_nextFirst_31 : decode (rm_code mRing_nextFirst) 31 = .ok (.iconst 0, 1) := by decide +kernel
theorem d_Ring_nextFirst_32 : decode (rm_code mRing_nextFirst) 32 = .ok (.istore 4, 2) := by decide +kernel
theorem d_Ring_nextFirst_34 : decode (rm_code mRing_nextFirst) 34 = .ok (.iload_n 3, 1) := by decide +kernel
theorem d_Ring_nextFirst_35 : decode (rm_code mRing_nextFirst) 35 = .ok (.bipush (8), 2) := by decide +kernel
theorem d_Ring_nextFirst_37 : decode (rm_code mRing_nextFirst) 37 = .ok (.if_icmp .ge (29), 3) := by decide +kernel
theorem d_Ring_nextFirst_40 : decode (rm_code mRing_nextFirst) 40 = .ok (.aload_n 0, 1) := by decide +kernel
theorem d_Ring_nextFirst_41 : decode (rm_code mRing_nextFirst) 41 = .ok (.getfield 49, 3) := by decide +kernel
theorem d_Ring_nextFirst_44 : decode (rm_code mRing_nextFirst) 44 = .ok (.iconst 3, 1) := by decide +kernel
theorem d_Ring_nextFirst_45 : decode (rm_code mRing_nextFirst) 45 = .ok (.if_icmp .lt (21), 3) := by decide +kernel
theorem d_Ring_nextFirst_48 : decode (rm_code mRing_nextFirst) 48 = .ok (.iload_n 2, 1) := by decide +kernel
theorem d_Ring_nextFirst_49 : decode (rm_code mRing_nextFirst) 49 = .ok (.bipush (7), 2) := by decide +kernel
theorem d_Ring_nextFirst_51 : decode (rm_code mRing_nextFirst) 51 = .ok (.iload_n 3, 1) := by decide +kernel
theorem d_Ring_nextFirst_52 : decode (rm_code mRing_nextFirst) 52 = .ok (.isub, 1) := by decide +kernel
theorem d_Ring_nextFirst_53 : decode (rm_code mRing_nextFirst) 53 = .ok (.ishr, 1) := by decide +kernel
theorem d_Ring_nextFirst_54 : decode (rm_code mRing_nextFirst) 54 = .ok (.iconst 1, 1) := by decide +kernel
theorem d_Ring_nextFirst_55 : decode (rm_code mRing_nextFirst) 55 = .ok (.iand, 1) := by decide +kernel
theorem d_Ring_nextFirst_56 : decode (rm_code mRing_nextFirst) 56 = .ok (.iconst 1, 1) := by decide +kernel
theorem d_Ring_nextFirst_57 : decode (rm_code mRing_nextFirst) 57 = .ok (.if_icmp .ne (9), 3) := by decide +kernel
theorem d_Ring_nextFirst_60 : decode (rm_code mRing_nextFirst) 60 = .ok (.iinc 3 (1), 3) := by decide +kernel
theorem d_Ring_nextFirst_63 : decode (rm_code mRing_nextFirst) 63 = .ok (.goto (-29), 3) := by decide +kernel
theorem d_Ring_nextFirst_66 : decode (rm_code mRing_nextFirst) 66 = .ok (.iload 4, 2) := by decide +kernel
theorem d_Ring_nextFirst_68 : decode (rm_code mRing_nextFirst) 68 = .ok (.bipush (8), 2) := by decide +kernel
theorem d_Ring_nextFirst_70 : decode (rm_code mRing_nextFirst) 70 = .ok (.if_icmp .ge (19), 3) := by decide +kernel
theorem d_Ring_nextFirst_73 : decode (rm_code mRing_nextFirst) 73 = .ok (.iload_n 2, 1) := by decide +kernel
theorem d_Ring_nextFirst_74 : decode (rm_code mRing_nextFirst) 74 = .ok (.iload 4, 2) := by decide +kernel
theorem d_Ring_nextFirst_76 : decode (rm_code mRing_nextFirst) 76 = .ok (.ishr, 1) := by decide +kernel
theorem d_Ring_nextFirst_77 : decode (rm_code mRing_nextFirst) 77 = .ok (.iconst 1, 1) := by decide +kernel
theorem d_Ring_nextFirst_78 : decode (rm_code mRing_nextFirst) 78 = .ok (.iand, 1) := by decide +kernel
theorem d_Ring_nextFirst_79 : decode (rm_code mRing_nextFirst) 79 = .ok (.iconst 1, 1) := by decide +kernel
theorem d_Ring_nextFirst_80 : decode (rm_code mRing_nextFirst) 80 = .ok (.if_icmp .ne (9), 3) := by decide +kernel
theorem d_Ring_nextFirst_83 : decode (rm_code mRing_nextFirst) 83 = .ok (.iinc 4 (1), 3) := by decide +kernel
theorem d_Ring_nextFirst_86 : decode (rm_code mRing_nextFirst) 86 = .ok (.goto (-20), 3) := by decide +kernel
theorem d_Ring_nextFirst_89 : decode (rm_code mRing_nextFirst) 89 = .ok (.iload 4, 2) := by decide +kernel
theorem d_Ring_nextFirst_91 : decode (rm_code mRing_nextFirst) 91 = .ok (.bipush (8), 2) := by decide +kernel
theorem d_Ring_nextFirst_93 : decode (rm_code mRing_nextFirst) 93 = .ok (.if_icmp .ne (34), 3) := by decide +kernel
theorem d_Ring_nextFirst_96 : decode (rm_code mRing_nextFirst) 96 = .ok (.aload_n 0, 1) := by decide +kernel
theorem d_Ring_nextFirst_97 : decode (rm_code mRing_nextFirst) 97 = .ok (.aload_n 0, 1) := by decide +kernel
theorem d_Ring_nextFirst_98 : decode (rm_code mRing_nextFirst) 98 = .ok (.getfield 49, 3) := by decide +kernel
theorem d_Ring_nextFirst_101 : decode (rm_code mRing_nextFirst) 101 = .ok (.bipush (8), 2) := by decide +kernel
theorem d_Ring_nextFirst_103 : decode (rm_code mRing_nextFirst) 103 = .ok (.iadd, 1) := by decide +kernel
theorem d_Ring_nextFirst_104 : decode (rm_code mRing_nextFirst) 104 = .ok (.bipush (10), 2) := by decide +kernel
theorem d_Ring_nextFirst_106 : decode (rm_code mRing_nextFirst) 106 = .ok (.if_icmp .ge (13), 3) := by decide +kernel
theorem d_Ring_nextFirst_109 : decode (rm_code mRing_nextFirst) 109 = .ok (.aload_n 0, 1) := by decide +kernel
theorem d_Ring_nextFirst_110 : decode (rm_code mRing_nextFirst) 110 = .ok (.getfield 49, 3) := by decide +kernel
theorem d_Ring_nextFirst_113 : decode (rm_code mRing_nextFirst) 113 = .ok (.bipush (8), 2) := by decide +kernel
theorem d_Ring_nextFirst_115 : decode (rm_code mRing_nextFirst) 115 = .ok (.iadd, 1) := by decide +kernel
theorem d_Ring_nextFirst_116 : decode (rm_code mRing_nextFirst) 116 = .ok (.goto (5), 3) := by decide +kernel
theorem d_Ring_nextFirst_119 : decode (rm_code mRing_nextFirst) 119 = .ok (.bipush (10), 2) := by decide +kernel
theorem d_Ring_nextFirst_121 : decode (rm_code mRing_nextFirst) 121 = .ok (.putfield 49, 3) := by decide +kernel
theorem d_Ring_nextFirst_124 : decode (rm_code mRing_nextFirst) 124 = .ok (.goto (34), 3) := by decide +kernel
theorem d_Ring_nextFirst_127 : decode (rm_code mRing_nextFirst) 127 = .ok (.aload_n 0, 1) := by decide +kernel
theorem d_Ring_nextFirst_128 : decode (rm_code mRing_nextFirst) 128 = .ok (.getfield 49, 3) := by decide +kernel
theorem d_Ring_nextFirst_131 : decode (rm_code mRing_nextFirst) 131 = .ok (.iload_n 3, 1) := by decide +kernel
theorem d_Ring_nextFirst_132 : decode (rm_code mRing_nextFirst) 132 = .ok (.iadd, 1) := by decide +kernel
theorem d_Ring_nextFirst_133 : decode (rm_code mRing_nextFirst) 133 = .ok (.bipush (10), 2) := by decide +kernel
theorem d_Ring_nextFirst_135 : decode (rm_code mRing_nextFirst) 135 = .ok (.if_icmp .lt (15), 3) := by decide +kernel
theorem d_Ring_nextFirst_138 : decode (rm_code mRing_nextFirst) 138 = .ok (.bipush (8), 2) := by decide +kernel
theorem d_Ring_nextFirst_140 : decode (rm_code mRing_nextFirst) 140 = .ok (.aload_n 0, 1) := by decide +kernel
theorem d_Ring_nextFirst_141 : decode (rm_code mRing_nextFirst) 141 = .ok (.getfield 46, 3) := by decide +kernel
theorem d_Ring_nextFirst_144 : decode (rm_code mRing_nextFirst) 144 = .ok (.imul, 1) := by decide +kernel
theorem d_Ring_nextFirst_145 : decode (rm_code mRing_nextFirst) 145 = .ok (.iload_n 3, 1) := by decide +kernel
theorem d_Ring_nextFirst_146 : decode (rm_code mRing_nextFirst) 146 = .ok (.iadd, 1) := by decide +kernel
theorem d_Ring_nextFirst_147 : decode (rm_code mRing_nextFirst) 147 = .ok (.goto (4), 3) := by decide +kernel
theorem d_Ring_nextFirst_150 : decode (rm_code mRing_nextFirst) 150 = .ok (.iconst (-1), 1) := by decide +kernel
theorem d_Ring_nextFirst_151 : decode (rm_code mRing_nextFirst) 151 = .ok (.istore_n 1, 1) := by decide +kernel
theorem d_Ring_nextFirst_152 : decode (rm_code mRing_nextFirst) 152 = .ok (.aload_n 0, 1) := by decide +kernel
theorem d_Ring_nextFirst_153 : decode (rm_code mRing_nextFirst) 153 = .ok (.iload 4, 2) := by decide +kernel
theorem d_Ring_nextFirst_155 : decode (rm_code mRing_nextFirst) 155 = .ok (.putfield 49, 3) := by decide +kernel
theorem d_Ring_nextFirst_158 : decode (rm_code mRing_nextFirst) 158 = .ok (.aload_n 0, 1) := by decide +kernel
theorem d_Ring_nextFirst_159 : decode (rm_code mRing_nextFirst) 159 = .ok (.dup, 1) := by decide +kernel
theorem d_Ring_nextFirst_160 : decode (rm_code mRing_nextFirst) 160 = .ok (.getfield 46, 3) := by decide +kernel
theorem d_Ring_nextFirst_163 : decode (rm_code mRing_nextFirst) 163 = .ok (.iconst 1, 1) := by decide +kernel
theorem d_Ring_nextFirst_164 : decode (rm_code mRing_nextFirst) 164 = .ok (.iadd, 1) := by decide +kernel
theorem d_Ring_nextFirst_165 : decode (rm_code mRing_nextFirst) 165 = .ok (.putfield 46, 3) := by decide +kernel
theorem d_Ring_nextFirst_168 : decode (rm_code mRing_nextFirst) 168 = .ok (.goto (-166), 3) := by decide +kernel
theorem d_Ring_nextFirst_171 : decode (rm_code mRing_nextFirst) 171 = .ok (.iload_n 1, 1) := by decide +kernel
theorem d_Ring_nextFirst_172 : decode (rm_code mRing_nextFirst) 172 = .ok (.ireturn, 1) := by decide +kernel
theorem p_Ring_nextFirst_0 {S : rz_S} {K : Int32 → rz_S → Prop} {a0 : Nat} (ha0 : rgP a0) (w : rz mRing_nextFirst 2 [(0, .ref a0), (1, .int (-1))] [] S (rz_i K)) : rz mRing_nextFirst 0 [(0, .ref a0)] [] S (rz_i K) := by
  have za0 := rgZ ha0
  refine rz_iconst (v := -1) d_Ring_nextFirst_0 (by decide) ?_
  refine rz_pure (pc' := 2) (l' := [(1, .int (-1)), (0, .ref a0)]) d_Ring_nextFirst_1 rfl ?_
  exact rz_pick (ks := [0, 1]) (l := [(0, .ref a0), (1, .int (-1))]) rfl rfl (by decide) rfl w
theorem p_Ring_nextFirst_2 {S : rz_S} {K : Int32 → rz_S → Prop} {a0 : Nat} (ha0 : rgP a0) {a1 : Int32} (w : ((Int32.ofNat (rgN a0) ≤ S.2 a0 6 → K a1 S) ∧ (¬ Int32.ofNat (rgN a0) ≤ S.2 a0 6 → ((a1 = (-1) → rx_in (S.2 a0 6) (rgN a0) = true ∧ rz mRing_nextFirst 34 [(0, .ref a0), (1, .int a1), (2, .int (S.1 (a0 + 1) ((S.2 a0 6).toNatClampNeg))), (3, .int 0), (4, .int 0)] [] S (rz_i K)) ∧ (¬ a1 = (-1) → K a1 S))))) : rz mRing_nextFirst 2 [(0, .ref a0), (1, .int a1)] [] S (rz_i K) := by
  have za0 := rgZ ha0
  refine rz_pure (pc' := 3) d_Ring_nextFirst_2 rfl ?_
  refine rz_getiv (v := S.2 a0 6) d_Ring_nextFirst_3 f_8_46 (rgT ha0) rfl rfl ?_
  refine rz_pure (pc' := 7) d_Ring_nextFirst_6 rfl ?_
  refine rz_getr d_Ring_nextFirst_7 f_8_15 (rgT ha0) rfl ?_
  refine rz_alenv (v := Int32.ofNat (rgN a0)) d_Ring_nextFirst_10 (rgC ha0) (by decide) rfl ?_
  refine rz_icmpge (tgt := 171) d_Ring_nextFirst_11 rfl (fun b1 => ?_) (fun b1 => ?_)
  · skip
    refine rz_pure (pc' := 172) d_Ring_nextFirst_171 rfl ?_
    exact rz_ireti d_Ring_nextFirst_172 rfl rfl (w.1 b1)
  · skip
    refine rz_pure (pc' := 15) d_Ring_nextFirst_14 rfl ?_
    refine rz_iconst (v := -1) d_Ring_nextFirst_15 (by decide) ?_
    refine rz_icmpne (tgt := 171) d_Ring_nextFirst_16 rfl (fun b2 => ?_) (fun b2 => ?_)
    · skip
      refine rz_pure (pc' := 172) d_Ring_nextFirst_171 rfl ?_
      exact rz_ireti d_Ring_nextFirst_172 rfl rfl ((w.2 b1).2 b2)
    · skip
      refine rz_pure (pc' := 20) d_Ring_nextFirst_19 rfl ?_
      refine rz_getr d_Ring_nextFirst_20 f_8_15 (rgT ha0) rfl ?_
      refine rz_pure (pc' := 24) d_Ring_nextFirst_23 rfl ?_
      refine rz_getiv (v := S.2 a0 6) d_Ring_nextFirst_24 f_8_46 (rgT ha0) rfl rfl ?_
      refine rz_ialdv (F := S.1 (a0 + 1)) (i := (S.2 a0 6).toNatClampNeg) d_Ring_nextFirst_27 (rgC ha0) ((w.2 b1).1 b2).1 rfl rfl ?_
      refine rz_pure (pc' := 29) (l' := [(2, .int (S.1 (a0 + 1) ((S.2 a0 6).toNatClampNeg))), (0, .ref a0), (1, .int a1)]) d_Ring_nextFirst_28 rfl ?_
      refine rz_iconst (v := 0) d_Ring_nextFirst_29 (by decide) ?_
      refine rz_pure (pc' := 31) (l' := [(3, .int 0), (2, .int (S.1 (a0 + 1) ((S.2 a0 6).toNatClampNeg))), (0, .ref a0), (1, .int a1)]) d_Ring_nextFirst_30 rfl ?_
      refine rz_iconst (v := 0) d_Ring_nextFirst_31 (by decide) ?_
      refine rz_pure (pc' := 34) (l' := [(4, .int 0), (3, .int 0), (2, .int (S.1 (a0 + 1) ((S.2 a0 6).toNatClampNeg))), (0, .ref a0), (1, .int a1)]) d_Ring_nextFirst_32 rfl ?_
      exact rz_pick (ks := [0, 1, 2, 3, 4]) (l := [(0, .ref a0), (1, .int a1), (2, .int (S.1 (a0 + 1) ((S.2 a0 6).toNatClampNeg))), (3, .int 0), (4, .int 0)]) rfl rfl (by decide) rfl ((w.2 b1).1 b2).2
theorem p_Ring_nextFirst_34 {S : rz_S} {K : Int32 → rz_S → Prop} {a0 : Nat} (ha0 : rgP a0) {a1 : Int32} {a2 : Int32} {a3 : Int32} {a4 : Int32} (w : ((8 ≤ a3 → rz mRing_nextFirst 66 [(0, .ref a0), (1, .int a1), (2, .int a2), (3, .int a3), (4, .int a4)] [] S (rz_i K)) ∧ (¬ 8 ≤ a3 → ((S.2 a0 7 < 3 → rz mRing_nextFirst 66 [(0, .ref a0), (1, .int a1), (2, .int a2), (3, .int a3), (4, .int a4)] [] S (rz_i K)) ∧ (¬ S.2 a0 7 < 3 → (((a2 >>> ((7 - a3) &&& 31)) &&& 1 = 1 → rz mRing_nextFirst 34 [(0, .ref a0), (1, .int a1), (2, .int a2), (3, .int (a3 + 1)), (4, .int a4)] [] S (rz_i K)) ∧ (¬ (a2 >>> ((7 - a3) &&& 31)) &&& 1 = 1 → rz mRing_nextFirst 66 [(0, .ref a0), (1, .int a1), (2, .int a2), (3, .int a3), (4, .int a4)] [] S (rz_i K)))))))) : rz mRing_nextFirst 34 [(0, .ref a0), (1, .int a1), (2, .int a2), (3, .int a3), (4, .int a4)] [] S (rz_i K) := by
  have za0 := rgZ ha0
  refine rz_pure (pc' := 35) d_Ring_nextFirst_34 rfl ?_
  refine rz_bipush (v := 8) d_Ring_nextFirst_35 (by decide) ?_
  refine rz_icmpge (tgt := 66) d_Ring_nextFirst_37 rfl (fun b1 => ?_) (fun b1 => ?_)
  · skip
    exact rz_pick (ks := [0, 1, 2, 3, 4]) (l := [(0, .ref a0), (1, .int a1), (2, .int a2), (3, .int a3), (4, .int a4)]) rfl rfl (by decide) rfl (w.1 b1)
  · skip
    refine rz_pure (pc' := 41) d_Ring_nextFirst_40 rfl ?_
    refine rz_getiv (v := S.2 a0 7) d_Ring_nextFirst_41 f_8_49 (rgT ha0) rfl rfl ?_
    refine rz_iconst (v := 3) d_Ring_nextFirst_44 (by decide) ?_
    refine rz_icmplt (tgt := 66) d_Ring_nextFirst_45 rfl (fun b2 => ?_) (fun b2 => ?_)
    · skip
      exact rz_pick (ks := [0, 1, 2, 3, 4]) (l := [(0, .ref a0), (1, .int a1), (2, .int a2), (3, .int a3), (4, .int a4)]) rfl rfl (by decide) rfl ((w.2 b1).1 b2)
    · skip
      refine rz_pure (pc' := 49) d_Ring_nextFirst_48 rfl ?_
      refine rz_bipush (v := 7) d_Ring_nextFirst_49 (by decide) ?_
      refine rz_pure (pc' := 52) d_Ring_nextFirst_51 rfl ?_
      refine rz_isub d_Ring_nextFirst_52 ?_
      refine rz_ishr d_Ring_nextFirst_53 ?_
      refine rz_iconst (v := 1) d_Ring_nextFirst_54 (by decide) ?_
      refine rz_iand d_Ring_nextFirst_55 ?_
      refine rz_iconst (v := 1) d_Ring_nextFirst_56 (by decide) ?_
      refine rz_icmpne (tgt := 66) d_Ring_nextFirst_57 rfl (fun b3 => ?_) (fun b3 => ?_)
      · skip
        exact rz_pick (ks := [0, 1, 2, 3, 4]) (l := [(0, .ref a0), (1, .int a1), (2, .int a2), (3, .int a3), (4, .int a4)]) rfl rfl (by decide) rfl (((w.2 b1).2 b2).2 b3)
      · skip
        refine rz_pure (pc' := 63) (l' := [(3, .int (a3 + 1)), (0, .ref a0), (1, .int a1), (2, .int a2), (4, .int a4)]) d_Ring_nextFirst_60 rfl ?_
        refine rz_pure (pc' := 34) d_Ring_nextFirst_63 rfl ?_
        exact rz_pick (ks := [0, 1, 2, 3, 4]) (l := [(0, .ref a0), (1, .int a1), (2, .int a2), (3, .int (a3 + 1)), (4, .int a4)]) rfl rfl (by decide) rfl (((w.2 b1).2 b2).1 b3)
theorem p_Ring_nextFirst_66 {S : rz_S} {K : Int32 → rz_S → Prop} {a0 : Nat} (ha0 : rgP a0) {a1 : Int32} {a2 : Int32} {a3 : Int32} {a4 : Int32} (w : ((8 ≤ a4 → rz mRing_nextFirst 89 [(0, .ref a0), (1, .int a1), (3, .int a3), (4, .int a4)] [] S (rz_i K)) ∧ (¬ 8 ≤ a4 → (((a2 >>> (a4 &&& 31)) &&& 1 = 1 → rz mRing_nextFirst 66 [(0, .ref a0), (1, .int a1), (2, .int a2), (3, .int a3), (4, .int (a4 + 1))] [] S (rz_i K)) ∧ (¬ (a2 >>> (a4 &&& 31)) &&& 1 = 1 → rz mRing_nextFirst 89 [(0, .ref a0), (1, .int a1), (3, .int a3), (4, .int a4)] [] S (rz_i K)))))) : rz mRing_nextFirst 66 [(0, .ref a0), (1, .int a1), (2, .int a2), (3, .int a3), (4, .int a4)] [] S (rz_i K) := by
  have za0 := rgZ ha0
  refine rz_pure (pc' := 68) d_Ring_nextFirst_66 rfl ?_
  refine rz_bipush (v := 8) d_Ring_nextFirst_68 (by decide) ?_
  refine rz_icmpge (tgt := 89) d_Ring_nextFirst_70 rfl (fun b1 => ?_) (fun b1 => ?_)
  · skip
    exact rz_pick (ks := [0, 1, 3, 4]) (l := [(0, .ref a0), (1, .int a1), (3, .int a3), (4, .int a4)]) rfl rfl (by decide) rfl (w.1 b1)
  · skip
    refine rz_pure (pc' := 74) d_Ring_nextFirst_73 rfl ?_
    refine rz_pure (pc' := 76) d_Ring_nextFirst_74 rfl ?_
    refine rz_ishr d_Ring_nextFirst_76 ?_
    refine rz_iconst (v := 1) d_Ring_nextFirst_77 (by decide) ?_
    refine rz_iand d_Ring_nextFirst_78 ?_
    refine rz_iconst (v := 1) d_Ring_nextFirst_79 (by decide) ?_
    refine rz_icmpne (tgt := 89) d_Ring_nextFirst_80 rfl (fun b2 => ?_) (fun b2 => ?_)
    · skip
      exact rz_pick (ks := [0, 1, 3, 4]) (l := [(0, .ref a0), (1, .int a1), (3, .int a3), (4, .int a4)]) rfl rfl (by decide) rfl ((w.2 b1).2 b2)
    · skip
      refine rz_pure (pc' := 86) (l' := [(4, .int (a4 + 1)), (0, .ref a0), (1, .int a1), (2, .int a2), (3, .int a3)]) d_Ring_nextFirst_83 rfl ?_
      refine rz_pure (pc' := 66) d_Ring_nextFirst_86 rfl ?_
      exact rz_pick (ks := [0, 1, 2, 3, 4]) (l := [(0, .ref a0), (1, .int a1), (2, .int a2), (3, .int a3), (4, .int (a4 + 1))]) rfl rfl (by decide) rfl ((w.2 b1).1 b2)
theorem p_Ring_nextFirst_89 {S : rz_S} {K : Int32 → rz_S → Prop} {a0 : Nat} (ha0 : rgP a0) {a1 : Int32} {a3 : Int32} {a4 : Int32} (w : ((a4 = 8 → ((10 ≤ (S.2 a0 7) + 8 → rz mRing_nextFirst 2 [(0, .ref a0), (1, .int a1)] [] (rz_uI (rz_uI S a0 7 10) a0 6 ((S.2 a0 6) + 1)) (rz_i K)) ∧ (¬ 10 ≤ (S.2 a0 7) + 8 → rz mRing_nextFirst 2 [(0, .ref a0), (1, .int a1)] [] (rz_uI (rz_uI S a0 7 ((S.2 a0 7) + 8)) a0 6 ((S.2 a0 6) + 1)) (rz_i K)))) ∧ (¬ a4 = 8 → (((S.2 a0 7) + a3 < 10 → rz mRing_nextFirst 151 [(0, .ref a0), (4, .int a4)] [.int (-1)] S (rz_i K)) ∧ (¬ (S.2 a0 7) + a3 < 10 → rz mRing_nextFirst 151 [(0, .ref a0), (4, .int a4)] [.int ((8 * (S.2 a0 6)) + a3)] S (rz_i K)))))) : rz mRing_nextFirst 89 [(0, .ref a0), (1, .int a1), (3, .int a3), (4, .int a4)] [] S (rz_i K) := by
  have za0 := rgZ ha0
  refine rz_pure (pc' := 91) d_Ring_nextFirst_89 rfl ?_
  refine rz_bipush (v := 8) d_Ring_nextFirst_91 (by decide) ?_
  refine rz_icmpne (tgt := 127) d_Ring_nextFirst_93 rfl (fun b1 => ?_) (fun b1 => ?_)
  · skip
    refine rz_pure (pc' := 128) d_Ring_nextFirst_127 rfl ?_
    refine rz_getiv (v := S.2 a0 7) d_Ring_nextFirst_128 f_8_49 (rgT ha0) rfl rfl ?_
    refine rz_pure (pc' := 132) d_Ring_nextFirst_131 rfl ?_
    refine rz_iadd d_Ring_nextFirst_132 ?_
    refine rz_bipush (v := 10) d_Ring_nextFirst_133 (by decide) ?_
    refine rz_icmplt (tgt := 150) d_Ring_nextFirst_135 rfl (fun b2 => ?_) (fun b2 => ?_)
    · skip
      refine rz_iconst (v := -1) d_Ring_nextFirst_150 (by decide) ?_
      exact rz_pick (ks := [0, 4]) (l := [(0, .ref a0), (4, .int a4)]) rfl rfl (by decide) rfl ((w.2 b1).1 b2)
    · skip
      refine rz_bipush (v := 8) d_Ring_nextFirst_138 (by decide) ?_
      refine rz_pure (pc' := 141) d_Ring_nextFirst_140 rfl ?_
      refine rz_getiv (v := S.2 a0 6) d_Ring_nextFirst_141 f_8_46 (rgT ha0) rfl rfl ?_
      refine rz_imul d_Ring_nextFirst_144 ?_
      refine rz_pure (pc' := 146) d_Ring_nextFirst_145 rfl ?_
      refine rz_iadd d_Ring_nextFirst_146 ?_
      refine rz_pure (pc' := 151) d_Ring_nextFirst_147 rfl ?_
      exact rz_pick (ks := [0, 4]) (l := [(0, .ref a0), (4, .int a4)]) rfl rfl (by decide) rfl ((w.2 b1).2 b2)
  · skip
    refine rz_pure (pc' := 97) d_Ring_nextFirst_96 rfl ?_
    refine rz_pure (pc' := 98) d_Ring_nextFirst_97 rfl ?_
    refine rz_getiv (v := S.2 a0 7) d_Ring_nextFirst_98 f_8_49 (rgT ha0) rfl rfl ?_
    refine rz_bipush (v := 8) d_Ring_nextFirst_101 (by decide) ?_
    refine rz_iadd d_Ring_nextFirst_103 ?_
    refine rz_bipush (v := 10) d_Ring_nextFirst_104 (by decide) ?_
    refine rz_icmpge (tgt := 119) d_Ring_nextFirst_106 rfl (fun b3 => ?_) (fun b3 => ?_)
    · skip
      refine rz_bipush (v := 10) d_Ring_nextFirst_119 (by decide) ?_
      refine rz_puti d_Ring_nextFirst_121 f_8_49 (rgT ha0) rfl rfl ?_
      refine rz_pure (pc' := 158) d_Ring_nextFirst_124 rfl ?_
      refine rz_pure (pc' := 159) d_Ring_nextFirst_158 rfl ?_
      refine rz_pure (pc' := 160) d_Ring_nextFirst_159 rfl ?_
      refine rz_getiv (v := S.2 a0 6) d_Ring_nextFirst_160 f_8_46 (rgT ha0) rfl ((rz_uI_n (fun h => absurd h.2 (by decide))).trans rfl) ?_
      refine rz_iconst (v := 1) d_Ring_nextFirst_163 (by decide) ?_
      refine rz_iadd d_Ring_nextFirst_164 ?_
      refine rz_puti d_Ring_nextFirst_165 f_8_46 (rgT ha0) rfl rfl ?_
      refine rz_pure (pc' := 2) d_Ring_nextFirst_168 rfl ?_
      exact rz_pick (ks := [0, 1]) (l := [(0, .ref a0), (1, .int a1)]) rfl rfl (by decide) rfl ((w.1 b1).1 b3)
    · skip
      refine rz_pure (pc' := 110) d_Ring_nextFirst_109 rfl ?_
      refine rz_getiv (v := S.2 a0 7) d_Ring_nextFirst_110 f_8_49 (rgT ha0) rfl rfl ?_
      refine rz_bipush (v := 8) d_Ring_nextFirst_113 (by decide) ?_
      refine rz_iadd d_Ring_nextFirst_115 ?_
      refine rz_pure (pc' := 121) d_Ring_nextFirst_116 rfl ?_
      refine rz_puti d_Ring_nextFirst_121 f_8_49 (rgT ha0) rfl rfl ?_
      refine rz_pure (pc' := 158) d_Ring_nextFirst_124 rfl ?_
      refine rz_pure (pc' := 159) d_Ring_nextFirst_158 rfl ?_
      refine rz_pure (pc' := 160) d_Ring_nextFirst_159 rfl ?_
      refine rz_getiv (v := S.2 a0 6) d_Ring_nextFirst_160 f_8_46 (rgT ha0) rfl ((rz_uI_n (fun h => absurd h.2 (by decide))).trans rfl) ?_
      refine rz_iconst (v := 1) d_Ring_nextFirst_163 (by decide) ?_
      refine rz_iadd d_Ring_nextFirst_164 ?_
      refine rz_puti d_Ring_nextFirst_165 f_8_46 (rgT ha0) rfl rfl ?_
      refine rz_pure (pc' := 2) d_Ring_nextFirst_168 rfl ?_
      exact rz_pick (ks := [0, 1]) (l := [(0, .ref a0), (1, .int a1)]) rfl rfl (by decide) rfl ((w.1 b1).2 b3)
theorem p_Ring_nextFirst_151 {S : rz_S} {K : Int32 → rz_S → Prop} {a0 : Nat} (ha0 : rgP a0) {a4 : Int32} {s0 : Int32} (w : rz mRing_nextFirst 2 [(0, .ref a0), (1, .int s0)] [] (rz_uI (rz_uI S a0 7 a4) a0 6 ((S.2 a0 6) + 1)) (rz_i K)) : rz mRing_nextFirst 151 [(0, .ref a0), (4, .int a4)] [.int s0] S (rz_i K) := by
  have za0 := rgZ ha0
  refine rz_pure (pc' := 152) (l' := [(1, .int s0), (0, .ref a0), (4, .int a4)]) d_Ring_nextFirst_151 rfl ?_
  refine rz_pure (pc' := 153) d_Ring_nextFirst_152 rfl ?_
  refine rz_pure (pc' := 155) d_Ring_nextFirst_153 rfl ?_
  refine rz_puti d_Ring_nextFirst_155 f_8_49 (rgT ha0) rfl rfl ?_
  refine rz_pure (pc' := 159) d_Ring_nextFirst_158 rfl ?_
  refine rz_pure (pc' := 160) d_Ring_nextFirst_159 rfl ?_
  refine rz_getiv (v := S.2 a0 6) d_Ring_nextFirst_160 f_8_46 (rgT ha0) rfl ((rz_uI_n (fun h => absurd h.2 (by decide))).trans rfl) ?_
  refine rz_iconst (v := 1) d_Ring_nextFirst_163 (by decide) ?_
  refine rz_iadd d_Ring_nextFirst_164 ?_
  refine rz_puti d_Ring_nextFirst_165 f_8_46 (rgT ha0) rfl rfl ?_
  refine rz_pure (pc' := 2) d_Ring_nextFirst_168 rfl ?_
  exact rz_pick (ks := [0, 1]) (l := [(0, .ref a0), (1, .int s0)]) rfl rfl (by decide) rfl w
theorem d_Ring_next_0 : decode (rm_code mRing_next) 0 = .ok (.iconst 0, 1) := by decide +kernel
theorem d_Ring_next_1 : decode (rm_code mRing_next) 1 = .ok (.istore_n 1, 1) := by decide +kernel
theorem d_Ring_next_2 : decode (rm_code mRing_next) 2 = .ok (.iconst 0, 1) := by decide +kernel
theorem d_Ring_next_3 : decode (rm_code mRing_next) 3 = .ok (.istore_n 2, 1) := by decide +kernel
theorem d_Ring_next_4 : decode (rm_code mRing_next) 4 = .ok (.aload_n 0, 1) := by decide +kernel
theorem d_Ring_next_5 : decode (rm_code mRing_next) 5 = .ok (.iconst 0, 1) := by decide +kernel
theorem d_Ring_next_6 : decode (rm_code mRing_next) 6 = .ok (.putfield 52, 3) := by decide +kernel
theorem d_Ring_next_9 : decode (rm_code mRing_next) 9 = .ok (.iconst 0, 1) := by decide +kernel
theorem d_Ring_next_10 : decode (rm_code mRing_next) 10 = .ok (.istore_n 3, 1) := by decide +kernel
theorem d_Ring_next_11 : decode (rm_code mRing_next) 11 = .ok (.iload_n 3, 1) := by decide +kernel
theorem d_Ring_next_12 : decode (rm_code mRing_next) 12 = .ok (.aload_n 0, 1) := by decide +kernel
theorem d_Ring_next_13 : decode (rm_code mRing_next) 13 = .ok (.getfield 21, 3) := by decide +kernel
theorem d_Ring_next_16 : decode (rm_code mRing_next) 16 = .ok (.bipush (8), 2) := by decide +kernel
theorem d_Ring_next_18 : decode (rm_code mRing_next) 18 = .ok (.iadd, 1) := by decide +kernel
theorem d_Ring_next_19 : decode (rm_code mRing_next) 19 = .ok (.if_icmp .gt (144), 3) := by decide +kernel
theorem d_Ring_next_22 : decode (rm_code mRing_next) 22 = .ok (.iload_n 2, 1) := by decide +kernel
theorem d_Ring_next_23 : decode (rm_code mRing_next) 23 = .ok (.bipush (8), 2) := by decide +kernel
theorem d_Ring_next_25 : decode (rm_code mRing_next) 25 = .ok (.if_icmp .ge (138), 3) := by decide +kernel
theorem d_Ring_next_28 : decode (rm_code mRing_next) 28 = .ok (.aload_n 0, 1) := by decide +kernel
theorem d_Ring_next_29 : decode (rm_code mRing_next) 29 = .ok (.getfield 15, 3) := by decide +kernel
theorem d_Ring_next_32 : decode (rm_code mRing_next) 32 = .ok (.aload_n 0, 1) := by decide +kernel
theorem d_Ring_next_33 : decode (rm_code mRing_next) 33 = .ok (.getfield 36, 3) := by decide +kernel
theorem d_Ring_next_36 : decode (rm_code mRing_next) 36 = .ok (.iconst 3, 1) := by decide +kernel
theorem d_Ring_next_37 : decode (rm_code mRing_next) 37 = .ok (.ishr, 1) := by decide +kernel
theorem d_Ring_next_38 : decode (rm_code mRing_next) 38 = .ok (.iaload, 1) := by decide +kernel
theorem d_Ring_next_39 : decode (rm_code mRing_next) 39 = .ok (.bipush (7), 2) := by decide +kernel
theorem d_Ring_next_41 : decode (rm_code mRing_next) 41 = .ok (.aload_n 0, 1) := by decide +kernel
theorem d_Ring_next_42 : decode (rm_code mRing_next) 42 = .ok (.getfield 36, 3) := by decide +kernel
theorem d_Ring_next_45 : decode (rm_code mRing_next) 45 = .ok (.bipush (7), 2) := by decide +kernel
theorem d_Ring_next_47 : decode (rm_code mRing_next) 47 = .ok (.iand, 1) := by decide +kernel
theorem d_Ring_next_48 : decode (rm_code mRing_next) 48 = .ok (.isub, 1) := by decide +kernel
theorem d_Ring_next_49 : decode (rm_code mRing_next) 49 = .ok (.ishr, 1) := by decide +kernel
theorem d_Ring_next_50 : decode (rm_code mRing_next) 50 = .ok (.iconst 1, 1) := by decide +kernel
theorem d_Ring_next_51 : decode (rm_code mRing_next) 51 = .ok (.iand, 1) := by decide +kernel
theorem d_Ring_next_52 : decode (rm_code mRing_next) 52 = .ok (.istore 4, 2) := by decide +kernel
theorem d_Ring_next_54 : decode (rm_code mRing_next) 54 = .ok (.aload_n 0, 1) := by decide +kernel
theorem d_Ring_next_55 : decode (rm_code mRing_next) 55 = .ok (.aload_n 0, 1) := by decide +kernel
theorem d_Ring_next_56 : decode (rm_code mRing_next) 56 = .ok (.getfield 36, 3) := by decide +kernel
theorem d_Ring_next_59 : decode (rm_code mRing_next) 59 = .ok (.iconst 1, 1) := by decide +kernel
theorem d_Ring_next_60 : decode (rm_code mRing_next) 60 = .ok (.iadd, 1) := by decide +kernel
theorem d_Ring_next_61 : decode (rm_code mRing_next) 61 = .ok (.aload_n 0, 1) := by decide +kernel
theorem d_Ring_next_62 : decode (rm_code mRing_next) 62 = .ok (.getfield 21, 3) := by decide +kernel
theorem d_Ring_next_65 : decode (rm_code mRing_next) 65 = .ok (.if_icmp .ge (12), 3) := by decide +kernel
theorem d_Ring_next_68 : decode (rm_code mRing_next) 68 = .ok (.aload_n 0, 1) := by decide +kernel
theorem d_Ring_next_69 : decode (rm_code mRing_next) 69 = .ok (.getfield 36, 3) := by decide +kernel
theorem d_Ring_next_72 : decode (rm_code mRing_next) 72 = .ok (.iconst 1, 1) := by decide +kernel
theorem d_Ring_next_73 : decode (rm_code mRing_next) 73 = .ok (.iadd, 1) := by decide +kernel
theorem d_Ring_next_74 : decode (rm_code mRing_next) 74 = .ok (.goto (4), 3) := by decide +kernel
theorem d_Ring_next_77 : decode (rm_code mRing_next) 77 = .ok (.iconst 0, 1) := by decide +kernel
theorem d_Ring_next_78 : decode (rm_code mRing_next) 78 = .ok (.putfield 36, 3) := by decide +kernel
theorem d_Ring_next_81 : decode (rm_code mRing_next) 81 = .ok (.iload 4, 2) := by decide +kernel
theorem d_Ring_next_83 : decode (rm_code mRing_next) 83 = .ok (.ifCond .ne (17), 3) := by decide +kernel
theorem d_Ring_next_86 : decode (rm_code mRing_next) 86 = .ok (.aload_n 0, 1) := by decide +kernel
theorem d_Ring_next_87 : decode (rm_code mRing_next) 87 = .ok (.getfield 43, 3) := by decide +kernel
theorem d_Ring_next_90 : decode (rm_code mRing_next) 90 = .ok (.bipush (10), 2) := by decide +kernel
theorem d_Ring_next_92 : decode (rm_code mRing_next) 92 = .ok (.if_icmp .lt (8), 3) := by decide +kernel
theorem d_Ring_next_95 : decode (rm_code mRing_next) 95 = .ok (.aload_n 0, 1) := by decide +kernel
theorem d_Ring_next_96 : decode (rm_code mRing_next) 96 = .ok (.iconst 1, 1) := by decide +kernel
theorem d_Ring_next_97 : decode (rm_code mRing_next) 97 = .ok (.putfield 52, 3) := by decide +kernel
theorem d_Ring_next_100 : decode (rm_code mRing_next) 100 = .ok (.aload_n 0, 1) := by decide +kernel
theorem d_Ring_next_101 : decode (rm_code mRing_next) 101 = .ok (.iload 4, 2) := by decide +kernel
theorem d_Ring_next_103 : decode (rm_code mRing_next) 103 = .ok (.ifCond .ne (7), 3) := by decide +kernel
theorem d_Ring_next_106 : decode (rm_code mRing_next) 106 = .ok (.iconst 0, 1) := by decide +kernel
theorem d_Ring_next_107 : decode (rm_code mRing_next) 107 = .ok (.goto (23), 3) := by decide +kernel
theorem d_Ring_next_110 : decode (rm_code mRing_next) 110 = .ok (.aload_n 0, 1) := by decide +kernel
theorem d_Ring_next_111 : decode (rm_code mRing_next) 111 = .ok (.getfield 43, 3) := by decide +kernel
theorem d_Ring_next_114 : decode (rm_code mRing_next) 114 = .ok (.bipush (10), 2) := by decide +kernel
theorem d_Ring_next_116 : decode (rm_code mRing_next) 116 = .ok (.if_icmp .ge (12), 3) := by decide +kernel
theorem d_Ring_next_119 : decode (rm_code mRing_next) 119 = .ok (.aload_n 0, 1) := by decide +kernel
theorem d_Ring_next_120 : decode (rm_code mRing_next) 120 = .ok (.getfield 43, 3) := by decide +kernel
theorem d_Ring_next_123 : decode (rm_code mRing_next) 123 = .ok (.iconst 1, 1) := by decide +kernel
theorem d_Ring_next_124 : decode (rm_code mRing_next) 124 = .ok (.iadd, 1) := by decide +kernel
theorem d_Ring_next_125 : decode (rm_code mRing_next) 125 = .ok (.goto (5), 3) := by decide +kernel
theorem d_Ring_next_128 : decode (rm_code mRing_next) 128 = .ok (.bipush (10), 2) := by decide +kernel
theorem d_Ring_next_130 : decode (rm_code mRing_next) 130 = .ok (.putfield 43, 3) := by decide +kernel
theorem d_Ring_next_133 : decode (rm_code mRing_next) 133 = .ok (.iload_n 1, 1) := by decide +kernel
theorem d_Ring_next_134 : decode (rm_code mRing_next) 134 = .ok (.iconst 1, 1) := by decide +kernel
theorem d_Ring_next_135 : decode (rm_code mRing_next) 135 = .ok (.ishl, 1) := by decide +kernel
theorem d_Ring_next_136 : decode (rm_code mRing_next) 136 = .ok (.iload 4, 2) := by decide +kernel
theorem d_Ring_next_138 : decode (rm_code mRing_next) 138 = .ok (.ior, 1) := by decide +kernel
theorem d_Ring_next_139 : decode (rm_code mRing_next) 139 = .ok (.istore_n 1, 1) := by decide +kernel
theorem d_Ring_next_140 : decode (rm_code mRing_next) 140 = .ok (.aload_n 0, 1) := by decide +kernel
theorem d_Ring_next_141 : decode (rm_code mRing_next) 141 = .ok (.getfield 43, 3) := by decide +kernel
theorem d_Ring_next_144 : decode (rm_code mRing_next) 144 = .ok (.bipush (10), 2) := by decide +kernel
theorem d_Ring_next_146 : decode (rm_code mRing_next) 146 = .ok (.if_icmp .lt (7), 3) := by decide +kernel
theorem d_Ring_next_149 : decode (rm_code mRing_next) 149 = .ok (.iconst 0, 1) := by decide +kernel
theorem d_Ring_next_150 : decode (rm_code mRing_next) 150 = .ok (.goto (6), 3) := by decide +kernel
theorem d_Ring_next_153 : decode (rm_code mRing_next) 153 = .ok (.iload_n 2, 1) := by decide +kernel
theorem d_Ring_next_154 : decode (rm_code mRing_next) 154 = .ok (.iconst 1, 1) := by decide +kernel
theorem d_Ring_next_155 : decode (rm_code mRing_next) 155 = .ok (.iadd, 1) := by decide +kernel
theorem d_Ring_next_156 : decode (rm_code mRing_next) 156 = .ok (.istore_n 2, 1) := by decide +kernel
theorem d_Ring_next_157 : decode (rm_code mRing_next) 157 = .ok (.iinc 3 (1), 3) := by decide +kernel
theorem d_Ring_next_160 : decode (rm_code mRing_next) 160 = .ok (.goto (-149), 3) := by decide +kernel
theorem d_Ring_next_163 : decode (rm_code mRing_next) 163 = .ok (.iload_n 1, 1) := by decide +kernel
theorem d_Ring_next_164 : decode (rm_code mRing_next) 164 = .ok (.sipush (255), 3) := by decide +kernel
theorem d_Ring_next_167 : decode (rm_code mRing_next) 167 = .ok (.iand, 1) := by decide +kernel
theorem d_Ring_next_168 : decode (rm_code mRing_next) 168 = .ok (.ireturn, 1) := by decide +kernel
theorem p_Ring_next_0 {S : rz_S} {K : Int32 → rz_S → Prop} {a0 : Nat} (ha0 : rgP a0) (w : rz mRing_next 11 [(0, .ref a0), (1, .int 0), (2, .int 0), (3, .int 0)] [] (rz_uI S a0 5 0) (rz_i K)) : rz mRing_next 0 [(0, .ref a0)] [] S (rz_i K) := by
  have za0 := rgZ ha0
  refine rz_iconst (v := 0) d_Ring_next_0 (by decide) ?_
  refine rz_pure (pc' := 2) (l' := [(1, .int 0), (0, .ref a0)]) d_Ring_next_1 rfl ?_
  refine rz_iconst (v := 0) d_Ring_next_2 (by decide) ?_
  refine rz_pure (pc' := 4) (l' := [(2, .int 0), (1, .int 0), (0, .ref a0)]) d_Ring_next_3 rfl ?_
  refine rz_pure (pc' := 5) d_Ring_next_4 rfl ?_
  refine rz_iconst (v := 0) d_Ring_next_5 (by decide) ?_
  refine rz_puti d_Ring_next_6 f_8_52 (rgT ha0) rfl (by decide) ?_
  refine rz_iconst (v := 0) d_Ring_next_9 (by decide) ?_
  refine rz_pure (pc' := 11) (l' := [(3, .int 0), (2, .int 0), (1, .int 0), (0, .ref a0)]) d_Ring_next_10 rfl ?_
  exact rz_pick (ks := [0, 1, 2, 3]) (l := [(0, .ref a0), (1, .int 0), (2, .int 0), (3, .int 0)]) rfl rfl (by decide) rfl w
theorem p_Ring_next_11 {S : rz_S} {K : Int32 → rz_S → Prop} {a0 : Nat} (ha0 : rgP a0) {a1 : Int32} {a2 : Int32} {a3 : Int32} (w : (((S.2 a0 1) + 8 < a3 → K (a1 &&& 255) S) ∧ (¬ (S.2 a0 1) + 8 < a3 → ((8 ≤ a2 → K (a1 &&& 255) S) ∧ (¬ 8 ≤ a2 → rx_in ((S.2 a0 3) >>> ((3 : Int32) &&& 31)) (rgN a0) = true ∧ ((S.2 a0 1 ≤ (S.2 a0 3) + 1 → rz mRing_next 78 [(0, .ref a0), (1, .int a1), (2, .int a2), (3, .int a3), (4, .int (((S.1 (a0 + 1) (((S.2 a0 3) >>> ((3 : Int32) &&& 31)).toNatClampNeg)) >>> ((7 - ((S.2 a0 3) &&& 7)) &&& 31)) &&& 1))] [.int 0, .ref a0] S (rz_i K)) ∧ (¬ S.2 a0 1 ≤ (S.2 a0 3) + 1 → rz mRing_next 78 [(0, .ref a0), (1, .int a1), (2, .int a2), (3, .int a3), (4, .int (((S.1 (a0 + 1) (((S.2 a0 3) >>> ((3 : Int32) &&& 31)).toNatClampNeg)) >>> ((7 - ((S.2 a0 3) &&& 7)) &&& 31)) &&& 1))] [.int ((S.2 a0 3) + 1), .ref a0] S (rz_i K)))))))) : rz mRing_next 11 [(0, .ref a0), (1, .int a1), (2, .int a2), (3, .int a3)] [] S (rz_i K) := by
  have za0 := rgZ ha0
  refine rz_pure (pc' := 12) d_Ring_next_11 rfl ?_
  refine rz_pure (pc' := 13) d_Ring_next_12 rfl ?_
  refine rz_getiv (v := S.2 a0 1) d_Ring_next_13 f_8_21 (rgT ha0) rfl rfl ?_
  refine rz_bipush (v := 8) d_Ring_next_16 (by decide) ?_
  refine rz_iadd d_Ring_next_18 ?_
  refine rz_icmpgt (tgt := 163) d_Ring_next_19 rfl (fun b1 => ?_) (fun b1 => ?_)
  · skip
    refine rz_pure (pc' := 164) d_Ring_next_163 rfl ?_
    refine rz_sipush (v := 255) d_Ring_next_164 (by decide) ?_
    refine rz_iand d_Ring_next_167 ?_
    exact rz_ireti d_Ring_next_168 rfl rfl (w.1 b1)
  · skip
    refine rz_pure (pc' := 23) d_Ring_next_22 rfl ?_
    refine rz_bipush (v := 8) d_Ring_next_23 (by decide) ?_
    refine rz_icmpge (tgt := 163) d_Ring_next_25 rfl (fun b2 => ?_) (fun b2 => ?_)
    · skip
      refine rz_pure (pc' := 164) d_Ring_next_163 rfl ?_
      refine rz_sipush (v := 255) d_Ring_next_164 (by decide) ?_
      refine rz_iand d_Ring_next_167 ?_
      exact rz_ireti d_Ring_next_168 rfl rfl ((w.2 b1).1 b2)
    · skip
      refine rz_pure (pc' := 29) d_Ring_next_28 rfl ?_
      refine rz_getr d_Ring_next_29 f_8_15 (rgT ha0) rfl ?_
      refine rz_pure (pc' := 33) d_Ring_next_32 rfl ?_
      refine rz_getiv (v := S.2 a0 3) d_Ring_next_33 f_8_36 (rgT ha0) rfl rfl ?_
      refine rz_iconst (v := 3) d_Ring_next_36 (by decide) ?_
      refine rz_ishr d_Ring_next_37 ?_
      refine rz_ialdv (F := S.1 (a0 + 1)) (i := ((S.2 a0 3) >>> ((3 : Int32) &&& 31)).toNatClampNeg) d_Ring_next_38 (rgC ha0) ((w.2 b1).2 b2).1 rfl rfl ?_
      refine rz_bipush (v := 7) d_Ring_next_39 (by decide) ?_
      refine rz_pure (pc' := 42) d_Ring_next_41 rfl ?_
      refine rz_getiv (v := S.2 a0 3) d_Ring_next_42 f_8_36 (rgT ha0) rfl rfl ?_
      refine rz_bipush (v := 7) d_Ring_next_45 (by decide) ?_
      refine rz_iand d_Ring_next_47 ?_
      refine rz_isub d_Ring_next_48 ?_
      refine rz_ishr d_Ring_next_49 ?_
      refine rz_iconst (v := 1) d_Ring_next_50 (by decide) ?_
      refine rz_iand d_Ring_next_51 ?_
      refine rz_pure (pc' := 54) (l' := [(4, .int (((S.1 (a0 + 1) (((S.2 a0 3) >>> ((3 : Int32) &&& 31)).toNatClampNeg)) >>> ((7 - ((S.2 a0 3) &&& 7)) &&& 31)) &&& 1)), (0, .ref a0), (1, .int a1), (2, .int a2), (3, .int a3)]) d_Ring_next_52 rfl ?_
      refine rz_pure (pc' := 55) d_Ring_next_54 rfl ?_
      refine rz_pure (pc' := 56) d_Ring_next_55 rfl ?_
      refine rz_getiv (v := S.2 a0 3) d_Ring_next_56 f_8_36 (rgT ha0) rfl rfl ?_
      refine rz_iconst (v := 1) d_Ring_next_59 (by decide) ?_
      refine rz_iadd d_Ring_next_60 ?_
      refine rz_pure (pc' := 62) d_Ring_next_61 rfl ?_
      refine rz_getiv (v := S.2 a0 1) d_Ring_next_62 f_8_21 (rgT ha0) rfl rfl ?_
      refine rz_icmpge (tgt := 77) d_Ring_next_65 rfl (fun b3 => ?_) (fun b3 => ?_)
      · skip
        refine rz_iconst (v := 0) d_Ring_next_77 (by decide) ?_
        exact rz_pick (ks := [0, 1, 2, 3, 4]) (l := [(0, .ref a0), (1, .int a1), (2, .int a2), (3, .int a3), (4, .int (((S.1 (a0 + 1) (((S.2 a0 3) >>> ((3 : Int32) &&& 31)).toNatClampNeg)) >>> ((7 - ((S.2 a0 3) &&& 7)) &&& 31)) &&& 1))]) rfl rfl (by decide) rfl (((w.2 b1).2 b2).2.1 b3)
      · skip
        refine rz_pure (pc' := 69) d_Ring_next_68 rfl ?_
        refine rz_getiv (v := S.2 a0 3) d_Ring_next_69 f_8_36 (rgT ha0) rfl rfl ?_
        refine rz_iconst (v := 1) d_Ring_next_72 (by decide) ?_
        refine rz_iadd d_Ring_next_73 ?_
        refine rz_pure (pc' := 78) d_Ring_next_74 rfl ?_
        exact rz_pick (ks := [0, 1, 2, 3, 4]) (l := [(0, .ref a0), (1, .int a1), (2, .int a2), (3, .int a3), (4, .int (((S.1 (a0 + 1) (((S.2 a0 3) >>> ((3 : Int32) &&& 31)).toNatClampNeg)) >>> ((7 - ((S.2 a0 3) &&& 7)) &&& 31)) &&& 1))]) rfl rfl (by decide) rfl (((w.2 b1).2 b2).2.2 b3)
theorem p_Ring_next_78 {S : rz_S} {K : Int32 → rz_S → Prop} {a0 : Nat} (ha0 : rgP a0) {a1 : Int32} {a2 : Int32} {a3 : Int32} {a4 : Int32} {s0 : Int32} {s1 : Nat} (hs1 : rgP s1) (w : ((a4 = 0 → ((S.2 a0 4 < 10 → rz mRing_next 100 [(0, .ref a0), (1, .int a1), (2, .int a2), (3, .int a3), (4, .int a4)] [] (rz_uI S s1 3 s0) (rz_i K)) ∧ (¬ S.2 a0 4 < 10 → rz mRing_next 100 [(0, .ref a0), (1, .int a1), (2, .int a2), (3, .int a3), (4, .int a4)] [] (rz_uI (rz_uI S s1 3 s0) a0 5 1) (rz_i K)))) ∧ (¬ a4 = 0 → rz mRing_next 100 [(0, .ref a0), (1, .int a1), (2, .int a2), (3, .int a3), (4, .int a4)] [] (rz_uI S s1 3 s0) (rz_i K)))) : rz mRing_next 78 [(0, .ref a0), (1, .int a1), (2, .int a2), (3, .int a3), (4, .int a4)] [.int s0, .ref s1] S (rz_i K) := by
  have za0 := rgZ ha0
  have zs1 := rgZ hs1
  refine rz_puti d_Ring_next_78 f_8_36 (rgT hs1) rfl rfl ?_
  refine rz_pure (pc' := 83) d_Ring_next_81 rfl ?_
  refine rz_ifne (tgt := 100) d_Ring_next_83 rfl (fun b1 => ?_) (fun b1 => ?_)
  · skip
    exact rz_pick (ks := [0, 1, 2, 3, 4]) (l := [(0, .ref a0), (1, .int a1), (2, .int a2), (3, .int a3), (4, .int a4)]) rfl rfl (by decide) rfl (w.2 b1)
  · skip
    refine rz_pure (pc' := 87) d_Ring_next_86 rfl ?_
    refine rz_getiv (v := S.2 a0 4) d_Ring_next_87 f_8_43 (rgT ha0) rfl ((rz_uI_n (fun h => absurd h.2 (by decide))).trans rfl) ?_
    refine rz_bipush (v := 10) d_Ring_next_90 (by decide) ?_
    refine rz_icmplt (tgt := 100) d_Ring_next_92 rfl (fun b2 => ?_) (fun b2 => ?_)
    · skip
      exact rz_pick (ks := [0, 1, 2, 3, 4]) (l := [(0, .ref a0), (1, .int a1), (2, .int a2), (3, .int a3), (4, .int a4)]) rfl rfl (by decide) rfl ((w.1 b1).1 b2)
    · skip
      refine rz_pure (pc' := 96) d_Ring_next_95 rfl ?_
      refine rz_iconst (v := 1) d_Ring_next_96 (by decide) ?_
      refine rz_puti d_Ring_next_97 f_8_52 (rgT ha0) rfl (by decide) ?_
      exact rz_pick (ks := [0, 1, 2, 3, 4]) (l := [(0, .ref a0), (1, .int a1), (2, .int a2), (3, .int a3), (4, .int a4)]) rfl rfl (by decide) rfl ((w.1 b1).2 b2)
theorem p_Ring_next_100 {S : rz_S} {K : Int32 → rz_S → Prop} {a0 : Nat} (ha0 : rgP a0) {a1 : Int32} {a2 : Int32} {a3 : Int32} {a4 : Int32} (w : ((a4 = 0 → rz mRing_next 130 [(0, .ref a0), (1, .int a1), (2, .int a2), (3, .int a3), (4, .int a4)] [.int 0, .ref a0] S (rz_i K)) ∧ (¬ a4 = 0 → ((10 ≤ S.2 a0 4 → rz mRing_next 130 [(0, .ref a0), (1, .int a1), (2, .int a2), (3, .int a3), (4, .int a4)] [.int 10, .ref a0] S (rz_i K)) ∧ (¬ 10 ≤ S.2 a0 4 → rz mRing_next 130 [(0, .ref a0), (1, .int a1), (2, .int a2), (3, .int a3), (4, .int a4)] [.int ((S.2 a0 4) + 1), .ref a0] S (rz_i K)))))) : rz mRing_next 100 [(0, .ref a0), (1, .int a1), (2, .int a2), (3, .int a3), (4, .int a4)] [] S (rz_i K) := by
  have za0 := rgZ ha0
  refine rz_pure (pc' := 101) d_Ring_next_100 rfl ?_
  refine rz_pure (pc' := 103) d_Ring_next_101 rfl ?_
  refine rz_ifne (tgt := 110) d_Ring_next_103 rfl (fun b1 => ?_) (fun b1 => ?_)
  · skip
    refine rz_pure (pc' := 111) d_Ring_next_110 rfl ?_
    refine rz_getiv (v := S.2 a0 4) d_Ring_next_111 f_8_43 (rgT ha0) rfl rfl ?_
    refine rz_bipush (v := 10) d_Ring_next_114 (by decide) ?_
    refine rz_icmpge (tgt := 128) d_Ring_next_116 rfl (fun b2 => ?_) (fun b2 => ?_)
    · skip
      refine rz_bipush (v := 10) d_Ring_next_128 (by decide) ?_
      exact rz_pick (ks := [0, 1, 2, 3, 4]) (l := [(0, .ref a0), (1, .int a1), (2, .int a2), (3, .int a3), (4, .int a4)]) rfl rfl (by decide) rfl ((w.2 b1).1 b2)
    · skip
      refine rz_pure (pc' := 120) d_Ring_next_119 rfl ?_
      refine rz_getiv (v := S.2 a0 4) d_Ring_next_120 f_8_43 (rgT ha0) rfl rfl ?_
      refine rz_iconst (v := 1) d_Ring_next_123 (by decide) ?_
      refine rz_iadd d_Ring_next_124 ?_
      refine rz_pure (pc' := 130) d_Ring_next_125 rfl ?_
      exact rz_pick (ks := [0, 1, 2, 3, 4]) (l := [(0, .ref a0), (1, .int a1), (2, .int a2), (3, .int a3), (4, .int a4)]) rfl rfl (by decide) rfl ((w.2 b1).2 b2)
  · skip
    refine rz_iconst (v := 0) d_Ring_next_106 (by decide) ?_
    refine rz_pure (pc' := 130) d_Ring_next_107 rfl ?_
    exact rz_pick (ks := [0, 1, 2, 3, 4]) (l := [(0, .ref a0), (1, .int a1), (2, .int a2), (3, .int a3), (4, .int a4)]) rfl rfl (by decide) rfl (w.1 b1)
theorem p_Ring_next_130 {S : rz_S} {K : Int32 → rz_S → Prop} {a0 : Nat} (ha0 : rgP a0) {a1 : Int32} {a2 : Int32} {a3 : Int32} {a4 : Int32} {s0 : Int32} {s1 : Nat} (hs1 : rgP s1) (w : (((rz_uI S s1 4 s0).2 a0 4 < 10 → rz mRing_next 11 [(0, .ref a0), (1, .int ((a1 <<< ((1 : Int32) &&& 31)) ||| a4)), (2, .int (a2 + 1)), (3, .int (a3 + 1))] [] (rz_uI S s1 4 s0) (rz_i K)) ∧ (¬ (rz_uI S s1 4 s0).2 a0 4 < 10 → rz mRing_next 11 [(0, .ref a0), (1, .int ((a1 <<< ((1 : Int32) &&& 31)) ||| a4)), (2, .int 0), (3, .int (a3 + 1))] [] (rz_uI S s1 4 s0) (rz_i K)))) : rz mRing_next 130 [(0, .ref a0), (1, .int a1), (2, .int a2), (3, .int a3), (4, .int a4)] [.int s0, .ref s1] S (rz_i K) := by
  have za0 := rgZ ha0
  have zs1 := rgZ hs1
  refine rz_puti d_Ring_next_130 f_8_43 (rgT hs1) rfl rfl ?_
  refine rz_pure (pc' := 134) d_Ring_next_133 rfl ?_
  refine rz_iconst (v := 1) d_Ring_next_134 (by decide) ?_
  refine rz_ishl d_Ring_next_135 ?_
  refine rz_pure (pc' := 138) d_Ring_next_136 rfl ?_
  refine rz_ior d_Ring_next_138 ?_
  refine rz_pure (pc' := 140) (l' := [(1, .int ((a1 <<< ((1 : Int32) &&& 31)) ||| a4)), (0, .ref a0), (2, .int a2), (3, .int a3), (4, .int a4)]) d_Ring_next_139 rfl ?_
  refine rz_pure (pc' := 141) d_Ring_next_140 rfl ?_
  refine rz_getiv (v := (rz_uI S s1 4 s0).2 a0 4) d_Ring_next_141 f_8_43 (rgT ha0) rfl rfl ?_
  refine rz_bipush (v := 10) d_Ring_next_144 (by decide) ?_
  refine rz_icmplt (tgt := 153) d_Ring_next_146 rfl (fun b1 => ?_) (fun b1 => ?_)
  · skip
    refine rz_pure (pc' := 154) d_Ring_next_153 rfl ?_
    refine rz_iconst (v := 1) d_Ring_next_154 (by decide) ?_
    refine rz_iadd d_Ring_next_155 ?_
    refine rz_pure (pc' := 157) (l' := [(2, .int (a2 + 1)), (1, .int ((a1 <<< ((1 : Int32) &&& 31)) ||| a4)), (0, .ref a0), (3, .int a3), (4, .int a4)]) d_Ring_next_156 rfl ?_
    refine rz_pure (pc' := 160) (l' := [(3, .int (a3 + 1)), (2, .int (a2 + 1)), (1, .int ((a1 <<< ((1 : Int32) &&& 31)) ||| a4)), (0, .ref a0), (4, .int a4)]) d_Ring_next_157 rfl ?_
    refine rz_pure (pc' := 11) d_Ring_next_160 rfl ?_
    exact rz_pick (ks := [0, 1, 2, 3]) (l := [(0, .ref a0), (1, .int ((a1 <<< ((1 : Int32) &&& 31)) ||| a4)), (2, .int (a2 + 1)), (3, .int (a3 + 1))]) rfl rfl (by decide) rfl (w.1 b1)
  · skip
    refine rz_iconst (v := 0) d_Ring_next_149 (by decide) ?_
    refine rz_pure (pc' := 156) d_Ring_next_150 rfl ?_
    refine rz_pure (pc' := 157) (l' := [(2, .int 0), (1, .int ((a1 <<< ((1 : Int32) &&& 31)) ||| a4)), (0, .ref a0), (3, .int a3), (4, .int a4)]) d_Ring_next_156 rfl ?_
    refine rz_pure (pc' := 160) (l' := [(3, .int (a3 + 1)), (2, .int 0), (1, .int ((a1 <<< ((1 : Int32) &&& 31)) ||| a4)), (0, .ref a0), (4, .int a4)]) d_Ring_next_157 rfl ?_
    refine rz_pure (pc' := 11) d_Ring_next_160 rfl ?_
    exact rz_pick (ks := [0, 1, 2, 3]) (l := [(0, .ref a0), (1, .int ((a1 <<< ((1 : Int32) &&& 31)) ||| a4)), (2, .int 0), (3, .int (a3 + 1))]) rfl rfl (by decide) rfl (w.2 b1)
theorem d_Ring_holds_0 : decode (rm_code mRing_holds) 0 = .ok (.iload_n 1, 1) := by decide +kernel
theorem d_Ring_holds_1 : decode (rm_code mRing_holds) 1 = .ok (.iconst 3, 1) := by decide +kernel
theorem d_Ring_holds_2 : decode (rm_code mRing_holds) 2 = .ok (.ishr, 1) := by decide +kernel
theorem d_Ring_holds_3 : decode (rm_code mRing_holds) 3 = .ok (.istore_n 3, 1) := by decide +kernel
theorem d_Ring_holds_4 : decode (rm_code mRing_holds) 4 = .ok (.bipush (8), 2) := by decide +kernel
theorem d_Ring_holds_6 : decode (rm_code mRing_holds) 6 = .ok (.iload_n 1, 1) := by decide +kernel
theorem d_Ring_holds_7 : decode (rm_code mRing_holds) 7 = .ok (.bipush (7), 2) := by decide +kernel
theorem d_Ring_holds_9 : decode (rm_code mRing_holds) 9 = .ok (.iand, 1) := by decide +kernel
theorem d_Ring_holds_10 : decode (rm_code mRing_holds) 10 = .ok (.isub, 1) := by decide +kernel
theorem d_Ring_holds_11 : decode (rm_code mRing_holds) 11 = .ok (.istore 4, 2) := by decide +kernel
theorem d_Ring_holds_13 : decode (rm_code mRing_holds) 13 = .ok (.iconst 0, 1) := by decide +kernel
theorem d_Ring_holds_14 : decode (rm_code mRing_holds) 14 = .ok (.istore 5, 2) := by decide +kernel
theorem d_Ring_holds_16 : decode (rm_code mRing_holds) 16 = .ok (.iload 5, 2) := by decide +kernel
theorem d_Ring_holds_18 : decode (rm_code mRing_holds) 18 = .ok (.aload_n 2, 1) := by decide +kernel
theorem d_Ring_holds_19 : decode (rm_code mRing_holds) 19 = .ok (.arraylength, 1) := by decide +kernel
theorem d_Ring_holds_20 : decode (rm_code mRing_holds) 20 = .ok (.if_icmp .ge (78), 3) := by decide +kernel
theorem d_Ring_holds_23 : decode (rm_code mRing_holds) 23 = .ok (.iload_n 3, 1) := by decide +kernel
theorem d_Ring_holds_24 : decode (rm_code mRing_holds) 24 = .ok (.iconst 1, 1) := by decide +kernel
theorem d_Ring_holds_25 : decode (rm_code mRing_holds) 25 = .ok (.iadd, 1) := by decide +kernel
theorem d_Ring_holds_26 : decode (rm_code mRing_holds) 26 = .ok (.aload_n 0, 1) := by decide +kernel
theorem d_Ring_holds_27 : decode (rm_code mRing_holds) 27 = .ok (.getfield 15, 3) := by decide +kernel
theorem d_Ring_holds_30 : decode (rm_code mRing_holds) 30 = .ok (.arraylength, 1) := by decide +kernel
theorem d_Ring_holds_31 : decode (rm_code mRing_holds) 31 = .ok (.if_icmp .ge (9), 3) := by decide +kernel
theorem d_Ring_holds_34 : decode (rm_code mRing_holds) 34 = .ok (.iload_n 3, 1) := by decide +kernel
theorem d_Ring_holds_35 : decode (rm_code mRing_holds) 35 = .ok (.iconst 1, 1) := by decide +kernel
theorem d_Ring_holds_36 : decode (rm_code mRing_holds) 36 = .ok (.iadd, 1) := by decide +kernel
theorem d_Ring_holds_37 : decode (rm_code mRing_holds) 37 = .ok (.goto (4), 3) := by decide +kernel
theorem d_Ring_holds_40 : decode (rm_code mRing_holds) 40 = .ok (.iconst 0, 1) := by decide +kernel
theorem d_Ring_holds_41 : decode (rm_code mRing_holds) 41 = .ok (.istore 6, 2) := by decide +kernel
theorem d_Ring_holds_43 : decode (rm_code mRing_holds) 43 = .ok (.iload_n 3, 1) := by decide +kernel
theorem d_Ring_holds_44 : decode (rm_code mRing_holds) 44 = .ok (.ifCond .lt (43), 3) := by decide +kernel
theorem d_Ring_holds_47 : decode (rm_code mRing_holds) 47 = .ok (.iload_n 3, 1) := by decide +kernel
theorem d_Ring_holds_48 : decode (rm_code mRing_holds) 48 = .ok (.aload_n 0, 1) := by decide +kernel
theorem d_Ring_holds_49 : decode (rm_code mRing_holds) 49 = .ok (.getfield 15, 3) := by decide +kernel
theorem d_Ring_holds_52 : decode (rm_code mRing_holds) 52 = .ok (.arraylength, 1) := by decide +kernel
theorem d_Ring_holds_53 : decode (rm_code mRing_holds) 53 = .ok (.if_icmp .ge (34), 3) := by decide +kernel
theorem d_Ring_holds_56 : decode (rm_code mRing_holds) 56 = .ok (.aload_n 0, 1) := by decide +kernel
theorem d_Ring_holds_57 : decode (rm_code mRing_holds) 57 = .ok (.getfield 15, 3) := by decide +kernel
theorem d_Ring_holds_60 : decode (rm_code mRing_holds) 60 = .ok (.iload_n 3, 1) := by decide +kernel
theorem d_Ring_holds_61 : decode (rm_code mRing_holds) 61 = .ok (.iaload, 1) := by decide +kernel
theorem d_Ring_holds_62 : decode (rm_code mRing_holds) 62 = .ok (.bipush (8), 2) := by decide +kernel
theorem d_Ring_holds_64 : decode (rm_code mRing_holds) 64 = .ok (.ishl, 1) := by decide +kernel
theorem d_Ring_holds_65 : decode (rm_code mRing_holds) 65 = .ok (.aload_n 0, 1) := by decide +kernel
theorem d_Ring_holds_66 : decode (rm_code mRing_holds) 66 = .ok (.getfield 15, 3) := by decide +kernel
theorem d_Ring_holds_69 : decode (rm_code mRing_holds) 69 = .ok (.iload 6, 2) := by decide +kernel
theorem d_Ring_holds_71 : decode (rm_code mRing_holds) 71 = .ok (.iaload, 1) := by decide +kernel
theorem d_Ring_holds_72 : decode (rm_code mRing_holds) 72 = .ok (.ior, 1) := by decide +kernel
theorem d_Ring_holds_73 : decode (rm_code mRing_holds) 73 = .ok (.iload 4, 2) := by decide +kernel
theorem d_Ring_holds_75 : decode (rm_code mRing_holds) 75 = .ok (.ishr, 1) := by decide +kernel
theorem d_Ring_holds_76 : decode (rm_code mRing_holds) 76 = .ok (.sipush (255), 3) := by decide +kernel
theorem d_Ring_holds_79 : decode (rm_code mRing_holds) 79 = .ok (.iand, 1) := by decide +kernel
theorem d_Ring_holds_80 : decode (rm_code mRing_holds) 80 = .ok (.aload_n 2, 1) := by decide +kernel
theorem d_Ring_holds_81 : decode (rm_code mRing_holds) 81 = .ok (.iload 5, 2) := by decide +kernel
theorem d_Ring_holds_83 : decode (rm_code mRing_holds) 83 = .ok (.iaload, 1) := by decide +kernel
theorem d_Ring_holds_84 : decode (rm_code mRing_holds) 84 = .ok (.if_icmp .eq (5), 3) := by decide +kernel
theorem d_Ring_holds_87 : decode (rm_code mRing_holds) 87 = .ok (.iconst 0, 1) := by decide +kernel
theorem d_Ring_holds_88 : decode (rm_code mRing_holds) 88 = .ok (.ireturn, 1) := by decide +kernel
theorem d_Ring_holds_89 : decode (rm_code mRing_holds) 89 = .ok (.iload 6, 2) := by decide +kernel
theorem d_Ring_holds_91 : decode (rm_code mRing_holds) 91 = .ok (.istore_n 3, 1) := by decide +kernel
theorem d_Ring_holds_92 : decode (rm_code mRing_holds) 92 = .ok (.iinc 5 (1), 3) := by decide +kernel
theorem d_Ring_holds_95 : decode (rm_code mRing_holds) 95 = .ok (.goto (-79), 3) := by decide +kernel
theorem d_Ring_holds_98 : decode (rm_code mRing_holds) 98 = .ok (.iconst 1, 1) := by decide +kernel
theorem d_Ring_holds_99 : decode (rm_code mRing_holds) 99 = .ok (.ireturn, 1) := by decide +kernel
theorem p_Ring_holds_0 {S : rz_S} {K : Int32 → rz_S → Prop} {a0 : Nat} (ha0 : rgP a0) {a1 : Int32} {a2 na2 : Nat} (ha2 : rz_T[a2]? = some (.inl (0, na2))) (w : rz mRing_holds 16 [(0, .ref a0), (2, .ref a2), (3, .int (a1 >>> ((3 : Int32) &&& 31))), (4, .int (8 - (a1 &&& 7))), (5, .int 0)] [] S (rz_i K)) : rz mRing_holds 0 [(0, .ref a0), (1, .int a1), (2, .ref a2)] [] S (rz_i K) := by
  have za0 := rgZ ha0
  refine rz_pure (pc' := 1) d_Ring_holds_0 rfl ?_
  refine rz_iconst (v := 3) d_Ring_holds_1 (by decide) ?_
  refine rz_ishr d_Ring_holds_2 ?_
  refine rz_pure (pc' := 4) (l' := [(3, .int (a1 >>> ((3 : Int32) &&& 31))), (0, .ref a0), (1, .int a1), (2, .ref a2)]) d_Ring_holds_3 rfl ?_
  refine rz_bipush (v := 8) d_Ring_holds_4 (by decide) ?_
  refine rz_pure (pc' := 7) d_Ring_holds_6 rfl ?_
  refine rz_bipush (v := 7) d_Ring_holds_7 (by decide) ?_
  refine rz_iand d_Ring_holds_9 ?_
  refine rz_isub d_Ring_holds_10 ?_
  refine rz_pure (pc' := 13) (l' := [(4, .int (8 - (a1 &&& 7))), (3, .int (a1 >>> ((3 : Int32) &&& 31))), (0, .ref a0), (1, .int a1), (2, .ref a2)]) d_Ring_holds_11 rfl ?_
  refine rz_iconst (v := 0) d_Ring_holds_13 (by decide) ?_
  refine rz_pure (pc' := 16) (l' := [(5, .int 0), (4, .int (8 - (a1 &&& 7))), (3, .int (a1 >>> ((3 : Int32) &&& 31))), (0, .ref a0), (1, .int a1), (2, .ref a2)]) d_Ring_holds_14 rfl ?_
  exact rz_pick (ks := [0, 2, 3, 4, 5]) (l := [(0, .ref a0), (2, .ref a2), (3, .int (a1 >>> ((3 : Int32) &&& 31))), (4, .int (8 - (a1 &&& 7))), (5, .int 0)]) rfl rfl (by decide) rfl w
theorem p_Ring_holds_16 {S : rz_S} {K : Int32 → rz_S → Prop} {a0 : Nat} (ha0 : rgP a0) {a2 na2 : Nat} (ha2 : rz_T[a2]? = some (.inl (0, na2))) {a3 : Int32} {a4 : Int32} {a5 : Int32} (w : ((Int32.ofNat na2 ≤ a5 → K 1 S) ∧ (¬ Int32.ofNat na2 ≤ a5 → ((Int32.ofNat (rgN a0) ≤ a3 + 1 → rz mRing_holds 41 [(0, .ref a0), (2, .ref a2), (3, .int a3), (4, .int a4), (5, .int a5)] [.int 0] S (rz_i K)) ∧ (¬ Int32.ofNat (rgN a0) ≤ a3 + 1 → rz mRing_holds 41 [(0, .ref a0), (2, .ref a2), (3, .int a3), (4, .int a4), (5, .int a5)] [.int (a3 + 1)] S (rz_i K)))))) : rz mRing_holds 16 [(0, .ref a0), (2, .ref a2), (3, .int a3), (4, .int a4), (5, .int a5)] [] S (rz_i K) := by
  have za0 := rgZ ha0
  refine rz_pure (pc' := 18) d_Ring_holds_16 rfl ?_
  refine rz_pure (pc' := 19) d_Ring_holds_18 rfl ?_
  refine rz_alenv (v := Int32.ofNat na2) d_Ring_holds_19 (ha2) (by decide) rfl ?_
  refine rz_icmpge (tgt := 98) d_Ring_holds_20 rfl (fun b1 => ?_) (fun b1 => ?_)
  · skip
    refine rz_iconst (v := 1) d_Ring_holds_98 (by decide) ?_
    exact rz_ireti d_Ring_holds_99 rfl (by decide) (w.1 b1)
  · skip
    refine rz_pure (pc' := 24) d_Ring_holds_23 rfl ?_
    refine rz_iconst (v := 1) d_Ring_holds_24 (by decide) ?_
    refine rz_iadd d_Ring_holds_25 ?_
    refine rz_pure (pc' := 27) d_Ring_holds_26 rfl ?_
    refine rz_getr d_Ring_holds_27 f_8_15 (rgT ha0) rfl ?_
    refine rz_alenv (v := Int32.ofNat (rgN a0)) d_Ring_holds_30 (rgC ha0) (by decide) rfl ?_
    refine rz_icmpge (tgt := 40) d_Ring_holds_31 rfl (fun b2 => ?_) (fun b2 => ?_)
    · skip
      refine rz_iconst (v := 0) d_Ring_holds_40 (by decide) ?_
      exact rz_pick (ks := [0, 2, 3, 4, 5]) (l := [(0, .ref a0), (2, .ref a2), (3, .int a3), (4, .int a4), (5, .int a5)]) rfl rfl (by decide) rfl ((w.2 b1).1 b2)
    · skip
      refine rz_pure (pc' := 35) d_Ring_holds_34 rfl ?_
      refine rz_iconst (v := 1) d_Ring_holds_35 (by decide) ?_
      refine rz_iadd d_Ring_holds_36 ?_
      refine rz_pure (pc' := 41) d_Ring_holds_37 rfl ?_
      exact rz_pick (ks := [0, 2, 3, 4, 5]) (l := [(0, .ref a0), (2, .ref a2), (3, .int a3), (4, .int a4), (5, .int a5)]) rfl rfl (by decide) rfl ((w.2 b1).2 b2)
theorem p_Ring_holds_41 {S : rz_S} {K : Int32 → rz_S → Prop} {a0 : Nat} (ha0 : rgP a0) {a2 na2 : Nat} (ha2 : rz_T[a2]? = some (.inl (0, na2))) {a3 : Int32} {a4 : Int32} {a5 : Int32} {s0 : Int32} (w : ((a3 < 0 → K 0 S) ∧ (¬ a3 < 0 → ((Int32.ofNat (rgN a0) ≤ a3 → K 0 S) ∧ (¬ Int32.ofNat (rgN a0) ≤ a3 → rx_in a3 (rgN a0) = true ∧ rx_in s0 (rgN a0) = true ∧ rx_in a5 na2 = true ∧ ((((((S.1 (a0 + 1) a3.toNatClampNeg) <<< ((8 : Int32) &&& 31)) ||| (S.1 (a0 + 1) s0.toNatClampNeg)) >>> (a4 &&& 31)) &&& 255 = S.1 a2 a5.toNatClampNeg → rz mRing_holds 16 [(0, .ref a0), (2, .ref a2), (3, .int s0), (4, .int a4), (5, .int (a5 + 1))] [] S (rz_i K)) ∧ (¬ ((((S.1 (a0 + 1) a3.toNatClampNeg) <<< ((8 : Int32) &&& 31)) ||| (S.1 (a0 + 1) s0.toNatClampNeg)) >>> (a4 &&& 31)) &&& 255 = S.1 a2 a5.toNatClampNeg → K 0 S))))))) : rz mRing_holds 41 [(0, .ref a0), (2, .ref a2), (3, .int a3), (4, .int a4), (5, .int a5)] [.int s0] S (rz_i K) := by
  have za0 := rgZ ha0
  refine rz_pure (pc' := 43) (l' := [(6, .int s0), (0, .ref a0), (2, .ref a2), (3, .int a3), (4, .int a4), (5, .int a5)]) d_Ring_holds_41 rfl ?_
  refine rz_pure (pc' := 44) d_Ring_holds_43 rfl ?_
  refine rz_iflt (tgt := 87) d_Ring_holds_44 rfl (fun b1 => ?_) (fun b1 => ?_)
  · skip
    refine rz_iconst (v := 0) d_Ring_holds_87 (by decide) ?_
    exact rz_ireti d_Ring_holds_88 rfl (by decide) (w.1 b1)
  · skip
    refine rz_pure (pc' := 48) d_Ring_holds_47 rfl ?_
    refine rz_pure (pc' := 49) d_Ring_holds_48 rfl ?_
    refine rz_getr d_Ring_holds_49 f_8_15 (rgT ha0) rfl ?_
    refine rz_alenv (v := Int32.ofNat (rgN a0)) d_Ring_holds_52 (rgC ha0) (by decide) rfl ?_
    refine rz_icmpge (tgt := 87) d_Ring_holds_53 rfl (fun b2 => ?_) (fun b2 => ?_)
    · skip
      refine rz_iconst (v := 0) d_Ring_holds_87 (by decide) ?_
      exact rz_ireti d_Ring_holds_88 rfl (by decide) ((w.2 b1).1 b2)
    · skip
      refine rz_pure (pc' := 57) d_Ring_holds_56 rfl ?_
      refine rz_getr d_Ring_holds_57 f_8_15 (rgT ha0) rfl ?_
      refine rz_pure (pc' := 61) d_Ring_holds_60 rfl ?_
      refine rz_ialdv (F := S.1 (a0 + 1)) (i := a3.toNatClampNeg) d_Ring_holds_61 (rgC ha0) ((w.2 b1).2 b2).1 rfl rfl ?_
      refine rz_bipush (v := 8) d_Ring_holds_62 (by decide) ?_
      refine rz_ishl d_Ring_holds_64 ?_
      refine rz_pure (pc' := 66) d_Ring_holds_65 rfl ?_
      refine rz_getr d_Ring_holds_66 f_8_15 (rgT ha0) rfl ?_
      refine rz_pure (pc' := 71) d_Ring_holds_69 rfl ?_
      refine rz_ialdv (F := S.1 (a0 + 1)) (i := s0.toNatClampNeg) d_Ring_holds_71 (rgC ha0) ((w.2 b1).2 b2).2.1 rfl rfl ?_
      refine rz_ior d_Ring_holds_72 ?_
      refine rz_pure (pc' := 75) d_Ring_holds_73 rfl ?_
      refine rz_ishr d_Ring_holds_75 ?_
      refine rz_sipush (v := 255) d_Ring_holds_76 (by decide) ?_
      refine rz_iand d_Ring_holds_79 ?_
      refine rz_pure (pc' := 81) d_Ring_holds_80 rfl ?_
      refine rz_pure (pc' := 83) d_Ring_holds_81 rfl ?_
      refine rz_ialdv (F := S.1 a2) (i := a5.toNatClampNeg) d_Ring_holds_83 (ha2) ((w.2 b1).2 b2).2.2.1 rfl rfl ?_
      refine rz_icmpeq (tgt := 89) d_Ring_holds_84 rfl (fun b3 => ?_) (fun b3 => ?_)
      · skip
        refine rz_pure (pc' := 91) d_Ring_holds_89 rfl ?_
        refine rz_pure (pc' := 92) (l' := [(3, .int s0), (6, .int s0), (0, .ref a0), (2, .ref a2), (4, .int a4), (5, .int a5)]) d_Ring_holds_91 rfl ?_
        refine rz_pure (pc' := 95) (l' := [(5, .int (a5 + 1)), (3, .int s0), (6, .int s0), (0, .ref a0), (2, .ref a2), (4, .int a4)]) d_Ring_holds_92 rfl ?_
        refine rz_pure (pc' := 16) d_Ring_holds_95 rfl ?_
        exact rz_pick (ks := [0, 2, 3, 4, 5]) (l := [(0, .ref a0), (2, .ref a2), (3, .int s0), (4, .int a4), (5, .int (a5 + 1))]) rfl rfl (by decide) rfl (((w.2 b1).2 b2).2.2.2.1 b3)
      · skip
        refine rz_iconst (v := 0) d_Ring_holds_87 (by decide) ?_
        exact rz_ireti d_Ring_holds_88 rfl (by decide) (((w.2 b1).2 b2).2.2.2.2 b3)
theorem d_Ring_skip_0 : decode (rm_code mRing_skip) 0 = .ok (.iconst 0, 1) := by decide +kernel
theorem d_Ring_skip_1 : decode (rm_code mRing_skip) 1 = .ok (.istore_n 2, 1) := by decide +kernel
theorem d_Ring_skip_2 : decode (rm_code mRing_skip) 2 = .ok (.iload_n 2, 1) := by decide +kernel
theorem d_Ring_skip_3 : decode (rm_code mRing_skip) 3 = .ok (.iload_n 1, 1) := by decide +kernel
theorem d_Ring_skip_4 : decode (rm_code mRing_skip) 4 = .ok (.if_icmp .ge (14), 3) := by decide +kernel
theorem d_Ring_skip_7 : decode (rm_code mRing_skip) 7 = .ok (.aload_n 0, 1) := by decide +kernel
theorem d_Ring_skip_8 : decode (rm_code mRing_skip) 8 = .ok (.invokevirtual 56, 3) := by decide +kernel
theorem d_Ring_skip_11 : decode (rm_code mRing_skip) 11 = .ok (.pop, 1) := by decide +kernel
theorem d_Ring_skip_12 : decode (rm_code mRing_skip) 12 = .ok (.iinc 2 (1), 3) := by decide +kernel
theorem d_Ring_skip_15 : decode (rm_code mRing_skip) 15 = .ok (.goto (-13), 3) := by decide +kernel
theorem d_Ring_skip_18 : decode (rm_code mRing_skip) 18 = .ok (.return_, 1) := by decide +kernel
theorem p_Ring_skip_0 {S : rz_S} {K : rz_S → Prop} {a0 : Nat} (ha0 : rgP a0) {a1 : Int32} (w : rz mRing_skip 2 [(0, .ref a0), (1, .int a1), (2, .int 0)] [] S (rz_v K)) : rz mRing_skip 0 [(0, .ref a0), (1, .int a1)] [] S (rz_v K) := by
  have za0 := rgZ ha0
  refine rz_iconst (v := 0) d_Ring_skip_0 (by decide) ?_
  refine rz_pure (pc' := 2) (l' := [(2, .int 0), (0, .ref a0), (1, .int a1)]) d_Ring_skip_1 rfl ?_
  exact rz_pick (ks := [0, 1, 2]) (l := [(0, .ref a0), (1, .int a1), (2, .int 0)]) rfl rfl (by decide) rfl w
theorem p_Ring_skip_2 {S : rz_S} {K : rz_S → Prop} {a0 : Nat} (ha0 : rgP a0) {a1 : Int32} {a2 : Int32} (w : ((a1 ≤ a2 → K S) ∧ (¬ a1 ≤ a2 → rz_ev mRing_next [.ref a0] S (rz_i (fun xq2 Sq2 => rz mRing_skip 2 [(0, .ref a0), (1, .int a1), (2, .int (a2 + 1))] [] Sq2 (rz_v K)))))) : rz mRing_skip 2 [(0, .ref a0), (1, .int a1), (2, .int a2)] [] S (rz_v K) := by
  have za0 := rgZ ha0
  refine rz_pure (pc' := 3) d_Ring_skip_2 rfl ?_
  refine rz_pure (pc' := 4) d_Ring_skip_3 rfl ?_
  refine rz_icmpge (tgt := 18) d_Ring_skip_4 rfl (fun b1 => ?_) (fun b1 => ?_)
  · skip
    exact rz_vretv d_Ring_skip_18 rfl (w.1 b1)
  · skip
    refine rz_pure (pc' := 8) d_Ring_skip_7 rfl ?_
    refine rz_callVi (t := []) d_Ring_skip_8 w_8_56 rfl (rgT ha0) rfl (w.2 b1) (fun xq2 Sq2 q2 => ?_)
    refine rz_pure (pc' := 12) d_Ring_skip_11 rfl ?_
    refine rz_pure (pc' := 15) (l' := [(2, .int (a2 + 1)), (0, .ref a0), (1, .int a1)]) d_Ring_skip_12 rfl ?_
    refine rz_pure (pc' := 2) d_Ring_skip_15 rfl ?_
    exact rz_pick (ks := [0, 1, 2]) (l := [(0, .ref a0), (1, .int a1), (2, .int (a2 + 1))]) rfl rfl (by decide) rfl q2
theorem d_Ring_gatherFromFirst_0 : decode (rm_code mRing_gatherFromFirst) 0 = .ok (.aload_n 0, 1) := by decide +kernel
theorem d_Ring_gatherFromFirst_1 : decode (rm_code mRing_gatherFromFirst) 1 = .ok (.invokevirtual 56, 3) := by decide +kernel
theorem d_Ring_gatherFromFirst_4 : decode (rm_code mRing_gatherFromFirst) 4 = .ok (.istore_n 2, 1) := by decide +kernel
theorem d_Ring_gatherFromFirst_5 : decode (rm_code mRing_gatherFromFirst) 5 = .ok (.iconst 0, 1) := by decide +kernel
theorem d_Ring_gatherFromFirst_6 : decode (rm_code mRing_gatherFromFirst) 6 = .ok (.istore_n 3, 1) := by decide +kernel
theorem d_Ring_gatherFromFirst_7 : decode (rm_code mRing_gatherFromFirst) 7 = .ok (.iload_n 3, 1) := by decide +kernel
theorem d_Ring_gatherFromFirst_8 : decode (rm_code mRing_gatherFromFirst) 8 = .ok (.aload_n 0, 1) := by decide +kernel
theorem d_Ring_gatherFromFirst_9 : decode (rm_code mRing_gatherFromFirst) 9 = .ok (.getfield 15, 3) := by decide +kernel
theorem d_Ring_gatherFromFirst_12 : decode (rm_code mRing_gatherFromFirst) 12 = .ok (.arraylength, 1) := by decide +kernel
theorem d_Ring_gatherFromFirst_13 : decode (rm_code mRing_gatherFromFirst) 13 = .ok (.if_icmp .ge (21), 3) := by decide +kernel
theorem d_Ring_gatherFromFirst_16 : decode (rm_code mRing_gatherFromFirst) 16 = .ok (.aload_n 0, 1) := by decide +kernel
theorem d_Ring_gatherFromFirst_17 : decode (rm_code mRing_gatherFromFirst) 17 = .ok (.getfield 52, 3) := by decide +kernel
theorem d_Ring_gatherFromFirst_20 : decode (rm_code mRing_gatherFromFirst) 20 = .ok (.ifCond .ne (14), 3) := by decide +kernel
theorem d_Ring_gatherFromFirst_23 : decode (rm_code mRing_gatherFromFirst) 23 = .ok (.aload_n 0, 1) := by decide +kernel
theorem d_Ring_gatherFromFirst_24 : decode (rm_code mRing_gatherFromFirst) 24 = .ok (.invokevirtual 56, 3) := by decide +kernel
theorem d_Ring_gatherFromFirst_27 : decode (rm_code mRing_gatherFromFirst) 27 = .ok (.istore_n 2, 1) := by decide +kernel
theorem d_Ring_gatherFromFirst_28 : decode (rm_code mRing_gatherFromFirst) 28 = .ok (.iinc 3 (1), 3) := by decide +kernel
theorem d_Ring_gatherFromFirst_31 : decode (rm_code mRing_gatherFromFirst) 31 = .ok (.goto (-24), 3) := by decide +kernel
theorem d_Ring_gatherFromFirst_34 : decode (rm_code mRing_gatherFromFirst) 34 = .ok (.iconst 0, 1) := by decide +kernel
theorem d_Ring_gatherFromFirst_35 : decode (rm_code mRing_gatherFromFirst) 35 = .ok (.istore_n 3, 1) := by decide +kernel
theorem d_Ring_gatherFromFirst_36 : decode (rm_code mRing_gatherFromFirst) 36 = .ok (.iload_n 3, 1) := by decide +kernel
theorem d_Ring_gatherFromFirst_37 : decode (rm_code mRing_gatherFromFirst) 37 = .ok (.aload_n 1, 1) := by decide +kernel
theorem d_Ring_gatherFromFirst_38 : decode (rm_code mRing_gatherFromFirst) 38 = .ok (.arraylength, 1) := by decide +kernel
theorem d_Ring_gatherFromFirst_39 : decode (rm_code mRing_gatherFromFirst) 39 = .ok (.if_icmp .ge (24), 3) := by decide +kernel
theorem d_Ring_gatherFromFirst_42 : decode (rm_code mRing_gatherFromFirst) 42 = .ok (.aload_n 1, 1) := by decide +kernel
theorem d_Ring_gatherFromFirst_43 : decode (rm_code mRing_gatherFromFirst) 43 = .ok (.iload_n 3, 1) := by decide +kernel
theorem d_Ring_gatherFromFirst_44 : decode (rm_code mRing_gatherFromFirst) 44 = .ok (.iload_n 3, 1) := by decide +kernel
theorem d_Ring_gatherFromFirst_45 : decode (rm_code mRing_gatherFromFirst) 45 = .ok (.ifCond .ne (7), 3) := by decide +kernel
theorem d_Ring_gatherFromFirst_48 : decode (rm_code mRing_gatherFromFirst) 48 = .ok (.iload_n 2, 1) := by decide +kernel
theorem d_Ring_gatherFromFirst_49 : decode (rm_code mRing_gatherFromFirst) 49 = .ok (.goto (7), 3) := by decide +kernel
theorem d_Ring_gatherFromFirst_52 : decode (rm_code mRing_gatherFromFirst) 52 = .ok (.aload_n 0, 1) := by decide +kernel
theorem d_Ring_gatherFromFirst_53 : decode (rm_code mRing_gatherFromFirst) 53 = .ok (.invokevirtual 56, 3) := by decide +kernel
theorem d_Ring_gatherFromFirst_56 : decode (rm_code mRing_gatherFromFirst) 56 = .ok (.iastore, 1) := by decide +kernel
theorem d_Ring_gatherFromFirst_57 : decode (rm_code mRing_gatherFromFirst) 57 = .ok (.iinc 3 (1), 3) := by decide +kernel
theorem d_Ring_gatherFromFirst_60 : decode (rm_code mRing_gatherFromFirst) 60 = .ok (.goto (-24), 3) := by decide +kernel
theorem d_Ring_gatherFromFirst_63 : decode (rm_code mRing_gatherFromFirst) 63 = .ok (.return_, 1) := by decide +kernel
theorem p_Ring_gatherFromFirst_0 {S : rz_S} {K : rz_S → Prop} {a0 : Nat} (ha0 : rgP a0) {a1 na1 : Nat} (ha1 : rz_T[a1]? = some (.inl (0, na1))) (w : rz_ev mRing_next [.ref a0] S (rz_i (fun xq1 Sq1 => rz mRing_gatherFromFirst 7 [(0, .ref a0), (1, .ref a1), (2, .int xq1), (3, .int 0)] [] Sq1 (rz_v K)))) : rz mRing_gatherFromFirst 0 [(0, .ref a0), (1, .ref a1)] [] S (rz_v K) := by
  have za0 := rgZ ha0
  refine rz_pure (pc' := 1) d_Ring_gatherFromFirst_0 rfl ?_
  refine rz_callVi (t := []) d_Ring_gatherFromFirst_1 w_8_56 rfl (rgT ha0) rfl w (fun xq1 Sq1 q1 => ?_)
  refine rz_pure (pc' := 5) (l' := [(2, .int xq1), (0, .ref a0), (1, .ref a1)]) d_Ring_gatherFromFirst_4 rfl ?_
  refine rz_iconst (v := 0) d_Ring_gatherFromFirst_5 (by decide) ?_
  refine rz_pure (pc' := 7) (l' := [(3, .int 0), (2, .int xq1), (0, .ref a0), (1, .ref a1)]) d_Ring_gatherFromFirst_6 rfl ?_
  exact rz_pick (ks := [0, 1, 2, 3]) (l := [(0, .ref a0), (1, .ref a1), (2, .int xq1), (3, .int 0)]) rfl rfl (by decide) rfl q1
theorem p_Ring_gatherFromFirst_7 {S : rz_S} {K : rz_S → Prop} {a0 : Nat} (ha0 : rgP a0) {a1 na1 : Nat} (ha1 : rz_T[a1]? = some (.inl (0, na1))) {a2 : Int32} {a3 : Int32} (w : ((Int32.ofNat (rgN a0) ≤ a3 → rz mRing_gatherFromFirst 36 [(0, .ref a0), (1, .ref a1), (2, .int a2), (3, .int 0)] [] S (rz_v K)) ∧ (¬ Int32.ofNat (rgN a0) ≤ a3 → ((S.2 a0 5 = 0 → rz_ev mRing_next [.ref a0] S (rz_i (fun xq3 Sq3 => rz mRing_gatherFromFirst 7 [(0, .ref a0), (1, .ref a1), (2, .int xq3), (3, .int (a3 + 1))] [] Sq3 (rz_v K)))) ∧ (¬ S.2 a0 5 = 0 → rz mRing_gatherFromFirst 36 [(0, .ref a0), (1, .ref a1), (2, .int a2), (3, .int 0)] [] S (rz_v K)))))) : rz mRing_gatherFromFirst 7 [(0, .ref a0), (1, .ref a1), (2, .int a2), (3, .int a3)] [] S (rz_v K) := by
  have za0 := rgZ ha0
  refine rz_pure (pc' := 8) d_Ring_gatherFromFirst_7 rfl ?_
  refine rz_pure (pc' := 9) d_Ring_gatherFromFirst_8 rfl ?_
  refine rz_getr d_Ring_gatherFromFirst_9 f_8_15 (rgT ha0) rfl ?_
  refine rz_alenv (v := Int32.ofNat (rgN a0)) d_Ring_gatherFromFirst_12 (rgC ha0) (by decide) rfl ?_
  refine rz_icmpge (tgt := 34) d_Ring_gatherFromFirst_13 rfl (fun b1 => ?_) (fun b1 => ?_)
  · skip
    refine rz_iconst (v := 0) d_Ring_gatherFromFirst_34 (by decide) ?_
    refine rz_pure (pc' := 36) (l' := [(3, .int 0), (0, .ref a0), (1, .ref a1), (2, .int a2)]) d_Ring_gatherFromFirst_35 rfl ?_
    exact rz_pick (ks := [0, 1, 2, 3]) (l := [(0, .ref a0), (1, .ref a1), (2, .int a2), (3, .int 0)]) rfl rfl (by decide) rfl (w.1 b1)
  · skip
    refine rz_pure (pc' := 17) d_Ring_gatherFromFirst_16 rfl ?_
    refine rz_getiv (v := S.2 a0 5) d_Ring_gatherFromFirst_17 f_8_52 (rgT ha0) rfl rfl ?_
    refine rz_ifne (tgt := 34) d_Ring_gatherFromFirst_20 rfl (fun b2 => ?_) (fun b2 => ?_)
    · skip
      refine rz_iconst (v := 0) d_Ring_gatherFromFirst_34 (by decide) ?_
      refine rz_pure (pc' := 36) (l' := [(3, .int 0), (0, .ref a0), (1, .ref a1), (2, .int a2)]) d_Ring_gatherFromFirst_35 rfl ?_
      exact rz_pick (ks := [0, 1, 2, 3]) (l := [(0, .ref a0), (1, .ref a1), (2, .int a2), (3, .int 0)]) rfl rfl (by decide) rfl ((w.2 b1).2 b2)
    · skip
      refine rz_pure (pc' := 24) d_Ring_gatherFromFirst_23 rfl ?_
      refine rz_callVi (t := []) d_Ring_gatherFromFirst_24 w_8_56 rfl (rgT ha0) rfl ((w.2 b1).1 b2) (fun xq3 Sq3 q3 => ?_)
      refine rz_pure (pc' := 28) (l' := [(2, .int xq3), (0, .ref a0), (1, .ref a1), (3, .int a3)]) d_Ring_gatherFromFirst_27 rfl ?_
      refine rz_pure (pc' := 31) (l' := [(3, .int (a3 + 1)), (2, .int xq3), (0, .ref a0), (1, .ref a1)]) d_Ring_gatherFromFirst_28 rfl ?_
      refine rz_pure (pc' := 7) d_Ring_gatherFromFirst_31 rfl ?_
      exact rz_pick (ks := [0, 1, 2, 3]) (l := [(0, .ref a0), (1, .ref a1), (2, .int xq3), (3, .int (a3 + 1))]) rfl rfl (by decide) rfl q3
theorem p_Ring_gatherFromFirst_36 {S : rz_S} {K : rz_S → Prop} {a0 : Nat} (ha0 : rgP a0) {a1 na1 : Nat} (ha1 : rz_T[a1]? = some (.inl (0, na1))) {a2 : Int32} {a3 : Int32} (w : ((Int32.ofNat na1 ≤ a3 → K S) ∧ (¬ Int32.ofNat na1 ≤ a3 → ((a3 = 0 → rx_in a3 na1 = true ∧ rz mRing_gatherFromFirst 36 [(0, .ref a0), (1, .ref a1), (2, .int a2), (3, .int (a3 + 1))] [] (rz_fA S a1 (upd (S.1 a1) a3.toNatClampNeg a2)) (rz_v K)) ∧ (¬ a3 = 0 → rz_ev mRing_next [.ref a0] S (rz_i (fun xq3 Sq3 => rx_in a3 na1 = true ∧ rz mRing_gatherFromFirst 36 [(0, .ref a0), (1, .ref a1), (2, .int a2), (3, .int (a3 + 1))] [] (rz_fA Sq3 a1 (upd (Sq3.1 a1) a3.toNatClampNeg xq3)) (rz_v K)))))))) : rz mRing_gatherFromFirst 36 [(0, .ref a0), (1, .ref a1), (2, .int a2), (3, .int a3)] [] S (rz_v K) := by
  have za0 := rgZ ha0
  refine rz_pure (pc' := 37) d_Ring_gatherFromFirst_36 rfl ?_
  refine rz_pure (pc' := 38) d_Ring_gatherFromFirst_37 rfl ?_
  refine rz_alenv (v := Int32.ofNat na1) d_Ring_gatherFromFirst_38 (ha1) (by decide) rfl ?_
  refine rz_icmpge (tgt := 63) d_Ring_gatherFromFirst_39 rfl (fun b1 => ?_) (fun b1 => ?_)
  · skip
    exact rz_vretv d_Ring_gatherFromFirst_63 rfl (w.1 b1)
  · skip
    refine rz_pure (pc' := 43) d_Ring_gatherFromFirst_42 rfl ?_
    refine rz_pure (pc' := 44) d_Ring_gatherFromFirst_43 rfl ?_
    refine rz_pure (pc' := 45) d_Ring_gatherFromFirst_44 rfl ?_
    refine rz_ifne (tgt := 52) d_Ring_gatherFromFirst_45 rfl (fun b2 => ?_) (fun b2 => ?_)
    · skip
      refine rz_pure (pc' := 53) d_Ring_gatherFromFirst_52 rfl ?_
      refine rz_callVi (t := []) d_Ring_gatherFromFirst_53 w_8_56 rfl (rgT ha0) rfl ((w.2 b1).2 b2) (fun xq3 Sq3 q3 => ?_)
      refine rz_iastv (F := Sq3.1 a1) (i := a3.toNatClampNeg) d_Ring_gatherFromFirst_56 (ha1) q3.1 rfl rfl ?_
      refine rz_pure (pc' := 60) (l' := [(3, .int (a3 + 1)), (0, .ref a0), (1, .ref a1), (2, .int a2)]) d_Ring_gatherFromFirst_57 rfl ?_
      refine rz_pure (pc' := 36) d_Ring_gatherFromFirst_60 rfl ?_
      exact rz_pick (ks := [0, 1, 2, 3]) (l := [(0, .ref a0), (1, .ref a1), (2, .int a2), (3, .int (a3 + 1))]) rfl rfl (by decide) rfl q3.2
    · skip
      refine rz_pure (pc' := 49) d_Ring_gatherFromFirst_48 rfl ?_
      refine rz_pure (pc' := 56) d_Ring_gatherFromFirst_49 rfl ?_
      refine rz_iastv (F := S.1 a1) (i := a3.toNatClampNeg) d_Ring_gatherFromFirst_56 (ha1) ((w.2 b1).1 b2).1 rfl rfl ?_
      refine rz_pure (pc' := 60) (l' := [(3, .int (a3 + 1)), (0, .ref a0), (1, .ref a1), (2, .int a2)]) d_Ring_gatherFromFirst_57 rfl ?_
      refine rz_pure (pc' := 36) d_Ring_gatherFromFirst_60 rfl ?_
      exact rz_pick (ks := [0, 1, 2, 3]) (l := [(0, .ref a0), (1, .ref a1), (2, .int a2), (3, .int (a3 + 1))]) rfl rfl (by decide) rfl ((w.2 b1).1 b2).2
theorem d_Ring_hasBit_0 : decode (rm_code mRing_hasBit) 0 = .ok (.iload_n 1, 1) := by decide +kernel
theorem d_Ring_hasBit_1 : decode (rm_code mRing_hasBit) 1 = .ok (.ifCond .lt (15), 3) := by decide +kernel
theorem d_Ring_hasBit_4 : decode (rm_code mRing_hasBit) 4 = .ok (.iload_n 1, 1) := by decide +kernel
theorem d_Ring_hasBit_5 : decode (rm_code mRing_hasBit) 5 = .ok (.aload_n 0, 1) := by decide +kernel
theorem d_Ring_hasBit_6 : decode (rm_code mRing_hasBit) 6 = .ok (.getfield 21, 3) := by decide +kernel
theorem d_Ring_hasBit_9 : decode (rm_code mRing_hasBit) 9 = .ok (.if_icmp .ge (7), 3) := by decide +kernel
theorem d_Ring_hasBit_12 : decode (rm_code mRing_hasBit) 12 = .ok (.iconst 1, 1) := by decide +kernel
theorem d_Ring_hasBit_13 : decode (rm_code mRing_hasBit) 13 = .ok (.goto (4), 3) := by decide +kernel
theorem d_Ring_hasBit_16 : decode (rm_code mRing_hasBit) 16 = .ok (.iconst 0, 1) := by decide +kernel
theorem d_Ring_hasBit_17 : decode (rm_code mRing_hasBit) 17 = .ok (.ireturn, 1) := by decide +kernel
theorem p_Ring_hasBit_0 {S : rz_S} {K : Int32 → rz_S → Prop} {a0 : Nat} (ha0 : rgP a0) {a1 : Int32} (w : ((a1 < 0 → K 0 S) ∧ (¬ a1 < 0 → ((S.2 a0 1 ≤ a1 → K 0 S) ∧ (¬ S.2 a0 1 ≤ a1 → K 1 S))))) : rz mRing_hasBit 0 [(0, .ref a0), (1, .int a1)] [] S (rz_i K) := by
  have za0 := rgZ ha0
  refine rz_pure (pc' := 1) d_Ring_hasBit_0 rfl ?_
  refine rz_iflt (tgt := 16) d_Ring_hasBit_1 rfl (fun b1 => ?_) (fun b1 => ?_)
  · skip
    refine rz_iconst (v := 0) d_Ring_hasBit_16 (by decide) ?_
    exact rz_ireti d_Ring_hasBit_17 rfl (by decide) (w.1 b1)
  · skip
    refine rz_pure (pc' := 5) d_Ring_hasBit_4 rfl ?_
    refine rz_pure (pc' := 6) d_Ring_hasBit_5 rfl ?_
    refine rz_getiv (v := S.2 a0 1) d_Ring_hasBit_6 f_8_21 (rgT ha0) rfl rfl ?_
    refine rz_icmpge (tgt := 16) d_Ring_hasBit_9 rfl (fun b2 => ?_) (fun b2 => ?_)
    · skip
      refine rz_iconst (v := 0) d_Ring_hasBit_16 (by decide) ?_
      exact rz_ireti d_Ring_hasBit_17 rfl (by decide) ((w.2 b1).1 b2)
    · skip
      refine rz_iconst (v := 1) d_Ring_hasBit_12 (by decide) ?_
      refine rz_pure (pc' := 17) d_Ring_hasBit_13 rfl ?_
      exact rz_ireti d_Ring_hasBit_17 rfl (by decide) ((w.2 b1).2 b2)
theorem d_Ring_word_0 : decode (rm_code mRing_word) 0 = .ok (.iconst 0, 1) := by decide +kernel
theorem d_Ring_word_1 : decode (rm_code mRing_word) 1 = .ok (.istore_n 2, 1) := by decide +kernel
theorem d_Ring_word_2 : decode (rm_code mRing_word) 2 = .ok (.iconst 0, 1) := by decide +kernel
theorem d_Ring_word_3 : decode (rm_code mRing_word) 3 = .ok (.istore_n 3, 1) := by decide +kernel
theorem d_Ring_word_4 : decode (rm_code mRing_word) 4 = .ok (.iload_n 3, 1) := by decide +kernel
theorem d_Ring_word_5 : decode (rm_code mRing_word) 5 = .ok (.bipush (32), 2) := by decide +kernel
theorem d_Ring_word_7 : decode (rm_code mRing_word) 7 = .ok (.if_icmp .ge (22), 3) := by decide +kernel
theorem d_Ring_word_10 : decode (rm_code mRing_word) 10 = .ok (.iload_n 2, 1) := by decide +kernel
theorem d_Ring_word_11 : decode (rm_code mRing_word) 11 = .ok (.bipush (8), 2) := by decide +kernel
theorem d_Ring_word_13 : decode (rm_code mRing_word) 13 = .ok (.ishl, 1) := by decide +kernel
theorem d_Ring_word_14 : decode (rm_code mRing_word) 14 = .ok (.aload_n 0, 1) := by decide +kernel
theorem d_Ring_word_15 : decode (rm_code mRing_word) 15 = .ok (.iload_n 1, 1) := by decide +kernel
theorem d_Ring_word_16 : decode (rm_code mRing_word) 16 = .ok (.iload_n 3, 1) := by decide +kernel
theorem d_Ring_word_17 : decode (rm_code mRing_word) 17 = .ok (.iadd, 1) := by decide +kernel
theorem d_Ring_word_18 : decode (rm_code mRing_word) 18 = .ok (.invokevirtual 28, 3) := by decide +kernel
theorem d_Ring_word_21 : decode (rm_code mRing_word) 21 = .ok (.ior, 1) := by decide +kernel
theorem d_Ring_word_22 : decode (rm_code mRing_word) 22 = .ok (.istore_n 2, 1) := by decide +kernel
theorem d_Ring_word_23 : decode (rm_code mRing_word) 23 = .ok (.iinc 3 (8), 3) := by decide +kernel
theorem d_Ring_word_26 : decode (rm_code mRing_word) 26 = .ok (.goto (-22), 3) := by decide +kernel
theorem d_Ring_word_29 : decode (rm_code mRing_word) 29 = .ok (.iload_n 2, 1) := by decide +kernel
theorem d_Ring_word_30 : decode (rm_code mRing_word) 30 = .ok (.ireturn, 1) := by decide +kernel
theorem p_Ring_word_0 {S : rz_S} {K : Int32 → rz_S → Prop} {a0 : Nat} (ha0 : rgP a0) {a1 : Int32} (w : rz mRing_word 4 [(0, .ref a0), (1, .int a1), (2, .int 0), (3, .int 0)] [] S (rz_i K)) : rz mRing_word 0 [(0, .ref a0), (1, .int a1)] [] S (rz_i K) := by
  have za0 := rgZ ha0
  refine rz_iconst (v := 0) d_Ring_word_0 (by decide) ?_
  refine rz_pure (pc' := 2) (l' := [(2, .int 0), (0, .ref a0), (1, .int a1)]) d_Ring_word_1 rfl ?_
  refine rz_iconst (v := 0) d_Ring_word_2 (by decide) ?_
  refine rz_pure (pc' := 4) (l' := [(3, .int 0), (2, .int 0), (0, .ref a0), (1, .int a1)]) d_Ring_word_3 rfl ?_
  exact rz_pick (ks := [0, 1, 2, 3]) (l := [(0, .ref a0), (1, .int a1), (2, .int 0), (3, .int 0)]) rfl rfl (by decide) rfl w
theorem p_Ring_word_4 {S : rz_S} {K : Int32 → rz_S → Prop} {a0 : Nat} (ha0 : rgP a0) {a1 : Int32} {a2 : Int32} {a3 : Int32} (w : ((32 ≤ a3 → K a2 S) ∧ (¬ 32 ≤ a3 → rz_ev mRing_eight [.ref a0, .int (a1 + a3)] S (rz_i (fun xq2 Sq2 => rz mRing_word 4 [(0, .ref a0), (1, .int a1), (2, .int ((a2 <<< ((8 : Int32) &&& 31)) ||| xq2)), (3, .int (a3 + 8))] [] Sq2 (rz_i K)))))) : rz mRing_word 4 [(0, .ref a0), (1, .int a1), (2, .int a2), (3, .int a3)] [] S (rz_i K) := by
  have za0 := rgZ ha0
  refine rz_pure (pc' := 5) d_Ring_word_4 rfl ?_
  refine rz_bipush (v := 32) d_Ring_word_5 (by decide) ?_
  refine rz_icmpge (tgt := 29) d_Ring_word_7 rfl (fun b1 => ?_) (fun b1 => ?_)
  · skip
    refine rz_pure (pc' := 30) d_Ring_word_29 rfl ?_
    exact rz_ireti d_Ring_word_30 rfl rfl (w.1 b1)
  · skip
    refine rz_pure (pc' := 11) d_Ring_word_10 rfl ?_
    refine rz_bipush (v := 8) d_Ring_word_11 (by decide) ?_
    refine rz_ishl d_Ring_word_13 ?_
    refine rz_pure (pc' := 15) d_Ring_word_14 rfl ?_
    refine rz_pure (pc' := 16) d_Ring_word_15 rfl ?_
    refine rz_pure (pc' := 17) d_Ring_word_16 rfl ?_
    refine rz_iadd d_Ring_word_17 ?_
    refine rz_callVi (t := [.int (a1 + a3)]) d_Ring_word_18 w_8_28 rfl (rgT ha0) rfl (w.2 b1) (fun xq2 Sq2 q2 => ?_)
    refine rz_ior d_Ring_word_21 ?_
    refine rz_pure (pc' := 23) (l' := [(2, .int ((a2 <<< ((8 : Int32) &&& 31)) ||| xq2)), (0, .ref a0), (1, .int a1), (3, .int a3)]) d_Ring_word_22 rfl ?_
    refine rz_pure (pc' := 26) (l' := [(3, .int (a3 + 8)), (2, .int ((a2 <<< ((8 : Int32) &&& 31)) ||| xq2)), (0, .ref a0), (1, .int a1)]) d_Ring_word_23 rfl ?_
    refine rz_pure (pc' := 4) d_Ring_word_26 rfl ?_
    exact rz_pick (ks := [0, 1, 2, 3]) (l := [(0, .ref a0), (1, .int a1), (2, .int ((a2 <<< ((8 : Int32) &&& 31)) ||| xq2)), (3, .int (a3 + 8))]) rfl rfl (by decide) rfl q2
theorem d_Ring_eight_0 : decode (rm_code mRing_eight) 0 = .ok (.iload_n 1, 1) := by decide +kernel
theorem d_Ring_eight_1 : decode (rm_code mRing_eight) 1 = .ok (.aload_n 0, 1) := by decide +kernel
theorem d_Ring_eight_2 : decode (rm_code mRing_eight) 2 = .ok (.getfield 21, 3) := by decide +kernel
theorem d_Ring_eight_5 : decode (rm_code mRing_eight) 5 = .ok (.if_icmp .lt (12), 3) := by decide +kernel
theorem d_Ring_eight_8 : decode (rm_code mRing_eight) 8 = .ok (.iload_n 1, 1) := by decide +kernel
theorem d_Ring_eight_9 : decode (rm_code mRing_eight) 9 = .ok (.aload_n 0, 1) := by decide +kernel
theorem d_Ring_eight_10 : decode (rm_code mRing_eight) 10 = .ok (.getfield 21, 3) := by decide +kernel
theorem d_Ring_eight_13 : decode (rm_code mRing_eight) 13 = .ok (.isub, 1) := by decide +kernel
theorem d_Ring_eight_14 : decode (rm_code mRing_eight) 14 = .ok (.goto (4), 3) := by decide +kernel
theorem d_Ring_eight_17 : decode (rm_code mRing_eight) 17 = .ok (.iload_n 1, 1) := by decide +kernel
theorem d_Ring_eight_18 : decode (rm_code mRing_eight) 18 = .ok (.istore_n 2, 1) := by decide +kernel
theorem d_Ring_eight_19 : decode (rm_code mRing_eight) 19 = .ok (.iload_n 2, 1) := by decide +kernel
theorem d_Ring_eight_20 : decode (rm_code mRing_eight) 20 = .ok (.iconst 3, 1) := by decide +kernel
theorem d_Ring_eight_21 : decode (rm_code mRing_eight) 21 = .ok (.ishr, 1) := by decide +kernel
theorem d_Ring_eight_22 : decode (rm_code mRing_eight) 22 = .ok (.istore_n 3, 1) := by decide +kernel
theorem d_Ring_eight_23 : decode (rm_code mRing_eight) 23 = .ok (.iload_n 3, 1) := by decide +kernel
theorem d_Ring_eight_24 : decode (rm_code mRing_eight) 24 = .ok (.ifCond .lt (12), 3) := by decide +kernel
theorem d_Ring_eight_27 : decode (rm_code mRing_eight) 27 = .ok (.iload_n 3, 1) := by decide +kernel
theorem d_Ring_eight_28 : decode (rm_code mRing_eight) 28 = .ok (.aload_n 0, 1) := by decide +kernel
theorem d_Ring_eight_29 : decode (rm_code mRing_eight) 29 = .ok (.getfield 15, 3) := by decide +kernel
theorem d_Ring_eight_32 : decode (rm_code mRing_eight) 32 = .ok (.arraylength, 1) := by decide +kernel
theorem d_Ring_eight_33 : decode (rm_code mRing_eight) 33 = .ok (.if_icmp .lt (5), 3) := by decide +kernel
theorem d_Ring_eight_36 : decode (rm_code mRing_eight) 36 = .ok (.iconst 0, 1) := by decide +kernel
theorem d_Ring_eight_37 : decode (rm_code mRing_eight) 37 = .ok (.ireturn, 1) := by decide +kernel
theorem d_Ring_eight_38 : decode (rm_code mRing_eight) 38 = .ok (.iload_n 3, 1) := by decide +kernel
theorem d_Ring_eight_39 : decode (rm_code mRing_eight) 39 = .ok (.iconst 1, 1) := by decide +kernel
theorem d_Ring_eight_40 : decode (rm_code mRing_eight) 40 = .ok (.iadd, 1) := by decide +kernel
theorem d_Ring_eight_41 : decode (rm_code mRing_eight) 41 = .ok (.aload_n 0, 1) := by decide +kernel
theorem d_Ring_eight_42 : decode (rm_code mRing_eight) 42 = .ok (.getfield 15, 3) := by decide +kernel
theorem d_Ring_eight_45 : decode (rm_code mRing_eight) 45 = .ok (.arraylength, 1) := by decide +kernel
theorem d_Ring_eight_46 : decode (rm_code mRing_eight) 46 = .ok (.if_icmp .ge (9), 3) := by decide +kernel
theorem d_Ring_eight_49 : decode (rm_code mRing_eight) 49 = .ok (.iload_n 3, 1) := by decide +kernel
theorem d_Ring_eight_50 : decode (rm_code mRing_eight) 50 = .ok (.iconst 1, 1) := by decide +kernel
theorem d_Ring_eight_51 : decode (rm_code mRing_eight) 51 = .ok (.iadd, 1) := by decide +kernel
theorem d_Ring_eight_52 : decode (rm_code mRing_eight) 52 = .ok (.goto (4), 3) := by decide +kernel
theorem d_Ring_eight_55 : decode (rm_code mRing_eight) 55 = .ok (.iconst 0, 1) := by decide +kernel
theorem d_Ring_eight_56 : decode (rm_code mRing_eight) 56 = .ok (.istore 4, 2) := by decide +kernel
theorem d_Ring_eight_58 : decode (rm_code mRing_eight) 58 = .ok (.aload_n 0, 1) := by decide +kernel
theorem d_Ring_eight_59 : decode (rm_code mRing_eight) 59 = .ok (.getfield 15, 3) := by decide +kernel
theorem d_Ring_eight_62 : decode (rm_code mRing_eight) 62 = .ok (.iload_n 3, 1) := by decide +kernel
theorem d_Ring_eight_63 : decode (rm_code mRing_eight) 63 = .ok (.iaload, 1) := by decide +kernel
theorem d_Ring_eight_64 : decode (rm_code mRing_eight) 64 = .ok (.bipush (8), 2) := by decide +kernel
theorem d_Ring_eight_66 : decode (rm_code mRing_eight) 66 = .ok (.ishl, 1) := by decide +kernel
theorem d_Ring_eight_67 : decode (rm_code mRing_eight) 67 = .ok (.aload_n 0, 1) := by decide +kernel
theorem d_Ring_eight_68 : decode (rm_code mRing_eight) 68 = .ok (.getfield 15, 3) := by decide +kernel
theorem d_Ring_eight_71 : decode (rm_code mRing_eight) 71 = .ok (.iload 4, 2) := by decide +kernel
theorem d_Ring_eight_73 : decode (rm_code mRing_eight) 73 = .ok (.iaload, 1) := by decide +kernel
theorem d_Ring_eight_74 : decode (rm_code mRing_eight) 74 = .ok (.ior, 1) := by decide +kernel
theorem d_Ring_eight_75 : decode (rm_code mRing_eight) 75 = .ok (.bipush (8), 2) := by decide +kernel
theorem d_Ring_eight_77 : decode (rm_code mRing_eight) 77 = .ok (.iload_n 2, 1) := by decide +kernel
theorem d_Ring_eight_78 : decode (rm_code mRing_eight) 78 = .ok (.bipush (7), 2) := by decide +kernel
theorem d_Ring_eight_80 : decode (rm_code mRing_eight) 80 = .ok (.iand, 1) := by decide +kernel
theorem d_Ring_eight_81 : decode (rm_code mRing_eight) 81 = .ok (.isub, 1) := by decide +kernel
theorem d_Ring_eight_82 : decode (rm_code mRing_eight) 82 = .ok (.ishr, 1) := by decide +kernel
theorem d_Ring_eight_83 : decode (rm_code mRing_eight) 83 = .ok (.sipush (255), 3) := by decide +kernel
theorem d_Ring_eight_86 : decode (rm_code mRing_eight) 86 = .ok (.iand, 1) := by decide +kernel
theorem d_Ring_eight_87 : decode (rm_code mRing_eight) 87 = .ok (.ireturn, 1) := by decide +kernel
theorem p_Ring_eight_0 {S : rz_S} {K : Int32 → rz_S → Prop} {a0 : Nat} (ha0 : rgP a0) {a1 : Int32} (w : ((a1 < S.2 a0 1 → rz mRing_eight 18 [(0, .ref a0)] [.int a1] S (rz_i K)) ∧ (¬ a1 < S.2 a0 1 → rz mRing_eight 18 [(0, .ref a0)] [.int (a1 - (S.2 a0 1))] S (rz_i K)))) : rz mRing_eight 0 [(0, .ref a0), (1, .int a1)] [] S (rz_i K) := by
  have za0 := rgZ ha0
  refine rz_pure (pc' := 1) d_Ring_eight_0 rfl ?_
  refine rz_pure (pc' := 2) d_Ring_eight_1 rfl ?_
  refine rz_getiv (v := S.2 a0 1) d_Ring_eight_2 f_8_21 (rgT ha0) rfl rfl ?_
  refine rz_icmplt (tgt := 17) d_Ring_eight_5 rfl (fun b1 => ?_) (fun b1 => ?_)
  · skip
    refine rz_pure (pc' := 18) d_Ring_eight_17 rfl ?_
    exact rz_pick (ks := [0]) (l := [(0, .ref a0)]) rfl rfl (by decide) rfl (w.1 b1)
  · skip
    refine rz_pure (pc' := 9) d_Ring_eight_8 rfl ?_
    refine rz_pure (pc' := 10) d_Ring_eight_9 rfl ?_
    refine rz_getiv (v := S.2 a0 1) d_Ring_eight_10 f_8_21 (rgT ha0) rfl rfl ?_
    refine rz_isub d_Ring_eight_13 ?_
    refine rz_pure (pc' := 18) d_Ring_eight_14 rfl ?_
    exact rz_pick (ks := [0]) (l := [(0, .ref a0)]) rfl rfl (by decide) rfl (w.2 b1)
theorem p_Ring_eight_18 {S : rz_S} {K : Int32 → rz_S → Prop} {a0 : Nat} (ha0 : rgP a0) {s0 : Int32} (w : ((s0 >>> ((3 : Int32) &&& 31) < 0 → K 0 S) ∧ (¬ s0 >>> ((3 : Int32) &&& 31) < 0 → ((s0 >>> ((3 : Int32) &&& 31) < Int32.ofNat (rgN a0) → ((Int32.ofNat (rgN a0) ≤ (s0 >>> ((3 : Int32) &&& 31)) + 1 → rz mRing_eight 56 [(0, .ref a0), (2, .int s0), (3, .int (s0 >>> ((3 : Int32) &&& 31)))] [.int 0] S (rz_i K)) ∧ (¬ Int32.ofNat (rgN a0) ≤ (s0 >>> ((3 : Int32) &&& 31)) + 1 → rz mRing_eight 56 [(0, .ref a0), (2, .int s0), (3, .int (s0 >>> ((3 : Int32) &&& 31)))] [.int ((s0 >>> ((3 : Int32) &&& 31)) + 1)] S (rz_i K)))) ∧ (¬ s0 >>> ((3 : Int32) &&& 31) < Int32.ofNat (rgN a0) → K 0 S))))) : rz mRing_eight 18 [(0, .ref a0)] [.int s0] S (rz_i K) := by
  have za0 := rgZ ha0
  refine rz_pure (pc' := 19) (l' := [(2, .int s0), (0, .ref a0)]) d_Ring_eight_18 rfl ?_
  refine rz_pure (pc' := 20) d_Ring_eight_19 rfl ?_
  refine rz_iconst (v := 3) d_Ring_eight_20 (by decide) ?_
  refine rz_ishr d_Ring_eight_21 ?_
  refine rz_pure (pc' := 23) (l' := [(3, .int (s0 >>> ((3 : Int32) &&& 31))), (2, .int s0), (0, .ref a0)]) d_Ring_eight_22 rfl ?_
  refine rz_pure (pc' := 24) d_Ring_eight_23 rfl ?_
  refine rz_iflt (tgt := 36) d_Ring_eight_24 rfl (fun b1 => ?_) (fun b1 => ?_)
  · skip
    refine rz_iconst (v := 0) d_Ring_eight_36 (by decide) ?_
    exact rz_ireti d_Ring_eight_37 rfl rfl (w.1 b1)
  · skip
    refine rz_pure (pc' := 28) d_Ring_eight_27 rfl ?_
    refine rz_pure (pc' := 29) d_Ring_eight_28 rfl ?_
    refine rz_getr d_Ring_eight_29 f_8_15 (rgT ha0) rfl ?_
    refine rz_alenv (v := Int32.ofNat (rgN a0)) d_Ring_eight_32 (rgC ha0) (by decide) rfl ?_
    refine rz_icmplt (tgt := 38) d_Ring_eight_33 rfl (fun b2 => ?_) (fun b2 => ?_)
    · skip
      refine rz_pure (pc' := 39) d_Ring_eight_38 rfl ?_
      refine rz_iconst (v := 1) d_Ring_eight_39 (by decide) ?_
      refine rz_iadd d_Ring_eight_40 ?_
      refine rz_pure (pc' := 42) d_Ring_eight_41 rfl ?_
      refine rz_getr d_Ring_eight_42 f_8_15 (rgT ha0) rfl ?_
      refine rz_alenv (v := Int32.ofNat (rgN a0)) d_Ring_eight_45 (rgC ha0) (by decide) rfl ?_
      refine rz_icmpge (tgt := 55) d_Ring_eight_46 rfl (fun b3 => ?_) (fun b3 => ?_)
      · skip
        refine rz_iconst (v := 0) d_Ring_eight_55 (by decide) ?_
        exact rz_pick (ks := [0, 2, 3]) (l := [(0, .ref a0), (2, .int s0), (3, .int (s0 >>> ((3 : Int32) &&& 31)))]) rfl rfl (by decide) rfl (((w.2 b1).1 b2).1 b3)
      · skip
        refine rz_pure (pc' := 50) d_Ring_eight_49 rfl ?_
        refine rz_iconst (v := 1) d_Ring_eight_50 (by decide) ?_
        refine rz_iadd d_Ring_eight_51 ?_
        refine rz_pure (pc' := 56) d_Ring_eight_52 rfl ?_
        exact rz_pick (ks := [0, 2, 3]) (l := [(0, .ref a0), (2, .int s0), (3, .int (s0 >>> ((3 : Int32) &&& 31)))]) rfl rfl (by decide) rfl (((w.2 b1).1 b2).2 b3)
    · skip
      refine rz_iconst (v := 0) d_Ring_eight_36 (by decide) ?_
      exact rz_ireti d_Ring_eight_37 rfl rfl ((w.2 b1).2 b2)
theorem p_Ring_eight_56 {S : rz_S} {K : Int32 → rz_S → Prop} {a0 : Nat} (ha0 : rgP a0) {a2 : Int32} {a3 : Int32} {s0 : Int32} (w : rx_in a3 (rgN a0) = true ∧ rx_in s0 (rgN a0) = true ∧ K (((((S.1 (a0 + 1) a3.toNatClampNeg) <<< ((8 : Int32) &&& 31)) ||| (S.1 (a0 + 1) s0.toNatClampNeg)) >>> ((8 - (a2 &&& 7)) &&& 31)) &&& 255) S) : rz mRing_eight 56 [(0, .ref a0), (2, .int a2), (3, .int a3)] [.int s0] S (rz_i K) := by
  have za0 := rgZ ha0
  refine rz_pure (pc' := 58) (l' := [(4, .int s0), (0, .ref a0), (2, .int a2), (3, .int a3)]) d_Ring_eight_56 rfl ?_
  refine rz_pure (pc' := 59) d_Ring_eight_58 rfl ?_
  refine rz_getr d_Ring_eight_59 f_8_15 (rgT ha0) rfl ?_
  refine rz_pure (pc' := 63) d_Ring_eight_62 rfl ?_
  refine rz_ialdv (F := S.1 (a0 + 1)) (i := a3.toNatClampNeg) d_Ring_eight_63 (rgC ha0) w.1 rfl rfl ?_
  refine rz_bipush (v := 8) d_Ring_eight_64 (by decide) ?_
  refine rz_ishl d_Ring_eight_66 ?_
  refine rz_pure (pc' := 68) d_Ring_eight_67 rfl ?_
  refine rz_getr d_Ring_eight_68 f_8_15 (rgT ha0) rfl ?_
  refine rz_pure (pc' := 73) d_Ring_eight_71 rfl ?_
  refine rz_ialdv (F := S.1 (a0 + 1)) (i := s0.toNatClampNeg) d_Ring_eight_73 (rgC ha0) w.2.1 rfl rfl ?_
  refine rz_ior d_Ring_eight_74 ?_
  refine rz_bipush (v := 8) d_Ring_eight_75 (by decide) ?_
  refine rz_pure (pc' := 78) d_Ring_eight_77 rfl ?_
  refine rz_bipush (v := 7) d_Ring_eight_78 (by decide) ?_
  refine rz_iand d_Ring_eight_80 ?_
  refine rz_isub d_Ring_eight_81 ?_
  refine rz_ishr d_Ring_eight_82 ?_
  refine rz_sipush (v := 255) d_Ring_eight_83 (by decide) ?_
  refine rz_iand d_Ring_eight_86 ?_
  exact rz_ireti d_Ring_eight_87 rfl rfl w.2.2
theorem d_Ring_flip_0 : decode (rm_code mRing_flip) 0 = .ok (.iconst 0, 1) := by decide +kernel
theorem d_Ring_flip_1 : decode (rm_code mRing_flip) 1 = .ok (.istore_n 3, 1) := by decide +kernel
theorem d_Ring_flip_2 : decode (rm_code mRing_flip) 2 = .ok (.iload_n 3, 1) := by decide +kernel
theorem d_Ring_flip_3 : decode (rm_code mRing_flip) 3 = .ok (.bipush (32), 2) := by decide +kernel
theorem d_Ring_flip_5 : decode (rm_code mRing_flip) 5 = .ok (.if_icmp .ge (34), 3) := by decide +kernel
theorem d_Ring_flip_8 : decode (rm_code mRing_flip) 8 = .ok (.aload_n 0, 1) := by decide +kernel
theorem d_Ring_flip_9 : decode (rm_code mRing_flip) 9 = .ok (.iload_n 1, 1) := by decide +kernel
theorem d_Ring_flip_10 : decode (rm_code mRing_flip) 10 = .ok (.iload_n 3, 1) := by decide +kernel
theorem d_Ring_flip_11 : decode (rm_code mRing_flip) 11 = .ok (.iadd, 1) := by decide +kernel
theorem d_Ring_flip_12 : decode (rm_code mRing_flip) 12 = .ok (.aload_n 0, 1) := by decide +kernel
theorem d_Ring_flip_13 : decode (rm_code mRing_flip) 13 = .ok (.iload_n 1, 1) := by decide +kernel
theorem d_Ring_flip_14 : decode (rm_code mRing_flip) 14 = .ok (.iload_n 3, 1) := by decide +kernel
theorem d_Ring_flip_15 : decode (rm_code mRing_flip) 15 = .ok (.iadd, 1) := by decide +kernel
theorem d_Ring_flip_16 : decode (rm_code mRing_flip) 16 = .ok (.invokevirtual 28, 3) := by decide +kernel
theorem d_Ring_flip_19 : decode (rm_code mRing_flip) 19 = .ok (.iload_n 2, 1) := by decide +kernel
theorem d_Ring_flip_20 : decode (rm_code mRing_flip) 20 = .ok (.bipush (24), 2) := by decide +kernel
theorem d_Ring_flip_22 : decode (rm_code mRing_flip) 22 = .ok (.iload_n 3, 1) := by decide +kernel
theorem d_Ring_flip_23 : decode (rm_code mRing_flip) 23 = .ok (.isub, 1) := by decide +kernel
theorem d_Ring_flip_24 : decode (rm_code mRing_flip) 24 = .ok (.ishr, 1) := by decide +kernel
theorem d_Ring_flip_25 : decode (rm_code mRing_flip) 25 = .ok (.sipush (255), 3) := by decide +kernel
theorem d_Ring_flip_28 : decode (rm_code mRing_flip) 28 = .ok (.iand, 1) := by decide +kernel
theorem d_Ring_flip_29 : decode (rm_code mRing_flip) 29 = .ok (.ixor, 1) := by decide +kernel
theorem d_Ring_flip_30 : decode (rm_code mRing_flip) 30 = .ok (.invokevirtual 32, 3) := by decide +kernel
theorem d_Ring_flip_33 : decode (rm_code mRing_flip) 33 = .ok (.iinc 3 (8), 3) := by decide +kernel
theorem d_Ring_flip_36 : decode (rm_code mRing_flip) 36 = .ok (.goto (-34), 3) := by decide +kernel
theorem d_Ring_flip_39 : decode (rm_code mRing_flip) 39 = .ok (.return_, 1) := by decide +kernel
theorem p_Ring_flip_0 {S : rz_S} {K : rz_S → Prop} {a0 : Nat} (ha0 : rgP a0) {a1 : Int32} {a2 : Int32} (w : rz mRing_flip 2 [(0, .ref a0), (1, .int a1), (2, .int a2), (3, .int 0)] [] S (rz_v K)) : rz mRing_flip 0 [(0, .ref a0), (1, .int a1), (2, .int a2)] [] S (rz_v K) := by
  have za0 := rgZ ha0
  refine rz_iconst (v := 0) d_Ring_flip_0 (by decide) ?_
  refine rz_pure (pc' := 2) (l' := [(3, .int 0), (0, .ref a0), (1, .int a1), (2, .int a2)]) d_Ring_flip_1 rfl ?_
  exact rz_pick (ks := [0, 1, 2, 3]) (l := [(0, .ref a0), (1, .int a1), (2, .int a2), (3, .int 0)]) rfl rfl (by decide) rfl w
theorem p_Ring_flip_2 {S : rz_S} {K : rz_S → Prop} {a0 : Nat} (ha0 : rgP a0) {a1 : Int32} {a2 : Int32} {a3 : Int32} (w : ((32 ≤ a3 → K S) ∧ (¬ 32 ≤ a3 → rz_ev mRing_eight [.ref a0, .int (a1 + a3)] S (rz_i (fun xq2 Sq2 => rz_ev mRing_put [.ref a0, .int (a1 + a3), .int (xq2 ^^^ ((a2 >>> ((24 - a3) &&& 31)) &&& 255))] Sq2 (rz_v (fun Sq3 => rz mRing_flip 2 [(0, .ref a0), (1, .int a1), (2, .int a2), (3, .int (a3 + 8))] [] Sq3 (rz_v K)))))))) : rz mRing_flip 2 [(0, .ref a0), (1, .int a1), (2, .int a2), (3, .int a3)] [] S (rz_v K) := by
  have za0 := rgZ ha0
  refine rz_pure (pc' := 3) d_Ring_flip_2 rfl ?_
  refine rz_bipush (v := 32) d_Ring_flip_3 (by decide) ?_
  refine rz_icmpge (tgt := 39) d_Ring_flip_5 rfl (fun b1 => ?_) (fun b1 => ?_)
  · skip
    exact rz_vretv d_Ring_flip_39 rfl (w.1 b1)
  · skip
    refine rz_pure (pc' := 9) d_Ring_flip_8 rfl ?_
    refine rz_pure (pc' := 10) d_Ring_flip_9 rfl ?_
    refine rz_pure (pc' := 11) d_Ring_flip_10 rfl ?_
    refine rz_iadd d_Ring_flip_11 ?_
    refine rz_pure (pc' := 13) d_Ring_flip_12 rfl ?_
    refine rz_pure (pc' := 14) d_Ring_flip_13 rfl ?_
    refine rz_pure (pc' := 15) d_Ring_flip_14 rfl ?_
    refine rz_iadd d_Ring_flip_15 ?_
    refine rz_callVi (t := [.int (a1 + a3)]) d_Ring_flip_16 w_8_28 rfl (rgT ha0) rfl (w.2 b1) (fun xq2 Sq2 q2 => ?_)
    refine rz_pure (pc' := 20) d_Ring_flip_19 rfl ?_
    refine rz_bipush (v := 24) d_Ring_flip_20 (by decide) ?_
    refine rz_pure (pc' := 23) d_Ring_flip_22 rfl ?_
    refine rz_isub d_Ring_flip_23 ?_
    refine rz_ishr d_Ring_flip_24 ?_
    refine rz_sipush (v := 255) d_Ring_flip_25 (by decide) ?_
    refine rz_iand d_Ring_flip_28 ?_
    refine rz_ixor d_Ring_flip_29 ?_
    refine rz_callVv (t := [.int (xq2 ^^^ ((a2 >>> ((24 - a3) &&& 31)) &&& 255)), .int (a1 + a3)]) d_Ring_flip_30 w_8_32 rfl (rgT ha0) rfl q2 (fun Sq3 q3 => ?_)
    refine rz_pure (pc' := 36) (l' := [(3, .int (a3 + 8)), (0, .ref a0), (1, .int a1), (2, .int a2)]) d_Ring_flip_33 rfl ?_
    refine rz_pure (pc' := 2) d_Ring_flip_36 rfl ?_
    exact rz_pick (ks := [0, 1, 2, 3]) (l := [(0, .ref a0), (1, .int a1), (2, .int a2), (3, .int (a3 + 8))]) rfl rfl (by decide) rfl q3
