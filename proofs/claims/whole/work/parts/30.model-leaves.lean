theorem d_M_bytesOf_0 : decode (rm_code mM_bytesOf) 0 = .ok (.sipush (1000), 3) := by decide +kernel
theorem d_M_bytesOf_3 : decode (rm_code mM_bytesOf) 3 = .ok (.bipush (120), 2) := by decide +kernel
theorem d_M_bytesOf_5 : decode (rm_code mM_bytesOf) 5 = .ok (.iload_n 0, 1) := by decide +kernel
theorem d_M_bytesOf_6 : decode (rm_code mM_bytesOf) 6 = .ok (.iconst 1, 1) := by decide +kernel
theorem d_M_bytesOf_7 : decode (rm_code mM_bytesOf) 7 = .ok (.isub, 1) := by decide +kernel
theorem d_M_bytesOf_8 : decode (rm_code mM_bytesOf) 8 = .ok (.iconst 3, 1) := by decide +kernel
theorem d_M_bytesOf_9 : decode (rm_code mM_bytesOf) 9 = .ok (.idiv, 1) := by decide +kernel
theorem d_M_bytesOf_10 : decode (rm_code mM_bytesOf) 10 = .ok (.imul, 1) := by decide +kernel
theorem d_M_bytesOf_11 : decode (rm_code mM_bytesOf) 11 = .ok (.isub, 1) := by decide +kernel
theorem d_M_bytesOf_12 : decode (rm_code mM_bytesOf) 12 = .ok (.ireturn, 1) := by decide +kernel
theorem c_M_bytesOf {S : rz_S} (t : Int32) : rz_ev mM_bytesOf [.int t] S (rz_i (fun x S1 => x = (1000 - 120 * ((t - 1) / 3)) ∧ S1 = S)) := by
  show rz _ 0 [(0, .int t)] [] _ _
  refine rz_sipush (v := 1000) d_M_bytesOf_0 (by decide) ?_
  refine rz_bipush (v := 120) d_M_bytesOf_3 (by decide) ?_
  refine rz_pure (pc' := 6) d_M_bytesOf_5 rfl ?_
  refine rz_iconst (v := 1) d_M_bytesOf_6 (by decide) ?_
  refine rz_pure (pc' := 8) d_M_bytesOf_7 rfl ?_
  refine rz_iconst (v := 3) d_M_bytesOf_8 (by decide) ?_
  refine rz_idiv d_M_bytesOf_9 (by decide) ?_
  refine rz_pure (pc' := 11) d_M_bytesOf_10 rfl ?_
  refine rz_pure (pc' := 12) d_M_bytesOf_11 rfl ?_
  exact rz_ireti d_M_bytesOf_12 rfl (by rfl) (by exact ⟨rfl, rfl⟩)
theorem d_M_sectorsOf_0 : decode (rm_code mM_sectorsOf) 0 = .ok (.bipush (8), 2) := by decide +kernel
theorem d_M_sectorsOf_2 : decode (rm_code mM_sectorsOf) 2 = .ok (.iload_n 0, 1) := by decide +kernel
theorem d_M_sectorsOf_3 : decode (rm_code mM_sectorsOf) 3 = .ok (.iconst 1, 1) := by decide +kernel
theorem d_M_sectorsOf_4 : decode (rm_code mM_sectorsOf) 4 = .ok (.isub, 1) := by decide +kernel
theorem d_M_sectorsOf_5 : decode (rm_code mM_sectorsOf) 5 = .ok (.iconst 3, 1) := by decide +kernel
theorem d_M_sectorsOf_6 : decode (rm_code mM_sectorsOf) 6 = .ok (.idiv, 1) := by decide +kernel
theorem d_M_sectorsOf_7 : decode (rm_code mM_sectorsOf) 7 = .ok (.isub, 1) := by decide +kernel
theorem d_M_sectorsOf_8 : decode (rm_code mM_sectorsOf) 8 = .ok (.ireturn, 1) := by decide +kernel
theorem c_M_sectorsOf {S : rz_S} (t : Int32) : rz_ev mM_sectorsOf [.int t] S (rz_i (fun x S1 => x = (8 - (t - 1) / 3) ∧ S1 = S)) := by
  show rz _ 0 [(0, .int t)] [] _ _
  refine rz_bipush (v := 8) d_M_sectorsOf_0 (by decide) ?_
  refine rz_pure (pc' := 3) d_M_sectorsOf_2 rfl ?_
  refine rz_iconst (v := 1) d_M_sectorsOf_3 (by decide) ?_
  refine rz_pure (pc' := 5) d_M_sectorsOf_4 rfl ?_
  refine rz_iconst (v := 3) d_M_sectorsOf_5 (by decide) ?_
  refine rz_idiv d_M_sectorsOf_6 (by decide) ?_
  refine rz_pure (pc' := 8) d_M_sectorsOf_7 rfl ?_
  exact rz_ireti d_M_sectorsOf_8 rfl (by rfl) (by exact ⟨rfl, rfl⟩)
theorem d_M_isLegal_0 : decode (rm_code mM_isLegal) 0 = .ok (.iload_n 0, 1) := by decide +kernel
theorem d_M_isLegal_1 : decode (rm_code mM_isLegal) 1 = .ok (.iconst 1, 1) := by decide +kernel
theorem d_M_isLegal_2 : decode (rm_code mM_isLegal) 2 = .ok (.if_icmp .lt (25), 3) := by decide +kernel
theorem d_M_isLegal_5 : decode (rm_code mM_isLegal) 5 = .ok (.iload_n 0, 1) := by decide +kernel
theorem d_M_isLegal_6 : decode (rm_code mM_isLegal) 6 = .ok (.bipush (12), 2) := by decide +kernel
theorem d_M_isLegal_8 : decode (rm_code mM_isLegal) 8 = .ok (.if_icmp .gt (19), 3) := by decide +kernel
theorem d_M_isLegal_11 : decode (rm_code mM_isLegal) 11 = .ok (.iload_n 1, 1) := by decide +kernel
theorem d_M_isLegal_12 : decode (rm_code mM_isLegal) 12 = .ok (.ifCond .lt (15), 3) := by decide +kernel
theorem d_M_isLegal_15 : decode (rm_code mM_isLegal) 15 = .ok (.iload_n 1, 1) := by decide +kernel
theorem d_M_isLegal_16 : decode (rm_code mM_isLegal) 16 = .ok (.iload_n 0, 1) := by decide +kernel
theorem d_M_isLegal_17 : decode (rm_code mM_isLegal) 17 = .ok (.invokestatic 1, 3) := by decide +kernel
theorem d_M_isLegal_20 : decode (rm_code mM_isLegal) 20 = .ok (.if_icmp .ge (7), 3) := by decide +kernel
theorem d_M_isLegal_23 : decode (rm_code mM_isLegal) 23 = .ok (.iconst 1, 1) := by decide +kernel
theorem d_M_isLegal_24 : decode (rm_code mM_isLegal) 24 = .ok (.goto (4), 3) := by decide +kernel
theorem d_M_isLegal_27 : decode (rm_code mM_isLegal) 27 = .ok (.iconst 0, 1) := by decide +kernel
theorem d_M_isLegal_28 : decode (rm_code mM_isLegal) 28 = .ok (.ireturn, 1) := by decide +kernel
theorem c_M_isLegal {S : rz_S} (t s : Int32) : rz_ev mM_isLegal [.int t, .int s] S (rz_i (fun x S1 => x = (if t < 1 then 0 else if 12 < t then 0 else if s < 0 then 0 else if 8 - (t - 1) / 3 ≤ s then 0 else 1) ∧ S1 = S)) := by
  show rz _ 0 [(0, .int t), (1, .int s)] [] _ _
  refine rz_pure (pc' := 1) d_M_isLegal_0 rfl ?_
  refine rz_iconst (v := 1) d_M_isLegal_1 (by decide) ?_
  refine rz_icmplt (tgt := 27) d_M_isLegal_2 rfl (fun b1 => ?_) (fun b1 => ?_)
  · skip
    refine rz_iconst (v := 0) d_M_isLegal_27 (by decide) ?_
    exact rz_ireti d_M_isLegal_28 rfl (by rfl) (by simp only [*, if_true, if_false, and_self])
  · skip
    refine rz_pure (pc' := 6) d_M_isLegal_5 rfl ?_
    refine rz_bipush (v := 12) d_M_isLegal_6 (by decide) ?_
    refine rz_icmpgt (tgt := 27) d_M_isLegal_8 rfl (fun b2 => ?_) (fun b2 => ?_)
    · skip
      refine rz_iconst (v := 0) d_M_isLegal_27 (by decide) ?_
      exact rz_ireti d_M_isLegal_28 rfl (by rfl) (by simp only [*, if_true, if_false, and_self])
    · skip
      refine rz_pure (pc' := 12) d_M_isLegal_11 rfl ?_
      refine rz_iflt (tgt := 27) d_M_isLegal_12 rfl (fun b3 => ?_) (fun b3 => ?_)
      · skip
        refine rz_iconst (v := 0) d_M_isLegal_27 (by decide) ?_
        exact rz_ireti d_M_isLegal_28 rfl (by rfl) (by simp only [*, if_true, if_false, and_self])
      · skip
        refine rz_pure (pc' := 16) d_M_isLegal_15 rfl ?_
        refine rz_pure (pc' := 17) d_M_isLegal_16 rfl ?_
        refine rz_callSi (t := [_]) d_M_isLegal_17 rfl w_12_1 rfl rfl (c_M_sectorsOf _) (fun x4 S4 q4 => ?_)
        obtain ⟨rfl, rfl⟩ := q4
        refine rz_icmpge (tgt := 27) d_M_isLegal_20 rfl (fun b5 => ?_) (fun b5 => ?_)
        · skip
          refine rz_iconst (v := 0) d_M_isLegal_27 (by decide) ?_
          exact rz_ireti d_M_isLegal_28 rfl (by rfl) (by simp only [*, if_true, if_false, and_self])
        · skip
          refine rz_iconst (v := 1) d_M_isLegal_23 (by decide) ?_
          refine rz_pure (pc' := 28) d_M_isLegal_24 rfl ?_
          exact rz_ireti d_M_isLegal_28 rfl (by rfl) (by simp only [*, if_true, if_false, and_self])
theorem d_M_fault_0 : decode (rm_code mM_fault) 0 = .ok (.aload_n 0, 1) := by decide +kernel
theorem d_M_fault_1 : decode (rm_code mM_fault) 1 = .ok (.iload_n 2, 1) := by decide +kernel
theorem d_M_fault_2 : decode (rm_code mM_fault) 2 = .ok (.putfield 7, 3) := by decide +kernel
theorem d_M_fault_5 : decode (rm_code mM_fault) 5 = .ok (.aload_n 0, 1) := by decide +kernel
theorem d_M_fault_6 : decode (rm_code mM_fault) 6 = .ok (.iload_n 3, 1) := by decide +kernel
theorem d_M_fault_7 : decode (rm_code mM_fault) 7 = .ok (.putfield 11, 3) := by decide +kernel
theorem d_M_fault_10 : decode (rm_code mM_fault) 10 = .ok (.iload_n 1, 1) := by decide +kernel
theorem d_M_fault_11 : decode (rm_code mM_fault) 11 = .ok (.ireturn, 1) := by decide +kernel
theorem c_M_fault {S : rz_S} (n t s : Int32) : rz_ev mM_fault [.ref 116, .int n, .int t, .int s] S (rz_i (fun x S1 => x = n ∧ S1 = (rz_uI (rz_uI S 116 4 t) 116 5 s))) := by
  show rz _ 0 [(0, .ref 116), (1, .int n), (2, .int t), (3, .int s)] [] _ _
  refine rz_pure (pc' := 1) d_M_fault_0 rfl ?_
  refine rz_pure (pc' := 2) d_M_fault_1 rfl ?_
  refine rz_puti d_M_fault_2 f_12_7 rfl rfl rfl ?_
  refine rz_pure (pc' := 6) d_M_fault_5 rfl ?_
  refine rz_pure (pc' := 7) d_M_fault_6 rfl ?_
  refine rz_puti d_M_fault_7 f_12_11 rfl rfl rfl ?_
  refine rz_pure (pc' := 11) d_M_fault_10 rfl ?_
  exact rz_ireti d_M_fault_11 rfl (by rfl) (by exact ⟨rfl, rfl⟩)
theorem d_M_bitAt_0 : decode (rm_code mM_bitAt) 0 = .ok (.aload_n 0, 1) := by decide +kernel
theorem d_M_bitAt_1 : decode (rm_code mM_bitAt) 1 = .ok (.getfield 14, 3) := by decide +kernel
theorem d_M_bitAt_4 : decode (rm_code mM_bitAt) 4 = .ok (.sipush (1000), 3) := by decide +kernel
theorem d_M_bitAt_7 : decode (rm_code mM_bitAt) 7 = .ok (.iload_n 1, 1) := by decide +kernel
theorem d_M_bitAt_8 : decode (rm_code mM_bitAt) 8 = .ok (.iconst 1, 1) := by decide +kernel
theorem d_M_bitAt_9 : decode (rm_code mM_bitAt) 9 = .ok (.isub, 1) := by decide +kernel
theorem d_M_bitAt_10 : decode (rm_code mM_bitAt) 10 = .ok (.imul, 1) := by decide +kernel
theorem d_M_bitAt_11 : decode (rm_code mM_bitAt) 11 = .ok (.iload_n 2, 1) := by decide +kernel
theorem d_M_bitAt_12 : decode (rm_code mM_bitAt) 12 = .ok (.iconst 3, 1) := by decide +kernel
theorem d_M_bitAt_13 : decode (rm_code mM_bitAt) 13 = .ok (.ishr, 1) := by decide +kernel
theorem d_M_bitAt_14 : decode (rm_code mM_bitAt) 14 = .ok (.iadd, 1) := by decide +kernel
theorem d_M_bitAt_15 : decode (rm_code mM_bitAt) 15 = .ok (.baload, 1) := by decide +kernel
theorem d_M_bitAt_16 : decode (rm_code mM_bitAt) 16 = .ok (.bipush (7), 2) := by decide +kernel
theorem d_M_bitAt_18 : decode (rm_code mM_bitAt) 18 = .ok (.iload_n 2, 1) := by decide +kernel
theorem d_M_bitAt_19 : decode (rm_code mM_bitAt) 19 = .ok (.bipush (7), 2) := by decide +kernel
theorem d_M_bitAt_21 : decode (rm_code mM_bitAt) 21 = .ok (.iand, 1) := by decide +kernel
theorem d_M_bitAt_22 : decode (rm_code mM_bitAt) 22 = .ok (.isub, 1) := by decide +kernel
theorem d_M_bitAt_23 : decode (rm_code mM_bitAt) 23 = .ok (.ishr, 1) := by decide +kernel
theorem d_M_bitAt_24 : decode (rm_code mM_bitAt) 24 = .ok (.iconst 1, 1) := by decide +kernel
theorem d_M_bitAt_25 : decode (rm_code mM_bitAt) 25 = .ok (.iand, 1) := by decide +kernel
theorem d_M_bitAt_26 : decode (rm_code mM_bitAt) 26 = .ok (.ireturn, 1) := by decide +kernel
theorem c_M_bitAt {S : rz_S} (t p : Int32) (h : rx_in (1000 * (t - 1) + p >>> ((3 : Int32) &&& 31)) 12000 = true) : rz_ev mM_bitAt [.ref 116, .int t, .int p] S (rz_i (fun x S1 => x = ((S.1 117 (1000 * (t - 1) + p >>> ((3 : Int32) &&& 31)).toNatClampNeg >>> ((7 - (p &&& 7)) &&& 31)) &&& 1) ∧ S1 = S)) := by
  show rz _ 0 [(0, .ref 116), (1, .int t), (2, .int p)] [] _ _
  refine rz_pure (pc' := 1) d_M_bitAt_0 rfl ?_
  refine rz_getr d_M_bitAt_1 f_12_14 rfl rfl ?_
  refine rz_sipush (v := 1000) d_M_bitAt_4 (by decide) ?_
  refine rz_pure (pc' := 8) d_M_bitAt_7 rfl ?_
  refine rz_iconst (v := 1) d_M_bitAt_8 (by decide) ?_
  refine rz_pure (pc' := 10) d_M_bitAt_9 rfl ?_
  refine rz_pure (pc' := 11) d_M_bitAt_10 rfl ?_
  refine rz_pure (pc' := 12) d_M_bitAt_11 rfl ?_
  refine rz_iconst (v := 3) d_M_bitAt_12 (by decide) ?_
  refine rz_pure (pc' := 14) d_M_bitAt_13 rfl ?_
  refine rz_pure (pc' := 15) d_M_bitAt_14 rfl ?_
  refine rz_bald d_M_bitAt_15 rfl (by decide) (by exact h) ?_
  refine rz_bipush (v := 7) d_M_bitAt_16 (by decide) ?_
  refine rz_pure (pc' := 19) d_M_bitAt_18 rfl ?_
  refine rz_bipush (v := 7) d_M_bitAt_19 (by decide) ?_
  refine rz_pure (pc' := 22) d_M_bitAt_21 rfl ?_
  refine rz_pure (pc' := 23) d_M_bitAt_22 rfl ?_
  refine rz_pure (pc' := 24) d_M_bitAt_23 rfl ?_
  refine rz_iconst (v := 1) d_M_bitAt_24 (by decide) ?_
  refine rz_pure (pc' := 26) d_M_bitAt_25 rfl ?_
  exact rz_ireti d_M_bitAt_26 rfl (by rfl) (by exact ⟨rfl, rfl⟩)
