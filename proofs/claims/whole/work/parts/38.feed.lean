theorem it_M_types {S : rz_S} {Q : Option Value → rz_S → Prop} {m : Nat} (hm : m < 400) (hc : S.2 116 64 = nI m) {v s : Int32} (hs : ¬ s < 0) (k : rz mM_types 2 [(2, .int (s + (-1))), (0, .ref 116), (1, .int v)] [] (rz_uI (rz_fA S 150 (upd (S.1 150) m (vp_nar .byte (v >>> ((8 * s) &&& 31)).toInt8.toInt32))) 116 64 (nI (m + 1))) Q) : rz mM_types 2 [(2, .int s), (0, .ref 116), (1, .int v)] [] S Q := by
  have e0 : (nI m).toNatClampNeg = m := nI_clamp (by omega)
  refine rz_pure (pc' := 3) d_M_types_2 rfl ?_
  refine rz_iflt (tgt := 38) d_M_types_3 rfl (fun b1 => ?_) (fun b1 => ?_)
  · exact absurd b1 hs
  · skip
    refine rz_pure (pc' := 7) d_M_types_6 rfl ?_
    refine rz_getr d_M_types_7 f_12_251 rfl rfl ?_
    refine rz_pure (pc' := 11) d_M_types_10 rfl ?_
    refine rz_geti d_M_types_11 f_12_254 rfl rfl ?_
    refine rz_pure (pc' := 15) d_M_types_14 rfl ?_
    refine rz_bipush (v := 8) d_M_types_15 (by decide) ?_
    refine rz_pure (pc' := 18) d_M_types_17 rfl ?_
    refine rz_imul d_M_types_18 ?_
    refine rz_ishr d_M_types_19 ?_
    refine rz_pure (pc' := 21) d_M_types_20 rfl ?_
    refine rz_bast d_M_types_21 rfl (by rw [hc]; exact decide_eq_true (vp_in_nI hm (by decide))) ?_
    refine rz_pure (pc' := 23) d_M_types_22 rfl ?_
    refine rz_pure (pc' := 24) d_M_types_23 rfl ?_
    refine rz_geti d_M_types_24 f_12_254 rfl rfl ?_
    refine rz_iconst (v := 1) d_M_types_27 (by decide) ?_
    refine rz_iadd d_M_types_28 ?_
    refine rz_puti d_M_types_29 f_12_254 rfl rfl rfl ?_
    refine rz_pure (pc' := 35) (l' := [(2, .int (s + (-1))), (0, .ref 116), (1, .int v)]) d_M_types_32 rfl ?_
    refine rz_pure (pc' := 2) d_M_types_35 rfl ?_
    refine rz_st ?_ k
    have e1 : (rz_fA S 150 (upd (S.1 150) (S.2 116 64).toNatClampNeg (vp_nar .byte (v >>> ((8 * s) &&& 31)).toInt8.toInt32))).2 116 64 + 1 = nI (m + 1) := by
      show S.2 116 64 + 1 = _
      rw [hc]
      exact nI_1 m
    rw [e1, hc, e0]
def types4 (S : rz_S) (m : Nat) (v : Int32) : rz_S := rz_uI (rz_fA S 150 (upd (upd (upd (upd (S.1 150) m (vp_nar .byte (v >>> ((24 : Int32) &&& 31)).toInt8.toInt32)) (m + 1) (vp_nar .byte (v >>> ((16 : Int32) &&& 31)).toInt8.toInt32)) (m + 2) (vp_nar .byte (v >>> ((8 : Int32) &&& 31)).toInt8.toInt32)) (m + 3) (vp_nar .byte (v >>> ((0 : Int32) &&& 31)).toInt8.toInt32))) 116 64 (nI (m + 4))
theorem c_M_types {S : rz_S} {m : Nat} (hm : m + 4 ≤ 400) (hc : S.2 116 64 = nI m) (v : Int32) : rz_ev mM_types [.ref 116, .int v] S (rz_v (fun S1 => S1 = types4 S m v)) := by
  show rz _ 0 [(0, .ref 116), (1, .int v)] [] _ _
  refine rz_iconst (v := 3) d_M_types_0 (by decide) ?_
  refine rz_pure (pc' := 2) (l' := [(2, .int 3), (0, .ref 116), (1, .int v)]) d_M_types_1 rfl ?_
  refine it_M_types (m := m) (by omega) hc (by decide) ?_
  refine it_M_types (m := m + 1) (by omega) rz_uI_s (by decide) ?_
  refine it_M_types (m := m + 2) (by omega) rz_uI_s (by decide) ?_
  refine it_M_types (m := m + 3) (by omega) rz_uI_s (by decide) ?_
  refine rz_pure (pc' := 3) d_M_types_2 rfl ?_
  refine rz_iflt (tgt := 38) d_M_types_3 rfl (fun _ => ?_) (fun b => absurd (by decide) b)
  refine rz_vretv d_M_types_38 rfl ?_
  simp only [rz_merge]
  rfl
theorem tape4_c {S : rz_S} {m : Nat} {v : Int32} : (tape4 S m v).2 1 1 = nI (m + 4) := rz_uI_s
theorem types4_c {S : rz_S} {m : Nat} {v : Int32} : (types4 S m v).2 116 64 = nI (m + 4) := rz_uI_s
theorem rd_400 {n : Nat} (hn : n ≤ 400) : nI n + 20 ≤ 400 ↔ n + 20 ≤ 400 := by
  have e : nI n + 20 = nI (n + 20) := nI_add n 20
  rw [e]
  exact nI_leI (a := n + 20) (b := 400) (by omega) (by decide)
theorem d_X_feed_0 : decode (rm_code mX_feed) 0 = .ok (.aload_n 0, 1) := by decide +kernel
theorem d_X_feed_1 : decode (rm_code mX_feed) 1 = .ok (.getfield 10, 3) := by decide +kernel
theorem d_X_feed_4 : decode (rm_code mX_feed) 4 = .ok (.getfield 69, 3) := by decide +kernel
theorem d_X_feed_7 : decode (rm_code mX_feed) 7 = .ok (.bipush (20), 2) := by decide +kernel
theorem d_X_feed_9 : decode (rm_code mX_feed) 9 = .ok (.iadd, 1) := by decide +kernel
theorem d_X_feed_10 : decode (rm_code mX_feed) 10 = .ok (.sipush (400), 3) := by decide +kernel
theorem d_X_feed_13 : decode (rm_code mX_feed) 13 = .ok (.if_icmp .le (5), 3) := by decide +kernel
theorem d_X_feed_16 : decode (rm_code mX_feed) 16 = .ok (.iconst (-1), 1) := by decide +kernel
theorem d_X_feed_17 : decode (rm_code mX_feed) 17 = .ok (.ireturn, 1) := by decide +kernel
theorem d_X_feed_18 : decode (rm_code mX_feed) 18 = .ok (.aload_n 0, 1) := by decide +kernel
theorem d_X_feed_19 : decode (rm_code mX_feed) 19 = .ok (.getfield 10, 3) := by decide +kernel
theorem d_X_feed_22 : decode (rm_code mX_feed) 22 = .ok (.iload_n 1, 1) := by decide +kernel
theorem d_X_feed_23 : decode (rm_code mX_feed) 23 = .ok (.invokevirtual 72, 3) := by decide +kernel
theorem d_X_feed_26 : decode (rm_code mX_feed) 26 = .ok (.aload_n 0, 1) := by decide +kernel
theorem d_X_feed_27 : decode (rm_code mX_feed) 27 = .ok (.getfield 10, 3) := by decide +kernel
theorem d_X_feed_30 : decode (rm_code mX_feed) 30 = .ok (.iload_n 2, 1) := by decide +kernel
theorem d_X_feed_31 : decode (rm_code mX_feed) 31 = .ok (.invokevirtual 72, 3) := by decide +kernel
theorem d_X_feed_34 : decode (rm_code mX_feed) 34 = .ok (.aload_n 0, 1) := by decide +kernel
theorem d_X_feed_35 : decode (rm_code mX_feed) 35 = .ok (.getfield 10, 3) := by decide +kernel
theorem d_X_feed_38 : decode (rm_code mX_feed) 38 = .ok (.iload_n 3, 1) := by decide +kernel
theorem d_X_feed_39 : decode (rm_code mX_feed) 39 = .ok (.invokevirtual 72, 3) := by decide +kernel
theorem d_X_feed_42 : decode (rm_code mX_feed) 42 = .ok (.aload_n 0, 1) := by decide +kernel
theorem d_X_feed_43 : decode (rm_code mX_feed) 43 = .ok (.getfield 10, 3) := by decide +kernel
theorem d_X_feed_46 : decode (rm_code mX_feed) 46 = .ok (.iload 4, 2) := by decide +kernel
theorem d_X_feed_48 : decode (rm_code mX_feed) 48 = .ok (.invokevirtual 72, 3) := by decide +kernel
theorem d_X_feed_51 : decode (rm_code mX_feed) 51 = .ok (.aload_n 0, 1) := by decide +kernel
theorem d_X_feed_52 : decode (rm_code mX_feed) 52 = .ok (.getfield 10, 3) := by decide +kernel
theorem d_X_feed_55 : decode (rm_code mX_feed) 55 = .ok (.iload 5, 2) := by decide +kernel
theorem d_X_feed_57 : decode (rm_code mX_feed) 57 = .ok (.invokevirtual 72, 3) := by decide +kernel
theorem d_X_feed_60 : decode (rm_code mX_feed) 60 = .ok (.aload_n 0, 1) := by decide +kernel
theorem d_X_feed_61 : decode (rm_code mX_feed) 61 = .ok (.getfield 10, 3) := by decide +kernel
theorem d_X_feed_64 : decode (rm_code mX_feed) 64 = .ok (.getfield 69, 3) := by decide +kernel
theorem d_X_feed_67 : decode (rm_code mX_feed) 67 = .ok (.ireturn, 1) := by decide +kernel
theorem c_X_feed {S : rz_S} {n : Nat} (hn : n ≤ 400) (hc : S.2 1 1 = nI n) (a b c d e : Int32) : rz_ev mX_feed [.ref 0, .int a, .int b, .int c, .int d, .int e] S (rz_i (fun x S1 => (400 < n + 20 ∧ x = -1 ∧ S1 = S) ∨ (n + 20 ≤ 400 ∧ x = nI (n + 20) ∧ S1 = (tape4 (tape4 (tape4 (tape4 (tape4 S n a) (n + 4) b) (n + 8) c) (n + 12) d) (n + 16) e)))) := by
  show rz _ 0 [(0, .ref 0), (1, .int a), (2, .int b), (3, .int c), (4, .int d), (5, .int e)] [] _ _
  have h400 := rd_400 hn
  refine rz_pure (pc' := 1) d_X_feed_0 rfl ?_
  refine rz_getr d_X_feed_1 f_11_10 rfl rfl ?_
  refine rz_geti d_X_feed_4 f_11_69 rfl rfl ?_
  refine rz_bipush (v := 20) d_X_feed_7 (by decide) ?_
  refine rz_iadd d_X_feed_9 ?_
  refine rz_sipush (v := 400) d_X_feed_10 (by decide) ?_
  refine rz_icmple (tgt := 18) d_X_feed_13 rfl (fun b1 => ?_) (fun b1 => ?_)
  · have b2 : n + 20 ≤ 400 := h400.mp (hc ▸ b1)
    refine rz_pure (pc' := 19) d_X_feed_18 rfl ?_
    refine rz_getr d_X_feed_19 f_11_10 rfl rfl ?_
    refine rz_pure (pc' := 23) d_X_feed_22 rfl ?_
    refine rz_callVv (t := [_]) d_X_feed_23 w_11_72 rfl rfl rfl (c_Tape_add (m := n) (by omega) hc _) (fun S2 q2 => ?_)
    obtain rfl := q2
    refine rz_pure (pc' := 27) d_X_feed_26 rfl ?_
    refine rz_getr d_X_feed_27 f_11_10 rfl rfl ?_
    refine rz_pure (pc' := 31) d_X_feed_30 rfl ?_
    refine rz_callVv (t := [_]) d_X_feed_31 w_11_72 rfl rfl rfl (c_Tape_add (m := n + 4) (by omega) tape4_c _) (fun S3 q3 => ?_)
    obtain rfl := q3
    refine rz_pure (pc' := 35) d_X_feed_34 rfl ?_
    refine rz_getr d_X_feed_35 f_11_10 rfl rfl ?_
    refine rz_pure (pc' := 39) d_X_feed_38 rfl ?_
    refine rz_callVv (t := [_]) d_X_feed_39 w_11_72 rfl rfl rfl (c_Tape_add (m := n + 8) (by omega) tape4_c _) (fun S4 q4 => ?_)
    obtain rfl := q4
    refine rz_pure (pc' := 43) d_X_feed_42 rfl ?_
    refine rz_getr d_X_feed_43 f_11_10 rfl rfl ?_
    refine rz_pure (pc' := 48) d_X_feed_46 rfl ?_
    refine rz_callVv (t := [_]) d_X_feed_48 w_11_72 rfl rfl rfl (c_Tape_add (m := n + 12) (by omega) tape4_c _) (fun S5 q5 => ?_)
    obtain rfl := q5
    refine rz_pure (pc' := 52) d_X_feed_51 rfl ?_
    refine rz_getr d_X_feed_52 f_11_10 rfl rfl ?_
    refine rz_pure (pc' := 57) d_X_feed_55 rfl ?_
    refine rz_callVv (t := [_]) d_X_feed_57 w_11_72 rfl rfl rfl (c_Tape_add (m := n + 16) (by omega) tape4_c _) (fun S6 q6 => ?_)
    obtain rfl := q6
    refine rz_pure (pc' := 61) d_X_feed_60 rfl ?_
    refine rz_getr d_X_feed_61 f_11_10 rfl rfl ?_
    refine rz_geti d_X_feed_64 f_11_69 rfl rfl ?_
    exact rz_ireti d_X_feed_67 rfl rfl (Or.inr ⟨b2, tape4_c, rfl⟩)
  · have b2 : ¬ n + 20 ≤ 400 := fun z => b1 (hc ▸ h400.mpr z)
    refine rz_iconst (v := -1) d_X_feed_16 (by decide) ?_
    exact rz_ireti d_X_feed_17 rfl rfl (Or.inl ⟨by omega, rfl, rfl⟩)
theorem d_M_feed_0 : decode (rm_code mM_feed) 0 = .ok (.aload_n 0, 1) := by decide +kernel
theorem d_M_feed_1 : decode (rm_code mM_feed) 1 = .ok (.getfield 254, 3) := by decide +kernel
theorem d_M_feed_4 : decode (rm_code mM_feed) 4 = .ok (.bipush (20), 2) := by decide +kernel
theorem d_M_feed_6 : decode (rm_code mM_feed) 6 = .ok (.iadd, 1) := by decide +kernel
theorem d_M_feed_7 : decode (rm_code mM_feed) 7 = .ok (.sipush (400), 3) := by decide +kernel
theorem d_M_feed_10 : decode (rm_code mM_feed) 10 = .ok (.if_icmp .le (5), 3) := by decide +kernel
theorem d_M_feed_13 : decode (rm_code mM_feed) 13 = .ok (.iconst (-1), 1) := by decide +kernel
theorem d_M_feed_14 : decode (rm_code mM_feed) 14 = .ok (.ireturn, 1) := by decide +kernel
theorem d_M_feed_15 : decode (rm_code mM_feed) 15 = .ok (.aload_n 0, 1) := by decide +kernel
theorem d_M_feed_16 : decode (rm_code mM_feed) 16 = .ok (.iload_n 1, 1) := by decide +kernel
theorem d_M_feed_17 : decode (rm_code mM_feed) 17 = .ok (.invokevirtual 257, 3) := by decide +kernel
theorem d_M_feed_20 : decode (rm_code mM_feed) 20 = .ok (.aload_n 0, 1) := by decide +kernel
theorem d_M_feed_21 : decode (rm_code mM_feed) 21 = .ok (.iload_n 2, 1) := by decide +kernel
theorem d_M_feed_22 : decode (rm_code mM_feed) 22 = .ok (.invokevirtual 257, 3) := by decide +kernel
theorem d_M_feed_25 : decode (rm_code mM_feed) 25 = .ok (.aload_n 0, 1) := by decide +kernel
theorem d_M_feed_26 : decode (rm_code mM_feed) 26 = .ok (.iload_n 3, 1) := by decide +kernel
theorem d_M_feed_27 : decode (rm_code mM_feed) 27 = .ok (.invokevirtual 257, 3) := by decide +kernel
theorem d_M_feed_30 : decode (rm_code mM_feed) 30 = .ok (.aload_n 0, 1) := by decide +kernel
theorem d_M_feed_31 : decode (rm_code mM_feed) 31 = .ok (.iload 4, 2) := by decide +kernel
theorem d_M_feed_33 : decode (rm_code mM_feed) 33 = .ok (.invokevirtual 257, 3) := by decide +kernel
theorem d_M_feed_36 : decode (rm_code mM_feed) 36 = .ok (.aload_n 0, 1) := by decide +kernel
theorem d_M_feed_37 : decode (rm_code mM_feed) 37 = .ok (.iload 5, 2) := by decide +kernel
theorem d_M_feed_39 : decode (rm_code mM_feed) 39 = .ok (.invokevirtual 257, 3) := by decide +kernel
theorem d_M_feed_42 : decode (rm_code mM_feed) 42 = .ok (.aload_n 0, 1) := by decide +kernel
theorem d_M_feed_43 : decode (rm_code mM_feed) 43 = .ok (.getfield 254, 3) := by decide +kernel
theorem d_M_feed_46 : decode (rm_code mM_feed) 46 = .ok (.ireturn, 1) := by decide +kernel
theorem c_M_feed {S : rz_S} {n : Nat} (hn : n ≤ 400) (hc : S.2 116 64 = nI n) (a b c d e : Int32) : rz_ev mM_feed [.ref 116, .int a, .int b, .int c, .int d, .int e] S (rz_i (fun x S1 => (400 < n + 20 ∧ x = -1 ∧ S1 = S) ∨ (n + 20 ≤ 400 ∧ x = nI (n + 20) ∧ S1 = (types4 (types4 (types4 (types4 (types4 S n a) (n + 4) b) (n + 8) c) (n + 12) d) (n + 16) e)))) := by
  show rz _ 0 [(0, .ref 116), (1, .int a), (2, .int b), (3, .int c), (4, .int d), (5, .int e)] [] _ _
  have h400 := rd_400 hn
  refine rz_pure (pc' := 1) d_M_feed_0 rfl ?_
  refine rz_geti d_M_feed_1 f_12_254 rfl rfl ?_
  refine rz_bipush (v := 20) d_M_feed_4 (by decide) ?_
  refine rz_iadd d_M_feed_6 ?_
  refine rz_sipush (v := 400) d_M_feed_7 (by decide) ?_
  refine rz_icmple (tgt := 15) d_M_feed_10 rfl (fun b1 => ?_) (fun b1 => ?_)
  · have b2 : n + 20 ≤ 400 := h400.mp (hc ▸ b1)
    refine rz_pure (pc' := 16) d_M_feed_15 rfl ?_
    refine rz_pure (pc' := 17) d_M_feed_16 rfl ?_
    refine rz_callVv (t := [_]) d_M_feed_17 w_12_257 rfl rfl rfl (c_M_types (m := n) (by omega) hc _) (fun S2 q2 => ?_)
    obtain rfl := q2
    refine rz_pure (pc' := 21) d_M_feed_20 rfl ?_
    refine rz_pure (pc' := 22) d_M_feed_21 rfl ?_
    refine rz_callVv (t := [_]) d_M_feed_22 w_12_257 rfl rfl rfl (c_M_types (m := n + 4) (by omega) types4_c _) (fun S3 q3 => ?_)
    obtain rfl := q3
    refine rz_pure (pc' := 26) d_M_feed_25 rfl ?_
    refine rz_pure (pc' := 27) d_M_feed_26 rfl ?_
    refine rz_callVv (t := [_]) d_M_feed_27 w_12_257 rfl rfl rfl (c_M_types (m := n + 8) (by omega) types4_c _) (fun S4 q4 => ?_)
    obtain rfl := q4
    refine rz_pure (pc' := 31) d_M_feed_30 rfl ?_
    refine rz_pure (pc' := 33) d_M_feed_31 rfl ?_
    refine rz_callVv (t := [_]) d_M_feed_33 w_12_257 rfl rfl rfl (c_M_types (m := n + 12) (by omega) types4_c _) (fun S5 q5 => ?_)
    obtain rfl := q5
    refine rz_pure (pc' := 37) d_M_feed_36 rfl ?_
    refine rz_pure (pc' := 39) d_M_feed_37 rfl ?_
    refine rz_callVv (t := [_]) d_M_feed_39 w_12_257 rfl rfl rfl (c_M_types (m := n + 16) (by omega) types4_c _) (fun S6 q6 => ?_)
    obtain rfl := q6
    refine rz_pure (pc' := 43) d_M_feed_42 rfl ?_
    refine rz_geti d_M_feed_43 f_12_254 rfl rfl ?_
    exact rz_ireti d_M_feed_46 rfl rfl (Or.inr ⟨b2, types4_c, rfl⟩)
  · have b2 : ¬ n + 20 ≤ 400 := fun z => b1 (hc ▸ h400.mpr z)
    refine rz_iconst (v := -1) d_M_feed_13 (by decide) ?_
    exact rz_ireti d_M_feed_14 rfl rfl (Or.inl ⟨by omega, rfl, rfl⟩)
