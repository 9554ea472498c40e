/-! the tape: Tape.add, types (the loops, a lemma an iteration) -/
section RZB
variable {M : rx_M} {pc : Nat} {l : rx_L} {rest : List Value} {S : rz_S} {Q : Option Value → rz_S → Prop} {x y : Int32}
theorem rz_iadd (hd : decode (rm_code M) pc = .ok (.iadd, 1)) (k : rz M (pc + 1) l (.int (x + y) :: rest) S Q) : rz M pc l (.int y :: .int x :: rest) S Q := rz_pure hd rfl k
theorem rz_isub (hd : decode (rm_code M) pc = .ok (.isub, 1)) (k : rz M (pc + 1) l (.int (x - y) :: rest) S Q) : rz M pc l (.int y :: .int x :: rest) S Q := rz_pure hd rfl k
theorem rz_imul (hd : decode (rm_code M) pc = .ok (.imul, 1)) (k : rz M (pc + 1) l (.int (x * y) :: rest) S Q) : rz M pc l (.int y :: .int x :: rest) S Q := rz_pure hd rfl k
theorem rz_iand (hd : decode (rm_code M) pc = .ok (.iand, 1)) (k : rz M (pc + 1) l (.int (x &&& y) :: rest) S Q) : rz M pc l (.int y :: .int x :: rest) S Q := rz_pure hd rfl k
theorem rz_ior (hd : decode (rm_code M) pc = .ok (.ior, 1)) (k : rz M (pc + 1) l (.int (x ||| y) :: rest) S Q) : rz M pc l (.int y :: .int x :: rest) S Q := rz_pure hd rfl k
theorem rz_ixor (hd : decode (rm_code M) pc = .ok (.ixor, 1)) (k : rz M (pc + 1) l (.int (x ^^^ y) :: rest) S Q) : rz M pc l (.int y :: .int x :: rest) S Q := rz_pure hd rfl k
theorem rz_ishl (hd : decode (rm_code M) pc = .ok (.ishl, 1)) (k : rz M (pc + 1) l (.int (x <<< (y &&& 31)) :: rest) S Q) : rz M pc l (.int y :: .int x :: rest) S Q := rz_pure hd rfl k
theorem rz_ishr (hd : decode (rm_code M) pc = .ok (.ishr, 1)) (k : rz M (pc + 1) l (.int (x >>> (y &&& 31)) :: rest) S Q) : rz M pc l (.int y :: .int x :: rest) S Q := rz_pure hd rfl k
theorem rz_i2b (hd : decode (rm_code M) pc = .ok (.i2b, 1)) (k : rz M (pc + 1) l (.int x.toInt8.toInt32 :: rest) S Q) : rz M pc l (.int x :: rest) S Q := rz_pure hd rfl k
end RZB
theorem rz_st {M : rx_M} {pc : Nat} {l : rx_L} {st : List Value} {S S2 : rz_S} {Q : Option Value → rz_S → Prop} (e : S = S2) (h : rz M pc l st S2 Q) : rz M pc l st S Q := e ▸ h
theorem rz_merge {S : rz_S} {k i j : Nat} {f g : Nat → Int32} {x y : Int32} : rz_uI (rz_fA (rz_uI (rz_fA S k f) i j x) k g) i j y = rz_uI (rz_fA S k g) i j y := by
  unfold rz_uI rz_fA
  congr 1
  · funext q
    by_cases h : q = k <;> simp [h]
  · funext q z
    by_cases h : q = i ∧ z = j <;> simp [h]
theorem rz_fA_s {S : rz_S} {k : Nat} {f : Nat → Int32} : (rz_fA S k f).1 k = f := by simp [rz_fA]
theorem rz_fA_n {S : rz_S} {k q : Nat} {f : Nat → Int32} (h : q ≠ k) : (rz_fA S k f).1 q = S.1 q := by simp [rz_fA, h]
theorem rz_uI_s {S : rz_S} {k j : Nat} {x : Int32} : (rz_uI S k j x).2 k j = x := by simp [rz_uI]
theorem rz_uI_n {S : rz_S} {k j q z : Nat} {x : Int32} (h : ¬ (q = k ∧ z = j)) : (rz_uI S k j x).2 q z = S.2 q z := by simp only [rz_uI, if_neg h]
theorem d_Tape_add_0 : decode (rm_code mTape_add) 0 = .ok (.bipush (24), 2) := by decide +kernel
theorem d_Tape_add_2 : decode (rm_code mTape_add) 2 = .ok (.istore_n 2, 1) := by decide +kernel
theorem d_Tape_add_3 : decode (rm_code mTape_add) 3 = .ok (.iload_n 2, 1) := by decide +kernel
theorem d_Tape_add_4 : decode (rm_code mTape_add) 4 = .ok (.ifCond .lt (45), 3) := by decide +kernel
theorem d_Tape_add_7 : decode (rm_code mTape_add) 7 = .ok (.aload_n 0, 1) := by decide +kernel
theorem d_Tape_add_8 : decode (rm_code mTape_add) 8 = .ok (.getfield 15, 3) := by decide +kernel
theorem d_Tape_add_11 : decode (rm_code mTape_add) 11 = .ok (.sipush (400), 3) := by decide +kernel
theorem d_Tape_add_14 : decode (rm_code mTape_add) 14 = .ok (.if_icmp .ge (35), 3) := by decide +kernel
theorem d_Tape_add_17 : decode (rm_code mTape_add) 17 = .ok (.aload_n 0, 1) := by decide +kernel
theorem d_Tape_add_18 : decode (rm_code mTape_add) 18 = .ok (.getfield 11, 3) := by decide +kernel
theorem d_Tape_add_21 : decode (rm_code mTape_add) 21 = .ok (.aload_n 0, 1) := by decide +kernel
theorem d_Tape_add_22 : decode (rm_code mTape_add) 22 = .ok (.getfield 15, 3) := by decide +kernel
theorem d_Tape_add_25 : decode (rm_code mTape_add) 25 = .ok (.iload_n 1, 1) := by decide +kernel
theorem d_Tape_add_26 : decode (rm_code mTape_add) 26 = .ok (.iload_n 2, 1) := by decide +kernel
theorem d_Tape_add_27 : decode (rm_code mTape_add) 27 = .ok (.ishr, 1) := by decide +kernel
theorem d_Tape_add_28 : decode (rm_code mTape_add) 28 = .ok (.sipush (255), 3) := by decide +kernel
theorem d_Tape_add_31 : decode (rm_code mTape_add) 31 = .ok (.iand, 1) := by decide +kernel
theorem d_Tape_add_32 : decode (rm_code mTape_add) 32 = .ok (.iastore, 1) := by decide +kernel
theorem d_Tape_add_33 : decode (rm_code mTape_add) 33 = .ok (.aload_n 0, 1) := by decide +kernel
theorem d_Tape_add_34 : decode (rm_code mTape_add) 34 = .ok (.dup, 1) := by decide +kernel
theorem d_Tape_add_35 : decode (rm_code mTape_add) 35 = .ok (.getfield 15, 3) := by decide +kernel
theorem d_Tape_add_38 : decode (rm_code mTape_add) 38 = .ok (.iconst 1, 1) := by decide +kernel
theorem d_Tape_add_39 : decode (rm_code mTape_add) 39 = .ok (.iadd, 1) := by decide +kernel
theorem d_Tape_add_40 : decode (rm_code mTape_add) 40 = .ok (.putfield 15, 3) := by decide +kernel
theorem d_Tape_add_43 : decode (rm_code mTape_add) 43 = .ok (.iinc 2 (-8), 3) := by decide +kernel
theorem d_Tape_add_46 : decode (rm_code mTape_add) 46 = .ok (.goto (-43), 3) := by decide +kernel
theorem d_Tape_add_49 : decode (rm_code mTape_add) 49 = .ok (.return_, 1) := by decide +kernel
theorem d_M_types_0 : decode (rm_code mM_types) 0 = .ok (.iconst 3, 1) := by decide +kernel
theorem d_M_types_1 : decode (rm_code mM_types) 1 = .ok (.istore_n 2, 1) := by decide +kernel
theorem d_M_types_2 : decode (rm_code mM_types) 2 = .ok (.iload_n 2, 1) := by decide +kernel
theorem d_M_types_3 : decode (rm_code mM_types) 3 = .ok (.ifCond .lt (35), 3) := by decide +kernel
theorem d_M_types_6 : decode (rm_code mM_types) 6 = .ok (.aload_n 0, 1) := by decide +kernel
theorem d_M_types_7 : decode (rm_code mM_types) 7 = .ok (.getfield 251, 3) := by decide +kernel
theorem d_M_types_10 : decode (rm_code mM_types) 10 = .ok (.aload_n 0, 1) := by decide +kernel
theorem d_M_types_11 : decode (rm_code mM_types) 11 = .ok (.getfield 254, 3) := by decide +kernel
theorem d_M_types_14 : decode (rm_code mM_types) 14 = .ok (.iload_n 1, 1) := by decide +kernel
theorem d_M_types_15 : decode (rm_code mM_types) 15 = .ok (.bipush (8), 2) := by decide +kernel
theorem d_M_types_17 : decode (rm_code mM_types) 17 = .ok (.iload_n 2, 1) := by decide +kernel
theorem d_M_types_18 : decode (rm_code mM_types) 18 = .ok (.imul, 1) := by decide +kernel
theorem d_M_types_19 : decode (rm_code mM_types) 19 = .ok (.ishr, 1) := by decide +kernel
theorem d_M_types_20 : decode (rm_code mM_types) 20 = .ok (.i2b, 1) := by decide +kernel
theorem d_M_types_21 : decode (rm_code mM_types) 21 = .ok (.bastore, 1) := by decide +kernel
theorem d_M_types_22 : decode (rm_code mM_types) 22 = .ok (.aload_n 0, 1) := by decide +kernel
theorem d_M_types_23 : decode (rm_code mM_types) 23 = .ok (.aload_n 0, 1) := by decide +kernel
theorem d_M_types_24 : decode (rm_code mM_types) 24 = .ok (.getfield 254, 3) := by decide +kernel
theorem d_M_types_27 : decode (rm_code mM_types) 27 = .ok (.iconst 1, 1) := by decide +kernel
theorem d_M_types_28 : decode (rm_code mM_types) 28 = .ok (.iadd, 1) := by decide +kernel
theorem d_M_types_29 : decode (rm_code mM_types) 29 = .ok (.putfield 254, 3) := by decide +kernel
theorem d_M_types_32 : decode (rm_code mM_types) 32 = .ok (.iinc 2 (-1), 3) := by decide +kernel
theorem d_M_types_35 : decode (rm_code mM_types) 35 = .ok (.goto (-33), 3) := by decide +kernel
theorem d_M_types_38 : decode (rm_code mM_types) 38 = .ok (.return_, 1) := by decide +kernel
theorem it_Tape_add {S : rz_S} {Q : Option Value → rz_S → Prop} {m : Nat} (hm : m < 400) (hc : S.2 1 1 = nI m) {v s : Int32} (hs : ¬ s < 0) (k : rz mTape_add 3 [(2, .int (s + (-8))), (0, .ref 1), (1, .int v)] [] (rz_uI (rz_fA S 2 (upd (S.1 2) m ((v >>> (s &&& 31)) &&& 255))) 1 1 (nI (m + 1))) Q) : rz mTape_add 3 [(2, .int s), (0, .ref 1), (1, .int v)] [] S Q := by
  have e0 : (nI m).toNatClampNeg = m := nI_clamp (by omega)
  refine rz_pure (pc' := 4) d_Tape_add_3 rfl ?_
  refine rz_iflt (tgt := 49) d_Tape_add_4 rfl (fun b1 => ?_) (fun b1 => ?_)
  · exact absurd b1 hs
  · skip
    refine rz_pure (pc' := 8) d_Tape_add_7 rfl ?_
    refine rz_geti d_Tape_add_8 f_10_15 rfl rfl ?_
    refine rz_sipush (v := 400) d_Tape_add_11 (by decide) ?_
    refine rz_icmpge (tgt := 49) d_Tape_add_14 rfl (fun b2 => ?_) (fun b2 => ?_)
    · exact absurd (hc ▸ b2 : (400 : Int32) ≤ nI m) (nI_ge (a := m) (b := 400) hm (by decide))
    · skip
      refine rz_pure (pc' := 18) d_Tape_add_17 rfl ?_
      refine rz_getr d_Tape_add_18 f_10_11 rfl rfl ?_
      refine rz_pure (pc' := 22) d_Tape_add_21 rfl ?_
      refine rz_geti d_Tape_add_22 f_10_15 rfl rfl ?_
      refine rz_pure (pc' := 26) d_Tape_add_25 rfl ?_
      refine rz_pure (pc' := 27) d_Tape_add_26 rfl ?_
      refine rz_ishr d_Tape_add_27 ?_
      refine rz_sipush (v := 255) d_Tape_add_28 (by decide) ?_
      refine rz_iand d_Tape_add_31 ?_
      refine rz_iast d_Tape_add_32 rfl (by rw [hc]; exact decide_eq_true (vp_in_nI hm (by decide))) ?_
      refine rz_pure (pc' := 34) d_Tape_add_33 rfl ?_
      refine rz_pure (pc' := 35) d_Tape_add_34 rfl ?_
      refine rz_geti d_Tape_add_35 f_10_15 rfl rfl ?_
      refine rz_iconst (v := 1) d_Tape_add_38 (by decide) ?_
      refine rz_iadd d_Tape_add_39 ?_
      refine rz_puti d_Tape_add_40 f_10_15 rfl rfl rfl ?_
      refine rz_pure (pc' := 46) (l' := [(2, .int (s + (-8))), (0, .ref 1), (1, .int v)]) d_Tape_add_43 rfl ?_
      refine rz_pure (pc' := 3) d_Tape_add_46 rfl ?_
      refine rz_st ?_ k
      have e1 : (rz_fA S 2 (upd (S.1 2) (S.2 1 1).toNatClampNeg ((v >>> (s &&& 31)) &&& 255))).2 1 1 + 1 = nI (m + 1) := by
        show S.2 1 1 + 1 = _
        rw [hc]
        exact nI_1 m
      rw [e1, hc, e0]
def tape4 (S : rz_S) (m : Nat) (v : Int32) : rz_S := rz_uI (rz_fA S 2 (upd (upd (upd (upd (S.1 2) m ((v >>> ((24 : Int32) &&& 31)) &&& 255)) (m + 1) ((v >>> ((16 : Int32) &&& 31)) &&& 255)) (m + 2) ((v >>> ((8 : Int32) &&& 31)) &&& 255)) (m + 3) ((v >>> ((0 : Int32) &&& 31)) &&& 255))) 1 1 (nI (m + 4))
theorem c_Tape_add {S : rz_S} {m : Nat} (hm : m + 4 ≤ 400) (hc : S.2 1 1 = nI m) (v : Int32) : rz_ev mTape_add [.ref 1, .int v] S (rz_v (fun S1 => S1 = tape4 S m v)) := by
  show rz _ 0 [(0, .ref 1), (1, .int v)] [] _ _
  refine rz_bipush (v := 24) d_Tape_add_0 (by decide) ?_
  refine rz_pure (pc' := 3) (l' := [(2, .int 24), (0, .ref 1), (1, .int v)]) d_Tape_add_2 rfl ?_
  refine it_Tape_add (m := m) (by omega) hc (by decide) ?_
  refine it_Tape_add (m := m + 1) (by omega) rz_uI_s (by decide) ?_
  refine it_Tape_add (m := m + 2) (by omega) rz_uI_s (by decide) ?_
  refine it_Tape_add (m := m + 3) (by omega) rz_uI_s (by decide) ?_
  refine rz_pure (pc' := 4) d_Tape_add_3 rfl ?_
  refine rz_iflt (tgt := 49) d_Tape_add_4 rfl (fun _ => ?_) (fun b => absurd (by decide) b)
  refine rz_vretv d_Tape_add_49 rfl ?_
  simp only [rz_merge]
  rfl
