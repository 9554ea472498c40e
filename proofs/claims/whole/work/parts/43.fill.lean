/-! Arrays.fill of ints -/
theorem d_Arr_fill_0 : decode (rm_code mArr_fill) 0 = .ok (.iconst 0, 1) := by decide +kernel
theorem d_Arr_fill_1 : decode (rm_code mArr_fill) 1 = .ok (.istore_n 2, 1) := by decide +kernel
theorem d_Arr_fill_2 : decode (rm_code mArr_fill) 2 = .ok (.aload_n 0, 1) := by decide +kernel
theorem d_Arr_fill_3 : decode (rm_code mArr_fill) 3 = .ok (.arraylength, 1) := by decide +kernel
theorem d_Arr_fill_4 : decode (rm_code mArr_fill) 4 = .ok (.istore_n 3, 1) := by decide +kernel
theorem d_Arr_fill_5 : decode (rm_code mArr_fill) 5 = .ok (.iload_n 2, 1) := by decide +kernel
theorem d_Arr_fill_6 : decode (rm_code mArr_fill) 6 = .ok (.iload_n 3, 1) := by decide +kernel
theorem d_Arr_fill_7 : decode (rm_code mArr_fill) 7 = .ok (.if_icmp .ge (13), 3) := by decide +kernel
theorem d_Arr_fill_10 : decode (rm_code mArr_fill) 10 = .ok (.aload_n 0, 1) := by decide +kernel
theorem d_Arr_fill_11 : decode (rm_code mArr_fill) 11 = .ok (.iload_n 2, 1) := by decide +kernel
theorem d_Arr_fill_12 : decode (rm_code mArr_fill) 12 = .ok (.iload_n 1, 1) := by decide +kernel
theorem d_Arr_fill_13 : decode (rm_code mArr_fill) 13 = .ok (.iastore, 1) := by decide +kernel
theorem d_Arr_fill_14 : decode (rm_code mArr_fill) 14 = .ok (.iinc 2 (1), 3) := by decide +kernel
theorem d_Arr_fill_17 : decode (rm_code mArr_fill) 17 = .ok (.goto (-12), 3) := by decide +kernel
theorem d_Arr_fill_20 : decode (rm_code mArr_fill) 20 = .ok (.return_, 1) := by decide +kernel
def fl_to (S : rz_S) (k : Nat) (v : Int32) (j : Nat) : rz_S := rz_fA S k (fun i => if i < j then v else S.1 k i)
theorem fl_0 {S : rz_S} {k : Nat} {v : Int32} : fl_to S k v 0 = S := by
  unfold fl_to rz_fA
  refine Prod.ext ?_ rfl
  funext q
  by_cases h : q = k
  · subst h; simp
  · simp [h]
theorem fl_s {S : rz_S} {k j : Nat} {v : Int32} : rz_fA (fl_to S k v j) k (upd ((fl_to S k v j).1 k) j v) = fl_to S k v (j + 1) := by
  have e : upd ((fl_to S k v j).1 k) j v = (fun i => if i < j + 1 then v else S.1 k i) := by
    unfold fl_to
    rw [rz_fA_s]
    funext i
    unfold upd
    by_cases h : i = j
    · subst h; simp
    · rw [if_neg h]
      show (if i < j then v else S.1 k i) = _
      by_cases h3 : i < j
      · rw [if_pos h3, if_pos (by omega)]
      · rw [if_neg h3, if_neg (by omega)]
  rw [e]
  unfold fl_to rz_fA
  refine Prod.ext ?_ rfl
  funext q
  by_cases h : q = k
  · subst h; simp
  · simp [h]
theorem lp_Arr_fill {S : rz_S} {k n : Nat} (hT : rz_T[k]? = some (.inl (0, n))) (hn : n < 100000) (v : Int32) : ∀ (m j : Nat), n < m + j → j ≤ n → rz mArr_fill 5 [(2, .int (nI j)), (3, .int (nI n)), (0, .ref k), (1, .int v)] [] (fl_to S k v j) (rz_v (fun S1 => S1 = fl_to S k v n)) := by
  intro m
  induction m with
  | zero => intro j h1 h2; omega
  | succ m ih =>
    intro j h1 h2
    refine rz_pure (pc' := 6) d_Arr_fill_5 rfl ?_
    refine rz_pure (pc' := 7) d_Arr_fill_6 rfl ?_
    refine rz_icmpge (tgt := 20) d_Arr_fill_7 rfl (fun b1 => ?_) (fun b1 => ?_)
    · have : j = n := by
        have := (nI_leI (a := n) (b := j) (by omega) (by omega)).mp b1
        omega
      subst this
      exact rz_vretv d_Arr_fill_20 rfl rfl
    · have hj : j < n := Nat.lt_of_not_le fun z => b1 (nI_le (a := n) (b := j) z (by omega))
      refine rz_pure (pc' := 11) d_Arr_fill_10 rfl ?_
      refine rz_pure (pc' := 12) d_Arr_fill_11 rfl ?_
      refine rz_pure (pc' := 13) d_Arr_fill_12 rfl ?_
      refine rz_iast d_Arr_fill_13 hT (decide_eq_true (vp_in_nI hj (by omega))) ?_
      refine rz_pure (pc' := 17) (l' := [(2, .int (nI (j + 1))), (3, .int (nI n)), (0, .ref k), (1, .int v)]) d_Arr_fill_14 (by rw [← nI_1 j]; rfl) ?_
      refine rz_pure (pc' := 5) d_Arr_fill_17 rfl ?_
      refine rz_st ?_ (ih (j + 1) (by omega) (by omega))
      rw [nI_clamp (n := j) (by omega)]
      exact fl_s
theorem c_Arr_fill {S : rz_S} {k n : Nat} (hT : rz_T[k]? = some (.inl (0, n))) (hn : n < 100000) (v : Int32) : rz_ev mArr_fill [.ref k, .int v] S (rz_v (fun S1 => S1 = fl_to S k v n)) := by
  show rz _ 0 [(0, .ref k), (1, .int v)] [] _ _
  refine rz_iconst (v := 0) d_Arr_fill_0 (by decide) ?_
  refine rz_pure (pc' := 2) (l' := [(2, .int 0), (0, .ref k), (1, .int v)]) d_Arr_fill_1 rfl ?_
  refine rz_pure (pc' := 3) d_Arr_fill_2 rfl ?_
  refine rz_alen d_Arr_fill_3 hT (by decide) ?_
  refine rz_pure (pc' := 5) (l' := [(3, .int (nI n)), (2, .int 0), (0, .ref k), (1, .int v)]) d_Arr_fill_4 rfl ?_
  refine rz_pure (pc' := 6) d_Arr_fill_5 rfl ?_
  refine rz_pure (pc' := 7) d_Arr_fill_6 rfl ?_
  refine rz_icmpge (tgt := 20) d_Arr_fill_7 rfl (fun b1 => ?_) (fun b1 => ?_)
  · have : n = 0 := by
      have := (nI_leI (a := n) (b := 0) (by omega) (by omega)).mp b1
      omega
    subst this
    exact rz_vretv d_Arr_fill_20 rfl fl_0.symm
  · have hj : 0 < n := Nat.lt_of_not_le fun z => b1 (nI_le (a := n) (b := 0) z (by omega))
    refine rz_pure (pc' := 11) d_Arr_fill_10 rfl ?_
    refine rz_pure (pc' := 12) d_Arr_fill_11 rfl ?_
    refine rz_pure (pc' := 13) d_Arr_fill_12 rfl ?_
    refine rz_iast d_Arr_fill_13 hT (decide_eq_true (vp_in_nI (n := 0) hj (by omega))) ?_
    refine rz_pure (pc' := 17) (l' := [(2, .int (nI 1)), (3, .int (nI n)), (0, .ref k), (1, .int v)]) d_Arr_fill_14 rfl ?_
    refine rz_pure (pc' := 5) d_Arr_fill_17 rfl ?_
    refine rz_st ?_ (lp_Arr_fill (S := S) hT hn v (n + 1) 1 (by omega) (by omega))
    have := fl_s (S := S) (k := k) (j := 0) (v := v)
    rw [fl_0] at this
    exact this
