/-! power, both; dropAll, reset -/
theorem d_Dos_dropAll_0 : decode (rm_code mDos_dropAll) 0 = .ok (.iconst 0, 1) := by decide +kernel
theorem d_Dos_dropAll_1 : decode (rm_code mDos_dropAll) 1 = .ok (.istore_n 1, 1) := by decide +kernel
theorem d_Dos_dropAll_2 : decode (rm_code mDos_dropAll) 2 = .ok (.iload_n 1, 1) := by decide +kernel
theorem d_Dos_dropAll_3 : decode (rm_code mDos_dropAll) 3 = .ok (.bipush (15), 2) := by decide +kernel
theorem d_Dos_dropAll_5 : decode (rm_code mDos_dropAll) 5 = .ok (.if_icmp .ge (19), 3) := by decide +kernel
theorem d_Dos_dropAll_8 : decode (rm_code mDos_dropAll) 8 = .ok (.aload_n 0, 1) := by decide +kernel
theorem d_Dos_dropAll_9 : decode (rm_code mDos_dropAll) 9 = .ok (.getfield 19, 3) := by decide +kernel
theorem d_Dos_dropAll_12 : decode (rm_code mDos_dropAll) 12 = .ok (.iload_n 1, 1) := by decide +kernel
theorem d_Dos_dropAll_13 : decode (rm_code mDos_dropAll) 13 = .ok (.aaload, 1) := by decide +kernel
theorem d_Dos_dropAll_14 : decode (rm_code mDos_dropAll) 14 = .ok (.iconst 0, 1) := by decide +kernel
theorem d_Dos_dropAll_15 : decode (rm_code mDos_dropAll) 15 = .ok (.putfield 61, 3) := by decide +kernel
theorem d_Dos_dropAll_18 : decode (rm_code mDos_dropAll) 18 = .ok (.iinc 1 (1), 3) := by decide +kernel
theorem d_Dos_dropAll_21 : decode (rm_code mDos_dropAll) 21 = .ok (.goto (-19), 3) := by decide +kernel
theorem d_Dos_dropAll_24 : decode (rm_code mDos_dropAll) 24 = .ok (.return_, 1) := by decide +kernel
theorem d_Processor_reset_0 : decode (rm_code mProcessor_reset) 0 = .ok (.aload_n 0, 1) := by decide +kernel
theorem d_Processor_reset_1 : decode (rm_code mProcessor_reset) 1 = .ok (.getfield 9, 3) := by decide +kernel
theorem d_Processor_reset_4 : decode (rm_code mProcessor_reset) 4 = .ok (.iconst 0, 1) := by decide +kernel
theorem d_Processor_reset_5 : decode (rm_code mProcessor_reset) 5 = .ok (.invokestatic 13, 3) := by decide +kernel
theorem d_Processor_reset_8 : decode (rm_code mProcessor_reset) 8 = .ok (.aload_n 0, 1) := by decide +kernel
theorem d_Processor_reset_9 : decode (rm_code mProcessor_reset) 9 = .ok (.iconst 0, 1) := by decide +kernel
theorem d_Processor_reset_10 : decode (rm_code mProcessor_reset) 10 = .ok (.invokevirtual 19, 3) := by decide +kernel
theorem d_Processor_reset_13 : decode (rm_code mProcessor_reset) 13 = .ok (.aload_n 0, 1) := by decide +kernel
theorem d_Processor_reset_14 : decode (rm_code mProcessor_reset) 14 = .ok (.iconst 0, 1) := by decide +kernel
theorem d_Processor_reset_15 : decode (rm_code mProcessor_reset) 15 = .ok (.putfield 23, 3) := by decide +kernel
theorem d_Processor_reset_18 : decode (rm_code mProcessor_reset) 18 = .ok (.aload_n 0, 1) := by decide +kernel
theorem d_Processor_reset_19 : decode (rm_code mProcessor_reset) 19 = .ok (.iconst 0, 1) := by decide +kernel
theorem d_Processor_reset_20 : decode (rm_code mProcessor_reset) 20 = .ok (.putfield 27, 3) := by decide +kernel
theorem d_Processor_reset_23 : decode (rm_code mProcessor_reset) 23 = .ok (.return_, 1) := by decide +kernel
theorem d_X_power_0 : decode (rm_code mX_power) 0 = .ok (.aload_n 0, 1) := by decide +kernel
theorem d_X_power_1 : decode (rm_code mX_power) 1 = .ok (.getfield 44, 3) := by decide +kernel
theorem d_X_power_4 : decode (rm_code mX_power) 4 = .ok (.invokevirtual 177, 3) := by decide +kernel
theorem d_X_power_7 : decode (rm_code mX_power) 7 = .ok (.aload_n 0, 1) := by decide +kernel
theorem d_X_power_8 : decode (rm_code mX_power) 8 = .ok (.getfield 28, 3) := by decide +kernel
theorem d_X_power_11 : decode (rm_code mX_power) 11 = .ok (.invokevirtual 180, 3) := by decide +kernel
theorem d_X_power_14 : decode (rm_code mX_power) 14 = .ok (.aload_n 0, 1) := by decide +kernel
theorem d_X_power_15 : decode (rm_code mX_power) 15 = .ok (.getfield 35, 3) := by decide +kernel
theorem d_X_power_18 : decode (rm_code mX_power) 18 = .ok (.invokevirtual 183, 3) := by decide +kernel
theorem d_X_power_21 : decode (rm_code mX_power) 21 = .ok (.aload_n 0, 1) := by decide +kernel
theorem d_X_power_22 : decode (rm_code mX_power) 22 = .ok (.getfield 19, 3) := by decide +kernel
theorem d_X_power_25 : decode (rm_code mX_power) 25 = .ok (.invokevirtual 87, 3) := by decide +kernel
theorem d_X_power_28 : decode (rm_code mX_power) 28 = .ok (.aload_n 0, 1) := by decide +kernel
theorem d_X_power_29 : decode (rm_code mX_power) 29 = .ok (.getfield 19, 3) := by decide +kernel
theorem d_X_power_32 : decode (rm_code mX_power) 32 = .ok (.bipush (73), 2) := by decide +kernel
theorem d_X_power_34 : decode (rm_code mX_power) 34 = .ok (.iconst 0, 1) := by decide +kernel
theorem d_X_power_35 : decode (rm_code mX_power) 35 = .ok (.iconst 0, 1) := by decide +kernel
theorem d_X_power_36 : decode (rm_code mX_power) 36 = .ok (.invokevirtual 90, 3) := by decide +kernel
theorem d_X_power_39 : decode (rm_code mX_power) 39 = .ok (.pop, 1) := by decide +kernel
theorem d_X_power_40 : decode (rm_code mX_power) 40 = .ok (.aload_n 0, 1) := by decide +kernel
theorem d_X_power_41 : decode (rm_code mX_power) 41 = .ok (.iconst 0, 1) := by decide +kernel
theorem d_X_power_42 : decode (rm_code mX_power) 42 = .ok (.putfield 61, 3) := by decide +kernel
theorem d_X_power_45 : decode (rm_code mX_power) 45 = .ok (.aload_n 0, 1) := by decide +kernel
theorem d_X_power_46 : decode (rm_code mX_power) 46 = .ok (.iconst 0, 1) := by decide +kernel
theorem d_X_power_47 : decode (rm_code mX_power) 47 = .ok (.putfield 65, 3) := by decide +kernel
theorem d_X_power_50 : decode (rm_code mX_power) 50 = .ok (.return_, 1) := by decide +kernel
theorem d_M_power_0 : decode (rm_code mM_power) 0 = .ok (.iconst 0, 1) := by decide +kernel
theorem d_M_power_1 : decode (rm_code mM_power) 1 = .ok (.istore_n 1, 1) := by decide +kernel
theorem d_M_power_2 : decode (rm_code mM_power) 2 = .ok (.iload_n 1, 1) := by decide +kernel
theorem d_M_power_3 : decode (rm_code mM_power) 3 = .ok (.bipush (15), 2) := by decide +kernel
theorem d_M_power_5 : decode (rm_code mM_power) 5 = .ok (.if_icmp .ge (16), 3) := by decide +kernel
theorem d_M_power_8 : decode (rm_code mM_power) 8 = .ok (.aload_n 0, 1) := by decide +kernel
theorem d_M_power_9 : decode (rm_code mM_power) 9 = .ok (.getfield 248, 3) := by decide +kernel
theorem d_M_power_12 : decode (rm_code mM_power) 12 = .ok (.iload_n 1, 1) := by decide +kernel
theorem d_M_power_13 : decode (rm_code mM_power) 13 = .ok (.iconst 0, 1) := by decide +kernel
theorem d_M_power_14 : decode (rm_code mM_power) 14 = .ok (.iastore, 1) := by decide +kernel
theorem d_M_power_15 : decode (rm_code mM_power) 15 = .ok (.iinc 1 (1), 3) := by decide +kernel
theorem d_M_power_18 : decode (rm_code mM_power) 18 = .ok (.goto (-16), 3) := by decide +kernel
theorem d_M_power_21 : decode (rm_code mM_power) 21 = .ok (.aload_n 0, 1) := by decide +kernel
theorem d_M_power_22 : decode (rm_code mM_power) 22 = .ok (.iconst (-1), 1) := by decide +kernel
theorem d_M_power_23 : decode (rm_code mM_power) 23 = .ok (.putfield 90, 3) := by decide +kernel
theorem d_M_power_26 : decode (rm_code mM_power) 26 = .ok (.aload_n 0, 1) := by decide +kernel
theorem d_M_power_27 : decode (rm_code mM_power) 27 = .ok (.iconst (-1), 1) := by decide +kernel
theorem d_M_power_28 : decode (rm_code mM_power) 28 = .ok (.putfield 93, 3) := by decide +kernel
theorem d_M_power_31 : decode (rm_code mM_power) 31 = .ok (.aload_n 0, 1) := by decide +kernel
theorem d_M_power_32 : decode (rm_code mM_power) 32 = .ok (.bipush (73), 2) := by decide +kernel
theorem d_M_power_34 : decode (rm_code mM_power) 34 = .ok (.iconst 0, 1) := by decide +kernel
theorem d_M_power_35 : decode (rm_code mM_power) 35 = .ok (.iconst 0, 1) := by decide +kernel
theorem d_M_power_36 : decode (rm_code mM_power) 36 = .ok (.invokevirtual 239, 3) := by decide +kernel
theorem d_M_power_39 : decode (rm_code mM_power) 39 = .ok (.aload_n 0, 1) := by decide +kernel
theorem d_M_power_40 : decode (rm_code mM_power) 40 = .ok (.iconst 0, 1) := by decide +kernel
theorem d_M_power_41 : decode (rm_code mM_power) 41 = .ok (.putfield 242, 3) := by decide +kernel
theorem d_M_power_44 : decode (rm_code mM_power) 44 = .ok (.aload_n 0, 1) := by decide +kernel
theorem d_M_power_45 : decode (rm_code mM_power) 45 = .ok (.iconst 0, 1) := by decide +kernel
theorem d_M_power_46 : decode (rm_code mM_power) 46 = .ok (.putfield 245, 3) := by decide +kernel
theorem d_M_power_49 : decode (rm_code mM_power) 49 = .ok (.aload_n 0, 1) := by decide +kernel
theorem d_M_power_50 : decode (rm_code mM_power) 50 = .ok (.iconst 0, 1) := by decide +kernel
theorem d_M_power_51 : decode (rm_code mM_power) 51 = .ok (.putfield 371, 3) := by decide +kernel
theorem d_M_power_54 : decode (rm_code mM_power) 54 = .ok (.aload_n 0, 1) := by decide +kernel
theorem d_M_power_55 : decode (rm_code mM_power) 55 = .ok (.iconst 0, 1) := by decide +kernel
theorem d_M_power_56 : decode (rm_code mM_power) 56 = .ok (.putfield 374, 3) := by decide +kernel
theorem d_M_power_59 : decode (rm_code mM_power) 59 = .ok (.iconst 0, 1) := by decide +kernel
theorem d_M_power_60 : decode (rm_code mM_power) 60 = .ok (.istore_n 1, 1) := by decide +kernel
theorem d_M_power_61 : decode (rm_code mM_power) 61 = .ok (.iload_n 1, 1) := by decide +kernel
theorem d_M_power_62 : decode (rm_code mM_power) 62 = .ok (.sipush (2048), 3) := by decide +kernel
theorem d_M_power_65 : decode (rm_code mM_power) 65 = .ok (.if_icmp .ge (16), 3) := by decide +kernel
theorem d_M_power_68 : decode (rm_code mM_power) 68 = .ok (.aload_n 0, 1) := by decide +kernel
theorem d_M_power_69 : decode (rm_code mM_power) 69 = .ok (.getfield 614, 3) := by decide +kernel
theorem d_M_power_72 : decode (rm_code mM_power) 72 = .ok (.iload_n 1, 1) := by decide +kernel
theorem d_M_power_73 : decode (rm_code mM_power) 73 = .ok (.iconst 0, 1) := by decide +kernel
theorem d_M_power_74 : decode (rm_code mM_power) 74 = .ok (.bastore, 1) := by decide +kernel
theorem d_M_power_75 : decode (rm_code mM_power) 75 = .ok (.iinc 1 (1), 3) := by decide +kernel
theorem d_M_power_78 : decode (rm_code mM_power) 78 = .ok (.goto (-17), 3) := by decide +kernel
theorem d_M_power_81 : decode (rm_code mM_power) 81 = .ok (.aload_n 0, 1) := by decide +kernel
theorem d_M_power_82 : decode (rm_code mM_power) 82 = .ok (.iconst 0, 1) := by decide +kernel
theorem d_M_power_83 : decode (rm_code mM_power) 83 = .ok (.putfield 626, 3) := by decide +kernel
theorem d_M_power_86 : decode (rm_code mM_power) 86 = .ok (.aload_n 0, 1) := by decide +kernel
theorem d_M_power_87 : decode (rm_code mM_power) 87 = .ok (.iconst 0, 1) := by decide +kernel
theorem d_M_power_88 : decode (rm_code mM_power) 88 = .ok (.putfield 629, 3) := by decide +kernel
theorem d_M_power_91 : decode (rm_code mM_power) 91 = .ok (.aload_n 0, 1) := by decide +kernel
theorem d_M_power_92 : decode (rm_code mM_power) 92 = .ok (.iconst 0, 1) := by decide +kernel
theorem d_M_power_93 : decode (rm_code mM_power) 93 = .ok (.putfield 632, 3) := by decide +kernel
theorem d_M_power_96 : decode (rm_code mM_power) 96 = .ok (.aload_n 0, 1) := by decide +kernel
theorem d_M_power_97 : decode (rm_code mM_power) 97 = .ok (.iconst 0, 1) := by decide +kernel
theorem d_M_power_98 : decode (rm_code mM_power) 98 = .ok (.putfield 635, 3) := by decide +kernel
theorem d_M_power_101 : decode (rm_code mM_power) 101 = .ok (.aload_n 0, 1) := by decide +kernel
theorem d_M_power_102 : decode (rm_code mM_power) 102 = .ok (.iconst 0, 1) := by decide +kernel
theorem d_M_power_103 : decode (rm_code mM_power) 103 = .ok (.putfield 638, 3) := by decide +kernel
theorem d_M_power_106 : decode (rm_code mM_power) 106 = .ok (.aload_n 0, 1) := by decide +kernel
theorem d_M_power_107 : decode (rm_code mM_power) 107 = .ok (.iconst 0, 1) := by decide +kernel
theorem d_M_power_108 : decode (rm_code mM_power) 108 = .ok (.putfield 647, 3) := by decide +kernel
theorem d_M_power_111 : decode (rm_code mM_power) 111 = .ok (.aload_n 0, 1) := by decide +kernel
theorem d_M_power_112 : decode (rm_code mM_power) 112 = .ok (.iconst 0, 1) := by decide +kernel
theorem d_M_power_113 : decode (rm_code mM_power) 113 = .ok (.putfield 641, 3) := by decide +kernel
theorem d_M_power_116 : decode (rm_code mM_power) 116 = .ok (.return_, 1) := by decide +kernel
def dr_to (S : rz_S) (j : Nat) : rz_S := (S.1, fun q z => if z = 0 ∧ 48 ≤ q ∧ q < 48 + 4 * j ∧ (q - 48) % 4 = 0 then 0 else S.2 q z)
theorem dr_0 {S : rz_S} : dr_to S 0 = S := by
  unfold dr_to
  refine Prod.ext rfl ?_
  funext q z
  show (if z = 0 ∧ 48 ≤ q ∧ q < 48 + 4 * 0 ∧ (q - 48) % 4 = 0 then (0 : Int32) else S.2 q z) = S.2 q z
  rw [if_neg (by omega)]
theorem dr_s {S : rz_S} {j : Nat} : rz_uI (dr_to S j) (48 + 4 * j) 0 0 = dr_to S (j + 1) := by
  unfold dr_to rz_uI
  refine Prod.ext rfl ?_
  funext q z
  show (if q = 48 + 4 * j ∧ z = 0 then (0 : Int32) else if z = 0 ∧ 48 ≤ q ∧ q < 48 + 4 * j ∧ (q - 48) % 4 = 0 then 0 else S.2 q z) = (if z = 0 ∧ 48 ≤ q ∧ q < 48 + 4 * (j + 1) ∧ (q - 48) % 4 = 0 then 0 else S.2 q z)
  by_cases h1 : q = 48 + 4 * j ∧ z = 0
  · rw [if_pos h1, if_pos (by omega)]
  · rw [if_neg h1]
    by_cases h2 : z = 0 ∧ 48 ≤ q ∧ q < 48 + 4 * j ∧ (q - 48) % 4 = 0
    · rw [if_pos h2, if_pos (by omega)]
    · rw [if_neg h2, if_neg (by omega)]
theorem lp_Dos_dropAll {S : rz_S} : ∀ (m j : Nat), 16 ≤ m + j → j ≤ 15 → rz mDos_dropAll 2 [(1, .int (nI j)), (0, .ref 39)] [] (dr_to S j) (rz_v (fun S1 => S1 = dr_to S 15)) := by
  intro m
  induction m with
  | zero => intro j h1 h2; omega
  | succ m ih =>
    intro j h1 h2
    refine rz_pure (pc' := 3) d_Dos_dropAll_2 rfl ?_
    refine rz_bipush (v := 15) d_Dos_dropAll_3 (by decide) ?_
    refine rz_icmpge (tgt := 24) d_Dos_dropAll_5 rfl (fun b1 => ?_) (fun b1 => ?_)
    · have : j = 15 := by
        have := (nI_leI (a := 15) (b := j) (by decide) (by omega)).mp b1
        omega
      subst this
      exact rz_vretv d_Dos_dropAll_24 rfl rfl
    · have hj : j < 15 := Nat.lt_of_not_le fun z => b1 (nI_le (a := 15) (b := j) z (by omega))
      refine rz_pure (pc' := 9) d_Dos_dropAll_8 rfl ?_
      refine rz_getr d_Dos_dropAll_9 f_5_19 rfl rfl ?_
      refine rz_pure (pc' := 13) d_Dos_dropAll_12 rfl ?_
      refine rz_aald (a := chL) d_Dos_dropAll_13 rfl rfl (decide_eq_true (vp_in_nI hj (by decide))) ?_
      rw [nI_clamp (n := j) (by omega), chG hj]
      refine rz_iconst (v := 0) d_Dos_dropAll_14 (by decide) ?_
      refine rz_puti d_Dos_dropAll_15 f_5_61 (chT hj) rfl rfl ?_
      refine rz_pure (pc' := 21) (l' := [(1, .int (nI (j + 1))), (0, .ref 39)]) d_Dos_dropAll_18 (by rw [← nI_1 j]; rfl) ?_
      refine rz_pure (pc' := 2) d_Dos_dropAll_21 rfl ?_
      exact rz_st dr_s (ih (j + 1) (by omega) (by omega))
theorem c_Dos_dropAll {S : rz_S} : rz_ev mDos_dropAll [.ref 39] S (rz_v (fun S1 => S1 = dr_to S 15)) := by
  show rz _ 0 [(0, .ref 39)] [] _ _
  refine rz_iconst (v := 0) d_Dos_dropAll_0 (by decide) ?_
  refine rz_pure (pc' := 2) (l' := [(1, .int 0), (0, .ref 39)]) d_Dos_dropAll_1 rfl ?_
  exact rz_st dr_0.symm (lp_Dos_dropAll 16 0 (by omega) (by omega))
def pr_reset (S : rz_S) : rz_S := (rz_uI (rz_uI (pr_begin (fl_to S 38 0 2048) 0) 37 3 0) 37 4 0)
theorem c_Processor_reset {S : rz_S} : rz_ev mProcessor_reset [.ref 37] S (rz_v (fun S1 => S1 = pr_reset S)) := by
  show rz _ 0 [(0, .ref 37)] [] _ _
  refine rz_pure (pc' := 1) d_Processor_reset_0 rfl ?_
  refine rz_getr d_Processor_reset_1 f_7_9 rfl rfl ?_
  refine rz_iconst (v := 0) d_Processor_reset_4 (by decide) ?_
  refine rz_callSv (t := [_, _]) d_Processor_reset_5 rfl w_7_13 rfl rfl (c_Arr_fill (k := 38) (n := 2048) rfl (by decide) _) (fun S1 q1 => ?_)
  obtain rfl := q1
  refine rz_pure (pc' := 9) d_Processor_reset_8 rfl ?_
  refine rz_iconst (v := 0) d_Processor_reset_9 (by decide) ?_
  refine rz_callVv (t := [_]) d_Processor_reset_10 w_7_19 rfl rfl rfl (c_Processor_begin _) (fun S2 q2 => ?_)
  obtain rfl := q2
  refine rz_pure (pc' := 14) d_Processor_reset_13 rfl ?_
  refine rz_iconst (v := 0) d_Processor_reset_14 (by decide) ?_
  refine rz_puti d_Processor_reset_15 f_7_23 rfl rfl rfl ?_
  refine rz_pure (pc' := 19) d_Processor_reset_18 rfl ?_
  refine rz_iconst (v := 0) d_Processor_reset_19 (by decide) ?_
  refine rz_puti d_Processor_reset_20 f_7_27 rfl rfl rfl ?_
  exact rz_vretv d_Processor_reset_23 rfl (by rfl)
def xp_power (S : rz_S) : rz_S := (rz_uI (rz_uI (st_set (st_begin (pr_reset (rz_uI (rz_uI (dr_to S 15) 6 1 (-1)) 6 2 (-1)))) 73 0 0) 0 7 0) 0 8 0)
theorem c_X_power {S : rz_S} : rz_ev mX_power [.ref 0] S (rz_v (fun S1 => S1 = xp_power S)) := by
  show rz _ 0 [(0, .ref 0)] [] _ _
  refine rz_pure (pc' := 1) d_X_power_0 rfl ?_
  refine rz_getr d_X_power_1 f_11_44 rfl rfl ?_
  refine rz_callVv (t := []) d_X_power_4 w_11_177 rfl rfl rfl (c_Dos_dropAll) (fun S1 q1 => ?_)
  obtain rfl := q1
  refine rz_pure (pc' := 8) d_X_power_7 rfl ?_
  refine rz_getr d_X_power_8 f_11_28 rfl rfl ?_
  refine rz_callVv (t := []) d_X_power_11 w_11_180 rfl rfl rfl (c_Disk_dropId) (fun S2 q2 => ?_)
  obtain rfl := q2
  refine rz_pure (pc' := 15) d_X_power_14 rfl ?_
  refine rz_getr d_X_power_15 f_11_35 rfl rfl ?_
  refine rz_callVv (t := []) d_X_power_18 w_11_183 rfl rfl rfl (c_Processor_reset) (fun S3 q3 => ?_)
  obtain rfl := q3
  refine rz_pure (pc' := 22) d_X_power_21 rfl ?_
  refine rz_getr d_X_power_22 f_11_19 rfl rfl ?_
  refine rz_callVv (t := []) d_X_power_25 w_11_87 rfl rfl rfl (c_Status_begin) (fun S4 q4 => ?_)
  obtain rfl := q4
  refine rz_pure (pc' := 29) d_X_power_28 rfl ?_
  refine rz_getr d_X_power_29 f_11_19 rfl rfl ?_
  refine rz_bipush (v := 73) d_X_power_32 (by decide) ?_
  refine rz_iconst (v := 0) d_X_power_34 (by decide) ?_
  refine rz_iconst (v := 0) d_X_power_35 (by decide) ?_
  refine rz_callVi (t := [_, _, _]) d_X_power_36 w_11_90 rfl rfl rfl (c_Status_set _ _ _) (fun x5 S5 q5 => ?_)
  obtain ⟨rfl, rfl⟩ := q5
  refine rz_pure (pc' := 40) d_X_power_39 rfl ?_
  refine rz_pure (pc' := 41) d_X_power_40 rfl ?_
  refine rz_iconst (v := 0) d_X_power_41 (by decide) ?_
  refine rz_puti d_X_power_42 f_11_61 rfl rfl rfl ?_
  refine rz_pure (pc' := 46) d_X_power_45 rfl ?_
  refine rz_iconst (v := 0) d_X_power_46 (by decide) ?_
  refine rz_puti d_X_power_47 f_11_65 rfl rfl (by rfl) ?_
  exact rz_vretv d_X_power_50 rfl (by rfl)
def mp_power (S : rz_S) : rz_S := (rz_uI (rz_uI (rz_uI (rz_uI (rz_uI (rz_uI (rz_uI (fl_to (rz_uI (rz_uI (rz_uI (rz_uI (md_sets (rz_uI (rz_uI (fl_to S 126 0 15) 116 2 (-1)) 116 3 (-1)) 73 0 0) 116 61 0) 116 62 0) 116 67 0) 116 68 0) 155 0 2048) 116 75 0) 116 76 0) 116 77 0) 116 78 0) 116 79 0) 116 82 0) 116 81 0)
theorem lp_M_power1 {S : rz_S} {Q : Option Value → rz_S → Prop} (kk : rz mM_power 21 [(1, .int (nI 15)), (0, .ref 116)] [] (fl_to S 126 0 15) Q) : ∀ (m j : Nat), 16 ≤ m + j → j ≤ 15 → rz mM_power 2 [(1, .int (nI j)), (0, .ref 116)] [] (fl_to S 126 0 j) Q := by
  intro m
  induction m with
  | zero => intro j h1 h2; omega
  | succ m ih =>
    intro j h1 h2
    refine rz_pure (pc' := 3) d_M_power_2 rfl ?_
    refine rz_bipush (v := 15) d_M_power_3 (by decide) ?_
    refine rz_icmpge (tgt := 21) d_M_power_5 rfl (fun b1 => ?_) (fun b1 => ?_)
    · have : j = 15 := by
        have := (nI_leI (a := 15) (b := j) (by decide) (by omega)).mp b1
        omega
      subst this
      exact kk
    · have hj : j < 15 := Nat.lt_of_not_le fun z => b1 (nI_le (a := 15) (b := j) z (by omega))
      refine rz_pure (pc' := 9) d_M_power_8 rfl ?_
      refine rz_getr d_M_power_9 f_12_248 rfl rfl ?_
      refine rz_pure (pc' := 13) d_M_power_12 rfl ?_
      refine rz_iconst (v := 0) d_M_power_13 (by decide) ?_
      refine rz_iast d_M_power_14 rfl (decide_eq_true (vp_in_nI hj (by decide))) ?_
      refine rz_pure (pc' := 18) (l' := [(1, .int (nI (j + 1))), (0, .ref 116)]) d_M_power_15 (by rw [← nI_1 j]; rfl) ?_
      refine rz_pure (pc' := 2) d_M_power_18 rfl ?_
      refine rz_st ?_ (ih (j + 1) (by omega) (by omega))
      rw [nI_clamp (n := j) (by omega)]
      exact fl_s
theorem lp_M_power2 {S : rz_S} {Q : Option Value → rz_S → Prop} (kk : rz mM_power 81 [(1, .int (nI 2048)), (0, .ref 116)] [] (fl_to S 155 0 2048) Q) : ∀ (m j : Nat), 2049 ≤ m + j → j ≤ 2048 → rz mM_power 61 [(1, .int (nI j)), (0, .ref 116)] [] (fl_to S 155 0 j) Q := by
  intro m
  induction m with
  | zero => intro j h1 h2; omega
  | succ m ih =>
    intro j h1 h2
    refine rz_pure (pc' := 62) d_M_power_61 rfl ?_
    refine rz_sipush (v := 2048) d_M_power_62 (by decide) ?_
    refine rz_icmpge (tgt := 81) d_M_power_65 rfl (fun b1 => ?_) (fun b1 => ?_)
    · have : j = 2048 := by
        have := (nI_leI (a := 2048) (b := j) (by decide) (by omega)).mp b1
        omega
      subst this
      exact kk
    · have hj : j < 2048 := Nat.lt_of_not_le fun z => b1 (nI_le (a := 2048) (b := j) z (by omega))
      refine rz_pure (pc' := 69) d_M_power_68 rfl ?_
      refine rz_getr d_M_power_69 f_12_614 rfl rfl ?_
      refine rz_pure (pc' := 73) d_M_power_72 rfl ?_
      refine rz_iconst (v := 0) d_M_power_73 (by decide) ?_
      refine rz_bast d_M_power_74 rfl (decide_eq_true (vp_in_nI hj (by decide))) ?_
      refine rz_pure (pc' := 78) (l' := [(1, .int (nI (j + 1))), (0, .ref 116)]) d_M_power_75 (by rw [← nI_1 j]; rfl) ?_
      refine rz_pure (pc' := 61) d_M_power_78 rfl ?_
      refine rz_st ?_ (ih (j + 1) (by omega) (by omega))
      rw [nI_clamp (n := j) (by omega), show vp_nar .byte 0 = 0 from rfl]
      exact fl_s
theorem c_M_power {S : rz_S} : rz_ev mM_power [.ref 116] S (rz_v (fun S1 => S1 = mp_power S)) := by
  show rz _ 0 [(0, .ref 116)] [] _ _
  refine rz_iconst (v := 0) d_M_power_0 (by decide) ?_
  refine rz_pure (pc' := 2) (l' := [(1, .int 0), (0, .ref 116)]) d_M_power_1 rfl ?_
  refine rz_st fl_0.symm (lp_M_power1 (S := S) ?_ 16 0 (by omega) (by omega))
  refine rz_pure (pc' := 22) d_M_power_21 rfl ?_
  refine rz_iconst (v := -1) d_M_power_22 (by decide) ?_
  refine rz_puti d_M_power_23 f_12_90 rfl rfl rfl ?_
  refine rz_pure (pc' := 27) d_M_power_26 rfl ?_
  refine rz_iconst (v := -1) d_M_power_27 (by decide) ?_
  refine rz_puti d_M_power_28 f_12_93 rfl rfl rfl ?_
  refine rz_pure (pc' := 32) d_M_power_31 rfl ?_
  refine rz_bipush (v := 73) d_M_power_32 (by decide) ?_
  refine rz_iconst (v := 0) d_M_power_34 (by decide) ?_
  refine rz_iconst (v := 0) d_M_power_35 (by decide) ?_
  refine rz_callVv (t := [_, _, _]) d_M_power_36 w_12_239 rfl rfl rfl (c_M_sets _ _ _) (fun S1 q1 => ?_)
  obtain rfl := q1
  refine rz_pure (pc' := 40) d_M_power_39 rfl ?_
  refine rz_iconst (v := 0) d_M_power_40 (by decide) ?_
  refine rz_puti d_M_power_41 f_12_242 rfl rfl rfl ?_
  refine rz_pure (pc' := 45) d_M_power_44 rfl ?_
  refine rz_iconst (v := 0) d_M_power_45 (by decide) ?_
  refine rz_puti d_M_power_46 f_12_245 rfl rfl rfl ?_
  refine rz_pure (pc' := 50) d_M_power_49 rfl ?_
  refine rz_iconst (v := 0) d_M_power_50 (by decide) ?_
  refine rz_puti d_M_power_51 f_12_371 rfl rfl rfl ?_
  refine rz_pure (pc' := 55) d_M_power_54 rfl ?_
  refine rz_iconst (v := 0) d_M_power_55 (by decide) ?_
  refine rz_puti d_M_power_56 f_12_374 rfl rfl rfl ?_
  refine rz_iconst (v := 0) d_M_power_59 (by decide) ?_
  refine rz_pure (pc' := 61) (l' := [(1, .int 0), (0, .ref 116)]) d_M_power_60 rfl ?_
  refine rz_st fl_0.symm (lp_M_power2 ?_ 2049 0 (by omega) (by omega))
  refine rz_pure (pc' := 82) d_M_power_81 rfl ?_
  refine rz_iconst (v := 0) d_M_power_82 (by decide) ?_
  refine rz_puti d_M_power_83 f_12_626 rfl rfl rfl ?_
  refine rz_pure (pc' := 87) d_M_power_86 rfl ?_
  refine rz_iconst (v := 0) d_M_power_87 (by decide) ?_
  refine rz_puti d_M_power_88 f_12_629 rfl rfl rfl ?_
  refine rz_pure (pc' := 92) d_M_power_91 rfl ?_
  refine rz_iconst (v := 0) d_M_power_92 (by decide) ?_
  refine rz_puti d_M_power_93 f_12_632 rfl rfl rfl ?_
  refine rz_pure (pc' := 97) d_M_power_96 rfl ?_
  refine rz_iconst (v := 0) d_M_power_97 (by decide) ?_
  refine rz_puti d_M_power_98 f_12_635 rfl rfl rfl ?_
  refine rz_pure (pc' := 102) d_M_power_101 rfl ?_
  refine rz_iconst (v := 0) d_M_power_102 (by decide) ?_
  refine rz_puti d_M_power_103 f_12_638 rfl rfl rfl ?_
  refine rz_pure (pc' := 107) d_M_power_106 rfl ?_
  refine rz_iconst (v := 0) d_M_power_107 (by decide) ?_
  refine rz_puti d_M_power_108 f_12_647 rfl rfl rfl ?_
  refine rz_pure (pc' := 112) d_M_power_111 rfl ?_
  refine rz_iconst (v := 0) d_M_power_112 (by decide) ?_
  refine rz_puti d_M_power_113 f_12_641 rfl rfl rfl ?_
  exact rz_vretv d_M_power_116 rfl (by rfl)
theorem rd_power {S : rz_S} {P : rz_S → Prop} (hP : P (mp_power (xp_power S))) : rd_twov mX_power mM_power [] S P := rd_exactv c_X_power c_M_power hP
