/-! leaves: Status.set, begin, sets, begins, dropId, begin of the processor -/
def st_set (S : rz_S) (n t s : Int32) : rz_S := (rz_uI (rz_uI (rz_uI (rz_uI (rz_uI S 3 0 n) 3 1 t) 3 2 s) 3 5 0) 3 6 0)
theorem d_Status_set_0 : decode (rm_code mStatus_set) 0 = .ok (.aload_n 0, 1) := by decide +kernel
theorem d_Status_set_1 : decode (rm_code mStatus_set) 1 = .ok (.iload_n 1, 1) := by decide +kernel
theorem d_Status_set_2 : decode (rm_code mStatus_set) 2 = .ok (.putfield 9, 3) := by decide +kernel
theorem d_Status_set_5 : decode (rm_code mStatus_set) 5 = .ok (.aload_n 0, 1) := by decide +kernel
theorem d_Status_set_6 : decode (rm_code mStatus_set) 6 = .ok (.iload_n 2, 1) := by decide +kernel
theorem d_Status_set_7 : decode (rm_code mStatus_set) 7 = .ok (.putfield 32, 3) := by decide +kernel
theorem d_Status_set_10 : decode (rm_code mStatus_set) 10 = .ok (.aload_n 0, 1) := by decide +kernel
theorem d_Status_set_11 : decode (rm_code mStatus_set) 11 = .ok (.iload_n 3, 1) := by decide +kernel
theorem d_Status_set_12 : decode (rm_code mStatus_set) 12 = .ok (.putfield 35, 3) := by decide +kernel
theorem d_Status_set_15 : decode (rm_code mStatus_set) 15 = .ok (.aload_n 0, 1) := by decide +kernel
theorem d_Status_set_16 : decode (rm_code mStatus_set) 16 = .ok (.iconst 0, 1) := by decide +kernel
theorem d_Status_set_17 : decode (rm_code mStatus_set) 17 = .ok (.putfield 38, 3) := by decide +kernel
theorem d_Status_set_20 : decode (rm_code mStatus_set) 20 = .ok (.aload_n 0, 1) := by decide +kernel
theorem d_Status_set_21 : decode (rm_code mStatus_set) 21 = .ok (.iconst 0, 1) := by decide +kernel
theorem d_Status_set_22 : decode (rm_code mStatus_set) 22 = .ok (.putfield 41, 3) := by decide +kernel
theorem d_Status_set_25 : decode (rm_code mStatus_set) 25 = .ok (.iload_n 1, 1) := by decide +kernel
theorem d_Status_set_26 : decode (rm_code mStatus_set) 26 = .ok (.ireturn, 1) := by decide +kernel
theorem c_Status_set {S : rz_S} (n t s : Int32) : rz_ev mStatus_set [.ref 3, .int n, .int t, .int s] S (rz_i (fun x S1 => x = n ∧ S1 = (st_set S n t s))) := by
  show rz _ 0 [(0, .ref 3), (1, .int n), (2, .int t), (3, .int s)] [] _ _
  refine rz_pure (pc' := 1) d_Status_set_0 rfl ?_
  refine rz_pure (pc' := 2) d_Status_set_1 rfl ?_
  refine rz_puti d_Status_set_2 f_9_9 rfl rfl rfl ?_
  refine rz_pure (pc' := 6) d_Status_set_5 rfl ?_
  refine rz_pure (pc' := 7) d_Status_set_6 rfl ?_
  refine rz_puti d_Status_set_7 f_9_32 rfl rfl rfl ?_
  refine rz_pure (pc' := 11) d_Status_set_10 rfl ?_
  refine rz_pure (pc' := 12) d_Status_set_11 rfl ?_
  refine rz_puti d_Status_set_12 f_9_35 rfl rfl rfl ?_
  refine rz_pure (pc' := 16) d_Status_set_15 rfl ?_
  refine rz_iconst (v := 0) d_Status_set_16 (by decide) ?_
  refine rz_puti d_Status_set_17 f_9_38 rfl rfl rfl ?_
  refine rz_pure (pc' := 21) d_Status_set_20 rfl ?_
  refine rz_iconst (v := 0) d_Status_set_21 (by decide) ?_
  refine rz_puti d_Status_set_22 f_9_41 rfl rfl rfl ?_
  refine rz_pure (pc' := 26) d_Status_set_25 rfl ?_
  exact rz_ireti d_Status_set_26 rfl (by rfl) (by exact ⟨rfl, rfl⟩)
def st_begin (S : rz_S) : rz_S := (rz_uI (rz_uI (st_set S 0 0 0) 3 8 0) 3 9 0)
theorem d_Status_begin_0 : decode (rm_code mStatus_begin) 0 = .ok (.aload_n 0, 1) := by decide +kernel
theorem d_Status_begin_1 : decode (rm_code mStatus_begin) 1 = .ok (.iconst 0, 1) := by decide +kernel
theorem d_Status_begin_2 : decode (rm_code mStatus_begin) 2 = .ok (.iconst 0, 1) := by decide +kernel
theorem d_Status_begin_3 : decode (rm_code mStatus_begin) 3 = .ok (.iconst 0, 1) := by decide +kernel
theorem d_Status_begin_4 : decode (rm_code mStatus_begin) 4 = .ok (.invokevirtual 22, 3) := by decide +kernel
theorem d_Status_begin_7 : decode (rm_code mStatus_begin) 7 = .ok (.pop, 1) := by decide +kernel
theorem d_Status_begin_8 : decode (rm_code mStatus_begin) 8 = .ok (.aload_n 0, 1) := by decide +kernel
theorem d_Status_begin_9 : decode (rm_code mStatus_begin) 9 = .ok (.iconst 0, 1) := by decide +kernel
theorem d_Status_begin_10 : decode (rm_code mStatus_begin) 10 = .ok (.putfield 26, 3) := by decide +kernel
theorem d_Status_begin_13 : decode (rm_code mStatus_begin) 13 = .ok (.aload_n 0, 1) := by decide +kernel
theorem d_Status_begin_14 : decode (rm_code mStatus_begin) 14 = .ok (.iconst 0, 1) := by decide +kernel
theorem d_Status_begin_15 : decode (rm_code mStatus_begin) 15 = .ok (.putfield 29, 3) := by decide +kernel
theorem d_Status_begin_18 : decode (rm_code mStatus_begin) 18 = .ok (.return_, 1) := by decide +kernel
theorem c_Status_begin {S : rz_S} : rz_ev mStatus_begin [.ref 3] S (rz_v (fun S1 => S1 = (st_begin S))) := by
  show rz _ 0 [(0, .ref 3)] [] _ _
  refine rz_pure (pc' := 1) d_Status_begin_0 rfl ?_
  refine rz_iconst (v := 0) d_Status_begin_1 (by decide) ?_
  refine rz_iconst (v := 0) d_Status_begin_2 (by decide) ?_
  refine rz_iconst (v := 0) d_Status_begin_3 (by decide) ?_
  refine rz_callVi (t := [_, _, _]) d_Status_begin_4 w_9_22 rfl rfl rfl (c_Status_set _ _ _) (fun x1 S1 q1 => ?_)
  obtain ⟨rfl, rfl⟩ := q1
  refine rz_pure (pc' := 8) d_Status_begin_7 rfl ?_
  refine rz_pure (pc' := 9) d_Status_begin_8 rfl ?_
  refine rz_iconst (v := 0) d_Status_begin_9 (by decide) ?_
  refine rz_puti d_Status_begin_10 f_9_26 rfl rfl rfl ?_
  refine rz_pure (pc' := 14) d_Status_begin_13 rfl ?_
  refine rz_iconst (v := 0) d_Status_begin_14 (by decide) ?_
  refine rz_puti d_Status_begin_15 f_9_29 rfl rfl rfl ?_
  exact rz_vretv d_Status_begin_18 rfl (by rfl)
theorem d_Disk_dropId_0 : decode (rm_code mDisk_dropId) 0 = .ok (.aload_n 0, 1) := by decide +kernel
theorem d_Disk_dropId_1 : decode (rm_code mDisk_dropId) 1 = .ok (.iconst (-1), 1) := by decide +kernel
theorem d_Disk_dropId_2 : decode (rm_code mDisk_dropId) 2 = .ok (.putfield 9, 3) := by decide +kernel
theorem d_Disk_dropId_5 : decode (rm_code mDisk_dropId) 5 = .ok (.aload_n 0, 1) := by decide +kernel
theorem d_Disk_dropId_6 : decode (rm_code mDisk_dropId) 6 = .ok (.iconst (-1), 1) := by decide +kernel
theorem d_Disk_dropId_7 : decode (rm_code mDisk_dropId) 7 = .ok (.putfield 15, 3) := by decide +kernel
theorem d_Disk_dropId_10 : decode (rm_code mDisk_dropId) 10 = .ok (.return_, 1) := by decide +kernel
theorem c_Disk_dropId {S : rz_S} : rz_ev mDisk_dropId [.ref 6] S (rz_v (fun S1 => S1 = (rz_uI (rz_uI S 6 1 (-1)) 6 2 (-1)))) := by
  show rz _ 0 [(0, .ref 6)] [] _ _
  refine rz_pure (pc' := 1) d_Disk_dropId_0 rfl ?_
  refine rz_iconst (v := -1) d_Disk_dropId_1 (by decide) ?_
  refine rz_puti d_Disk_dropId_2 f_4_9 rfl rfl rfl ?_
  refine rz_pure (pc' := 6) d_Disk_dropId_5 rfl ?_
  refine rz_iconst (v := -1) d_Disk_dropId_6 (by decide) ?_
  refine rz_puti d_Disk_dropId_7 f_4_15 rfl rfl rfl ?_
  exact rz_vretv d_Disk_dropId_10 rfl (by rfl)
def pr_begin (S : rz_S) (p : Int32) : rz_S := (rz_uI (rz_uI (rz_uI (rz_uI (rz_uI (rz_uI (rz_uI S 37 0 0) 37 1 0) 37 2 0) 37 3 255) 37 4 36) 37 5 (p &&& 2047)) 37 6 0)
theorem d_Processor_begin_0 : decode (rm_code mProcessor_begin) 0 = .ok (.aload_n 0, 1) := by decide +kernel
theorem d_Processor_begin_1 : decode (rm_code mProcessor_begin) 1 = .ok (.iconst 0, 1) := by decide +kernel
theorem d_Processor_begin_2 : decode (rm_code mProcessor_begin) 2 = .ok (.putfield 30, 3) := by decide +kernel
theorem d_Processor_begin_5 : decode (rm_code mProcessor_begin) 5 = .ok (.aload_n 0, 1) := by decide +kernel
theorem d_Processor_begin_6 : decode (rm_code mProcessor_begin) 6 = .ok (.iconst 0, 1) := by decide +kernel
theorem d_Processor_begin_7 : decode (rm_code mProcessor_begin) 7 = .ok (.putfield 33, 3) := by decide +kernel
theorem d_Processor_begin_10 : decode (rm_code mProcessor_begin) 10 = .ok (.aload_n 0, 1) := by decide +kernel
theorem d_Processor_begin_11 : decode (rm_code mProcessor_begin) 11 = .ok (.iconst 0, 1) := by decide +kernel
theorem d_Processor_begin_12 : decode (rm_code mProcessor_begin) 12 = .ok (.putfield 36, 3) := by decide +kernel
theorem d_Processor_begin_15 : decode (rm_code mProcessor_begin) 15 = .ok (.aload_n 0, 1) := by decide +kernel
theorem d_Processor_begin_16 : decode (rm_code mProcessor_begin) 16 = .ok (.sipush (255), 3) := by decide +kernel
theorem d_Processor_begin_19 : decode (rm_code mProcessor_begin) 19 = .ok (.putfield 23, 3) := by decide +kernel
theorem d_Processor_begin_22 : decode (rm_code mProcessor_begin) 22 = .ok (.aload_n 0, 1) := by decide +kernel
theorem d_Processor_begin_23 : decode (rm_code mProcessor_begin) 23 = .ok (.bipush (36), 2) := by decide +kernel
theorem d_Processor_begin_25 : decode (rm_code mProcessor_begin) 25 = .ok (.putfield 27, 3) := by decide +kernel
theorem d_Processor_begin_28 : decode (rm_code mProcessor_begin) 28 = .ok (.aload_n 0, 1) := by decide +kernel
theorem d_Processor_begin_29 : decode (rm_code mProcessor_begin) 29 = .ok (.iload_n 1, 1) := by decide +kernel
theorem d_Processor_begin_30 : decode (rm_code mProcessor_begin) 30 = .ok (.sipush (2047), 3) := by decide +kernel
theorem d_Processor_begin_33 : decode (rm_code mProcessor_begin) 33 = .ok (.iand, 1) := by decide +kernel
theorem d_Processor_begin_34 : decode (rm_code mProcessor_begin) 34 = .ok (.putfield 39, 3) := by decide +kernel
theorem d_Processor_begin_37 : decode (rm_code mProcessor_begin) 37 = .ok (.aload_n 0, 1) := by decide +kernel
theorem d_Processor_begin_38 : decode (rm_code mProcessor_begin) 38 = .ok (.iconst 0, 1) := by decide +kernel
theorem d_Processor_begin_39 : decode (rm_code mProcessor_begin) 39 = .ok (.putfield 42, 3) := by decide +kernel
theorem d_Processor_begin_42 : decode (rm_code mProcessor_begin) 42 = .ok (.return_, 1) := by decide +kernel
theorem c_Processor_begin {S : rz_S} (p : Int32) : rz_ev mProcessor_begin [.ref 37, .int p] S (rz_v (fun S1 => S1 = (pr_begin S p))) := by
  show rz _ 0 [(0, .ref 37), (1, .int p)] [] _ _
  refine rz_pure (pc' := 1) d_Processor_begin_0 rfl ?_
  refine rz_iconst (v := 0) d_Processor_begin_1 (by decide) ?_
  refine rz_puti d_Processor_begin_2 f_7_30 rfl rfl rfl ?_
  refine rz_pure (pc' := 6) d_Processor_begin_5 rfl ?_
  refine rz_iconst (v := 0) d_Processor_begin_6 (by decide) ?_
  refine rz_puti d_Processor_begin_7 f_7_33 rfl rfl rfl ?_
  refine rz_pure (pc' := 11) d_Processor_begin_10 rfl ?_
  refine rz_iconst (v := 0) d_Processor_begin_11 (by decide) ?_
  refine rz_puti d_Processor_begin_12 f_7_36 rfl rfl rfl ?_
  refine rz_pure (pc' := 16) d_Processor_begin_15 rfl ?_
  refine rz_sipush (v := 255) d_Processor_begin_16 (by decide) ?_
  refine rz_puti d_Processor_begin_19 f_7_23 rfl rfl rfl ?_
  refine rz_pure (pc' := 23) d_Processor_begin_22 rfl ?_
  refine rz_bipush (v := 36) d_Processor_begin_23 (by decide) ?_
  refine rz_puti d_Processor_begin_25 f_7_27 rfl rfl rfl ?_
  refine rz_pure (pc' := 29) d_Processor_begin_28 rfl ?_
  refine rz_pure (pc' := 30) d_Processor_begin_29 rfl ?_
  refine rz_sipush (v := 2047) d_Processor_begin_30 (by decide) ?_
  refine rz_iand d_Processor_begin_33 ?_
  refine rz_puti d_Processor_begin_34 f_7_39 rfl rfl rfl ?_
  refine rz_pure (pc' := 38) d_Processor_begin_37 rfl ?_
  refine rz_iconst (v := 0) d_Processor_begin_38 (by decide) ?_
  refine rz_puti d_Processor_begin_39 f_7_42 rfl rfl rfl ?_
  exact rz_vretv d_Processor_begin_42 rfl (by rfl)
def md_sets (S : rz_S) (n t s : Int32) : rz_S := (rz_uI (rz_uI (rz_uI (rz_uI S 116 56 n) 116 57 t) 116 58 s) 116 59 0)
theorem d_M_sets_0 : decode (rm_code mM_sets) 0 = .ok (.aload_n 0, 1) := by decide +kernel
theorem d_M_sets_1 : decode (rm_code mM_sets) 1 = .ok (.iload_n 1, 1) := by decide +kernel
theorem d_M_sets_2 : decode (rm_code mM_sets) 2 = .ok (.putfield 227, 3) := by decide +kernel
theorem d_M_sets_5 : decode (rm_code mM_sets) 5 = .ok (.aload_n 0, 1) := by decide +kernel
theorem d_M_sets_6 : decode (rm_code mM_sets) 6 = .ok (.iload_n 2, 1) := by decide +kernel
theorem d_M_sets_7 : decode (rm_code mM_sets) 7 = .ok (.putfield 230, 3) := by decide +kernel
theorem d_M_sets_10 : decode (rm_code mM_sets) 10 = .ok (.aload_n 0, 1) := by decide +kernel
theorem d_M_sets_11 : decode (rm_code mM_sets) 11 = .ok (.iload_n 3, 1) := by decide +kernel
theorem d_M_sets_12 : decode (rm_code mM_sets) 12 = .ok (.putfield 233, 3) := by decide +kernel
theorem d_M_sets_15 : decode (rm_code mM_sets) 15 = .ok (.aload_n 0, 1) := by decide +kernel
theorem d_M_sets_16 : decode (rm_code mM_sets) 16 = .ok (.iconst 0, 1) := by decide +kernel
theorem d_M_sets_17 : decode (rm_code mM_sets) 17 = .ok (.putfield 236, 3) := by decide +kernel
theorem d_M_sets_20 : decode (rm_code mM_sets) 20 = .ok (.return_, 1) := by decide +kernel
theorem c_M_sets {S : rz_S} (n t s : Int32) : rz_ev mM_sets [.ref 116, .int n, .int t, .int s] S (rz_v (fun S1 => S1 = (md_sets S n t s))) := by
  show rz _ 0 [(0, .ref 116), (1, .int n), (2, .int t), (3, .int s)] [] _ _
  refine rz_pure (pc' := 1) d_M_sets_0 rfl ?_
  refine rz_pure (pc' := 2) d_M_sets_1 rfl ?_
  refine rz_puti d_M_sets_2 f_12_227 rfl rfl rfl ?_
  refine rz_pure (pc' := 6) d_M_sets_5 rfl ?_
  refine rz_pure (pc' := 7) d_M_sets_6 rfl ?_
  refine rz_puti d_M_sets_7 f_12_230 rfl rfl rfl ?_
  refine rz_pure (pc' := 11) d_M_sets_10 rfl ?_
  refine rz_pure (pc' := 12) d_M_sets_11 rfl ?_
  refine rz_puti d_M_sets_12 f_12_233 rfl rfl rfl ?_
  refine rz_pure (pc' := 16) d_M_sets_15 rfl ?_
  refine rz_iconst (v := 0) d_M_sets_16 (by decide) ?_
  refine rz_puti d_M_sets_17 f_12_236 rfl rfl rfl ?_
  exact rz_vretv d_M_sets_20 rfl (by rfl)
def md_begins (S : rz_S) : rz_S := (rz_uI (rz_uI (md_sets S 0 0 0) 116 61 0) 116 62 0)
theorem d_M_begins_0 : decode (rm_code mM_begins) 0 = .ok (.aload_n 0, 1) := by decide +kernel
theorem d_M_begins_1 : decode (rm_code mM_begins) 1 = .ok (.iconst 0, 1) := by decide +kernel
theorem d_M_begins_2 : decode (rm_code mM_begins) 2 = .ok (.iconst 0, 1) := by decide +kernel
theorem d_M_begins_3 : decode (rm_code mM_begins) 3 = .ok (.iconst 0, 1) := by decide +kernel
theorem d_M_begins_4 : decode (rm_code mM_begins) 4 = .ok (.invokevirtual 239, 3) := by decide +kernel
theorem d_M_begins_7 : decode (rm_code mM_begins) 7 = .ok (.aload_n 0, 1) := by decide +kernel
theorem d_M_begins_8 : decode (rm_code mM_begins) 8 = .ok (.iconst 0, 1) := by decide +kernel
theorem d_M_begins_9 : decode (rm_code mM_begins) 9 = .ok (.putfield 242, 3) := by decide +kernel
theorem d_M_begins_12 : decode (rm_code mM_begins) 12 = .ok (.aload_n 0, 1) := by decide +kernel
theorem d_M_begins_13 : decode (rm_code mM_begins) 13 = .ok (.iconst 0, 1) := by decide +kernel
theorem d_M_begins_14 : decode (rm_code mM_begins) 14 = .ok (.putfield 245, 3) := by decide +kernel
theorem d_M_begins_17 : decode (rm_code mM_begins) 17 = .ok (.return_, 1) := by decide +kernel
theorem c_M_begins {S : rz_S} : rz_ev mM_begins [.ref 116] S (rz_v (fun S1 => S1 = (md_begins S))) := by
  show rz _ 0 [(0, .ref 116)] [] _ _
  refine rz_pure (pc' := 1) d_M_begins_0 rfl ?_
  refine rz_iconst (v := 0) d_M_begins_1 (by decide) ?_
  refine rz_iconst (v := 0) d_M_begins_2 (by decide) ?_
  refine rz_iconst (v := 0) d_M_begins_3 (by decide) ?_
  refine rz_callVv (t := [_, _, _]) d_M_begins_4 w_12_239 rfl rfl rfl (c_M_sets _ _ _) (fun S1 q1 => ?_)
  obtain rfl := q1
  refine rz_pure (pc' := 8) d_M_begins_7 rfl ?_
  refine rz_iconst (v := 0) d_M_begins_8 (by decide) ?_
  refine rz_puti d_M_begins_9 f_12_242 rfl rfl rfl ?_
  refine rz_pure (pc' := 13) d_M_begins_12 rfl ?_
  refine rz_iconst (v := 0) d_M_begins_13 (by decide) ?_
  refine rz_puti d_M_begins_14 f_12_245 rfl rfl rfl ?_
  exact rz_vretv d_M_begins_17 rfl (by rfl)
