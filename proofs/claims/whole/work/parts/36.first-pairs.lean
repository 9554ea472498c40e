/-! first contracts of the class and of the reference: out, memory, protect -/
theorem rz_in {i : Int32} {n : Nat} (h0 : ¬ i < 0) (h1 : ¬ Int32.ofNat n ≤ i) (hn : n < 2 ^ 31) : rx_in i n = true := by
  rcases pk_ix i hn with h | h | ⟨j, hj, rfl⟩
  · exact absurd h h0
  · exact absurd h h1
  · exact decide_eq_true (vp_in_nI hj hn)
theorem rz_and {i m : Int32} {n : Nat} (k : Nat) (hm : m.toBitVec.toNat = 2 ^ k - 1) (hk : k ≤ 30) (hn : 2 ^ k ≤ n) : rx_in (i &&& m) n = true := by
  have h := pk_andIn i k hm hk
  refine decide_eq_true (fun q => h ?_)
  rcases q with q | q
  · exact Or.inl q
  · exact Or.inr (Nat.le_trans hn q)
theorem rz_in2 {i c : Int32} (h0 : ¬ i < 0) (h1 : ¬ c ≤ i) (hc : c ≤ 300) : rx_in i 300 = true := by
  refine rz_in h0 (fun h => h1 ?_) (by decide)
  exact Int32.le_trans hc h
theorem d_X_out_0 : decode (rm_code mX_out) 0 = .ok (.iload_n 1, 1) := by decide +kernel
theorem d_X_out_1 : decode (rm_code mX_out) 1 = .ok (.ifCond .lt (29), 3) := by decide +kernel
theorem d_X_out_4 : decode (rm_code mX_out) 4 = .ok (.iload_n 1, 1) := by decide +kernel
theorem d_X_out_5 : decode (rm_code mX_out) 5 = .ok (.aload_n 0, 1) := by decide +kernel
theorem d_X_out_6 : decode (rm_code mX_out) 6 = .ok (.getfield 61, 3) := by decide +kernel
theorem d_X_out_9 : decode (rm_code mX_out) 9 = .ok (.if_icmp .ge (21), 3) := by decide +kernel
theorem d_X_out_12 : decode (rm_code mX_out) 12 = .ok (.iload_n 1, 1) := by decide +kernel
theorem d_X_out_13 : decode (rm_code mX_out) 13 = .ok (.aload_n 0, 1) := by decide +kernel
theorem d_X_out_14 : decode (rm_code mX_out) 14 = .ok (.getfield 57, 3) := by decide +kernel
theorem d_X_out_17 : decode (rm_code mX_out) 17 = .ok (.arraylength, 1) := by decide +kernel
theorem d_X_out_18 : decode (rm_code mX_out) 18 = .ok (.if_icmp .ge (12), 3) := by decide +kernel
theorem d_X_out_21 : decode (rm_code mX_out) 21 = .ok (.aload_n 0, 1) := by decide +kernel
theorem d_X_out_22 : decode (rm_code mX_out) 22 = .ok (.getfield 57, 3) := by decide +kernel
theorem d_X_out_25 : decode (rm_code mX_out) 25 = .ok (.iload_n 1, 1) := by decide +kernel
theorem d_X_out_26 : decode (rm_code mX_out) 26 = .ok (.iaload, 1) := by decide +kernel
theorem d_X_out_27 : decode (rm_code mX_out) 27 = .ok (.goto (4), 3) := by decide +kernel
theorem d_X_out_30 : decode (rm_code mX_out) 30 = .ok (.iconst (-1), 1) := by decide +kernel
theorem d_X_out_31 : decode (rm_code mX_out) 31 = .ok (.ireturn, 1) := by decide +kernel
theorem c_X_out {S : rz_S} (i : Int32) : rz_ev mX_out [.ref 0, .int i] S (rz_i (fun x S1 => x = (if i < 0 then -1 else if sX_outCount S ≤ i then -1 else if Int32.ofNat 300 ≤ i then -1 else aX_outRow S i.toNatClampNeg) ∧ S1 = S)) := by
  show rz _ 0 [(0, .ref 0), (1, .int i)] [] _ _
  refine rz_pure (pc' := 1) d_X_out_0 rfl ?_
  refine rz_iflt (tgt := 30) d_X_out_1 rfl (fun b1 => ?_) (fun b1 => ?_)
  · skip
    refine rz_iconst (v := -1) d_X_out_30 (by decide) ?_
    exact rz_ireti d_X_out_31 rfl (by rfl) (by simp only [*, if_true, if_false, and_self])
  · skip
    refine rz_pure (pc' := 5) d_X_out_4 rfl ?_
    refine rz_pure (pc' := 6) d_X_out_5 rfl ?_
    refine rz_geti d_X_out_6 f_11_61 rfl rfl ?_
    refine rz_icmpge (tgt := 30) d_X_out_9 rfl (fun b2 => ?_) (fun b2 => ?_)
    · skip
      refine rz_iconst (v := -1) d_X_out_30 (by decide) ?_
      exact rz_ireti d_X_out_31 rfl (by rfl) (by simp only [*, if_true, if_false, and_self])
    · skip
      refine rz_pure (pc' := 13) d_X_out_12 rfl ?_
      refine rz_pure (pc' := 14) d_X_out_13 rfl ?_
      refine rz_getr d_X_out_14 f_11_57 rfl rfl ?_
      refine rz_alen d_X_out_17 rfl (by decide) ?_
      refine rz_icmpge (tgt := 30) d_X_out_18 rfl (fun b3 => ?_) (fun b3 => ?_)
      · skip
        refine rz_iconst (v := -1) d_X_out_30 (by decide) ?_
        exact rz_ireti d_X_out_31 rfl (by rfl) (by simp only [*, if_true, if_false, and_self])
      · skip
        refine rz_pure (pc' := 22) d_X_out_21 rfl ?_
        refine rz_getr d_X_out_22 f_11_57 rfl rfl ?_
        refine rz_pure (pc' := 26) d_X_out_25 rfl ?_
        refine rz_iald d_X_out_26 rfl (by exact rz_in (by assumption) (by assumption) (by decide)) ?_
        refine rz_pure (pc' := 31) d_X_out_27 rfl ?_
        exact rz_ireti d_X_out_31 rfl (by rfl) (by simp only [*, if_true, if_false, and_self])
theorem d_M_out_0 : decode (rm_code mM_out) 0 = .ok (.iload_n 1, 1) := by decide +kernel
theorem d_M_out_1 : decode (rm_code mM_out) 1 = .ok (.ifCond .lt (20), 3) := by decide +kernel
theorem d_M_out_4 : decode (rm_code mM_out) 4 = .ok (.iload_n 1, 1) := by decide +kernel
theorem d_M_out_5 : decode (rm_code mM_out) 5 = .ok (.aload_n 0, 1) := by decide +kernel
theorem d_M_out_6 : decode (rm_code mM_out) 6 = .ok (.getfield 371, 3) := by decide +kernel
theorem d_M_out_9 : decode (rm_code mM_out) 9 = .ok (.if_icmp .ge (12), 3) := by decide +kernel
theorem d_M_out_12 : decode (rm_code mM_out) 12 = .ok (.aload_n 0, 1) := by decide +kernel
theorem d_M_out_13 : decode (rm_code mM_out) 13 = .ok (.getfield 368, 3) := by decide +kernel
theorem d_M_out_16 : decode (rm_code mM_out) 16 = .ok (.iload_n 1, 1) := by decide +kernel
theorem d_M_out_17 : decode (rm_code mM_out) 17 = .ok (.iaload, 1) := by decide +kernel
theorem d_M_out_18 : decode (rm_code mM_out) 18 = .ok (.goto (4), 3) := by decide +kernel
theorem d_M_out_21 : decode (rm_code mM_out) 21 = .ok (.iconst (-1), 1) := by decide +kernel
theorem d_M_out_22 : decode (rm_code mM_out) 22 = .ok (.ireturn, 1) := by decide +kernel
theorem c_M_out {S : rz_S} (i : Int32) (h0 : sM_outMany S ≤ 300) : rz_ev mM_out [.ref 116, .int i] S (rz_i (fun x S1 => x = (if i < 0 then -1 else if sM_outMany S ≤ i then -1 else aM_out S i.toNatClampNeg) ∧ S1 = S)) := by
  show rz _ 0 [(0, .ref 116), (1, .int i)] [] _ _
  refine rz_pure (pc' := 1) d_M_out_0 rfl ?_
  refine rz_iflt (tgt := 21) d_M_out_1 rfl (fun b1 => ?_) (fun b1 => ?_)
  · skip
    refine rz_iconst (v := -1) d_M_out_21 (by decide) ?_
    exact rz_ireti d_M_out_22 rfl (by rfl) (by simp only [*, if_true, if_false, and_self])
  · skip
    refine rz_pure (pc' := 5) d_M_out_4 rfl ?_
    refine rz_pure (pc' := 6) d_M_out_5 rfl ?_
    refine rz_geti d_M_out_6 f_12_371 rfl rfl ?_
    refine rz_icmpge (tgt := 21) d_M_out_9 rfl (fun b2 => ?_) (fun b2 => ?_)
    · skip
      refine rz_iconst (v := -1) d_M_out_21 (by decide) ?_
      exact rz_ireti d_M_out_22 rfl (by rfl) (by simp only [*, if_true, if_false, and_self])
    · skip
      refine rz_pure (pc' := 13) d_M_out_12 rfl ?_
      refine rz_getr d_M_out_13 f_12_368 rfl rfl ?_
      refine rz_pure (pc' := 17) d_M_out_16 rfl ?_
      refine rz_iald d_M_out_17 rfl (by exact rz_in2 (by assumption) (by assumption) h0) ?_
      refine rz_pure (pc' := 22) d_M_out_18 rfl ?_
      exact rz_ireti d_M_out_22 rfl (by rfl) (by simp only [*, if_true, if_false, and_self])
theorem d_Processor_get_0 : decode (rm_code mProcessor_get) 0 = .ok (.aload_n 0, 1) := by decide +kernel
theorem d_Processor_get_1 : decode (rm_code mProcessor_get) 1 = .ok (.getfield 9, 3) := by decide +kernel
theorem d_Processor_get_4 : decode (rm_code mProcessor_get) 4 = .ok (.iload_n 1, 1) := by decide +kernel
theorem d_Processor_get_5 : decode (rm_code mProcessor_get) 5 = .ok (.sipush (2047), 3) := by decide +kernel
theorem d_Processor_get_8 : decode (rm_code mProcessor_get) 8 = .ok (.iand, 1) := by decide +kernel
theorem d_Processor_get_9 : decode (rm_code mProcessor_get) 9 = .ok (.iaload, 1) := by decide +kernel
theorem d_Processor_get_10 : decode (rm_code mProcessor_get) 10 = .ok (.ireturn, 1) := by decide +kernel
theorem c_Processor_get {S : rz_S} (i : Int32) : rz_ev mProcessor_get [.ref 37, .int i] S (rz_i (fun x S1 => x = (aProcessor_cells S (i &&& 2047).toNatClampNeg) ∧ S1 = S)) := by
  show rz _ 0 [(0, .ref 37), (1, .int i)] [] _ _
  refine rz_pure (pc' := 1) d_Processor_get_0 rfl ?_
  refine rz_getr d_Processor_get_1 f_7_9 rfl rfl ?_
  refine rz_pure (pc' := 5) d_Processor_get_4 rfl ?_
  refine rz_sipush (v := 2047) d_Processor_get_5 (by decide) ?_
  refine rz_pure (pc' := 9) d_Processor_get_8 rfl ?_
  refine rz_iald d_Processor_get_9 rfl (by exact rz_and 11 (by decide) (by decide) (by decide)) ?_
  exact rz_ireti d_Processor_get_10 rfl (by rfl) (by exact ⟨rfl, rfl⟩)
theorem d_X_memory_0 : decode (rm_code mX_memory) 0 = .ok (.iload_n 1, 1) := by decide +kernel
theorem d_X_memory_1 : decode (rm_code mX_memory) 1 = .ok (.ifCond .lt (21), 3) := by decide +kernel
theorem d_X_memory_4 : decode (rm_code mX_memory) 4 = .ok (.iload_n 1, 1) := by decide +kernel
theorem d_X_memory_5 : decode (rm_code mX_memory) 5 = .ok (.sipush (2048), 3) := by decide +kernel
theorem d_X_memory_8 : decode (rm_code mX_memory) 8 = .ok (.if_icmp .ge (14), 3) := by decide +kernel
theorem d_X_memory_11 : decode (rm_code mX_memory) 11 = .ok (.aload_n 0, 1) := by decide +kernel
theorem d_X_memory_12 : decode (rm_code mX_memory) 12 = .ok (.getfield 35, 3) := by decide +kernel
theorem d_X_memory_15 : decode (rm_code mX_memory) 15 = .ok (.iload_n 1, 1) := by decide +kernel
theorem d_X_memory_16 : decode (rm_code mX_memory) 16 = .ok (.invokevirtual 186, 3) := by decide +kernel
theorem d_X_memory_19 : decode (rm_code mX_memory) 19 = .ok (.goto (4), 3) := by decide +kernel
theorem d_X_memory_22 : decode (rm_code mX_memory) 22 = .ok (.iconst (-1), 1) := by decide +kernel
theorem d_X_memory_23 : decode (rm_code mX_memory) 23 = .ok (.ireturn, 1) := by decide +kernel
theorem c_X_memory {S : rz_S} (i : Int32) : rz_ev mX_memory [.ref 0, .int i] S (rz_i (fun x S1 => x = (if i < 0 then -1 else if 2048 ≤ i then -1 else aProcessor_cells S (i &&& 2047).toNatClampNeg) ∧ S1 = S)) := by
  show rz _ 0 [(0, .ref 0), (1, .int i)] [] _ _
  refine rz_pure (pc' := 1) d_X_memory_0 rfl ?_
  refine rz_iflt (tgt := 22) d_X_memory_1 rfl (fun b1 => ?_) (fun b1 => ?_)
  · skip
    refine rz_iconst (v := -1) d_X_memory_22 (by decide) ?_
    exact rz_ireti d_X_memory_23 rfl (by rfl) (by simp only [*, if_true, if_false, and_self])
  · skip
    refine rz_pure (pc' := 5) d_X_memory_4 rfl ?_
    refine rz_sipush (v := 2048) d_X_memory_5 (by decide) ?_
    refine rz_icmpge (tgt := 22) d_X_memory_8 rfl (fun b2 => ?_) (fun b2 => ?_)
    · skip
      refine rz_iconst (v := -1) d_X_memory_22 (by decide) ?_
      exact rz_ireti d_X_memory_23 rfl (by rfl) (by simp only [*, if_true, if_false, and_self])
    · skip
      refine rz_pure (pc' := 12) d_X_memory_11 rfl ?_
      refine rz_getr d_X_memory_12 f_11_35 rfl rfl ?_
      refine rz_pure (pc' := 16) d_X_memory_15 rfl ?_
      refine rz_callVi (t := [_]) d_X_memory_16 w_11_186 rfl rfl rfl (c_Processor_get _) (fun x3 S3 q3 => ?_)
      obtain ⟨rfl, rfl⟩ := q3
      refine rz_pure (pc' := 23) d_X_memory_19 rfl ?_
      exact rz_ireti d_X_memory_23 rfl (by rfl) (by simp only [*, if_true, if_false, and_self])
theorem d_M_memory_0 : decode (rm_code mM_memory) 0 = .ok (.iload_n 1, 1) := by decide +kernel
theorem d_M_memory_1 : decode (rm_code mM_memory) 1 = .ok (.ifCond .lt (23), 3) := by decide +kernel
theorem d_M_memory_4 : decode (rm_code mM_memory) 4 = .ok (.iload_n 1, 1) := by decide +kernel
theorem d_M_memory_5 : decode (rm_code mM_memory) 5 = .ok (.sipush (2048), 3) := by decide +kernel
theorem d_M_memory_8 : decode (rm_code mM_memory) 8 = .ok (.if_icmp .ge (16), 3) := by decide +kernel
theorem d_M_memory_11 : decode (rm_code mM_memory) 11 = .ok (.aload_n 0, 1) := by decide +kernel
theorem d_M_memory_12 : decode (rm_code mM_memory) 12 = .ok (.getfield 614, 3) := by decide +kernel
theorem d_M_memory_15 : decode (rm_code mM_memory) 15 = .ok (.iload_n 1, 1) := by decide +kernel
theorem d_M_memory_16 : decode (rm_code mM_memory) 16 = .ok (.baload, 1) := by decide +kernel
theorem d_M_memory_17 : decode (rm_code mM_memory) 17 = .ok (.sipush (255), 3) := by decide +kernel
theorem d_M_memory_20 : decode (rm_code mM_memory) 20 = .ok (.iand, 1) := by decide +kernel
theorem d_M_memory_21 : decode (rm_code mM_memory) 21 = .ok (.goto (4), 3) := by decide +kernel
theorem d_M_memory_24 : decode (rm_code mM_memory) 24 = .ok (.iconst (-1), 1) := by decide +kernel
theorem d_M_memory_25 : decode (rm_code mM_memory) 25 = .ok (.ireturn, 1) := by decide +kernel
theorem c_M_memory {S : rz_S} (i : Int32) : rz_ev mM_memory [.ref 116, .int i] S (rz_i (fun x S1 => x = (if i < 0 then -1 else if 2048 ≤ i then -1 else aM_memory S i.toNatClampNeg &&& 255) ∧ S1 = S)) := by
  show rz _ 0 [(0, .ref 116), (1, .int i)] [] _ _
  refine rz_pure (pc' := 1) d_M_memory_0 rfl ?_
  refine rz_iflt (tgt := 24) d_M_memory_1 rfl (fun b1 => ?_) (fun b1 => ?_)
  · skip
    refine rz_iconst (v := -1) d_M_memory_24 (by decide) ?_
    exact rz_ireti d_M_memory_25 rfl (by rfl) (by simp only [*, if_true, if_false, and_self])
  · skip
    refine rz_pure (pc' := 5) d_M_memory_4 rfl ?_
    refine rz_sipush (v := 2048) d_M_memory_5 (by decide) ?_
    refine rz_icmpge (tgt := 24) d_M_memory_8 rfl (fun b2 => ?_) (fun b2 => ?_)
    · skip
      refine rz_iconst (v := -1) d_M_memory_24 (by decide) ?_
      exact rz_ireti d_M_memory_25 rfl (by rfl) (by simp only [*, if_true, if_false, and_self])
    · skip
      refine rz_pure (pc' := 12) d_M_memory_11 rfl ?_
      refine rz_getr d_M_memory_12 f_12_614 rfl rfl ?_
      refine rz_pure (pc' := 16) d_M_memory_15 rfl ?_
      refine rz_bald d_M_memory_16 rfl (by decide) (by exact rz_in (n := 2048) (by assumption) (by assumption) (by decide)) ?_
      refine rz_sipush (v := 255) d_M_memory_17 (by decide) ?_
      refine rz_pure (pc' := 21) d_M_memory_20 rfl ?_
      refine rz_pure (pc' := 25) d_M_memory_21 rfl ?_
      exact rz_ireti d_M_memory_25 rfl (by rfl) (by simp only [*, if_true, if_false, and_self])
theorem d_X_protect_0 : decode (rm_code mX_protect) 0 = .ok (.aload_n 0, 1) := by decide +kernel
theorem d_X_protect_1 : decode (rm_code mX_protect) 1 = .ok (.getfield 28, 3) := by decide +kernel
theorem d_X_protect_4 : decode (rm_code mX_protect) 4 = .ok (.iload_n 1, 1) := by decide +kernel
theorem d_X_protect_5 : decode (rm_code mX_protect) 5 = .ok (.putfield 174, 3) := by decide +kernel
theorem d_X_protect_8 : decode (rm_code mX_protect) 8 = .ok (.return_, 1) := by decide +kernel
theorem c_X_protect {S : rz_S} (a : Int32) (ha : a = 0 ∨ a = 1) : rz_ev mX_protect [.ref 0, .int a] S (rz_v (fun S1 => S1 = (rz_uI S pDisk 0 a))) := by
  show rz _ 0 [(0, .ref 0), (1, .int a)] [] _ _
  refine rz_pure (pc' := 1) d_X_protect_0 rfl ?_
  refine rz_getr d_X_protect_1 f_11_28 rfl rfl ?_
  refine rz_pure (pc' := 5) d_X_protect_4 rfl ?_
  refine rz_puti d_X_protect_5 f_11_174 rfl rfl (by rcases ha with rfl | rfl <;> rfl) ?_
  exact rz_vretv d_X_protect_8 rfl (by rfl)
theorem d_M_protect_0 : decode (rm_code mM_protect) 0 = .ok (.aload_n 0, 1) := by decide +kernel
theorem d_M_protect_1 : decode (rm_code mM_protect) 1 = .ok (.iload_n 1, 1) := by decide +kernel
theorem d_M_protect_2 : decode (rm_code mM_protect) 2 = .ok (.putfield 131, 3) := by decide +kernel
theorem d_M_protect_5 : decode (rm_code mM_protect) 5 = .ok (.return_, 1) := by decide +kernel
theorem c_M_protect {S : rz_S} (a : Int32) (ha : a = 0 ∨ a = 1) : rz_ev mM_protect [.ref 116, .int a] S (rz_v (fun S1 => S1 = (rz_uI S 116 1 a))) := by
  show rz _ 0 [(0, .ref 116), (1, .int a)] [] _ _
  refine rz_pure (pc' := 1) d_M_protect_0 rfl ?_
  refine rz_pure (pc' := 2) d_M_protect_1 rfl ?_
  refine rz_puti d_M_protect_2 f_12_131 rfl rfl (by rcases ha with rfl | rfl <;> rfl) ?_
  exact rz_vretv d_M_protect_5 rfl (by rfl)
theorem rd_exact {X M : rx_M} {as : List Value} {S SX SM : rz_S} {a b : Int32} {P : rz_S → Prop} (hx : rz_ev X (.ref 0 :: as) S (rz_i (fun x S1 => x = a ∧ S1 = SX))) (hm : rz_ev M (.ref 116 :: as) SX (rz_i (fun y S2 => y = b ∧ S2 = SM))) (hab : a = b) (hP : P SM) : rd_two X M as S P := by
  refine rz_weak hx (fun r S1 q => ?_)
  obtain ⟨x, rfl, rfl, rfl⟩ := q
  refine ⟨_, rfl, rz_weak hm (fun r S2 q => ?_)⟩
  obtain ⟨y, rfl, rfl, rfl⟩ := q
  exact ⟨_, rfl, hab, hP⟩
theorem rd_exactv {X M : rx_M} {as : List Value} {S SX SM : rz_S} {P : rz_S → Prop} (hx : rz_ev X (.ref 0 :: as) S (rz_v (fun S1 => S1 = SX))) (hm : rz_ev M (.ref 116 :: as) SX (rz_v (fun S2 => S2 = SM))) (hP : P SM) : rd_twov X M as S P := by
  refine rz_weak hx (fun r S1 q => ?_)
  obtain ⟨rfl, rfl⟩ := q
  refine ⟨rfl, rz_weak hm (fun r S2 q => ?_)⟩
  obtain ⟨rfl, rfl⟩ := q
  exact ⟨rfl, hP⟩
/-- OUT -/
def R_out (S : rz_S) : Prop := ∃ n : Nat, n ≤ 300 ∧ sX_outCount S = nI n ∧ sM_outMany S = nI n ∧ ∀ j, j < n → aX_outRow S j = aM_out S j
/-- the PROGRAM's memory -/
def R_mem (S : rz_S) : Prop := ∀ j, j < 2048 → aProcessor_cells S j = aM_memory S j &&& 255
theorem rd_out {S : rz_S} {P : rz_S → Prop} (hR : R_out S) (hP : P S) (i : Int32) : rd_two mX_out mM_out [.int i] S P := by
  obtain ⟨n, hn, e1, e2, h⟩ := hR
  refine rd_exact (c_X_out i) (c_M_out i (by rw [e2]; exact nI_le (a := n) (b := 300) hn (by decide))) ?_ hP
  rw [e1, e2]
  by_cases h0 : i < 0
  · rw [if_pos h0, if_pos h0]
  rw [if_neg h0, if_neg h0]
  by_cases h1 : nI n ≤ i
  · rw [if_pos h1, if_pos h1]
  rw [if_neg h1, if_neg h1]
  rcases pk_ix i (n := n) (by omega) with q | q | ⟨j, hj, rfl⟩
  · exact absurd q h0
  · exact absurd q h1
  · have h3 : ¬ Int32.ofNat 300 ≤ nI j := nI_ge (a := j) (b := 300) (by omega) (by decide)
    rw [if_neg h3, nI_clamp (by omega)]
    exact h j hj
theorem rd_memory {S : rz_S} {P : rz_S → Prop} (hR : R_mem S) (hP : P S) (i : Int32) : rd_two mX_memory mM_memory [.int i] S P := by
  refine rd_exact (c_X_memory i) (c_M_memory i) ?_ hP
  by_cases h0 : i < 0
  · rw [if_pos h0, if_pos h0]
  rw [if_neg h0, if_neg h0]
  by_cases h1 : (2048 : Int32) ≤ i
  · rw [if_pos h1, if_pos h1]
  rw [if_neg h1, if_neg h1]
  rcases pk_ix i (n := 2048) (by decide) with q | q | ⟨j, hj, rfl⟩
  · exact absurd q h0
  · exact absurd q h1
  · rw [pk_andN (n := j) (by omega) 11 (by decide), show j % 2 ^ 11 = j from Nat.mod_eq_of_lt hj, nI_clamp (by omega)]
    exact hR j hj
theorem rd_protect {S : rz_S} {P : rz_S → Prop} {a : Int32} (ha : a = 0 ∨ a = 1) (hP : P (rz_uI (rz_uI S pDisk 0 a) 116 1 a)) : rd_twov mX_protect mM_protect [.int a] S P := rd_exactv (c_X_protect a ha) (c_M_protect a ha) hP
