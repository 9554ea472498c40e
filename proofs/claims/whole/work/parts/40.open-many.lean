/-! how many channels are open: both loops -/
theorem d_M_openMany_0 : decode (rm_code mM_openMany) 0 = .ok (.iconst 0, 1) := by decide +kernel
theorem d_M_openMany_1 : decode (rm_code mM_openMany) 1 = .ok (.istore_n 1, 1) := by decide +kernel
theorem d_M_openMany_2 : decode (rm_code mM_openMany) 2 = .ok (.iconst 0, 1) := by decide +kernel
theorem d_M_openMany_3 : decode (rm_code mM_openMany) 3 = .ok (.istore_n 2, 1) := by decide +kernel
theorem d_M_openMany_4 : decode (rm_code mM_openMany) 4 = .ok (.iload_n 2, 1) := by decide +kernel
theorem d_M_openMany_5 : decode (rm_code mM_openMany) 5 = .ok (.bipush (15), 2) := by decide +kernel
theorem d_M_openMany_7 : decode (rm_code mM_openMany) 7 = .ok (.if_icmp .ge (26), 3) := by decide +kernel
theorem d_M_openMany_10 : decode (rm_code mM_openMany) 10 = .ok (.iload_n 1, 1) := by decide +kernel
theorem d_M_openMany_11 : decode (rm_code mM_openMany) 11 = .ok (.aload_n 0, 1) := by decide +kernel
theorem d_M_openMany_12 : decode (rm_code mM_openMany) 12 = .ok (.getfield 248, 3) := by decide +kernel
theorem d_M_openMany_15 : decode (rm_code mM_openMany) 15 = .ok (.iload_n 2, 1) := by decide +kernel
theorem d_M_openMany_16 : decode (rm_code mM_openMany) 16 = .ok (.iaload, 1) := by decide +kernel
theorem d_M_openMany_17 : decode (rm_code mM_openMany) 17 = .ok (.ifCond .eq (7), 3) := by decide +kernel
theorem d_M_openMany_20 : decode (rm_code mM_openMany) 20 = .ok (.iconst 1, 1) := by decide +kernel
theorem d_M_openMany_21 : decode (rm_code mM_openMany) 21 = .ok (.goto (4), 3) := by decide +kernel
theorem d_M_openMany_24 : decode (rm_code mM_openMany) 24 = .ok (.iconst 0, 1) := by decide +kernel
theorem d_M_openMany_25 : decode (rm_code mM_openMany) 25 = .ok (.iadd, 1) := by decide +kernel
theorem d_M_openMany_26 : decode (rm_code mM_openMany) 26 = .ok (.istore_n 1, 1) := by decide +kernel
theorem d_M_openMany_27 : decode (rm_code mM_openMany) 27 = .ok (.iinc 2 (1), 3) := by decide +kernel
theorem d_M_openMany_30 : decode (rm_code mM_openMany) 30 = .ok (.goto (-26), 3) := by decide +kernel
theorem d_M_openMany_33 : decode (rm_code mM_openMany) 33 = .ok (.iload_n 1, 1) := by decide +kernel
theorem d_M_openMany_34 : decode (rm_code mM_openMany) 34 = .ok (.ireturn, 1) := by decide +kernel
theorem d_Dos_countOpen_0 : decode (rm_code mDos_countOpen) 0 = .ok (.iconst 0, 1) := by decide +kernel
theorem d_Dos_countOpen_1 : decode (rm_code mDos_countOpen) 1 = .ok (.istore_n 1, 1) := by decide +kernel
theorem d_Dos_countOpen_2 : decode (rm_code mDos_countOpen) 2 = .ok (.iconst 0, 1) := by decide +kernel
theorem d_Dos_countOpen_3 : decode (rm_code mDos_countOpen) 3 = .ok (.istore_n 2, 1) := by decide +kernel
theorem d_Dos_countOpen_4 : decode (rm_code mDos_countOpen) 4 = .ok (.iload_n 2, 1) := by decide +kernel
theorem d_Dos_countOpen_5 : decode (rm_code mDos_countOpen) 5 = .ok (.bipush (15), 2) := by decide +kernel
theorem d_Dos_countOpen_7 : decode (rm_code mDos_countOpen) 7 = .ok (.if_icmp .ge (29), 3) := by decide +kernel
theorem d_Dos_countOpen_10 : decode (rm_code mDos_countOpen) 10 = .ok (.iload_n 1, 1) := by decide +kernel
theorem d_Dos_countOpen_11 : decode (rm_code mDos_countOpen) 11 = .ok (.aload_n 0, 1) := by decide +kernel
theorem d_Dos_countOpen_12 : decode (rm_code mDos_countOpen) 12 = .ok (.getfield 19, 3) := by decide +kernel
theorem d_Dos_countOpen_15 : decode (rm_code mDos_countOpen) 15 = .ok (.iload_n 2, 1) := by decide +kernel
theorem d_Dos_countOpen_16 : decode (rm_code mDos_countOpen) 16 = .ok (.aaload, 1) := by decide +kernel
theorem d_Dos_countOpen_17 : decode (rm_code mDos_countOpen) 17 = .ok (.getfield 61, 3) := by decide +kernel
theorem d_Dos_countOpen_20 : decode (rm_code mDos_countOpen) 20 = .ok (.ifCond .ne (7), 3) := by decide +kernel
theorem d_Dos_countOpen_23 : decode (rm_code mDos_countOpen) 23 = .ok (.iconst 0, 1) := by decide +kernel
theorem d_Dos_countOpen_24 : decode (rm_code mDos_countOpen) 24 = .ok (.goto (4), 3) := by decide +kernel
theorem d_Dos_countOpen_27 : decode (rm_code mDos_countOpen) 27 = .ok (.iconst 1, 1) := by decide +kernel
theorem d_Dos_countOpen_28 : decode (rm_code mDos_countOpen) 28 = .ok (.iadd, 1) := by decide +kernel
theorem d_Dos_countOpen_29 : decode (rm_code mDos_countOpen) 29 = .ok (.istore_n 1, 1) := by decide +kernel
theorem d_Dos_countOpen_30 : decode (rm_code mDos_countOpen) 30 = .ok (.iinc 2 (1), 3) := by decide +kernel
theorem d_Dos_countOpen_33 : decode (rm_code mDos_countOpen) 33 = .ok (.goto (-29), 3) := by decide +kernel
theorem d_Dos_countOpen_36 : decode (rm_code mDos_countOpen) 36 = .ok (.iload_n 1, 1) := by decide +kernel
theorem d_Dos_countOpen_37 : decode (rm_code mDos_countOpen) 37 = .ok (.ireturn, 1) := by decide +kernel
def cn_of (f : Nat → Int32) : Nat → Int32
  | 0 => 0
  | k + 1 => cn_of f k + (if f k = 0 then 0 else 1)
theorem cn_ext {f g : Nat → Int32} : ∀ {n : Nat}, (∀ j, j < n → f j = g j) → cn_of f n = cn_of g n := by
  intro n
  induction n with
  | zero => intro _; rfl
  | succ n ih =>
    intro h
    show cn_of f n + _ = cn_of g n + _
    rw [ih (fun j hj => h j (by omega)), h n (by omega)]
/-- the channels' cells -/
def chF (j : Nat) : List (Option Value) := [none, some (.ref (49 + 4 * j)), none, none, none, none, none, none, none, none, none, none, none, none, some (.ref (50 + 4 * j)), none]
theorem chT {j : Nat} (hj : j < 15) : rz_T[48 + 4 * j]? = some (.inr (.inr (1, chF j))) := by
  match j, hj with
  | 0, _ => rfl
  | 1, _ => rfl
  | 2, _ => rfl
  | 3, _ => rfl
  | 4, _ => rfl
  | 5, _ => rfl
  | 6, _ => rfl
  | 7, _ => rfl
  | 8, _ => rfl
  | 9, _ => rfl
  | 10, _ => rfl
  | 11, _ => rfl
  | 12, _ => rfl
  | 13, _ => rfl
  | 14, _ => rfl
  | j + 15, h => exact absurd h (by omega)
def chL : List (Option Nat) := [some 48, some 52, some 56, some 60, some 64, some 68, some 72, some 76, some 80, some 84, some 88, some 92, some 96, some 100, some 104]
theorem chG {j : Nat} (hj : j < 15) : rx_ref (chL.getD j none) = .ref (48 + 4 * j) := by
  match j, hj with
  | 0, _ => rfl
  | 1, _ => rfl
  | 2, _ => rfl
  | 3, _ => rfl
  | 4, _ => rfl
  | 5, _ => rfl
  | 6, _ => rfl
  | 7, _ => rfl
  | 8, _ => rfl
  | 9, _ => rfl
  | 10, _ => rfl
  | 11, _ => rfl
  | 12, _ => rfl
  | 13, _ => rfl
  | 14, _ => rfl
  | j + 15, h => exact absurd h (by omega)
theorem lp_M_openMany {S : rz_S} : ∀ (m j : Nat), 16 ≤ m + j → j ≤ 15 → rz mM_openMany 4 [(2, .int (nI j)), (1, .int (cn_of (S.1 126) j)), (0, .ref 116)] [] S (rz_i (fun x S1 => x = cn_of (S.1 126) 15 ∧ S1 = S)) := by
  intro m
  induction m with
  | zero => intro j h1 h2; omega
  | succ m ih =>
    intro j h1 h2
    refine rz_pure (pc' := 5) d_M_openMany_4 rfl ?_
    refine rz_bipush (v := 15) d_M_openMany_5 (by decide) ?_
    refine rz_icmpge (tgt := 33) d_M_openMany_7 rfl (fun b1 => ?_) (fun b1 => ?_)
    · have : j = 15 := by
        have := (nI_leI (a := 15) (b := j) (by decide) (by omega)).mp b1
        omega
      subst this
      refine rz_pure (pc' := 34) d_M_openMany_33 rfl ?_
      exact rz_ireti d_M_openMany_34 rfl rfl ⟨rfl, rfl⟩
    · have hj : j < 15 := Nat.lt_of_not_le fun z => b1 (nI_le (a := 15) (b := j) z (by omega))
      refine rz_pure (pc' := 11) d_M_openMany_10 rfl ?_
      refine rz_pure (pc' := 12) d_M_openMany_11 rfl ?_
      refine rz_getr d_M_openMany_12 f_12_248 rfl rfl ?_
      refine rz_pure (pc' := 16) d_M_openMany_15 rfl ?_
      refine rz_iald d_M_openMany_16 rfl (decide_eq_true (vp_in_nI hj (by decide))) ?_
      rw [nI_clamp (n := j) (by omega)]
      have fin : ∀ y : Int32, y = (if S.1 126 j = 0 then 0 else 1) → rz mM_openMany 25 [(2, .int (nI j)), (1, .int (cn_of (S.1 126) j)), (0, .ref 116)] [.int y, .int (cn_of (S.1 126) j)] S (rz_i (fun x S1 => x = cn_of (S.1 126) 15 ∧ S1 = S)) := by
        intro y hy
        refine rz_iadd d_M_openMany_25 ?_
        refine rz_pure (pc' := 27) (l' := [(1, .int (cn_of (S.1 126) (j + 1))), (2, .int (nI j)), (0, .ref 116)]) d_M_openMany_26 (by rw [hy]; rfl) ?_
        refine rz_pure (pc' := 30) (l' := [(2, .int (nI (j + 1))), (1, .int (cn_of (S.1 126) (j + 1))), (0, .ref 116)]) d_M_openMany_27 (by rw [← nI_1 j]; rfl) ?_
        refine rz_pure (pc' := 4) d_M_openMany_30 rfl ?_
        exact ih (j + 1) (by omega) (by omega)
      refine rz_ifeq (tgt := 24) d_M_openMany_17 rfl (fun b2 => ?_) (fun b2 => ?_)
      · refine rz_iconst (v := 0) d_M_openMany_24 (by decide) ?_
        exact fin 0 (by rw [if_pos b2])
      · refine rz_iconst (v := 1) d_M_openMany_20 (by decide) ?_
        refine rz_pure (pc' := 25) d_M_openMany_21 rfl ?_
        exact fin 1 (by rw [if_neg b2])
theorem c_M_openMany {S : rz_S} : rz_ev mM_openMany [.ref 116] S (rz_i (fun x S1 => x = cn_of (aM_kind S) 15 ∧ S1 = S)) := by
  show rz _ 0 [(0, .ref 116)] [] _ _
  refine rz_iconst (v := 0) d_M_openMany_0 (by decide) ?_
  refine rz_pure (pc' := 2) (l' := [(1, .int 0), (0, .ref 116)]) d_M_openMany_1 rfl ?_
  refine rz_iconst (v := 0) d_M_openMany_2 (by decide) ?_
  refine rz_pure (pc' := 4) (l' := [(2, .int 0), (1, .int 0), (0, .ref 116)]) d_M_openMany_3 rfl ?_
  exact lp_M_openMany 16 0 (by omega) (by omega)
theorem lp_Dos_countOpen {S : rz_S} : ∀ (m j : Nat), 16 ≤ m + j → j ≤ 15 → rz mDos_countOpen 4 [(2, .int (nI j)), (1, .int (cn_of (fun c => S.2 (48 + 4 * c) 0) j)), (0, .ref 39)] [] S (rz_i (fun x S1 => x = cn_of (fun c => S.2 (48 + 4 * c) 0) 15 ∧ S1 = S)) := by
  intro m
  induction m with
  | zero => intro j h1 h2; omega
  | succ m ih =>
    intro j h1 h2
    refine rz_pure (pc' := 5) d_Dos_countOpen_4 rfl ?_
    refine rz_bipush (v := 15) d_Dos_countOpen_5 (by decide) ?_
    refine rz_icmpge (tgt := 36) d_Dos_countOpen_7 rfl (fun b1 => ?_) (fun b1 => ?_)
    · have : j = 15 := by
        have := (nI_leI (a := 15) (b := j) (by decide) (by omega)).mp b1
        omega
      subst this
      refine rz_pure (pc' := 37) d_Dos_countOpen_36 rfl ?_
      exact rz_ireti d_Dos_countOpen_37 rfl rfl ⟨rfl, rfl⟩
    · have hj : j < 15 := Nat.lt_of_not_le fun z => b1 (nI_le (a := 15) (b := j) z (by omega))
      refine rz_pure (pc' := 11) d_Dos_countOpen_10 rfl ?_
      refine rz_pure (pc' := 12) d_Dos_countOpen_11 rfl ?_
      refine rz_getr d_Dos_countOpen_12 f_5_19 rfl rfl ?_
      refine rz_pure (pc' := 16) d_Dos_countOpen_15 rfl ?_
      refine rz_aald (a := chL) d_Dos_countOpen_16 rfl rfl (decide_eq_true (vp_in_nI hj (by decide))) ?_
      rw [nI_clamp (n := j) (by omega), chG hj]
      refine rz_geti d_Dos_countOpen_17 f_5_61 (chT hj) rfl ?_
      have fin : ∀ y : Int32, y = (if S.2 (48 + 4 * j) 0 = 0 then 0 else 1) → rz mDos_countOpen 28 [(2, .int (nI j)), (1, .int (cn_of (fun c => S.2 (48 + 4 * c) 0) j)), (0, .ref 39)] [.int y, .int (cn_of (fun c => S.2 (48 + 4 * c) 0) j)] S (rz_i (fun x S1 => x = cn_of (fun c => S.2 (48 + 4 * c) 0) 15 ∧ S1 = S)) := by
        intro y hy
        refine rz_iadd d_Dos_countOpen_28 ?_
        refine rz_pure (pc' := 30) (l' := [(1, .int (cn_of (fun c => S.2 (48 + 4 * c) 0) (j + 1))), (2, .int (nI j)), (0, .ref 39)]) d_Dos_countOpen_29 (by rw [hy]; rfl) ?_
        refine rz_pure (pc' := 33) (l' := [(2, .int (nI (j + 1))), (1, .int (cn_of (fun c => S.2 (48 + 4 * c) 0) (j + 1))), (0, .ref 39)]) d_Dos_countOpen_30 (by rw [← nI_1 j]; rfl) ?_
        refine rz_pure (pc' := 4) d_Dos_countOpen_33 rfl ?_
        exact ih (j + 1) (by omega) (by omega)
      refine rz_ifne (tgt := 27) d_Dos_countOpen_20 rfl (fun b2 => ?_) (fun b2 => ?_)
      · refine rz_iconst (v := 1) d_Dos_countOpen_27 (by decide) ?_
        exact fin 1 (by rw [if_neg b2])
      · refine rz_iconst (v := 0) d_Dos_countOpen_23 (by decide) ?_
        refine rz_pure (pc' := 28) d_Dos_countOpen_24 rfl ?_
        exact fin 0 (by rw [if_pos b2])
theorem c_Dos_countOpen {S : rz_S} : rz_ev mDos_countOpen [.ref 39] S (rz_i (fun x S1 => x = cn_of (fun c => sChannel_mode S (48 + 4 * c)) 15 ∧ S1 = S)) := by
  show rz _ 0 [(0, .ref 39)] [] _ _
  refine rz_iconst (v := 0) d_Dos_countOpen_0 (by decide) ?_
  refine rz_pure (pc' := 2) (l' := [(1, .int 0), (0, .ref 39)]) d_Dos_countOpen_1 rfl ?_
  refine rz_iconst (v := 0) d_Dos_countOpen_2 (by decide) ?_
  refine rz_pure (pc' := 4) (l' := [(2, .int 0), (1, .int 0), (0, .ref 39)]) d_Dos_countOpen_3 rfl ?_
  exact lp_Dos_countOpen 16 0 (by omega) (by omega)
