/-! commands: all of them -/
section DOES2
variable {U : rz_S} {n : Nat} {K : Int32 → rz_S → Prop} {t0 t1 t2 : Int32}
/-- the reference knows no such command -/
theorem rU {b : Int32} (n1 : 1 ≤ n) (hn : n ≤ 40) (e0 : U.1 151 0 = t0) (e1 : U.1 151 1 = t1) (e2 : U.1 151 2 = t2) (hb : b = if 1 < n then U.1 151 1 else -1) (hI : ¬ (n = 1 ∧ t0 = 73)) (hV : ¬ (n = 1 ∧ t0 = 86)) (hU : ¬ (n = 2 ∧ t0 = 85 ∧ b = 73)) (h78 : ¬ t0 = 78) (h83 : ¬ t0 = 83) (h82 : ¬ t0 = 82) (h85 : t0 = 85 → ¬ b = 49 ∧ ¬ b = 50) (hno : 3 ≤ n → ¬ (t0 = 66 ∧ t1 = 45 ∧ (t2 = 80 ∨ t2 = 65 ∨ t2 = 70)) ∧ ¬ (t0 = 77 ∧ t1 = 45 ∧ (t2 = 87 ∨ t2 = 82 ∨ t2 = 69))) (h : K (nI 31) (rz_uI (rz_uI U 116 4 (nI 0)) 116 5 (nI 0))) : rz_ev mM_does [.ref 116, .int (nI n)] U (rz_i K) := by
  have go : rz mM_does 197 [(0, .ref 116), (1, .int (nI n))] [] U (rz_i K) := by
    by_cases h3 : 3 ≤ n
    · obtain ⟨q1, q2⟩ := hno h3
      exact r197 h3 hn e0 e1 e2 ⟨fun z => absurd ⟨z.1, z.2.1, Or.inl z.2.2⟩ q1, fun z => absurd ⟨z.1, z.2.1, Or.inr (Or.inl z.2.2)⟩ q1, fun z => absurd ⟨z.1, z.2.1, Or.inr (Or.inr z.2.2)⟩ q1, fun z => absurd z q2, fun _ _ _ _ => rz_toI (c_M_fault _ _ _) h⟩
    · exact p_M_does_197 ⟨fun z => absurd ((nI_leI (a := 3) (by omega) (by omega)).mp z) h3, fun _ => rz_toI (c_M_fault _ _ _) h⟩
  exact r95 n1 hn e0 hb hI hV hU (p_M_does_95 ⟨fun z => absurd z h78, fun _ => ⟨fun z => absurd z h83, fun _ => ⟨fun z => absurd z h82, fun _ => ⟨fun z => ⟨fun y => absurd y (h85 z).1, fun _ => ⟨fun y => absurd y (h85 z).2, fun _ => go⟩⟩, fun _ => go⟩⟩⟩⟩)
end DOES2
section NOC
variable {T : rz_S} {n : Nat} {K : Int32 → rz_S → Prop}
theorem nc_new (hn : n ≤ 400) (hl : T.2 1 2 = nI n) (hb : ¬ (if 1 < n then T.1 2 1 else -1) = 58) (h : K (nI 30) (st_set T (nI 30) (nI 0) (nI 0))) : rz_ev mCommands_newDisk [.ref 108] T (rz_i K) := by
  have h27 : ∀ s0 : Int32, rz mCommands_newDisk 27 [(0, .ref 108), (1, .int (oI (fnd (T.1 2) 44 n 2)))] [.int s0] T (rz_i K) := fun s0 => p_Commands_newDisk_27 (rz_toI (c_byteAt (i := 1) hn hl (by omega)) ⟨fun z => absurd z hb, fun _ => p_Commands_newDisk_71 (p_Commands_newDisk_72 ⟨fun _ => p_Commands_newDisk_95 (rz_toI (c_Status_set _ _ _) h), fun z => absurd rfl z⟩)⟩)
  show rz _ 0 [(0, .ref 108)] [] _ _
  exact p_Commands_newDisk_0 (rz_toI (c_find (i := 2) hn hl (by omega)) ⟨fun _ => h27 _, fun _ => h27 _⟩)
theorem nc_rename (hn : n ≤ 400) (hl : T.2 1 2 = nI n) (hb : ¬ (if 1 < n then T.1 2 1 else -1) = 58) (h : K (nI 30) (st_set T (nI 30) (nI 0) (nI 0))) : rz_ev mCommands_rename [.ref 108] T (rz_i K) := by
  show rz _ 0 [(0, .ref 108)] [] _ _
  exact p_Commands_rename_0 (rz_toI (c_find (i := 2) hn hl (by omega)) (rz_toI (c_byteAt (i := 1) hn hl (by omega)) ⟨fun z => absurd z hb, fun _ => p_Commands_rename_93 (p_Commands_rename_94 ⟨fun _ => rz_toI (c_Status_set _ _ _) h, fun z => absurd rfl z⟩)⟩))
theorem nc_scratch (hn : n ≤ 400) (hl : T.2 1 2 = nI n) (hb : ¬ (if 1 < n then T.1 2 1 else -1) = 58) (h : K (nI 30) (st_set T (nI 30) (nI 0) (nI 0))) : rz_ev mCommands_scratch [.ref 108] T (rz_i K) := by
  show rz _ 0 [(0, .ref 108)] [] _ _
  exact p_Commands_scratch_0 (rz_toI (c_byteAt (i := 1) hn hl (by omega)) ⟨fun z => absurd z hb, fun _ => p_Commands_scratch_45 (rz_toI (c_Status_set _ _ _) h)⟩)
end NOC
theorem do_pair (hS : SCR) {M n : Nat} {B : Nat → Nat → Bool} {pr : Bool} {id : Option (Nat × Nat)} {S U : rz_S} (n1 : 1 ≤ n) (n40 : n ≤ 40) (hC : cmC M n B pr id (st_begin S) U) (hall : S.2 113 1 = 1 ∧ S.1 114 0 = 42) : ∃ x V W, cmE M pr (st_begin S) U x V W ∧ rzx mCommands_run [.ref 108] S (some (.int x)) V ∧ rzx mM_does [.ref 116, .int (nI n)] U (some (.int x)) W := by
  obtain ⟨hn, hlT, htx, _⟩ := hC.1
  have hl : S.2 1 2 = nI n := (bg_3 (by omega)).symm.trans hlT
  have hallT : (st_begin S).2 113 1 = 1 ∧ (st_begin S).1 114 0 = 42 := ⟨(bg_3 (by omega)).trans hall.1, hall.2⟩
  have hx0 : U.1 151 0 = S.1 2 0 := (htx 0 (by omega)).1.symm
  have tx : ∀ j, j < n → (st_begin S).1 2 j = U.1 151 j := fun j hj => (htx j hj).1
  generalize hb0 : S.1 2 0 = b0 at hx0
  generalize hb1 : (if 1 < n then (st_begin S).1 2 1 else -1) = b1
  have hbU : b1 = if 1 < n then U.1 151 1 else -1 := by
    rw [← hb1]
    by_cases z : 1 < n
    · rw [if_pos z, if_pos z]; exact tx 1 z
    · rw [if_neg z, if_neg z]
  have at1 := c_byteAt (S := st_begin S) (n := n) (i := 1) hn hlT (by omega)
  rw [hb1] at at1
  have e31 := cm_f0 hC 31 0 0 (by omega) (by omega)
  have e30 := cm_f0 hC 30 0 0 (by omega) (by omega)
  have cu : ∀ K : Int32 → rz_S → Prop, K (nI 31) (st_set (st_begin S) (nI 31) (nI 0) (nI 0)) → rz_ev mCommands_unknown [.ref 108] (st_begin S) (rz_i K) := fun K h => by
    show rz _ 0 [(0, .ref 108)] [] _ _
    exact p_Commands_unknown_0 (rz_toI (c_Status_set _ _ _) h)
  -- the unknown, both sides
  have unk : (∀ K : Int32 → rz_S → Prop, rz_ev mCommands_unknown [.ref 108] (st_begin S) (rz_i K) → rz_ev mCommands_run [.ref 108] S (rz_i K)) → ¬ (n = 1 ∧ b0 = 73) → ¬ (n = 1 ∧ b0 = 86) → ¬ (n = 2 ∧ b0 = 85 ∧ b1 = 73) → ¬ b0 = 78 → ¬ b0 = 83 → ¬ b0 = 82 → (b0 = 85 → ¬ b1 = 49 ∧ ¬ b1 = 50) → (3 ≤ n → ¬ (b0 = 66 ∧ U.1 151 1 = 45 ∧ (U.1 151 2 = 80 ∨ U.1 151 2 = 65 ∨ U.1 151 2 = 70)) ∧ ¬ (b0 = 77 ∧ U.1 151 1 = 45 ∧ (U.1 151 2 = 87 ∨ U.1 151 2 = 82 ∨ U.1 151 2 = 69))) → ∃ x V W, cmE M pr (st_begin S) U x V W ∧ rzx mCommands_run [.ref 108] S (some (.int x)) V ∧ rzx mM_does [.ref 116, .int (nI n)] U (some (.int x)) W := fun l q1 q2 q3 q4 q5 q6 q7 q8 => ⟨nI 31, _, _, e31, rzx_of (fun K h => l K (cu K h)), rzx_of (fun K h => rU n1 n40 hx0 rfl rfl hbU q1 q2 q3 q4 q5 q6 q7 q8 h)⟩
  -- a command with a pair of its own
  have own : ∀ {X R : rx_M} {ax am : List Value}, CM M pr (st_begin S) U X R ax am → (∀ K : Int32 → rz_S → Prop, rz_ev X ax (st_begin S) (rz_i K) → rz_ev mCommands_run [.ref 108] S (rz_i K)) → (∀ K : Int32 → rz_S → Prop, rz_ev R am U (rz_i K) → rz_ev mM_does [.ref 116, .int (nI n)] U (rz_i K)) → ∃ x V W, cmE M pr (st_begin S) U x V W ∧ rzx mCommands_run [.ref 108] S (some (.int x)) V ∧ rzx mM_does [.ref 116, .int (nI n)] U (some (.int x)) W := fun h l r => by
    obtain ⟨x, V, W, hE, a, b⟩ := h
    exact ⟨x, V, W, hE, rzx_of (fun K q => l K (rzx_I a q)), rzx_of (fun K q => r K (rzx_I b q))⟩
  have b1c : ∀ v : Int32, ¬ v = -1 → b1 = v → 1 < n ∧ U.1 151 1 = v ∧ (st_begin S).1 2 1 = v := fun v hv h => by
    by_cases z : 1 < n
    · rw [if_pos z] at hb1
      exact ⟨z, (tx 1 z).symm.trans (hb1.trans h), hb1.trans h⟩
    · rw [if_neg z] at hb1
      exact absurd (h.symm.trans hb1.symm) hv
  have n1e : (st_begin S).2 1 2 = 1 ↔ n = 1 := by
    rw [hlT]
    exact nI_eq (b := 1) (by omega) (by omega)
  by_cases eb : b0 = 66
  · have l1 : ∀ K : Int32 → rz_S → Prop, ((b1 = 45 → rz_ev mCommands_block [.ref 108] (st_begin S) (rz_i K)) ∧ (¬ b1 = 45 → rz_ev mCommands_unknown [.ref 108] (st_begin S) (rz_i K))) → rz_ev mCommands_run [.ref 108] S (rz_i K) := fun K h => run_of n40 n1 hl hb0 ⟨fun _ => rz_toI at1 h, fun z => absurd (eb.symm.trans z) (by decide), fun z => absurd (eb.symm.trans z) (by decide), fun z => absurd (eb.symm.trans z) (by decide), fun z => absurd (eb.symm.trans z) (by decide), fun z => absurd (eb.symm.trans z) (by decide), fun z => absurd (eb.symm.trans z) (by decide), fun z => absurd (eb.symm.trans z) (by decide), fun z => absurd (Or.inl eb) z⟩
    by_cases m45 : b1 = 45
    · obtain ⟨n2, u1, s1⟩ := b1c 45 (by decide) m45
      have at2 := c_byteAt (S := st_begin S) (n := n) (i := 2) hn hlT (by omega)
      generalize hb2 : (if 2 < n then (st_begin S).1 2 2 else -1) = b2 at at2
      have l2 : ∀ K : Int32 → rz_S → Prop, ((b2 = 65 → rz_ev mCommands_allocate [.ref 108, .int 1] (st_begin S) (rz_i K)) ∧ (b2 = 70 → rz_ev mCommands_allocate [.ref 108, .int 0] (st_begin S) (rz_i K)) ∧ (b2 = 80 → rz_ev mCommands_setPlace [.ref 108] (st_begin S) (rz_i K)) ∧ (¬ b2 = 65 → ¬ b2 = 70 → ¬ b2 = 80 → rz_ev mCommands_unknown [.ref 108] (st_begin S) (rz_i K))) → rz_ev mCommands_run [.ref 108] S (rz_i K) := fun K h => l1 K ⟨fun _ => by
        show rz _ 0 [(0, .ref 108)] [] _ _
        exact p_Commands_block_0 (rz_toI at2 h), fun z => absurd m45 z⟩
      have b2c : ∀ v : Int32, ¬ v = -1 → b2 = v → 3 ≤ n ∧ U.1 151 2 = v := fun v hv h => by
        by_cases z : 2 < n
        · rw [if_pos z] at hb2
          exact ⟨by omega, (tx 2 z).symm.trans (hb2.trans h)⟩
        · rw [if_neg z] at hb2
          exact absurd (h.symm.trans hb2.symm) hv
      have r1 : ∀ K : Int32 → rz_S → Prop, 3 ≤ n → rz mM_does 197 [(0, .ref 116), (1, .int (nI n))] [] U (rz_i K) → rz_ev mM_does [.ref 116, .int (nI n)] U (rz_i K) := fun K _ h => r95 n1 n40 hx0 hbU (fun z => by omega) (fun z => by omega) (fun z => absurd (eb.symm.trans z.2.1) (by decide)) (p_M_does_95 ⟨fun z => absurd (eb.symm.trans z) (by decide), fun _ => ⟨fun z => absurd (eb.symm.trans z) (by decide), fun _ => ⟨fun z => absurd (eb.symm.trans z) (by decide), fun _ => ⟨fun z => absurd (eb.symm.trans z) (by decide), fun _ => h⟩⟩⟩⟩)
      by_cases d65 : b2 = 65
      · obtain ⟨h3, u2⟩ := b2c 65 (by decide) d65
        refine own (ba_pair hC) (fun K h => l2 K ⟨fun _ => h, fun z => absurd (d65.symm.trans z) (by decide), fun z => absurd (d65.symm.trans z) (by decide), fun z => absurd d65 z⟩) (fun K h => r1 K h3 (r197 h3 n40 hx0 u1 u2 ⟨fun z => absurd z.2.2 (by decide), fun _ => h, fun z => absurd z.2.2 (by decide), fun z => absurd (eb.symm.trans z.1) (by decide), fun _ z => absurd ⟨eb, rfl, rfl⟩ z⟩))
      · by_cases d70 : b2 = 70
        · obtain ⟨h3, u2⟩ := b2c 70 (by decide) d70
          refine own (bf_pair hC) (fun K h => l2 K ⟨fun z => absurd z d65, fun _ => h, fun z => absurd (d70.symm.trans z) (by decide), fun _ z => absurd d70 z⟩) (fun K h => r1 K h3 (r197 h3 n40 hx0 u1 u2 ⟨fun z => absurd z.2.2 (by decide), fun z => absurd z.2.2 (by decide), fun _ => h, fun z => absurd (eb.symm.trans z.1) (by decide), fun _ _ z => absurd ⟨eb, rfl, rfl⟩ z⟩))
        · by_cases d80 : b2 = 80
          · obtain ⟨h3, u2⟩ := b2c 80 (by decide) d80
            refine own (bp_pair hC) (fun K h => l2 K ⟨fun z => absurd z d65, fun z => absurd z d70, fun _ => h, fun _ _ z => absurd d80 z⟩) (fun K h => r1 K h3 (r197 h3 n40 hx0 u1 u2 ⟨fun _ => h, fun z => absurd z.2.2 (by decide), fun z => absurd z.2.2 (by decide), fun z => absurd (eb.symm.trans z.1) (by decide), fun z => absurd ⟨eb, rfl, rfl⟩ z⟩))
          · refine unk (fun K h => l2 K ⟨fun z => absurd z d65, fun z => absurd z d70, fun z => absurd z d80, fun _ _ _ => h⟩) (fun z => by omega) (fun z => by omega) (fun z => absurd (eb.symm.trans z.2.1) (by decide)) (by rw [eb]; decide) (by rw [eb]; decide) (by rw [eb]; decide) (fun z => absurd (eb.symm.trans z) (by decide)) (fun h3 => ⟨fun z => ?_, fun z => absurd (eb.symm.trans z.1) (by decide)⟩)
            have ub : U.1 151 2 = b2 := by rw [← hb2, if_pos (by omega)]; exact (tx 2 (by omega)).symm
            rw [ub] at z
            rcases z.2.2 with y | y | y
            · exact d80 y
            · exact d65 y
            · exact d70 y
    · refine unk (fun K h => l1 K ⟨fun z => absurd z m45, fun _ => h⟩) (fun z => absurd (eb.symm.trans z.2) (by decide)) (fun z => absurd (eb.symm.trans z.2) (by decide)) (fun z => absurd (eb.symm.trans z.2.1) (by decide)) (by rw [eb]; decide) (by rw [eb]; decide) (by rw [eb]; decide) (fun z => absurd (eb.symm.trans z) (by decide)) (fun h3 => ⟨fun z => m45 ?_, fun z => absurd (eb.symm.trans z.1) (by decide)⟩)
      rw [hbU, if_pos (by omega)]; exact z.2.1
  · by_cases eb : b0 = 77
    · have l1 : ∀ K : Int32 → rz_S → Prop, ((b1 = 45 → rz_ev mCommands_program [.ref 108] (st_begin S) (rz_i K)) ∧ (¬ b1 = 45 → rz_ev mCommands_unknown [.ref 108] (st_begin S) (rz_i K))) → rz_ev mCommands_run [.ref 108] S (rz_i K) := fun K h => run_of n40 n1 hl hb0 ⟨fun z => absurd (eb.symm.trans z) (by decide), fun z => absurd (eb.symm.trans z) (by decide), fun _ => rz_toI at1 h, fun z => absurd (eb.symm.trans z) (by decide), fun z => absurd (eb.symm.trans z) (by decide), fun z => absurd (eb.symm.trans z) (by decide), fun z => absurd (eb.symm.trans z) (by decide), fun z => absurd (eb.symm.trans z) (by decide), fun z => absurd (Or.inr (Or.inr (Or.inl eb))) z⟩
      by_cases m45 : b1 = 45
      · obtain ⟨n2, u1, s1⟩ := b1c 45 (by decide) m45
        by_cases hk : 3 ≤ n ∧ ((st_begin S).1 2 2 = 69 ∨ (st_begin S).1 2 2 = 82 ∨ (st_begin S).1 2 2 = 87)
        · obtain ⟨h3, hk⟩ := hk
          have u2 : U.1 151 2 = (st_begin S).1 2 2 := (tx 2 (by omega)).symm
          refine own (pg_pair hC h3 n40 hk) (fun K h => l1 K ⟨fun _ => h, fun z => absurd m45 z⟩) (fun K h => r95 n1 n40 hx0 hbU (fun z => by omega) (fun z => by omega) (fun z => absurd (eb.symm.trans z.2.1) (by decide)) (p_M_does_95 ⟨fun z => absurd (eb.symm.trans z) (by decide), fun _ => ⟨fun z => absurd (eb.symm.trans z) (by decide), fun _ => ⟨fun z => absurd (eb.symm.trans z) (by decide), fun _ => ⟨fun z => absurd (eb.symm.trans z) (by decide), fun _ => r197 h3 n40 hx0 u1 u2 ⟨fun z => absurd (eb.symm.trans z.1) (by decide), fun z => absurd (eb.symm.trans z.1) (by decide), fun z => absurd (eb.symm.trans z.1) (by decide), fun _ => h, fun _ _ _ z => absurd ⟨eb, rfl, ?_⟩ z⟩⟩⟩⟩⟩))
          rcases hk with y | y | y
          · exact Or.inr (Or.inr y)
          · exact Or.inr (Or.inl y)
          · exact Or.inl y
        · have nk : ∀ v : Int32, (v = 69 ∨ v = 82 ∨ v = 87) → ¬ (if 2 < n then (st_begin S).1 2 2 else -1) = v := fun v hv z => by
            by_cases y : 2 < n
            · rw [if_pos y] at z
              refine hk ⟨by omega, ?_⟩
              rcases hv with q | q | q <;> rw [q] at z
              · exact Or.inl z
              · exact Or.inr (Or.inl z)
              · exact Or.inr (Or.inr z)
            · rw [if_neg y] at z
              rcases hv with q | q | q <;> rw [q] at z <;> exact absurd z (by decide)
          refine unk (fun K h => l1 K ⟨fun _ => ?_, fun z => absurd m45 z⟩) (fun z => by omega) (fun z => by omega) (fun z => absurd (eb.symm.trans z.2.1) (by decide)) (by rw [eb]; decide) (by rw [eb]; decide) (by rw [eb]; decide) (fun z => absurd (eb.symm.trans z) (by decide)) (fun h3 => ⟨fun z => absurd (eb.symm.trans z.1) (by decide), fun z => hk ⟨h3, ?_⟩⟩)
          · have hbt : ∀ j, j < n → byt ((st_begin S).1 2 j) := fun j hj => (htx j hj).2
            show rz _ 0 [(0, .ref 108)] [] _ _
            exact p_Commands_program_0 (rz_toI (c_arg (i := 3) hn hlT hbt (by omega)) (rz_toI (c_arg (i := 4) hn hlT hbt (by omega)) (rz_toI (c_arg (i := 5) hn hlT hbt (by omega)) (rz_toI (c_byteAt (i := 2) hn hlT (by omega)) ⟨fun z => absurd z (nk 69 (Or.inl rfl)), fun z => absurd z (nk 82 (Or.inr (Or.inl rfl))), fun z => absurd z (nk 87 (Or.inr (Or.inr rfl))), fun _ _ _ => h⟩))))
          · rw [← tx 2 (by omega)] at z
            rcases z.2.2 with y | y | y
            · exact Or.inr (Or.inr y)
            · exact Or.inr (Or.inl y)
            · exact Or.inl y
      · refine unk (fun K h => l1 K ⟨fun z => absurd z m45, fun _ => h⟩) (fun z => absurd (eb.symm.trans z.2) (by decide)) (fun z => absurd (eb.symm.trans z.2) (by decide)) (fun z => absurd (eb.symm.trans z.2.1) (by decide)) (by rw [eb]; decide) (by rw [eb]; decide) (by rw [eb]; decide) (fun z => absurd (eb.symm.trans z) (by decide)) (fun h3 => ⟨fun z => absurd (eb.symm.trans z.1) (by decide), fun z => m45 ?_⟩)
        rw [hbU, if_pos (by omega)]; exact z.2.1
    · by_cases eb : b0 = 73
      · have l1 : ∀ K : Int32 → rz_S → Prop, ((n = 1 → rz_ev mCommands_initialise [.ref 108] (st_begin S) (rz_i K)) ∧ (¬ n = 1 → rz_ev mCommands_unknown [.ref 108] (st_begin S) (rz_i K))) → rz_ev mCommands_run [.ref 108] S (rz_i K) := fun K h => run_of n40 n1 hl hb0 ⟨fun z => absurd (eb.symm.trans z) (by decide), fun _ => ⟨fun z => h.1 (n1e.mp z), fun z => h.2 (fun y => z (n1e.mpr y))⟩, fun z => absurd (eb.symm.trans z) (by decide), fun z => absurd (eb.symm.trans z) (by decide), fun z => absurd (eb.symm.trans z) (by decide), fun z => absurd (eb.symm.trans z) (by decide), fun z => absurd (eb.symm.trans z) (by decide), fun z => absurd (eb.symm.trans z) (by decide), fun z => absurd (Or.inr (Or.inl eb)) z⟩
        by_cases e1 : n = 1
        · refine own (in_pair hC) (fun K h => l1 K ⟨fun _ => h, fun z => absurd e1 z⟩) (fun K h => ?_)
          subst e1
          show rz _ 0 [(0, .ref 116), (1, .int (nI 1))] [] _ _
          refine p_M_does_0 ?_
          rw [hx0]
          exact ⟨fun _ => p_M_does_22 ⟨fun _ => ⟨fun _ => h, fun z => absurd eb z⟩, fun z => absurd rfl z⟩, fun z => absurd (by decide) z⟩
        · exact unk (fun K h => l1 K ⟨fun z => absurd z e1, fun _ => h⟩) (fun z => e1 z.1) (fun z => e1 z.1) (fun z => absurd (eb.symm.trans z.2.1) (by decide)) (by rw [eb]; decide) (by rw [eb]; decide) (by rw [eb]; decide) (fun z => absurd (eb.symm.trans z) (by decide)) (fun h3 => ⟨fun z => absurd (eb.symm.trans z.1) (by decide), fun z => absurd (eb.symm.trans z.1) (by decide)⟩)
      · by_cases eb : b0 = 86
        · have l1 : ∀ K : Int32 → rz_S → Prop, ((n = 1 → rz_ev mCommands_validate [.ref 108] (st_begin S) (rz_i K)) ∧ (¬ n = 1 → rz_ev mCommands_unknown [.ref 108] (st_begin S) (rz_i K))) → rz_ev mCommands_run [.ref 108] S (rz_i K) := fun K h => run_of n40 n1 hl hb0 ⟨fun z => absurd (eb.symm.trans z) (by decide), fun z => absurd (eb.symm.trans z) (by decide), fun z => absurd (eb.symm.trans z) (by decide), fun z => absurd (eb.symm.trans z) (by decide), fun z => absurd (eb.symm.trans z) (by decide), fun z => absurd (eb.symm.trans z) (by decide), fun z => absurd (eb.symm.trans z) (by decide), fun _ => ⟨fun z => h.1 (n1e.mp z), fun z => h.2 (fun y => z (n1e.mpr y))⟩, fun z => absurd (Or.inr (Or.inr (Or.inr (Or.inr (Or.inr (Or.inr (Or.inr (eb)))))))) z⟩
          by_cases e1 : n = 1
          · refine own (va_pair hC hallT) (fun K h => l1 K ⟨fun _ => h, fun z => absurd e1 z⟩) (fun K h => ?_)
            subst e1
            show rz _ 0 [(0, .ref 116), (1, .int (nI 1))] [] _ _
            refine p_M_does_0 ?_
            rw [hx0]
            exact ⟨fun _ => p_M_does_22 ⟨fun _ => ⟨fun z => absurd (eb.symm.trans z) (by decide), fun _ => p_M_does_39 ⟨fun _ => ⟨fun _ => h, fun z => absurd eb z⟩, fun z => absurd rfl z⟩⟩, fun z => absurd rfl z⟩, fun z => absurd (by decide) z⟩
          · exact unk (fun K h => l1 K ⟨fun z => absurd z e1, fun _ => h⟩) (fun z => e1 z.1) (fun z => e1 z.1) (fun z => absurd (eb.symm.trans z.2.1) (by decide)) (by rw [eb]; decide) (by rw [eb]; decide) (by rw [eb]; decide) (fun z => absurd (eb.symm.trans z) (by decide)) (fun h3 => ⟨fun z => absurd (eb.symm.trans z.1) (by decide), fun z => absurd (eb.symm.trans z.1) (by decide)⟩)
        · by_cases eb : b0 = 85
          · have l1 : ∀ K : Int32 → rz_S → Prop, ((b1 = 49 → rz_ev mCommands_moveBlock [.ref 108, .int 0] (st_begin S) (rz_i K)) ∧ (b1 = 50 → rz_ev mCommands_moveBlock [.ref 108, .int 1] (st_begin S) (rz_i K)) ∧ (b1 = 73 → (((st_begin S).2 1 2 = 2 → rz_ev mCommands_restart [.ref 108] (st_begin S) (rz_i K)) ∧ (¬ (st_begin S).2 1 2 = 2 → rz_ev mCommands_unknown [.ref 108] (st_begin S) (rz_i K)))) ∧ (¬ b1 = 49 → ¬ b1 = 50 → ¬ b1 = 73 → rz_ev mCommands_unknown [.ref 108] (st_begin S) (rz_i K))) → rz_ev mCommands_run [.ref 108] S (rz_i K) := fun K h => run_of n40 n1 hl hb0 ⟨fun z => absurd (eb.symm.trans z) (by decide), fun z => absurd (eb.symm.trans z) (by decide), fun z => absurd (eb.symm.trans z) (by decide), fun z => absurd (eb.symm.trans z) (by decide), fun z => absurd (eb.symm.trans z) (by decide), fun z => absurd (eb.symm.trans z) (by decide), fun _ => (by
              show rz _ 0 [(0, .ref 108)] [] _ _
              exact p_Commands_user_0 (rz_toI at1 h)), fun z => absurd (eb.symm.trans z) (by decide), fun z => absurd (Or.inr (Or.inr (Or.inr (Or.inr (Or.inr (Or.inr (Or.inl eb))))))) z⟩
            have n2e : (st_begin S).2 1 2 = 2 ↔ n = 2 := by
              rw [hlT]
              exact nI_eq (b := 2) (by omega) (by omega)
            have r1 : ∀ K : Int32 → rz_S → Prop, ¬ (n = 2 ∧ b1 = 73) → ((b1 = 49 → rz mM_does 180 [(0, .ref 116), (1, .int (nI n)), (3, .int b1)] [] U (rz_i K)) ∧ (¬ b1 = 49 → ((b1 = 50 → rz mM_does 180 [(0, .ref 116), (1, .int (nI n)), (3, .int b1)] [] U (rz_i K)) ∧ (¬ b1 = 50 → rz mM_does 197 [(0, .ref 116), (1, .int (nI n))] [] U (rz_i K))))) → rz_ev mM_does [.ref 116, .int (nI n)] U (rz_i K) := fun K hz h => r95 n1 n40 hx0 hbU (fun z => absurd (eb.symm.trans z.2) (by decide)) (fun z => absurd (eb.symm.trans z.2) (by decide)) (fun z => hz ⟨z.1, z.2.2⟩) (p_M_does_95 ⟨fun z => absurd (eb.symm.trans z) (by decide), fun _ => ⟨fun z => absurd (eb.symm.trans z) (by decide), fun _ => ⟨fun z => absurd (eb.symm.trans z) (by decide), fun _ => ⟨fun _ => h, fun z => absurd eb z⟩⟩⟩⟩)
            by_cases d49 : b1 = 49
            · refine own (ub_pair (wr := 0) (bw := false) (Or.inl ⟨rfl, rfl⟩) hC) (fun K h => l1 K ⟨fun _ => h, fun z => absurd (d49.symm.trans z) (by decide), fun z => absurd (d49.symm.trans z) (by decide), fun z => absurd d49 z⟩) (fun K h => r1 K (fun z => absurd (d49.symm.trans z.2) (by decide)) ⟨fun _ => p_M_does_180 ⟨fun z => absurd (d49.symm.trans z) (by decide), fun _ => p_M_does_193 h⟩, fun z => absurd d49 z⟩)
            · by_cases d50 : b1 = 50
              · refine own (ub_pair (wr := 1) (bw := true) (Or.inr ⟨rfl, rfl⟩) hC) (fun K h => l1 K ⟨fun z => absurd z d49, fun _ => h, fun z => absurd (d50.symm.trans z) (by decide), fun _ z => absurd d50 z⟩) (fun K h => r1 K (fun z => absurd (d50.symm.trans z.2) (by decide)) ⟨fun z => absurd z d49, fun _ => ⟨fun _ => p_M_does_180 ⟨fun _ => p_M_does_193 h, fun z => absurd d50 z⟩, fun z => absurd d50 z⟩⟩)
              · by_cases dI : n = 2 ∧ b1 = 73
                · obtain ⟨e2, d73⟩ := dI
                  obtain ⟨x, V, W, hE, a, r⟩ := ui_pair hC
                  refine ⟨x, V, W, hE, rzx_of (fun K h => l1 K ⟨fun z => absurd z d49, fun z => absurd z d50, fun _ => ⟨fun _ => rzx_I a h, fun z => absurd (n2e.mpr e2) z⟩, fun _ _ z => absurd d73 z⟩), rzx_of (fun K h => ?_)⟩
                  subst e2
                  have h55 : rz mM_does 55 [(0, .ref 116), (1, .int (nI 2)), (2, .int b0), (3, .int b1)] [] U (rz_i K) := p_M_does_55 ⟨fun _ => ⟨fun _ => ⟨fun _ => r _ h, fun z => absurd d73 z⟩, fun z => absurd eb z⟩, fun z => absurd rfl z⟩
                  have h22 : rz mM_does 22 [(0, .ref 116), (1, .int (nI 2)), (2, .int b0)] [.int b1] U (rz_i K) := p_M_does_22 ⟨fun z => absurd z (by decide), fun _ => p_M_does_39 ⟨fun z => absurd z (by decide), fun _ => h55⟩⟩
                  show rz _ 0 [(0, .ref 116), (1, .int (nI 2))] [] _ _
                  refine p_M_does_0 ?_
                  rw [hx0]
                  refine ⟨fun z => absurd z (by decide), fun _ => ?_⟩
                  rw [hbU, if_pos (by omega)] at h22
                  exact h22
                · exact unk (fun K h => l1 K ⟨fun z => absurd z d49, fun z => absurd z d50, fun z => ⟨fun y => absurd ⟨n2e.mp y, z⟩ dI, fun _ => h⟩, fun _ _ _ => h⟩) (fun z => absurd (eb.symm.trans z.2) (by decide)) (fun z => absurd (eb.symm.trans z.2) (by decide)) (fun z => dI ⟨z.1, z.2.2⟩) (by rw [eb]; decide) (by rw [eb]; decide) (by rw [eb]; decide) (fun _ => ⟨d49, d50⟩) (fun h3 => ⟨fun z => absurd (eb.symm.trans z.1) (by decide), fun z => absurd (eb.symm.trans z.1) (by decide)⟩)
          · -- NEW, SCRATCH, RENAME
            have r113 : ∀ K : Int32 → rz_S → Prop, (b0 = 78 ∨ b0 = 83 ∨ b0 = 82) → rz mM_does 113 [(0, .ref 116), (1, .int (nI n)), (2, .int b0), (3, .int b1)] [] U (rz_i K) → rz_ev mM_does [.ref 116, .int (nI n)] U (rz_i K) := fun K hz h => r95 n1 n40 hx0 hbU (fun z => by rcases hz with q | q | q <;> exact absurd (q.symm.trans z.2) (by decide)) (fun z => by rcases hz with q | q | q <;> exact absurd (q.symm.trans z.2) (by decide)) (fun z => by rcases hz with q | q | q <;> exact absurd (q.symm.trans z.2.1) (by decide)) (p_M_does_95 ⟨fun _ => h, fun y1 => ⟨fun _ => h, fun y2 => ⟨fun _ => h, fun y3 => by rcases hz with q | q | q <;> contradiction⟩⟩⟩)
            have noc : (b0 = 78 ∨ b0 = 83 ∨ b0 = 82) → ¬ b1 = 58 → (∀ K : Int32 → rz_S → Prop, K (nI 30) (st_set (st_begin S) (nI 30) (nI 0) (nI 0)) → rz_ev mCommands_run [.ref 108] S (rz_i K)) → ∃ x V W, cmE M pr (st_begin S) U x V W ∧ rzx mCommands_run [.ref 108] S (some (.int x)) V ∧ rzx mM_does [.ref 116, .int (nI n)] U (some (.int x)) W := fun hz h58 l => ⟨nI 30, _, _, e30, rzx_of (fun K h => l K h), rzx_of (fun K h => r113 K hz (p_M_does_113 ⟨fun z => absurd z h58, fun _ => rz_toI (c_M_fault _ _ _) h⟩))⟩
            by_cases eb : b0 = 78
            · have l1 : ∀ K : Int32 → rz_S → Prop, rz_ev mCommands_newDisk [.ref 108] (st_begin S) (rz_i K) → rz_ev mCommands_run [.ref 108] S (rz_i K) := fun K h => run_of n40 n1 hl hb0 ⟨fun z => absurd (eb.symm.trans z) (by decide), fun z => absurd (eb.symm.trans z) (by decide), fun z => absurd (eb.symm.trans z) (by decide), fun _ => h, fun z => absurd (eb.symm.trans z) (by decide), fun z => absurd (eb.symm.trans z) (by decide), fun z => absurd (eb.symm.trans z) (by decide), fun z => absurd (eb.symm.trans z) (by decide), fun z => absurd (Or.inr (Or.inr (Or.inr (Or.inl eb)))) z⟩
              by_cases d58 : b1 = 58
              · obtain ⟨n2, u1, s1⟩ := b1c 58 (by decide) d58
                exact own (nw_pair hC (by omega) n40 s1) l1 (fun K h => r113 K (Or.inl eb) (p_M_does_113 ⟨fun _ => ⟨fun _ => h, fun z => absurd eb z⟩, fun z => absurd d58 z⟩))
              · exact noc (Or.inl eb) d58 (fun K h => l1 K (nc_new hn hlT (by rw [hb1]; exact d58) h))
            · by_cases eb : b0 = 83
              · have l1 : ∀ K : Int32 → rz_S → Prop, rz_ev mCommands_scratch [.ref 108] (st_begin S) (rz_i K) → rz_ev mCommands_run [.ref 108] S (rz_i K) := fun K h => run_of n40 n1 hl hb0 ⟨fun z => absurd (eb.symm.trans z) (by decide), fun z => absurd (eb.symm.trans z) (by decide), fun z => absurd (eb.symm.trans z) (by decide), fun z => absurd (eb.symm.trans z) (by decide), fun z => absurd (eb.symm.trans z) (by decide), fun _ => h, fun z => absurd (eb.symm.trans z) (by decide), fun z => absurd (eb.symm.trans z) (by decide), fun z => absurd (Or.inr (Or.inr (Or.inr (Or.inr (Or.inr (Or.inl eb)))))) z⟩
                by_cases d58 : b1 = 58
                · obtain ⟨n2, u1, s1⟩ := b1c 58 (by decide) d58
                  exact own (sc_pair hS hC (by omega) n40 s1) l1 (fun K h => r113 K (Or.inr (Or.inl eb)) (p_M_does_113 ⟨fun _ => ⟨fun z => absurd (eb.symm.trans z) (by decide), fun _ => ⟨fun _ => h, fun z => absurd eb z⟩⟩, fun z => absurd d58 z⟩))
                · exact noc (Or.inr (Or.inl eb)) d58 (fun K h => l1 K (nc_scratch hn hlT (by rw [hb1]; exact d58) h))
              · by_cases eb : b0 = 82
                · have l1 : ∀ K : Int32 → rz_S → Prop, rz_ev mCommands_rename [.ref 108] (st_begin S) (rz_i K) → rz_ev mCommands_run [.ref 108] S (rz_i K) := fun K h => run_of n40 n1 hl hb0 ⟨fun z => absurd (eb.symm.trans z) (by decide), fun z => absurd (eb.symm.trans z) (by decide), fun z => absurd (eb.symm.trans z) (by decide), fun z => absurd (eb.symm.trans z) (by decide), fun _ => h, fun z => absurd (eb.symm.trans z) (by decide), fun z => absurd (eb.symm.trans z) (by decide), fun z => absurd (eb.symm.trans z) (by decide), fun z => absurd (Or.inr (Or.inr (Or.inr (Or.inr (Or.inl eb))))) z⟩
                  by_cases d58 : b1 = 58
                  · obtain ⟨n2, u1, s1⟩ := b1c 58 (by decide) d58
                    exact own (rn_pair hC (by omega) n40 s1) l1 (fun K h => r113 K (Or.inr (Or.inr eb)) (p_M_does_113 ⟨fun _ => ⟨fun z => absurd (eb.symm.trans z) (by decide), fun _ => ⟨fun z => absurd (eb.symm.trans z) (by decide), fun _ => h⟩⟩, fun z => absurd d58 z⟩))
                  · exact noc (Or.inr (Or.inr eb)) d58 (fun K h => l1 K (nc_rename hn hlT (by rw [hb1]; exact d58) h))
                · rename_i c66 c77 c73 c86 c85 c78 c83
                  exact unk (fun K h => run_of n40 n1 hl hb0 ⟨fun z => absurd z c66, fun z => absurd z c73, fun z => absurd z c77, fun z => absurd z c78, fun z => absurd z eb, fun z => absurd z c83, fun z => absurd z c85, fun z => absurd z c86, fun _ => h⟩) (fun z => c73 z.2) (fun z => c86 z.2) (fun z => c85 z.2.1) c78 c83 eb (fun z => absurd z c85) (fun h3 => ⟨fun z => c66 z.1, fun z => c77 z.1⟩)
