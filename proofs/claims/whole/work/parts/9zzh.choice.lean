/-! commands: which one it is; the whole of it -/
def spec (b : Int32) : Prop := b = 66 ∨ b = 73 ∨ b = 77 ∨ b = 78 ∨ b = 82 ∨ b = 83 ∨ b = 85 ∨ b = 86
theorem rg_no {x : Int32} (h : x.toInt < 66 ∨ 86 < x.toInt) : ¬ (x = 66 ∨ x = 73 ∨ x = 77 ∨ x = 78 ∨ x = 82 ∨ x = 83 ∨ x = 85 ∨ x = 86) := by
  intro z
  have e1 : (66 : Int32).toInt = 66 := by decide
  have e2 : (73 : Int32).toInt = 73 := by decide
  have e3 : (77 : Int32).toInt = 77 := by decide
  have e4 : (78 : Int32).toInt = 78 := by decide
  have e5 : (82 : Int32).toInt = 82 := by decide
  have e6 : (83 : Int32).toInt = 83 := by decide
  have e7 : (85 : Int32).toInt = 85 := by decide
  have e8 : (86 : Int32).toInt = 86 := by decide
  rcases z with z | z | z | z | z | z | z | z <;> subst z <;> omega
/-- the class's choice -/
theorem run_of {S : rz_S} {n : Nat} {b : Int32} {K : Int32 → rz_S → Prop} (hn : n ≤ 40) (n1 : 1 ≤ n) (hl : S.2 1 2 = nI n) (hb : S.1 2 0 = b) (h : (b = 66 → rz_ev mTape_byteAt [.ref 1, .int 1] (st_begin S) (rz_i (fun xq6 Sq6 => ((xq6 = 45 → rz_ev mCommands_block [.ref 108] Sq6 (rz_i (fun xq9 Sq9 => K xq9 Sq9))) ∧ (¬ xq6 = 45 → rz_ev mCommands_unknown [.ref 108] Sq6 (rz_i (fun xq8 Sq8 => K xq8 Sq8))))))) ∧ (b = 73 → (((st_begin S).2 1 2 = 1 → rz_ev mCommands_initialise [.ref 108] (st_begin S) (rz_i (fun xq18 Sq18 => K xq18 Sq18))) ∧ (¬ (st_begin S).2 1 2 = 1 → rz_ev mCommands_unknown [.ref 108] (st_begin S) (rz_i (fun xq17 Sq17 => K xq17 Sq17))))) ∧ (b = 77 → rz_ev mTape_byteAt [.ref 1, .int 1] (st_begin S) (rz_i (fun xq22 Sq22 => ((xq22 = 45 → rz_ev mCommands_program [.ref 108] Sq22 (rz_i (fun xq25 Sq25 => K xq25 Sq25))) ∧ (¬ xq22 = 45 → rz_ev mCommands_unknown [.ref 108] Sq22 (rz_i (fun xq24 Sq24 => K xq24 Sq24))))))) ∧ (b = 78 → rz_ev mCommands_newDisk [.ref 108] (st_begin S) (rz_i (fun xq26 Sq26 => K xq26 Sq26))) ∧ (b = 82 → rz_ev mCommands_rename [.ref 108] (st_begin S) (rz_i (fun xq30 Sq30 => K xq30 Sq30))) ∧ (b = 83 → rz_ev mCommands_scratch [.ref 108] (st_begin S) (rz_i (fun xq31 Sq31 => K xq31 Sq31))) ∧ (b = 85 → rz_ev mCommands_user [.ref 108] (st_begin S) (rz_i (fun xq33 Sq33 => K xq33 Sq33))) ∧ (b = 86 → (((st_begin S).2 1 2 = 1 → rz_ev mCommands_validate [.ref 108] (st_begin S) (rz_i (fun xq36 Sq36 => K xq36 Sq36))) ∧ (¬ (st_begin S).2 1 2 = 1 → rz_ev mCommands_unknown [.ref 108] (st_begin S) (rz_i (fun xq35 Sq35 => K xq35 Sq35))))) ∧ (¬ (b = 66 ∨ b = 73 ∨ b = 77 ∨ b = 78 ∨ b = 82 ∨ b = 83 ∨ b = 85 ∨ b = 86) → rz_ev mCommands_unknown [.ref 108] (st_begin S) (rz_i (fun xq5 Sq5 => K xq5 Sq5)))) : rz_ev mCommands_run [.ref 108] S (rz_i K) := by
  have nz : ¬ S.2 1 2 = 0 := by rw [hl]; exact nI_ne0 (by omega) (by omega)
  have hl1 : (st_begin S).2 1 2 = nI n := (bg_3 (by omega)).trans hl
  have le : (st_begin S).2 1 2 ≤ 40 := by rw [hl1]; exact nI_le (b := 40) hn (by omega)
  show rz _ 0 [(0, .ref 108)] [] _ _
  refine p_Commands_run_0 ⟨fun z => absurd z nz, fun _ => rz_toV c_Status_begin ⟨fun _ => rz_toI (c_byteAt (i := 0) (by omega) hl1 (by omega)) ?_, fun z => absurd le z⟩⟩
  rw [if_pos (by omega), show (st_begin S).1 2 0 = b from hb]
  exact ⟨fun z => h.2.2.2.2.2.2.2.2 (rg_no z), h.1, fun z => h.2.2.2.2.2.2.2.2 (by rw [z]; decide), fun z => h.2.2.2.2.2.2.2.2 (by rw [z]; decide), fun z => h.2.2.2.2.2.2.2.2 (by rw [z]; decide), fun z => h.2.2.2.2.2.2.2.2 (by rw [z]; decide), fun z => h.2.2.2.2.2.2.2.2 (by rw [z]; decide), fun z => h.2.2.2.2.2.2.2.2 (by rw [z]; decide), h.2.1, fun z => h.2.2.2.2.2.2.2.2 (by rw [z]; decide), fun z => h.2.2.2.2.2.2.2.2 (by rw [z]; decide), fun z => h.2.2.2.2.2.2.2.2 (by rw [z]; decide), h.2.2.1, h.2.2.2.1, fun z => h.2.2.2.2.2.2.2.2 (by rw [z]; decide), fun z => h.2.2.2.2.2.2.2.2 (by rw [z]; decide), fun z => h.2.2.2.2.2.2.2.2 (by rw [z]; decide), h.2.2.2.2.1, h.2.2.2.2.2.1, fun z => h.2.2.2.2.2.2.2.2 (by rw [z]; decide), h.2.2.2.2.2.2.1, h.2.2.2.2.2.2.2.1⟩
theorem c_beg3 {S : rz_S} (a b c : Int32) : rz_ev mM_begins3 [.ref 116, .int a, .int b, .int c] S (rz_i (fun x S1 => x = (if S.1 151 0 = a ∧ S.1 151 1 = b ∧ S.1 151 2 = c then 1 else 0) ∧ S1 = S)) := by
  show rz _ 0 [(0, .ref 116), (1, .int a), (2, .int b), (3, .int c)] [] _ _
  exact p_M_begins3_0 ⟨fun h1 => ⟨fun h2 => ⟨fun h3 => ⟨(if_pos ⟨h1, h2, h3⟩).symm, rfl⟩, fun h3 => ⟨(if_neg (fun z => h3 z.2.2)).symm, rfl⟩⟩, fun h2 => ⟨(if_neg (fun z => h2 z.2.1)).symm, rfl⟩⟩, fun h1 => ⟨(if_neg (fun z => h1 z.1)).symm, rfl⟩⟩
section DOES
variable {U : rz_S} {n : Nat} {K : Int32 → rz_S → Prop} {t0 t1 t2 : Int32}
/-- the reference's choice among the commands of three letters -/
theorem r197 (h3 : 3 ≤ n) (hn : n ≤ 40) (e0 : U.1 151 0 = t0) (e1 : U.1 151 1 = t1) (e2 : U.1 151 2 = t2) (h : ((t0 = 66 ∧ t1 = 45 ∧ t2 = 80) → rz_ev mM_pointer [.ref 116, .int (nI n)] U (rz_i (fun a S => K a S))) ∧ ((t0 = 66 ∧ t1 = 45 ∧ t2 = 65) → rz_ev mM_allocates [.ref 116, .int (nI n)] U (rz_i (fun a S => K a S))) ∧ ((t0 = 66 ∧ t1 = 45 ∧ t2 = 70) → rz_ev mM_frees [.ref 116, .int (nI n)] U (rz_i (fun a S => K a S))) ∧ ((t0 = 77 ∧ t1 = 45 ∧ (t2 = 87 ∨ t2 = 82 ∨ t2 = 69)) → rz_ev mM_memories [.ref 116, .int (nI n)] U (rz_i (fun a S => K a S))) ∧ (¬ (t0 = 66 ∧ t1 = 45 ∧ t2 = 80) → ¬ (t0 = 66 ∧ t1 = 45 ∧ t2 = 65) → ¬ (t0 = 66 ∧ t1 = 45 ∧ t2 = 70) → ¬ (t0 = 77 ∧ t1 = 45 ∧ (t2 = 87 ∨ t2 = 82 ∨ t2 = 69)) → rz_ev mM_fault [.ref 116, .int 31, .int 0, .int 0] U (rz_i (fun a S => K a S)))) : rz mM_does 197 [(0, .ref 116), (1, .int (nI n))] [] U (rz_i K) := by
  obtain ⟨hP, hA, hF, hM, hno⟩ := h
  have le : (3 : Int32) ≤ nI n := nI_le (a := 3) h3 (by omega)
  have b3 : ∀ a b c : Int32, rz_ev mM_begins3 [.ref 116, .int a, .int b, .int c] U (rz_i (fun x S1 => x = (if t0 = a ∧ t1 = b ∧ t2 = c then 1 else 0) ∧ S1 = U)) := fun a b c => by
    have := c_beg3 (S := U) a b c
    rw [e0, e1, e2] at this
    exact this
  refine p_M_does_197 ⟨fun _ => rz_toI (b3 _ _ _) ?_, fun z => absurd le z⟩
  by_cases c1 : t0 = 66 ∧ t1 = 45 ∧ t2 = 80
  · rw [if_pos c1]; exact ⟨fun z => absurd z (by decide), fun _ => hP c1⟩
  rw [if_neg c1]
  refine ⟨fun _ => rz_toI (b3 _ _ _) ?_, fun z => absurd rfl z⟩
  by_cases c2 : t0 = 66 ∧ t1 = 45 ∧ t2 = 65
  · rw [if_pos c2]; exact ⟨fun z => absurd z (by decide), fun _ => hA c2⟩
  rw [if_neg c2]
  refine ⟨fun _ => rz_toI (b3 _ _ _) ?_, fun z => absurd rfl z⟩
  by_cases c3 : t0 = 66 ∧ t1 = 45 ∧ t2 = 70
  · rw [if_pos c3]; exact ⟨fun z => absurd z (by decide), fun _ => hF c3⟩
  rw [if_neg c3]
  refine ⟨fun _ => rz_toI (b3 _ _ _) ?_, fun z => absurd rfl z⟩
  by_cases c4 : t0 = 77 ∧ t1 = 45 ∧ t2 = 87
  · rw [if_pos c4]; exact ⟨fun z => absurd z (by decide), fun _ => p_M_does_307 (hM ⟨c4.1, c4.2.1, Or.inl c4.2.2⟩)⟩
  rw [if_neg c4]
  refine ⟨fun _ => rz_toI (b3 _ _ _) ?_, fun z => absurd rfl z⟩
  by_cases c5 : t0 = 77 ∧ t1 = 45 ∧ t2 = 82
  · rw [if_pos c5]; exact ⟨fun z => absurd z (by decide), fun _ => p_M_does_307 (hM ⟨c5.1, c5.2.1, Or.inr (Or.inl c5.2.2)⟩)⟩
  rw [if_neg c5]
  refine ⟨fun _ => rz_toI (b3 _ _ _) ?_, fun z => absurd rfl z⟩
  by_cases c6 : t0 = 77 ∧ t1 = 45 ∧ t2 = 69
  · rw [if_pos c6]; exact ⟨fun z => absurd z (by decide), fun _ => p_M_does_307 (hM ⟨c6.1, c6.2.1, Or.inr (Or.inr c6.2.2)⟩)⟩
  rw [if_neg c6]
  refine ⟨fun _ => hno c1 c2 c3 (fun z => ?_), fun z => absurd rfl z⟩
  obtain ⟨q1, q2, q3 | q3 | q3⟩ := z
  · exact c4 ⟨q1, q2, q3⟩
  · exact c5 ⟨q1, q2, q3⟩
  · exact c6 ⟨q1, q2, q3⟩
/-- up to the fork at 95 -/
theorem r95 {b : Int32} (n1 : 1 ≤ n) (hn : n ≤ 40) (e0 : U.1 151 0 = t0) (hb : b = if 1 < n then U.1 151 1 else -1) (hI : ¬ (n = 1 ∧ t0 = 73)) (hV : ¬ (n = 1 ∧ t0 = 86)) (hU : ¬ (n = 2 ∧ t0 = 85 ∧ b = 73)) (h : rz mM_does 95 [(0, .ref 116), (1, .int (nI n)), (2, .int t0), (3, .int b)] [] U (rz_i K)) : rz_ev mM_does [.ref 116, .int (nI n)] U (rz_i K) := by
  have h55 : rz mM_does 55 [(0, .ref 116), (1, .int (nI n)), (2, .int t0), (3, .int b)] [] U (rz_i K) := p_M_does_55 ⟨fun q1 => ⟨fun q2 => ⟨fun q3 => absurd ⟨(nI_eq (b := 2) (by omega) (by omega)).mp q1, q2, q3⟩ hU, fun _ => h⟩, fun _ => h⟩, fun _ => h⟩
  have h39 : rz mM_does 39 [(0, .ref 116), (1, .int (nI n)), (2, .int t0), (3, .int b)] [] U (rz_i K) := p_M_does_39 ⟨fun q1 => ⟨fun q2 => absurd ⟨(nI_eq (b := 1) (by omega) (by omega)).mp q1, q2⟩ hV, fun _ => h55⟩, fun _ => h55⟩
  have h22 : rz mM_does 22 [(0, .ref 116), (1, .int (nI n)), (2, .int t0)] [.int b] U (rz_i K) := p_M_does_22 ⟨fun q1 => ⟨fun q2 => absurd ⟨(nI_eq (b := 1) (by omega) (by omega)).mp q1, q2⟩ hI, fun _ => h39⟩, fun _ => h39⟩
  show rz _ 0 [(0, .ref 116), (1, .int (nI n))] [] _ _
  refine p_M_does_0 ?_
  rw [e0]
  refine ⟨fun z => ?_, fun z => ?_⟩
  · have := (nI_leI (b := 1) (by omega) (by omega)).mp z
    rw [hb, if_neg (by omega)] at h22
    exact h22
  · have : ¬ n ≤ 1 := fun y => z (nI_le (b := 1) y (by omega))
    rw [hb, if_pos (by omega)] at h22
    exact h22
end DOES
