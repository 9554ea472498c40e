/-! feed: the pair -/
theorem bp_b (x : Int32) : x.toInt8.toInt32 &&& 255 = x &&& 255 := by
  apply Int32.toBitVec_inj.mp
  rw [Int32.toBitVec_and, Int32.toBitVec_and, Int8.toBitVec_toInt32, Int32.toBitVec_toInt8]
  apply BitVec.eq_of_getLsbD_eq
  intro i hi
  rw [BitVec.getLsbD_and, BitVec.getLsbD_and]
  have hm : ∀ i < 32, 8 ≤ i → (255 : Int32).toBitVec.getLsbD i = false := by decide
  rcases Nat.lt_or_ge i 8 with z | z
  · rw [BitVec.getLsbD_signExtend, BitVec.getLsbD_signExtend, if_pos z, if_pos hi]
    simp only [z, hi, decide_true, Bool.true_and]
  · rw [hm i hi z]; simp
/-- the TAPE -/
def R_tape (S : rz_S) : Prop := ∃ n : Nat, n ≤ 400 ∧ sTape_count S = nI n ∧ sM_taped S = nI n ∧ ∀ j, j < n → aTape_row S j = aM_tape S j &&& 255
def feedX (S : rz_S) (n : Nat) (a b c d e : Int32) : rz_S := tape4 (tape4 (tape4 (tape4 (tape4 S n a) (n + 4) b) (n + 8) c) (n + 12) d) (n + 16) e
def feedM (S : rz_S) (n : Nat) (a b c d e : Int32) : rz_S := types4 (types4 (types4 (types4 (types4 S n a) (n + 4) b) (n + 8) c) (n + 12) d) (n + 16) e
theorem fd_upd4 {f : Nat → Int32} {m j : Nat} {p q r s : Int32} : upd (upd (upd (upd f m p) (m + 1) q) (m + 2) r) (m + 3) s j = if j = m + 3 then s else if j = m + 2 then r else if j = m + 1 then q else if j = m then p else f j := rfl
theorem fd_nar (x : Int32) : vp_nar .byte x.toInt8.toInt32 &&& 255 = x &&& 255 := by rw [pk_vb]; exact bp_b x
/-- one step keeps the rows alike -/
theorem fd_step {f g : Nat → Int32} {m : Nat} (h : ∀ j, j < m → f j = g j &&& 255) (v : Int32) : ∀ j, j < m + 4 →
    upd (upd (upd (upd f m ((v >>> ((24 : Int32) &&& 31)) &&& 255)) (m + 1) ((v >>> ((16 : Int32) &&& 31)) &&& 255)) (m + 2) ((v >>> ((8 : Int32) &&& 31)) &&& 255)) (m + 3) ((v >>> ((0 : Int32) &&& 31)) &&& 255) j =
    upd (upd (upd (upd g m (vp_nar .byte (v >>> ((24 : Int32) &&& 31)).toInt8.toInt32)) (m + 1) (vp_nar .byte (v >>> ((16 : Int32) &&& 31)).toInt8.toInt32)) (m + 2) (vp_nar .byte (v >>> ((8 : Int32) &&& 31)).toInt8.toInt32)) (m + 3) (vp_nar .byte (v >>> ((0 : Int32) &&& 31)).toInt8.toInt32) j &&& 255 := by
  intro j hj
  rw [fd_upd4, fd_upd4]
  by_cases h3 : j = m + 3
  · rw [if_pos h3, if_pos h3, fd_nar]
  rw [if_neg h3, if_neg h3]
  by_cases h2 : j = m + 2
  · rw [if_pos h2, if_pos h2, fd_nar]
  rw [if_neg h2, if_neg h2]
  by_cases h1 : j = m + 1
  · rw [if_pos h1, if_pos h1, fd_nar]
  rw [if_neg h1, if_neg h1]
  by_cases h0 : j = m
  · rw [if_pos h0, if_pos h0, fd_nar]
  rw [if_neg h0, if_neg h0]
  exact h j (by omega)
theorem fd_tape {S : rz_S} {n : Nat} (hn : n + 20 ≤ 400) (h : ∀ j, j < n → aTape_row S j = aM_tape S j &&& 255) (a b c d e : Int32) : R_tape (feedM (feedX S n a b c d e) n a b c d e) :=
  ⟨n + 20, hn, rfl, rfl, fd_step (fd_step (fd_step (fd_step (fd_step h a) b) c) d) e⟩
theorem rd_feed {S : rz_S} {P : rz_S → Prop} (hR : R_tape S) (hP0 : P S) (hP : ∀ n a b c d e, n + 20 ≤ 400 → R_tape (feedM (feedX S n a b c d e) n a b c d e) → P (feedM (feedX S n a b c d e) n a b c d e)) (a b c d e : Int32) : rd_two mX_feed mM_feed [.int a, .int b, .int c, .int d, .int e] S P := by
  obtain ⟨n, hn, e1, e2, h⟩ := hR
  refine rz_weak (c_X_feed hn e1 a b c d e) (fun r S1 q => ?_)
  obtain ⟨x, rfl, ⟨h1, rfl, rfl⟩ | ⟨h1, rfl, rfl⟩⟩ := q
  · refine ⟨_, rfl, rz_weak (c_M_feed hn e2 a b c d e) (fun r S2 q => ?_)⟩
    obtain ⟨y, rfl, ⟨h2, rfl, rfl⟩ | ⟨h2, rfl, rfl⟩⟩ := q
    · exact ⟨_, rfl, rfl, hP0⟩
    · omega
  · refine ⟨_, rfl, rz_weak (c_M_feed (S := feedX S n a b c d e) hn e2 a b c d e) (fun r S2 q => ?_)⟩
    obtain ⟨y, rfl, ⟨h2, rfl, rfl⟩ | ⟨h2, rfl, rfl⟩⟩ := q
    · omega
    · exact ⟨_, rfl, rfl, hP n a b c d e h1 (fd_tape h1 h a b c d e)⟩
