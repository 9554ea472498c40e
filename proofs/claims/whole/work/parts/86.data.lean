/-! the DATA of a block -/
def xs (r : Nat → Nat) : Nat → Nat
  | 0 => 0
  | n + 1 => xs r n ^^^ r n
theorem xs_lt {r : Nat → Nat} : ∀ n, (∀ j, j < n → r j < 256) → xs r n < 256 := by
  intro n
  induction n with
  | zero => intro _; exact (by decide : (0 : Nat) < 256)
  | succ n ih => intro h; exact xor_256 (ih (fun j hj => h j (by omega))) (h n (by omega))
def dpl (r : Nat → Nat) : Nat → Nat
  | 0 => 7
  | k + 1 => if k < 64 then r k else if k = 64 then xs r 64 else 0
theorem dpl_lt {r : Nat → Nat} (h : ∀ j, j < 64 → r j < 256) : ∀ k, dpl r k < 256 := by
  intro k
  cases k with
  | zero => exact (by decide : (7 : Nat) < 256)
  | succ k =>
    show (if k < 64 then r k else if k = 64 then xs r 64 else 0) < 256
    by_cases c : k < 64
    · rw [if_pos c]; exact h k c
    · rw [if_neg c]
      by_cases c2 : k = 64
      · rw [if_pos c2]; exact xs_lt 64 h
      · rw [if_neg c2]; omega
/-- the row of 68 bytes -/
theorem dpl_row {r : Nat → Nat} {f : Nat → Int32} (h0 : f 0 = 7) (h : ∀ k, k < 64 → f (k + 1) = nI (r k)) : ∀ j, j < 68 → upd (upd (upd f 65 (nI (xs r 64))) 66 0) 67 0 j = nI (dpl r j) := by
  intro j hj
  by_cases c67 : j = 67
  · subst c67; rfl
  rw [pk_un c67]
  by_cases c66 : j = 66
  · subst c66; rfl
  rw [pk_un c66]
  by_cases c65 : j = 65
  · subst c65
    rw [pk_us]
    rfl
  rw [pk_un c65]
  cases j with
  | zero => exact h0
  | succ j =>
    rw [h j (by omega)]
    show nI (r j) = nI (if j < 64 then r j else if j = 64 then xs r 64 else 0)
    rw [if_pos (by omega)]
def dataP (r : Nat → Nat) (S S1 : rz_S) : Prop := ∃ f g, S1 = rz_fA (rz_fA S 10 f) 11 g ∧ ∀ j, j < 85 → g j = by8 (gb (dpl r)) (8 * j)
theorem codeEnd {S : rz_S} {r : Nat → Nat} {f : Nat → Int32} (hr : ∀ k, k < 64 → r k < 256) (h0 : f 0 = 7) (h : ∀ k, k < 64 → f (k + 1) = nI (r k)) : rz_ev mDisk_encode [.ref 10, .ref 11] (rz_fA S 10 (upd (upd (upd f 65 (nI (xs r 64))) 66 0) 67 0)) (rz_v (dataP r S)) := by
  refine rz_useV (c_Disk_encode (a0 := 10) (a1 := 11) (n := 68) (m := 85) (pl := dpl r) rfl rfl (by omega) (by omega) (by omega) (fun j hj => ⟨?_, dpl_lt hr j⟩)) (fun S1 q => ?_)
  · rw [rz_fA_s]
    exact dpl_row h0 h j hj
  · obtain ⟨g, rfl, hg⟩ := q
    exact ⟨_, g, rfl, hg⟩
theorem lp_codeData {S : rz_S} {a : Nat} {r : Nat → Nat} (ha : rz_T[a]? = some (.inl (0, 64))) (ha1 : a ≠ 10) (hr : ∀ k, k < 64 → S.1 a k = nI (r k) ∧ r k < 256) : ∀ (w i : Nat) (f : Nat → Int32), 64 < w + i → i ≤ 64 → f 0 = 7 → (∀ k, k < i → f (k + 1) = nI (r k)) → rz mDisk_codeData 12 [(0, .ref 6), (1, .ref a), (2, .int (nI (xs r i))), (3, .int (nI i))] [] (rz_fA S 10 f) (rz_v (dataP r S)) := by
  intro w
  induction w with
  | zero => intro i f c1 c2; omega
  | succ w ih =>
    intro i f c1 c2 h0 hf
    refine p_Disk_codeData_12 ha ⟨fun c => ?_, fun c => ⟨fun d => ?_, fun d => ⟨?_, ?_⟩⟩⟩
    · have : 64 ≤ i := (nI_leI (a := 64) (by omega) (by omega)).mp c
      have e : i = 64 := by omega
      subst e
      rw [rz_fAA, rz_fAA, rz_fAA, rz_fA_s]
      exact codeEnd (fun k hk => (hr k hk).2) h0 hf
    · have : ¬ 64 ≤ i := fun z => c (nI_le (a := 64) z (by omega))
      have : 64 ≤ i := (nI_leI (a := 64) (by omega) (by omega)).mp d
      omega
    · have : ¬ 64 ≤ i := fun z => c (nI_le (a := 64) z (by omega))
      exact rin (by omega) (by omega)
    · have hi : ¬ 64 ≤ i := fun z => c (nI_le (a := 64) z (by omega))
      rw [nI_1, nI_clamp (by omega), rz_fA_n ha1, (hr i (by omega)).1]
      refine p_Disk_codeData_42 ha ⟨rin (by omega) (by omega), ?_, ?_⟩
      · rw [nI_1]; exact rin (by omega) (by omega)
      · rw [nI_1, nI_clamp (by omega), rz_fA_s, rz_fAA, pk_us, nx_xor]
        refine ih (i + 1) _ (by omega) (by omega) (by rw [pk_un (by omega)]; exact h0) (fun k hk => ?_)
        by_cases e : k = i
        · subst e; exact pk_us
        · rw [pk_un (by omega)]; exact hf k (by omega)
theorem c_Disk_codeData {S : rz_S} {a : Nat} {r : Nat → Nat} (ha : rz_T[a]? = some (.inl (0, 64))) (ha1 : a ≠ 10) (hr : ∀ k, k < 64 → S.1 a k = nI (r k) ∧ r k < 256) : rz_ev mDisk_codeData [.ref 6, .ref a] S (rz_v (dataP r S)) := by
  show rz _ 0 [(0, .ref 6), (1, .ref a)] [] _ _
  exact p_Disk_codeData_0 ha (lp_codeData ha ha1 hr 65 0 _ (by omega) (by omega) pk_us (fun k hk => by omega))
theorem lp_codeDataN {S : rz_S} : ∀ (w i : Nat) (f : Nat → Int32), 64 < w + i → i ≤ 64 → f 0 = 7 → (∀ k, k < i → f (k + 1) = nI 0) → rz mDisk_codeData 12 [(0, .ref 6), (1, .null), (2, .int (nI (xs (fun _ => 0) i))), (3, .int (nI i))] [] (rz_fA S 10 f) (rz_v (dataP (fun _ => 0) S)) := by
  intro w
  induction w with
  | zero => intro i f c1 c2; omega
  | succ w ih =>
    intro i f c1 c2 h0 hf
    refine p_Disk_codeData_12n ⟨fun c => ?_, fun c => ?_⟩
    · have : 64 ≤ i := (nI_leI (a := 64) (by omega) (by omega)).mp c
      have e : i = 64 := by omega
      subst e
      rw [rz_fAA, rz_fAA, rz_fAA, rz_fA_s]
      exact codeEnd (fun k hk => by omega) h0 hf
    · have hi : ¬ 64 ≤ i := fun z => c (nI_le (a := 64) z (by omega))
      refine p_Disk_codeData_41n (p_Disk_codeData_42n ?_)
      rw [nI_1, nI_clamp (by omega), rz_fA_s, rz_fAA, pk_us]
      refine ⟨rin (by omega) (by omega), ?_⟩
      have e : nI (xs (fun _ => 0) i) ^^^ 0 = nI (xs (fun _ => 0) (i + 1)) := nx_xor _ 0
      have := ih (i + 1) (upd f (i + 1) 0) (by omega) (by omega) (by rw [pk_un (by omega)]; exact h0) (fun k hk => by
        by_cases e : k = i
        · subst e; exact pk_us
        · rw [pk_un (by omega)]; exact hf k (by omega))
      rw [← e] at this
      exact ⟨rin (by omega) (by omega), this⟩
theorem c_Disk_codeDataN {S : rz_S} : rz_ev mDisk_codeData [.ref 6, .null] S (rz_v (dataP (fun _ => 0) S)) := by
  show rz _ 0 [(0, .ref 6), (1, .null)] [] _ _
  exact p_Disk_codeData_0n (lp_codeDataN 65 0 _ (by omega) (by omega) pk_us (fun k hk => by omega))
/-! the reference -/
def dataM (r : Nat → Nat) (S S1 : rz_S) : Prop := ∃ f g, S1 = rz_fA (rz_fA S 119 f) 120 g ∧ ∀ j, j < 85 → g j = by8 (gb (dpl r)) (8 * j)
theorem lp_M_data {S : rz_S} {a at0 na : Nat} {r : Nat → Nat} (ha : rz_T[a]? = some (.inl (0, na))) (ha1 : a ≠ 119) (hat : at0 + 64 ≤ na) (hna : na ≤ 1000) (hr : ∀ k, k < 64 → S.1 a (at0 + k) = nI (r k) ∧ r k < 256) : ∀ (w i : Nat) (f : Nat → Int32), 64 < w + i → i ≤ 64 → f 0 = 7 → (∀ k, k < i → f (k + 1) = nI (r k)) → rz mM_data 13 [(0, .ref 116), (1, .ref a), (2, .int (nI at0)), (3, .int (nI (xs r i))), (4, .int (nI i))] [] (rz_fA S 119 f) (rz_v (dataM r S)) := by
  intro w
  induction w with
  | zero => intro i f c1 c2; omega
  | succ w ih =>
    intro i f c1 c2 h0 hf
    refine p_M_data_13 ha ⟨fun c => ?_, fun c => ?_⟩
    · have : 64 ≤ i := (nI_leI (a := 64) (by omega) (by omega)).mp c
      have e : i = 64 := by omega
      subst e
      rw [rz_fAA, rz_fAA, rz_fAA, rz_fA_s]
      refine rz_useV (c_M_codes (n := 68) (pl := dpl r) (by omega) (fun j hj => ⟨?_, dpl_lt (fun k hk => (hr k hk).2) j⟩)) (fun S1 q => ?_)
      · rw [rz_fA_s]
        exact dpl_row h0 hf j hj
      · obtain ⟨g, rfl, hg⟩ := q
        exact ⟨_, g, rfl, hg⟩
    · have hi : ¬ 64 ≤ i := fun z => c (nI_le (a := 64) z (by omega))
      rw [nI_add, show (1 : Int32) + nI i = nI (1 + i) from nI_add 1 i, nI_1, nI_clamp (by omega), nI_clamp (by omega), rz_fA_s, rz_fAA, rz_fA_n ha1, rz_fA_n ha1, (hr i (by omega)).1, nx_xor]
      refine ⟨rin (by omega) (by omega), rin (by omega) (by omega), ?_⟩
      refine ih (i + 1) _ (by omega) (by omega) (by rw [pk_un (by omega)]; exact h0) (fun k hk => ?_)
      by_cases e : k = i
      · subst e
        rw [show k + 1 = 1 + k by omega]
        exact pk_us
      · rw [pk_un (by omega)]; exact hf k (by omega)
theorem c_M_data {S : rz_S} {a at0 na : Nat} {r : Nat → Nat} (ha : rz_T[a]? = some (.inl (0, na))) (ha1 : a ≠ 119) (hat : at0 + 64 ≤ na) (hna : na ≤ 1000) (hr : ∀ k, k < 64 → S.1 a (at0 + k) = nI (r k) ∧ r k < 256) : rz_ev mM_data [.ref 116, .ref a, .int (nI at0)] S (rz_v (dataM r S)) := by
  show rz _ 0 [(0, .ref 116), (1, .ref a), (2, .int (nI at0))] [] _ _
  exact p_M_data_0 ha (lp_M_data ha ha1 hat hna hr 65 0 _ (by omega) (by omega) pk_us (fun k hk => by omega))
