/-! the STATUS as it is read: its letters, both sides -/
def cdN (n : Nat) : Prop := n = 0 ∨ n = 1 ∨ 20 ≤ n ∧ n ≤ 26 ∨ n = 28 ∨ 30 ≤ n ∧ n ≤ 34 ∨ 60 ≤ n ∧ n ≤ 66 ∨ 70 ≤ n ∧ n ≤ 74
def wi (n : Nat) : Nat := match n with
  | 0 => 0
  | 1 => 1
  | 20 => 17
  | 21 => 17
  | 22 => 17
  | 23 => 17
  | 24 => 17
  | 25 => 2
  | 26 => 3
  | 28 => 4
  | 30 => 18
  | 31 => 18
  | 32 => 18
  | 33 => 18
  | 34 => 18
  | 60 => 5
  | 61 => 6
  | 62 => 7
  | 63 => 8
  | 64 => 9
  | 65 => 10
  | 66 => 11
  | 70 => 12
  | 71 => 13
  | 72 => 14
  | 73 => 15
  | 74 => 16
  | _ => 0
def wds (n : Nat) : List Int32 := tx (wi n)
theorem cd_cases {n : Nat} (h : cdN n) : n = 0 ∨ n = 1 ∨ n = 20 ∨ n = 21 ∨ n = 22 ∨ n = 23 ∨ n = 24 ∨ n = 25 ∨ n = 26 ∨ n = 28 ∨ n = 30 ∨ n = 31 ∨ n = 32 ∨ n = 33 ∨ n = 34 ∨ n = 60 ∨ n = 61 ∨ n = 62 ∨ n = 63 ∨ n = 64 ∨ n = 65 ∨ n = 66 ∨ n = 70 ∨ n = 71 ∨ n = 72 ∨ n = 73 ∨ n = 74 := by
  unfold cdN at h
  omega
theorem wi_lt {n : Nat} (h : cdN n) : wi n < 20 := by
  rcases cd_cases h with rfl | rfl | rfl | rfl | rfl | rfl | rfl | rfl | rfl | rfl | rfl | rfl | rfl | rfl | rfl | rfl | rfl | rfl | rfl | rfl | rfl | rfl | rfl | rfl | rfl | rfl | rfl <;> decide
theorem wds_l {n : Nat} (h : cdN n) : (wds n).length ≤ 18 := by
  rcases cd_cases h with rfl | rfl | rfl | rfl | rfl | rfl | rfl | rfl | rfl | rfl | rfl | rfl | rfl | rfl | rfl | rfl | rfl | rfl | rfl | rfl | rfl | rfl | rfl | rfl | rfl | rfl | rfl <;> decide
def two (v : Int32) : List Int32 := [48 + ((v / 10) - (v / 10) / 10 * 10), 48 + (v - v / 10 * 10)]
/-- the STATUS's letters -/
def spl (a t s : Int32) (w : List Int32) : List Int32 := two a ++ [44] ++ w ++ [44] ++ two t ++ [44] ++ two s ++ [13]
theorem spl_l {a t s : Int32} {w : List Int32} : (spl a t s w).length = w.length + 10 := by
  simp [spl, two]
/-- a row of letters of which so many stand -/
def rwL (F : Nat → Int32) (l : List Int32) : Prop := ∀ j, j < l.length → F j = l.getD j 0
theorem rwL_a {F : Nat → Int32} {l : List Int32} {v : Int32} (h : rwL F l) : rwL (upd F l.length v) (l ++ [v]) := by
  intro j hj
  rw [List.length_append, List.length_singleton] at hj
  by_cases z : j = l.length
  · subst z
    rw [pk_us, List.getD_eq_getElem?_getD, List.getElem?_append_right (Nat.le_refl _), Nat.sub_self]
    rfl
  · rw [pk_un z, h j (by omega), List.getD_eq_getElem?_getD, List.getD_eq_getElem?_getD, List.getElem?_append_left (by omega)]
def TB (S : rz_S) (l : List Int32) : Prop := S.2 3 5 = nI l.length ∧ rwL (S.1 4) l
def WB (S : rz_S) (l : List Int32) : Prop := S.2 116 70 = nI l.length ∧ rwL (S.1 153) l
def tbX (S S1 : rz_S) : Prop := (∀ q, q ≠ 4 → S1.1 q = S.1 q) ∧ ∀ u z, ¬ (u = 3 ∧ z = 5) → S1.2 u z = S.2 u z
def wbM (S S1 : rz_S) : Prop := (∀ q, q ≠ 153 → S1.1 q = S.1 q) ∧ ∀ u z, ¬ (u = 116 ∧ z = 70) → S1.2 u z = S.2 u z
theorem tbX_r (S : rz_S) : tbX S S := ⟨fun _ _ => rfl, fun _ _ _ => rfl⟩
theorem wbM_r (S : rz_S) : wbM S S := ⟨fun _ _ => rfl, fun _ _ _ => rfl⟩
theorem tbX_t {S S1 S2 : rz_S} (h : tbX S S1) (g : tbX S1 S2) : tbX S S2 := ⟨fun q a => (g.1 q a).trans (h.1 q a), fun u z a => (g.2 u z a).trans (h.2 u z a)⟩
theorem wbM_t {S S1 S2 : rz_S} (h : wbM S S1) (g : wbM S1 S2) : wbM S S2 := ⟨fun q a => (g.1 q a).trans (h.1 q a), fun u z a => (g.2 u z a).trans (h.2 u z a)⟩
section SPL
variable {S : rz_S} {l : List Int32}
theorem c_add (h : TB S l) (hl : l.length < 40) (v : Int32) : rz_ev mStatus_add [.ref 3, .int v] S (rz_v (fun S1 => TB S1 (l ++ [v]) ∧ tbX S S1)) := by
  show rz _ 0 [(0, .ref 3), (1, .int v)] [] _ _
  refine p_Status_add_0 ?_
  rw [h.1]
  refine ⟨fun c => ?_, fun _ => ⟨rin hl (by omega), ?_⟩⟩
  · have := (nI_leI (a := 40) (by omega) (by omega)).mp c
    omega
  rw [nI_clamp (by omega), nI_1]
  refine ⟨⟨?_, ?_⟩, ⟨fun q hq => rz_fA_n hq, fun u z hz => rz_uI_n hz⟩⟩
  · rw [List.length_append, List.length_singleton]
    exact rz_uI_s
  · show rwL ((rz_fA S 4 (upd (S.1 4) l.length v)).1 4) (l ++ [v])
    rw [rz_fA_s]
    exact rwL_a h.2
theorem c_two (h : TB S l) (hl : l.length < 38) (v : Int32) : rz_ev mStatus_addTwoDigits [.ref 3, .int v] S (rz_v (fun S1 => TB S1 (l ++ two v) ∧ tbX S S1)) := by
  show rz _ 0 [(0, .ref 3), (1, .int v)] [] _ _
  refine p_Status_addTwoDigits_0 (rz_useV (c_add h (by omega) _) (fun S1 q => rz_useV (c_add q.1 (by simp; omega) _) (fun S2 q2 => ⟨?_, tbX_t q.2 q2.2⟩)))
  have := q2.1
  rw [List.append_assoc] at this
  exact this
theorem d_says (h : WB S l) (hl : l.length < 40) (v : Int32) : rz_ev mM_says [.ref 116, .int v] S (rz_v (fun S1 => WB S1 (l ++ [v]) ∧ wbM S S1)) := by
  show rz _ 0 [(0, .ref 116), (1, .int v)] [] _ _
  refine p_M_says_0 ?_
  rw [h.1]
  refine ⟨rin hl (by omega), ?_⟩
  rw [nI_clamp (by omega), nI_1]
  refine ⟨⟨?_, ?_⟩, ⟨fun q hq => rz_fA_n hq, fun u z hz => rz_uI_n hz⟩⟩
  · rw [List.length_append, List.length_singleton]
    exact rz_uI_s
  · show rwL ((rz_fA S 153 (upd (S.1 153) l.length v)).1 153) (l ++ [v])
    rw [rz_fA_s]
    exact rwL_a h.2
theorem d_two (h : WB S l) (hl : l.length < 38) (v : Int32) : rz_ev mM_saysTwo [.ref 116, .int v] S (rz_v (fun S1 => WB S1 (l ++ two v) ∧ wbM S S1)) := by
  show rz _ 0 [(0, .ref 116), (1, .int v)] [] _ _
  refine p_M_saysTwo_0 (rz_useV (d_says h (by omega) _) (fun S1 q => rz_useV (d_says q.1 (by simp; omega) _) (fun S2 q2 => ⟨?_, wbM_t q.2 q2.2⟩)))
  have := q2.1
  rw [List.append_assoc] at this
  exact this
/-- the letters of a long -/
def lt8 (a : Int64) : Nat → List Int32
  | 0 => []
  | k + 1 => (if ((a >>> ((nI (8 * k)).toInt64 &&& 63)) &&& (255 : Int64)).toInt32 = 0 then [] else [((a >>> ((nI (8 * k)).toInt64 &&& 63)) &&& (255 : Int64)).toInt32]) ++ lt8 a k
theorem lt8_l (a : Int64) : ∀ k, (lt8 a k).length ≤ k := by
  intro k
  induction k with
  | zero => exact Nat.le_refl _
  | succ k ih =>
    unfold lt8
    rw [List.length_append]
    split
    · simp; omega
    · simp; omega
theorem lp_says8 {a : Int64} : ∀ (k : Nat) (S : rz_S) (l : List Int32), k ≤ 8 → WB S l → l.length + k ≤ 40 → rz mM_says8 3 [(0, .ref 116), (1, .long a), (3, .int (nI (8 * k) - 8))] [] S (rz_v (fun S1 => WB S1 (l ++ lt8 a k) ∧ wbM S S1)) := by
  intro k
  induction k with
  | zero =>
    intro S l _ h _
    refine p_M_says8_3 ⟨fun _ => ⟨by rw [lt8, List.append_nil]; exact h, wbM_r S⟩, fun c => absurd (by decide) c⟩
  | succ k ih =>
    intro S l hk h hl
    have e : nI (8 * (k + 1)) - 8 = nI (8 * k) := by
      rw [show 8 * (k + 1) = 8 * k + 8 by omega]
      exact (pk_sub (b := 8) (by omega)).trans (by congr 1)
    rw [e]
    refine p_M_says8_3 ⟨fun c => absurd c (nI_pos (by omega)), fun _ => ⟨fun c => ?_, fun c => rz_useV (d_says h (by omega) _) (fun S1 q => ?_)⟩⟩
    · rw [lt8, if_pos c, List.nil_append, ← Int32.sub_eq_add_neg]
      exact ih S l (by omega) h (by omega)
    · rw [lt8, if_neg c, ← Int32.sub_eq_add_neg]
      refine rz_weak (ih S1 _ (by omega) q.1 (by simp; omega)) (fun r S2 z => ⟨z.1, ?_, wbM_t q.2 z.2.2⟩)
      rw [← List.append_assoc]
      exact z.2.1
theorem d_says8 (a : Int64) (h : WB S l) (hl : l.length ≤ 32) : rz_ev mM_says8 [.ref 116, .long a] S (rz_v (fun S1 => WB S1 (l ++ lt8 a 8) ∧ wbM S S1)) := by
  show rz _ 0 [(0, .ref 116), (1, .long a)] [] _ _
  refine p_M_says8_0 ?_
  exact lp_says8 8 S l (by omega) h (by omega)
end SPL
