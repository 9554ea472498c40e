/-! a LIST's lines: what both write -/
def LB (c : Nat) (S : rz_S) (l : List Int32) : Prop := S.2 (48 + 4 * c) 3 = nI l.length ∧ rwL (S.1 (49 + 4 * c)) l
def lnX (c : Nat) (S S1 : rz_S) : Prop := (∀ q, q ≠ 49 + 4 * c → S1.1 q = S.1 q) ∧ ∀ u z, ¬ (u = 48 + 4 * c ∧ z = 3) → S1.2 u z = S.2 u z
theorem lnX_r (c : Nat) (S : rz_S) : lnX c S S := ⟨fun _ _ => rfl, fun _ _ _ => rfl⟩
theorem lnX_t {c : Nat} {S S1 S2 : rz_S} (h : lnX c S S1) (g : lnX c S1 S2) : lnX c S S2 := ⟨fun q a => (g.1 q a).trans (h.1 q a), fun u z a => (g.2 u z a).trans (h.2 u z a)⟩
theorem lb_c {c : Nat} {S : rz_S} {l l' : List Int32} (h : LB c S l) (e : l = l') : LB c S l' := e ▸ h
section LINE
variable {S : rz_S} {l : List Int32} {c : Nat}
theorem c_ladd (hc : c < 15) (h : LB c S l) (hl : l.length < 64) (v : Int32) : rz_ev mChannel_add [.ref (48 + 4 * c), .int v] S (rz_v (fun S1 => LB c S1 (l ++ [v]) ∧ lnX c S S1)) := by
  have hch : chP (48 + 4 * c) := ⟨by omega, by omega, by omega⟩
  have e49 : 48 + 4 * c + 1 = 49 + 4 * c := by omega
  show rz _ 0 [(0, .ref (48 + 4 * c)), (1, .int v)] [] _ _
  refine p_Channel_add_0 hch ?_
  rw [h.1, e49]
  refine ⟨fun d => ?_, fun _ => ⟨rin hl (by omega), ?_⟩⟩
  · have := (nI_leI (a := 64) (by omega) (by omega)).mp d
    omega
  rw [nI_clamp (by omega), nI_1]
  refine ⟨⟨?_, ?_⟩, ⟨fun q hq => rz_fA_n hq, fun u z hz => rz_uI_n hz⟩⟩
  · rw [List.length_append, List.length_singleton]
    exact rz_uI_s
  · show rwL ((rz_fA S (49 + 4 * c) (upd (S.1 (49 + 4 * c)) l.length v)).1 (49 + 4 * c)) (l ++ [v])
    rw [rz_fA_s]
    exact rwL_a h.2
/-- a number's digits -/
def dgs (v : Nat) : Nat → List Int32
  | 0 => [nI (48 + v % 10)]
  | j + 1 => nI (48 + v / 10 ^ (j + 1) % 10) :: dgs v j
theorem dgs_l (v : Nat) : ∀ j, (dgs v j).length = j + 1
  | 0 => rfl
  | j + 1 => by rw [dgs, List.length_cons, dgs_l v j]
def dgj (v : Nat) : Nat := if v < 10 then 0 else if v < 100 then 1 else if v < 1000 then 2 else 3
theorem n10 (j : Nat) (hj : j ≤ 8) : 0 < 10 ^ j ∧ 10 ^ j ≤ 100000000 := by
  have : j = 0 ∨ j = 1 ∨ j = 2 ∨ j = 3 ∨ j = 4 ∨ j = 5 ∨ j = 6 ∨ j = 7 ∨ j = 8 := by omega
  rcases this with rfl | rfl | rfl | rfl | rfl | rfl | rfl | rfl | rfl <;> exact ⟨by decide, by decide⟩
theorem lp_num31 (hc : c < 15) {v : Nat} (hv : v < 10000) {K : rz_S → Prop} : ∀ (j i : Nat) (S : rz_S) (l : List Int32), i + j < 9 → LB c S l → l.length + j < 64 → (∀ S1, LB c S1 (l ++ dgs v j) → lnX c S S1 → K S1) → rz mChannel_addNumber 31 [(0, .ref (48 + 4 * c)), (1, .int (nI v)), (2, .int (nI (10 ^ j))), (3, .int (nI i))] [] S (rz_v K) := by
  have hch : chP (48 + 4 * c) := ⟨by omega, by omega, by omega⟩
  intro j
  induction j with
  | zero =>
    intro i S l hi h hl hK
    refine p_Channel_addNumber_31 hch ⟨fun d => ?_, fun _ => ⟨fun d => absurd d (by decide), fun _ => ⟨by decide, rz_useV (c_ladd hc h (by omega) _) (fun S1 q => p_Channel_addNumber_31 hch ⟨fun _ => ?_, fun _ => ⟨fun _ => ?_, fun d => absurd (by decide) d⟩⟩)⟩⟩⟩
    · have := (nI_leI (a := 9) (by omega) (by omega)).mp d
      omega
    all_goals
      refine hK S1 (lb_c q.1 ?_) q.2
      rw [show nI v / nI (10 ^ 0) = nI (v / 10 ^ 0) from pk_div (by omega) (by decide) (by decide), show nI (v / 10 ^ 0) - nI (v / 10 ^ 0) / 10 * 10 = nI (v / 10 ^ 0 % 10) from pk_rem (d := 10) (by have := Nat.div_le_self v (10 ^ 0); omega) (by omega) (by omega), show (48 : Int32) + nI (v / 10 ^ 0 % 10) = nI (48 + v / 10 ^ 0 % 10) from nI_add 48 _, Nat.pow_zero, Nat.div_one]
      rfl
  | succ j ih =>
    intro i S l hi h hl hK
    have hp := n10 (j + 1) (by omega)
    have hp0 := n10 j (by omega)
    have e10 : (10 : Nat) ^ (j + 1) / 10 = 10 ^ j := by rw [Nat.pow_succ, Nat.mul_div_cancel _ (by omega)]
    refine p_Channel_addNumber_31 hch ⟨fun d => ?_, fun _ => ⟨fun d => ?_, fun _ => ⟨nI_ne0 hp.1 (by omega), rz_useV (c_ladd hc h (by omega) _) (fun S1 q => ?_)⟩⟩⟩
    · have := (nI_leI (a := 9) (by omega) (by omega)).mp d
      omega
    · have := (nI_leI (b := 0) (by omega) (by omega)).mp d
      omega
    rw [show nI (10 ^ (j + 1)) / 10 = nI (10 ^ (j + 1) / 10) from pk_div (d := 10) (by omega) (by omega) (by omega), e10, nI_1]
    have q1 := q.1
    rw [show nI v / nI (10 ^ (j + 1)) = nI (v / 10 ^ (j + 1)) from pk_div (by omega) hp.1 (by omega), show nI (v / 10 ^ (j + 1)) - nI (v / 10 ^ (j + 1)) / 10 * 10 = nI (v / 10 ^ (j + 1) % 10) from pk_rem (d := 10) (by have := Nat.div_le_self v (10 ^ (j + 1)); omega) (by omega) (by omega), show (48 : Int32) + nI (v / 10 ^ (j + 1) % 10) = nI (48 + v / 10 ^ (j + 1) % 10) from nI_add 48 _] at q1
    refine ih (i + 1) S1 _ (by omega) q1 (by simp; omega) (fun S2 h2 f2 => hK S2 (lb_c h2 ?_) (lnX_t q.2 f2))
    rw [List.append_assoc]
    rfl
theorem c_addNumber (hc : c < 15) {v : Nat} (hv : v < 10000) (h : LB c S l) (hl : l.length < 60) : rz_ev mChannel_addNumber [.ref (48 + 4 * c), .int (nI v)] S (rz_v (fun S1 => LB c S1 (l ++ dgs v (dgj v)) ∧ lnX c S S1)) := by
  have hch : chP (48 + 4 * c) := ⟨by omega, by omega, by omega⟩
  have stop : ∀ j, j ≤ 3 → j = dgj v → rz mChannel_addNumber 31 [(0, .ref (48 + 4 * c)), (1, .int (nI v)), (2, .int (nI (10 ^ j))), (3, .int 0)] [] S (rz_v (fun S1 => LB c S1 (l ++ dgs v (dgj v)) ∧ lnX c S S1)) := fun j hj e => by
    subst e
    exact lp_num31 hc hv (dgj v) 0 S l (by omega) h (by omega) (fun S1 a b => ⟨a, b⟩)
  have step : ∀ j, j ≤ 3 → (v / 10 ^ j < 10 → rz mChannel_addNumber 31 [(0, .ref (48 + 4 * c)), (1, .int (nI v)), (2, .int (nI (10 ^ j))), (3, .int 0)] [] S (rz_v (fun S1 => LB c S1 (l ++ dgs v (dgj v)) ∧ lnX c S S1))) → (¬ v / 10 ^ j < 10 → rz mChannel_addNumber 4 [(0, .ref (48 + 4 * c)), (1, .int (nI v)), (2, .int (nI (10 ^ (j + 1)))), (3, .int (nI (j + 1)))] [] S (rz_v (fun S1 => LB c S1 (l ++ dgs v (dgj v)) ∧ lnX c S S1))) → rz mChannel_addNumber 4 [(0, .ref (48 + 4 * c)), (1, .int (nI v)), (2, .int (nI (10 ^ j))), (3, .int (nI j))] [] S (rz_v (fun S1 => LB c S1 (l ++ dgs v (dgj v)) ∧ lnX c S S1)) := fun j hj hA hB => by
    have hp := n10 j (by omega)
    have hd := Nat.div_le_self v (10 ^ j)
    refine p_Channel_addNumber_4 hch ⟨fun d => ?_, fun _ => ⟨nI_ne0 hp.1 (by omega), ?_⟩⟩
    · have := (nI_leI (a := 8) (by omega) (by omega)).mp d
      omega
    rw [show nI v / nI (10 ^ j) = nI (v / 10 ^ j) from pk_div (by omega) hp.1 (by omega), show nI (10 ^ j) * 10 = nI (10 ^ j * 10) from pk_mul _ 10, nI_1]
    exact ⟨fun d => hA ((nI_ltI (b := 10) (by omega) (by omega)).mp d), fun d => hB (fun z => d (nI_lt (b := 10) z (by omega)))⟩
  show rz _ 0 [(0, .ref (48 + 4 * c)), (1, .int (nI v))] [] _ _
  refine p_Channel_addNumber_0 hch ?_
  have e0 : v / 10 ^ 0 = v := by rw [Nat.pow_zero, Nat.div_one]
  have e1 : v / 10 ^ 1 = v / 10 := rfl
  have e2 : v / 10 ^ 2 = v / 100 := rfl
  have e3 : v / 10 ^ 3 = v / 1000 := rfl
  refine step 0 (by omega) (fun d => stop 0 (by omega) ?_) (fun d0 => step 1 (by omega) (fun d => stop 1 (by omega) ?_) (fun d1 => step 2 (by omega) (fun d => stop 2 (by omega) ?_) (fun d2 => step 3 (by omega) (fun d => stop 3 (by omega) ?_) (fun d3 => ?_))))
  · rw [e0] at d
    rw [dgj, if_pos d]
  · rw [e0] at d0
    rw [e1] at d
    rw [dgj, if_neg (by omega), if_pos (by omega)]
  · rw [e1] at d1
    rw [e2] at d
    rw [dgj, if_neg (by omega), if_neg (by omega), if_pos (by omega)]
  · rw [e2] at d2
    rw [e3] at d
    rw [dgj, if_neg (by omega), if_neg (by omega), if_neg (by omega)]
  · rw [e3] at d3
    omega
/-- any number, where nobody asks what it reads -/
theorem lp_any31 (hc : c < 15) {v : Int32} {K : rz_S → Prop} : ∀ (j i : Nat) (p : Int32) (S : rz_S) (l : List Int32), i + j = 9 → (∃ m : Nat, m < 2 ^ 30 ∧ p = nI m) → LB c S l → l.length + j ≤ 64 → (∀ S1 l', LB c S1 l' → l'.length ≤ l.length + j → lnX c S S1 → K S1) → rz mChannel_addNumber 31 [(0, .ref (48 + 4 * c)), (1, .int v), (2, .int p), (3, .int (nI i))] [] S (rz_v K) := by
  have hch : chP (48 + 4 * c) := ⟨by omega, by omega, by omega⟩
  intro j
  induction j with
  | zero =>
    intro i p S l hi hp h hl hK
    have e9 : i = 9 := by omega
    subst e9
    exact p_Channel_addNumber_31 hch ⟨fun _ => hK S l h (by omega) (lnX_r _ _), fun d => absurd (by decide) d⟩
  | succ j ih =>
    intro i p S l hi hp h hl hK
    obtain ⟨m, hm, rfl⟩ := hp
    refine p_Channel_addNumber_31 hch ⟨fun _ => hK S l h (by omega) (lnX_r _ _), fun _ => ⟨fun _ => hK S l h (by omega) (lnX_r _ _), fun d => ⟨fun z => d (by rw [z]; decide), rz_useV (c_ladd hc h (by omega) _) (fun S1 q => ?_)⟩⟩⟩
    rw [nI_1]
    refine ih (i + 1) _ S1 _ (by omega) ⟨m / 10, by omega, pk_div (d := 10) (by omega) (by omega) (by omega)⟩ q.1 (by simp; omega) (fun S2 l' a b f => hK S2 l' a (by simp at b; omega) (lnX_t q.2 f))
theorem lp_any4 (hc : c < 15) {v : Int32} {K : rz_S → Prop} (h : LB c S l) (hl : l.length + 9 ≤ 64) (hK : ∀ S1 l', LB c S1 l' → l'.length ≤ l.length + 9 → lnX c S S1 → K S1) : ∀ (w j : Nat), w + j = 8 → rz mChannel_addNumber 4 [(0, .ref (48 + 4 * c)), (1, .int v), (2, .int (nI (10 ^ j))), (3, .int (nI j))] [] S (rz_v K) := by
  have hch : chP (48 + 4 * c) := ⟨by omega, by omega, by omega⟩
  have go : ∀ j, j ≤ 8 → rz mChannel_addNumber 31 [(0, .ref (48 + 4 * c)), (1, .int v), (2, .int (nI (10 ^ j))), (3, .int 0)] [] S (rz_v K) := fun j hj => lp_any31 hc 9 0 _ S l (by omega) ⟨10 ^ j, by have := (n10 j hj).2; omega, rfl⟩ h hl hK
  intro w
  induction w with
  | zero =>
    intro j hj
    have e8 : j = 8 := by omega
    subst e8
    exact p_Channel_addNumber_4 hch ⟨fun _ => go 8 (by omega), fun d => absurd (by decide) d⟩
  | succ w ih =>
    intro j hj
    have hp := n10 j (by omega)
    refine p_Channel_addNumber_4 hch ⟨fun _ => go j (by omega), fun _ => ⟨nI_ne0 hp.1 (by omega), fun _ => go j (by omega), fun _ => ?_⟩⟩
    rw [show nI (10 ^ j) * 10 = nI (10 ^ j * 10) from pk_mul _ 10, nI_1]
    exact ih (j + 1) (by omega)
theorem c_addAny (hc : c < 15) {v : Int32} (h : LB c S l) (hl : l.length + 9 ≤ 64) : rz_ev mChannel_addNumber [.ref (48 + 4 * c), .int v] S (rz_v (fun S1 => ∃ l', LB c S1 l' ∧ l'.length ≤ l.length + 9 ∧ lnX c S S1)) := by
  have hch : chP (48 + 4 * c) := ⟨by omega, by omega, by omega⟩
  show rz _ 0 [(0, .ref (48 + 4 * c)), (1, .int v)] [] _ _
  exact p_Channel_addNumber_0 hch (lp_any4 hc h hl (fun S1 l' a b f => ⟨l', a, b, f⟩) 8 0 (by omega))
/-- the reference's number -/
theorem d_number {v : Nat} (hv : v < 10000) (h : WB S l) (hl : l.length < 36) : rz_ev mM_saysNumber [.ref 116, .int (nI v)] S (rz_v (fun S1 => WB S1 (l ++ dgs v (dgj v)) ∧ wbM S S1)) := by
  show rz _ 0 [(0, .ref 116), (1, .int (nI v))] [] _ _
  have k0 : ∀ (S1 : rz_S) (l1 : List Int32), WB S1 l1 → l1.length < 40 → l1 ++ dgs v 0 = l ++ dgs v (dgj v) → wbM S S1 → rz mM_saysNumber 59 [(0, .ref 116), (1, .int (nI v))] [] S1 (rz_v (fun S1 => WB S1 (l ++ dgs v (dgj v)) ∧ wbM S S1)) := fun S1 l1 a b e f => by
    refine p_M_saysNumber_59 (rz_useV (d_says a b _) (fun S2 q => ⟨wb_c q.1 ?_, wbM_t f q.2⟩))
    rw [← e, show nI v - nI v / 10 * 10 = nI (v % 10) from pk_rem (d := 10) (by omega) (by omega) (by omega), show (48 : Int32) + nI (v % 10) = nI (48 + v % 10) from nI_add 48 _]
    rfl
  have k1 : ∀ (S1 : rz_S) (l1 : List Int32), WB S1 l1 → l1.length < 39 → 10 ≤ v → l1 ++ dgs v 1 = l ++ dgs v (dgj v) → wbM S S1 → rz mM_saysNumber 39 [(0, .ref 116), (1, .int (nI v))] [] S1 (rz_v (fun S1 => WB S1 (l ++ dgs v (dgj v)) ∧ wbM S S1)) := fun S1 l1 a b h10 e f => by
    refine p_M_saysNumber_39 ⟨fun d => ?_, fun _ => rz_useV (d_says a (by omega) _) (fun S2 q => k0 S2 _ q.1 (by simp; omega) ?_ (wbM_t f q.2))⟩
    · have := (nI_ltI (b := 10) (by omega) (by omega)).mp d
      omega
    · rw [← e, List.append_assoc, show nI v / 10 = nI (v / 10) from pk_div (d := 10) (by omega) (by omega) (by omega), show nI (v / 10) - nI (v / 10) / 10 * 10 = nI (v / 10 % 10) from pk_rem (d := 10) (by omega) (by omega) (by omega), show (48 : Int32) + nI (v / 10 % 10) = nI (48 + v / 10 % 10) from nI_add 48 _]
      rfl
  have k2 : ∀ (S1 : rz_S) (l1 : List Int32), WB S1 l1 → l1.length < 38 → 100 ≤ v → l1 ++ dgs v 2 = l ++ dgs v (dgj v) → wbM S S1 → rz mM_saysNumber 19 [(0, .ref 116), (1, .int (nI v))] [] S1 (rz_v (fun S1 => WB S1 (l ++ dgs v (dgj v)) ∧ wbM S S1)) := fun S1 l1 a b h10 e f => by
    refine p_M_saysNumber_19 ⟨fun d => ?_, fun _ => rz_useV (d_says a (by omega) _) (fun S2 q => k1 S2 _ q.1 (by simp; omega) (by omega) ?_ (wbM_t f q.2))⟩
    · have := (nI_ltI (b := 100) (by omega) (by omega)).mp d
      omega
    · rw [← e, List.append_assoc, show nI v / 100 = nI (v / 100) from pk_div (d := 100) (by omega) (by omega) (by omega), show nI (v / 100) - nI (v / 100) / 10 * 10 = nI (v / 100 % 10) from pk_rem (d := 10) (by omega) (by omega) (by omega), show (48 : Int32) + nI (v / 100 % 10) = nI (48 + v / 100 % 10) from nI_add 48 _]
      rfl
  refine p_M_saysNumber_0 ⟨fun d => ?_, fun d => ?_⟩
  · have d1 := (nI_ltI (b := 1000) (by omega) (by omega)).mp d
    by_cases h2 : 100 ≤ v
    · exact k2 S l h (by omega) h2 (by rw [dgj, if_neg (by omega), if_neg (by omega), if_pos d1]) (wbM_r _)
    · refine p_M_saysNumber_19 ⟨fun _ => ?_, fun d => absurd (nI_lt (b := 100) (by omega) (by omega)) d⟩
      by_cases h1 : 10 ≤ v
      · exact k1 S l h (by omega) h1 (by rw [dgj, if_neg (by omega), if_pos (by omega)]) (wbM_r _)
      · exact p_M_saysNumber_39 ⟨fun _ => k0 S l h (by omega) (by rw [dgj, if_pos (by omega)]) (wbM_r _), fun d => absurd (nI_lt (b := 10) (by omega) (by omega)) d⟩
  · have d1 : ¬ v < 1000 := fun z => d (nI_lt (b := 1000) z (by omega))
    refine rz_useV (d_says h (by omega) _) (fun S2 q => k2 S2 _ q.1 (by simp; omega) (by omega) ?_ q.2)
    rw [dgj, if_neg (by omega), if_neg (by omega), if_neg d1, List.append_assoc, show nI v / 1000 = nI (v / 1000) from pk_div (d := 1000) (by omega) (by omega) (by omega), show (48 : Int32) + nI (v / 1000) = nI (48 + v / 1000) from nI_add 48 _]
    show _ = l ++ (nI (48 + v / 1000 % 10) :: dgs v 2)
    rw [show v / 1000 % 10 = v / 1000 by omega]
    rfl
end LINE
