/-! commands: the NUMBERS of a TEXT, both sides -/
theorem uI_sw {S : rz_S} {a b c : Int32} : rz_uI (rz_uI (rz_uI S 116 72 a) 116 73 c) 116 72 b = rz_uI (rz_uI S 116 72 b) 116 73 c := by
  refine Prod.ext rfl (funext fun u => funext fun k => ?_)
  show (if u = 116 ∧ k = 72 then b else if u = 116 ∧ k = 73 then c else if u = 116 ∧ k = 72 then a else S.2 u k) = (if u = 116 ∧ k = 73 then c else if u = 116 ∧ k = 72 then b else S.2 u k)
  by_cases h1 : u = 116 ∧ k = 73
  · have h2 : ¬ (u = 116 ∧ k = 72) := by omega
    simp only [if_neg h2, if_pos h1]
  · by_cases h2 : u = 116 ∧ k = 72
    · simp only [if_pos h2, if_neg h1]
    · simp only [if_neg h2, if_neg h1]
abbrev Dg (x : Int32) : Prop := ¬ x < 48 ∧ ¬ 57 < x
def skp (t : Nat → Int32) : Nat → Nat → Nat
  | 0, p => p
  | w + 1, p => if Dg (t p) then p else skp t w (p + 1)
def enp (t : Nat → Int32) : Nat → Nat → Nat
  | 0, p => p
  | w + 1, p => if Dg (t p) then enp t w (p + 1) else p
def vlp (t : Nat → Int32) (q : Nat) : Nat → Nat
  | 0 => 0
  | k + 1 => 10 * vlp t q k + ((t (q + k)).toNatClampNeg - 48)
theorem skp_b {t : Nat → Int32} : ∀ w p, p ≤ skp t w p ∧ skp t w p ≤ p + w := by
  intro w
  induction w with
  | zero => intro p; exact ⟨Nat.le_refl _, Nat.le_refl _⟩
  | succ w ih =>
    intro p
    unfold skp
    by_cases h : Dg (t p)
    · rw [if_pos h]; omega
    · rw [if_neg h]; have := ih (p + 1); omega
theorem enp_b {t : Nat → Int32} : ∀ w p, p ≤ enp t w p ∧ enp t w p ≤ p + w := by
  intro w
  induction w with
  | zero => intro p; exact ⟨Nat.le_refl _, Nat.le_refl _⟩
  | succ w ih =>
    intro p
    unfold enp
    by_cases h : Dg (t p)
    · rw [if_pos h]; have := ih (p + 1); omega
    · rw [if_neg h]; omega
theorem enp_min {t : Nat → Int32} : ∀ a b p, a ≤ b → enp t a p = min (enp t b p) (p + a) := by
  intro a
  induction a with
  | zero =>
    intro b p _
    have := (enp_b (t := t) b p).1
    show p = min (enp t b p) (p + 0)
    omega
  | succ a ih =>
    intro b p h
    obtain ⟨b, rfl⟩ : ∃ c, b = c + 1 := ⟨b - 1, by omega⟩
    unfold enp
    by_cases hd : Dg (t p)
    · rw [if_pos hd, if_pos hd, ih b (p + 1) (by omega)]; omega
    · rw [if_neg hd, if_neg hd]; omega
theorem Dg_n {x : Int32} (h : Dg x) : ∃ d : Nat, d ≤ 9 ∧ x = nI (48 + d) ∧ x.toNatClampNeg - 48 = d := by
  obtain ⟨a, b⟩ := h
  have h1 : 48 ≤ x.toInt := by
    have : ¬ x.toInt < (48 : Int32).toInt := fun h => a (Int32.lt_iff_toInt_lt.mpr h)
    have e : (48 : Int32).toInt = 48 := by decide
    omega
  have h2 : x.toInt ≤ 57 := by
    have : ¬ (57 : Int32).toInt < x.toInt := fun h => b (Int32.lt_iff_toInt_lt.mpr h)
    have e : (57 : Int32).toInt = 57 := by decide
    omega
  have hx : x = nI x.toInt.toNat := by
    apply Int32.toInt_inj.mp
    rw [nI_toInt (by omega)]
    omega
  refine ⟨x.toInt.toNat - 48, by omega, ?_, ?_⟩
  · rw [show 48 + (x.toInt.toNat - 48) = x.toInt.toNat by omega]; exact hx
  · have : x.toNatClampNeg = x.toInt.toNat := rfl
    omega
theorem vlp_s {t : Nat → Int32} {q k : Nat} (h : Dg (t (q + k))) (hv : vlp t q k ≤ 100000) : ((10 * nI (vlp t q k)) + t (q + k)) - 48 = nI (vlp t q (k + 1)) := by
  obtain ⟨d, d9, e, ed⟩ := Dg_n h
  rw [e, show (10 * nI (vlp t q k) : Int32) = nI (10 * vlp t q k) from pk_mul 10 _, nI_add]
  show nI (10 * vlp t q k + (48 + d)) - nI 48 = _
  rw [pk_sub (by omega)]
  congr 1
  show _ = 10 * vlp t q k + ((t (q + k)).toNatClampNeg - 48)
  rw [ed]
  omega
theorem vlp_b {t : Nat → Int32} {q : Nat} : ∀ k, (∀ j, j < k → Dg (t (q + j))) → vlp t q k < 10 ^ k := by
  intro k
  induction k with
  | zero => intro _; show 0 < 1; omega
  | succ k ih =>
    intro h
    have h1 := ih (fun j hj => h j (by omega))
    obtain ⟨d, d9, e, ed⟩ := Dg_n (h k (by omega))
    show 10 * vlp t q k + ((t (q + k)).toNatClampNeg - 48) < 10 ^ (k + 1)
    rw [ed, Nat.pow_succ]
    omega
theorem enp_d {t : Nat → Int32} : ∀ w p j, p ≤ j → j < enp t w p → Dg (t j) := by
  intro w
  induction w with
  | zero => intro p j h1 h2; unfold enp at h2; omega
  | succ w ih =>
    intro p j h1 h2
    unfold enp at h2
    by_cases h : Dg (t p)
    · rw [if_pos h] at h2
      by_cases z : j = p
      · subst z; exact h
      · exact ih (p + 1) j (by omega) h2
    · rw [if_neg h] at h2; omega
theorem c_isDg {S : rz_S} (a : Int32) : rz_ev mTape_isDigit [.int a] S (rz_i (fun x S1 => x = (if Dg a then 1 else 0) ∧ S1 = S)) := by
  show rz _ 0 [(0, .int a)] [] _ _
  exact p_Tape_isDigit_0 ⟨fun c => ⟨(if_neg (fun z => z.1 c)).symm, rfl⟩, fun c => ⟨fun d => ⟨(if_neg (fun z => z.2 d)).symm, rfl⟩, fun d => ⟨(if_pos ⟨c, d⟩).symm, rfl⟩⟩⟩
theorem d_isDg {S : rz_S} (a : Int32) : rz_ev mM_isDigit [.int a] S (rz_i (fun x S1 => x = (if Dg a then 1 else 0) ∧ S1 = S)) := by
  show rz _ 0 [(0, .int a)] [] _ _
  exact p_M_isDigit_0 ⟨fun c => ⟨(if_neg (fun z => z.1 c)).symm, rfl⟩, fun c => ⟨fun d => ⟨(if_neg (fun z => z.2 d)).symm, rfl⟩, fun d => ⟨(if_pos ⟨c, d⟩).symm, rfl⟩⟩⟩
def nmQ (t : Nat → Int32) (n p : Nat) : Nat := skp t (n - p) p
def nmM (t : Nat → Int32) (n p : Nat) : Nat := enp t (n - nmQ t n p) (nmQ t n p) - nmQ t n p
abbrev nmG (t : Nat → Int32) (n p : Nat) : Prop := 1 ≤ nmM t n p ∧ nmM t n p ≤ 3 ∧ vlp t (nmQ t n p) (nmM t n p) ≤ 255
theorem nn_X {V : rz_S} {n p : Nat} {t : Nat → Int32} (hn : n ≤ 400) (hl : V.2 1 2 = nI n) (ht : V.1 2 = t) (hp : p ≤ n) (h3 : V.2 1 3 = nI p) : rzx mTape_nextNumber [.ref 1] V (some (.int (if nmG t n p then nI (vlp t (nmQ t n p) (nmM t n p)) else -1))) (rz_uI V 1 3 (nI (nmQ t n p + min (nmM t n p) 4))) := by
  have qb := skp_b (t := t) (n - p) p
  have q1 : p ≤ nmQ t n p := qb.1
  have q2 : nmQ t n p ≤ n := by have := qb.2; unfold nmQ; omega
  have eb := enp_b (t := t) (n - nmQ t n p) (nmQ t n p)
  have lp1 : ∀ (w j : Nat) (K : Int32 → rz_S → Prop), j + w = n → rz mTape_nextNumber 43 [(0, .ref 1), (1, .int (nI (skp t w j))), (2, .int 0), (3, .int (nI (skp t w j)))] [] V (rz_i K) → rz mTape_nextNumber 14 [(0, .ref 1), (1, .int (nI j))] [] V (rz_i K) := by
    intro w
    induction w with
    | zero =>
      intro j K e h
      refine p_Tape_nextNumber_14 ⟨fun _ => h, fun z => absurd ?_ z⟩
      rw [hl]; exact nI_le (by omega) (by omega)
    | succ w ih =>
      intro j K e h
      refine p_Tape_nextNumber_14 ⟨fun z => ?_, fun _ => rz_toI (c_byteAt hn hl (by omega)) ?_⟩
      · rw [hl] at z
        have := (nI_leI (a := n) (b := j) (by omega) (by omega)).mp z
        omega
      · rw [if_pos (by omega), ht]
        refine rz_toI (c_isDg _) ?_
        unfold skp at h
        by_cases d : Dg (t j)
        · rw [if_pos d] at h ⊢
          exact ⟨fun z => absurd z (by decide), fun _ => h⟩
        · rw [if_neg d] at h ⊢
          rw [nI_1]
          exact ⟨fun _ => ih (j + 1) K (by omega) h, fun z => absurd rfl z⟩
  have lp2 : ∀ (w k : Nat) (K : Int32 → rz_S → Prop), k + w = min 4 (n - nmQ t n p) → (∀ j, j < k → Dg (t (nmQ t n p + j))) → rz mTape_nextNumber 89 [(0, .ref 1), (1, .int (nI (nmQ t n p))), (2, .int (nI (vlp t (nmQ t n p) (enp t w (nmQ t n p + k) - nmQ t n p)))), (3, .int (nI (enp t w (nmQ t n p + k))))] [] V (rz_i K) → rz mTape_nextNumber 43 [(0, .ref 1), (1, .int (nI (nmQ t n p))), (2, .int (nI (vlp t (nmQ t n p) k))), (3, .int (nI (nmQ t n p + k)))] [] V (rz_i K) := by
    intro w
    induction w with
    | zero =>
      intro k K e hd h
      unfold enp at h
      rw [Nat.add_sub_cancel_left] at h
      refine p_Tape_nextNumber_43 ⟨fun _ => h, fun z => ⟨fun _ => h, fun z2 => absurd ?_ z2⟩⟩
      rw [hl] at z
      have z' : ¬ n ≤ nmQ t n p + k := fun y => z (nI_le y (by omega))
      have e4 : nI (nmQ t n p) + 4 = nI (nmQ t n p + 4) := nI_add _ 4
      rw [e4]
      exact nI_le (by omega) (by omega)
    | succ w ih =>
      intro k K e hd h
      have e4 : nI (nmQ t n p) + 4 = nI (nmQ t n p + 4) := nI_add _ 4
      have b1 : ∀ S : rz_S, S = V → rz_ev mTape_byteAt [.ref 1, .int (nI (nmQ t n p + k))] S (rz_i (fun x S1 => x = t (nmQ t n p + k) ∧ S1 = V)) := fun S hS => by
        subst hS
        refine rz_toI (c_byteAt hn hl (by omega)) ⟨?_, rfl⟩
        rw [if_pos (by omega), ht]
      refine p_Tape_nextNumber_43 ⟨fun z => ?_, fun _ => ⟨fun z => ?_, fun _ => rz_toI (b1 V rfl) (rz_toI (c_isDg _) ?_)⟩⟩
      · rw [hl] at z
        have := (nI_leI (a := n) (b := nmQ t n p + k) (by omega) (by omega)).mp z
        omega
      · rw [e4] at z
        have := (nI_leI (a := nmQ t n p + 4) (b := nmQ t n p + k) (by omega) (by omega)).mp z
        omega
      · unfold enp at h
        by_cases d : Dg (t (nmQ t n p + k))
        · rw [if_pos d] at h ⊢
          refine ⟨fun z => absurd z (by decide), fun _ => rz_toI (b1 V rfl) ?_⟩
          have vb := vlp_b (t := t) (q := nmQ t n p) k hd
          have : (10 : Nat) ^ k ≤ 10 ^ 4 := Nat.pow_le_pow_right (by omega) (by omega)
          rw [vlp_s d (by omega), nI_1]
          refine ih (k + 1) K (by omega) (fun j hj => ?_) ?_
          · by_cases z : j = k
            · subst z; exact d
            · exact hd j (by omega)
          · rw [show nmQ t n p + k + 1 = nmQ t n p + (k + 1) by omega] at h
            exact h
        · rw [if_neg d] at h ⊢
          rw [Nat.add_sub_cancel_left] at h
          exact ⟨fun _ => h, fun z => absurd rfl z⟩
  have em : enp t (min 4 (n - nmQ t n p)) (nmQ t n p) = nmQ t n p + min (nmM t n p) 4 := by
    rw [enp_min (min 4 (n - nmQ t n p)) (n - nmQ t n p) _ (by omega)]
    unfold nmM
    omega
  have m1 : nmM t n p ≤ n - nmQ t n p := by unfold nmM; omega
  refine rzx_of (fun K h => ?_)
  show rz _ 0 [(0, .ref 1)] [] _ _
  refine p_Tape_nextNumber_0 ⟨fun _ => ?_, fun z => absurd ?_ z⟩
  · rw [h3]
    refine lp1 (n - p) p K (by omega) ?_
    have h89 := lp2 (min 4 (n - nmQ t n p)) 0 K (by omega) (fun j hj => by omega)
    rw [Nat.add_zero, em, Nat.add_sub_cancel_left] at h89
    refine h89 (p_Tape_nextNumber_89 ?_)
    have e3 : nI (nmQ t n p) + 3 = nI (nmQ t n p + 3) := nI_add _ 3
    rw [e3]
    refine ⟨fun z => ?_, fun z => ⟨fun z2 => ?_, fun z2 => ?_⟩⟩
    · have := (nI_eq (by omega) (by omega)).mp z
      rw [if_neg (fun g => by have := g.1; omega)] at h
      exact h
    · have := (nI_ltI (a := nmQ t n p + 3) (by omega) (by omega)).mp z2
      rw [if_neg (fun g => by have := g.2.1; omega)] at h
      exact h
    · have z' : ¬ nmQ t n p + min (nmM t n p) 4 = nmQ t n p := fun y => z (by rw [y])
      have z2' : ¬ nmQ t n p + 3 < nmQ t n p + min (nmM t n p) 4 := fun y => z2 (nI_lt y (by omega))
      have vb := vlp_b (t := t) (q := nmQ t n p) (nmM t n p) (fun j hj => enp_d (n - nmQ t n p) (nmQ t n p) _ (by omega) (by unfold nmM at hj; omega))
      have : (10 : Nat) ^ nmM t n p ≤ 10 ^ 3 := Nat.pow_le_pow_right (by omega) (by omega)
      rw [show min (nmM t n p) 4 = nmM t n p by omega] at h ⊢
      refine ⟨fun y => ?_, fun y => ?_⟩
      · have := (nI_leI (b := 255) (by omega) (by omega)).mp y
        rw [if_pos ⟨by omega, by omega, this⟩] at h
        exact h
      · have : ¬ vlp t (nmQ t n p) (nmM t n p) ≤ 255 := fun y2 => y (nI_le (b := 255) y2 (by omega))
        rw [if_neg (fun g => this g.2.2)] at h
        exact h
  · rw [h3]; exact nI_le (a := 0) (by omega) (by omega)
theorem nn_M {W : rz_S} {n p : Nat} {t : Nat → Int32} (hn : n ≤ 400) (ht : ∀ j, j < n → W.1 151 j = t j) (hp : p ≤ n) (h3 : W.2 116 72 = nI p) : rzx mM_numberNext [.ref 116, .int (nI n)] W (some (.int (nI (vlp t (nmQ t n p) (min (nmM t n p) 3))))) (rz_uI (rz_uI W 116 72 (nI (nmQ t n p + nmM t n p))) 116 73 (if nmG t n p then W.2 116 73 else 30)) := by
  have qb := skp_b (t := t) (n - p) p
  have q1 : p ≤ nmQ t n p := qb.1
  have q2 : nmQ t n p ≤ n := by have := qb.2; unfold nmQ; omega
  have eb := enp_b (t := t) (n - nmQ t n p) (nmQ t n p)
  have u72 : ∀ x, (rz_uI W 116 72 x).2 116 72 = x := fun x => rz_uI_s
  have lp1 : ∀ (w j : Nat) (K : Int32 → rz_S → Prop), j + w = n → rz mM_numberNext 40 [(0, .ref 116), (1, .int (nI n)), (2, .int 0), (3, .int 0)] [] (rz_uI W 116 72 (nI (skp t w j))) (rz_i K) → rz mM_numberNext 0 [(0, .ref 116), (1, .int (nI n))] [] (rz_uI W 116 72 (nI j)) (rz_i K) := by
    intro w
    induction w with
    | zero =>
      intro j K e h
      refine p_M_numberNext_0 ⟨fun _ => h, fun z => absurd ?_ z⟩
      rw [u72]; exact nI_le (by omega) (by omega)
    | succ w ih =>
      intro j K e h
      refine p_M_numberNext_0 ⟨fun z => ?_, fun _ => ?_⟩
      · rw [u72] at z
        have := (nI_leI (a := n) (b := j) (by omega) (by omega)).mp z
        omega
      · rw [u72, nI_clamp (by omega), show (rz_uI W 116 72 (nI j)).1 151 j = t j from ht j (by omega)]
        refine ⟨rin (by omega) (by omega), rz_toI (d_isDg _) ?_⟩
        unfold skp at h
        by_cases d : Dg (t j)
        · rw [if_pos d] at h ⊢
          exact ⟨fun z => absurd z (by decide), fun _ => h⟩
        · rw [if_neg d] at h ⊢
          rw [u72, nI_1, rz_uIU]
          exact ⟨fun _ => ih (j + 1) K (by omega) h, fun z => absurd rfl z⟩
  have lp2 : ∀ (w k : Nat) (K : Int32 → rz_S → Prop), nmQ t n p + k + w = n → (∀ j, j < k → Dg (t (nmQ t n p + j))) → rz mM_numberNext 107 [(0, .ref 116), (2, .int (nI (vlp t (nmQ t n p) (min (enp t w (nmQ t n p + k) - nmQ t n p) 3)))), (3, .int (nI (enp t w (nmQ t n p + k) - nmQ t n p)))] [] (rz_uI W 116 72 (nI (enp t w (nmQ t n p + k)))) (rz_i K) → rz mM_numberNext 40 [(0, .ref 116), (1, .int (nI n)), (2, .int (nI (vlp t (nmQ t n p) (min k 3)))), (3, .int (nI k))] [] (rz_uI W 116 72 (nI (nmQ t n p + k))) (rz_i K) := by
    intro w
    induction w with
    | zero =>
      intro k K e hd h
      unfold enp at h
      rw [Nat.add_sub_cancel_left] at h
      refine p_M_numberNext_40 ⟨fun _ => h, fun z => absurd ?_ z⟩
      rw [u72]; exact nI_le (by omega) (by omega)
    | succ w ih =>
      intro k K e hd h
      refine p_M_numberNext_40 ⟨fun z => ?_, fun _ => ?_⟩
      · rw [u72] at z
        have := (nI_leI (a := n) (b := nmQ t n p + k) (by omega) (by omega)).mp z
        omega
      · rw [u72, nI_clamp (by omega), show (rz_uI W 116 72 (nI (nmQ t n p + k))).1 151 (nmQ t n p + k) = t (nmQ t n p + k) from ht _ (by omega)]
        refine ⟨rin (by omega) (by omega), rz_toI (d_isDg _) ?_⟩
        unfold enp at h
        by_cases d : Dg (t (nmQ t n p + k))
        · rw [if_pos d] at h ⊢
          have hd' : ∀ j, j < k + 1 → Dg (t (nmQ t n p + j)) := fun j hj => by
            by_cases z : j = k
            · subst z; exact d
            · exact hd j (by omega)
          rw [show nmQ t n p + k + 1 = nmQ t n p + (k + 1) by omega] at h
          have h40 := ih (k + 1) K (by omega) hd' h
          refine ⟨fun z => absurd z (by decide), fun _ => ⟨fun z => ?_, fun z => ?_⟩⟩
          · have k3 := (nI_leI (a := 3) (b := k) (by omega) (by omega)).mp z
            refine p_M_numberNext_89 ?_
            rw [u72, nI_1, nI_1, rz_uIU]
            rw [show min (k + 1) 3 = min k 3 by omega] at h40
            exact h40
          · have k3 : ¬ 3 ≤ k := fun y => z (nI_le (a := 3) y (by omega))
            rw [u72, nI_clamp (by omega), show (rz_uI W 116 72 (nI (nmQ t n p + k))).1 151 (nmQ t n p + k) = t (nmQ t n p + k) from ht _ (by omega)]
            refine ⟨rin (by omega) (by omega), p_M_numberNext_89 ?_⟩
            have vb := vlp_b (t := t) (q := nmQ t n p) k hd
            have : (10 : Nat) ^ k ≤ 10 ^ 3 := Nat.pow_le_pow_right (by omega) (by omega)
            rw [show min k 3 = k by omega, vlp_s d (by omega), u72, nI_1, nI_1, rz_uIU]
            rw [show min (k + 1) 3 = k + 1 by omega] at h40
            exact h40
        · rw [if_neg d] at h ⊢
          rw [Nat.add_sub_cancel_left] at h
          exact ⟨fun _ => h, fun z => absurd rfl z⟩
  have m1 : nmM t n p ≤ n - nmQ t n p := by unfold nmM; omega
  have em : enp t (n - nmQ t n p) (nmQ t n p) = nmQ t n p + nmM t n p := by unfold nmM; omega
  refine rzx_of (fun K h => ?_)
  show rz _ 0 [(0, .ref 116), (1, .int (nI n))] [] _ _
  have h0 := lp1 (n - p) p K (by omega)
  rw [show rz_uI W 116 72 (nI p) = W from (by rw [← h3, rz_uI_self])] at h0
  refine h0 ?_
  have h107 := lp2 (n - nmQ t n p) 0 K (by omega) (fun j hj => by omega)
  rw [Nat.add_zero, em, Nat.add_sub_cancel_left] at h107
  refine h107 (p_M_numberNext_107 ?_)
  refine ⟨fun z => ?_, fun z => ⟨fun z2 => ?_, fun z2 => ?_⟩⟩
  · have := (nI_eq (b := 0) (by omega) (by omega)).mp z
    rw [if_neg (fun g => by have := g.1; omega)] at h
    exact h
  · have := (nI_ltI (a := 3) (by omega) (by omega)).mp z2
    rw [if_neg (fun g => by have := g.2.1; omega)] at h
    exact h
  · have z' : ¬ nmM t n p = 0 := fun y => z (by rw [y]; rfl)
    have z2' : ¬ 3 < nmM t n p := fun y => z2 (nI_lt (a := 3) y (by omega))
    have vb := vlp_b (t := t) (q := nmQ t n p) (nmM t n p) (fun j hj => enp_d (n - nmQ t n p) (nmQ t n p) _ (by omega) (by omega))
    have : (10 : Nat) ^ nmM t n p ≤ 10 ^ 3 := Nat.pow_le_pow_right (by omega) (by omega)
    rw [show min (nmM t n p) 3 = nmM t n p by omega] at h ⊢
    refine ⟨fun y => ?_, fun y => ?_⟩
    · have := (nI_leI (b := 255) (by omega) (by omega)).mp y
      rw [if_pos ⟨by omega, by omega, this⟩, show W.2 116 73 = (rz_uI W 116 72 (nI (nmQ t n p + nmM t n p))).2 116 73 from (by simp (disch := omega) only [uI1, fA2, rz_fA_n, rz_uI_n, rz_fA_s, rz_uI_s, pk_us]), rz_uI_self] at h
      exact h
    · have : ¬ vlp t (nmQ t n p) (nmM t n p) ≤ 255 := fun y2 => y (nI_le (b := 255) y2 (by omega))
      rw [if_neg (fun g => this g.2.2)] at h
      exact h
/-- where both stand among the NUMBERS -/
def NI (n : Nat) (T U : rz_S) (good : Bool) (V W : rz_S) : Prop := ∃ (p p' : Nat) (z : Int32), p ≤ n ∧ p' ≤ n ∧ V = rz_uI T 1 3 (nI p) ∧ W = rz_uI (rz_uI U 116 72 (nI p')) 116 73 z ∧ (good = true → z = 0 ∧ nmQ (T.1 2) n p = nmQ (T.1 2) n p') ∧ (good = false → z = 30)
theorem nn_step {n : Nat} {T U V W : rz_S} {good : Bool} (hT : Txt n T U) (h : NI n T U good V W) : ∃ x y V1 W1 g1, rzx mTape_nextNumber [.ref 1] V (some (.int x)) V1 ∧ rzx mM_numberNext [.ref 116, .int (nI n)] W (some (.int y)) W1 ∧ NI n T U g1 V1 W1 ∧ (g1 = true → good = true ∧ ∃ v : Nat, v ≤ 255 ∧ x = nI v ∧ y = nI v) ∧ (good = true → g1 = false → x = -1) := by
  obtain ⟨hn, hl, htx, _⟩ := hT
  obtain ⟨p, p', z, hp, hp', rfl, rfl, hg, hb⟩ := h
  have e1 := nn_X (V := rz_uI T 1 3 (nI p)) (t := T.1 2) hn (by simp (disch := omega) only [uI1, fA2, rz_fA_n, rz_uI_n, rz_fA_s, rz_uI_s, pk_us]; exact hl) rfl hp rz_uI_s
  have e2 := nn_M (W := rz_uI (rz_uI U 116 72 (nI p')) 116 73 z) (t := T.1 2) hn (fun j hj => (htx j hj).1.symm) hp' (by simp (disch := omega) only [uI1, fA2, rz_fA_n, rz_uI_n, rz_fA_s, rz_uI_s, pk_us])
  rw [rz_uIU] at e1
  have bnd : ∀ r, r ≤ n → nmQ (T.1 2) n r ≤ n ∧ nmM (T.1 2) n r ≤ n - nmQ (T.1 2) n r := fun r hr => by
    have := skp_b (t := T.1 2) (n - r) r
    have h2 := enp_b (t := T.1 2) (n - nmQ (T.1 2) n r) (nmQ (T.1 2) n r)
    refine ⟨by unfold nmQ; omega, by unfold nmM; omega⟩
  have b1 := bnd p hp
  have b2 := bnd p' hp'
  have eW : ∀ (a : Int32) (b : Int32), rz_uI (rz_uI (rz_uI (rz_uI U 116 72 (nI p')) 116 73 z) 116 72 a) 116 73 b = rz_uI (rz_uI U 116 72 a) 116 73 b := fun a b => by rw [uI_sw, rz_uIU]
  rw [eW] at e2
  have z73 : (rz_uI (rz_uI U 116 72 (nI p')) 116 73 z).2 116 73 = z := rz_uI_s
  rw [z73] at e2
  by_cases gd : good = true ∧ nmG (T.1 2) n p
  · obtain ⟨g0, g1⟩ := gd
    obtain ⟨z0, hq⟩ := hg g0
    have hM : nmM (T.1 2) n p = nmM (T.1 2) n p' := by unfold nmM; rw [hq]
    have g2 : nmG (T.1 2) n p' := by unfold nmG at g1 ⊢; rw [← hM, ← hq]; exact g1
    have m3 := g1.2.1
    refine ⟨_, _, _, _, true, e1, e2, ⟨nmQ (T.1 2) n p + min (nmM (T.1 2) n p) 4, nmQ (T.1 2) n p' + nmM (T.1 2) n p', _, by omega, by omega, rfl, rfl, fun _ => ⟨by rw [if_pos g2]; exact z0, by rw [← hM, ← hq, show min (nmM (T.1 2) n p) 4 = nmM (T.1 2) n p by omega]⟩, fun y => by cases y⟩, fun _ => ⟨g0, vlp (T.1 2) (nmQ (T.1 2) n p) (nmM (T.1 2) n p), g1.2.2, by rw [if_pos g1], by rw [← hM, ← hq, show min (nmM (T.1 2) n p) 3 = nmM (T.1 2) n p by omega]⟩, fun _ y => by cases y⟩
  · refine ⟨_, _, _, _, false, e1, e2, ⟨nmQ (T.1 2) n p + min (nmM (T.1 2) n p) 4, nmQ (T.1 2) n p' + nmM (T.1 2) n p', _, by omega, by omega, rfl, rfl, fun y => (by cases y), fun _ => ?_⟩, fun y => (by cases y), fun g0 _ => ?_⟩
    · by_cases g2 : nmG (T.1 2) n p'
      · rw [if_pos g2]
        cases good with
        | true =>
          obtain ⟨z0, hq⟩ := hg rfl
          have hM : nmM (T.1 2) n p = nmM (T.1 2) n p' := by unfold nmM; rw [hq]
          refine absurd ⟨rfl, ?_⟩ gd
          unfold nmG at g2 ⊢; rw [hM, hq]; exact g2
        | false => exact hb rfl
      · rw [if_neg g2]
    · rw [if_neg (fun g1 => gd ⟨g0, g1⟩)]
/-- the NUMBERS begin -/
theorem nn_start {n : Nat} {T U : rz_S} (hT : Txt n T U) : (∃ V W, rzx mTape_startNumbers [.ref 1] T none V ∧ rzx mM_numbers [.ref 116, .int (nI n)] U (some (.int 1)) W ∧ NI n T U true V W) ∨ (∃ W z1 z2, rzx mTape_startNumbers [.ref 1] T none (rz_uI T 1 3 (-1)) ∧ rzx mM_numbers [.ref 116, .int (nI n)] U (some (.int 0)) W ∧ W = rz_uI (rz_uI U 116 72 z1) 116 73 z2) := by
  obtain ⟨hn, hl, htx, _⟩ := hT
  have u72 : ∀ a : Int32, (rz_uI (rz_uI U 116 72 a) 116 73 0).2 116 72 = a := fun a => by simp (disch := omega) only [uI1, fA2, rz_fA_n, rz_uI_n, rz_fA_s, rz_uI_s, pk_us]
  have left : ∀ K : rz_S → Prop, K (rz_uI T 1 3 (oI (fnd (T.1 2) 58 n 0))) → rz_ev mTape_startNumbers [.ref 1] T (rz_v K) := fun K h => by
    show rz _ 0 [(0, .ref 1)] [] _ _
    exact p_Tape_startNumbers_0 (rz_toI (c_find (i := 0) hn hl (by omega)) h)
  have lp : ∀ (w j : Nat) (K : Int32 → rz_S → Prop), j + w = n → rz mM_numbers 45 [(0, .ref 116), (1, .int (nI n))] [] (rz_uI (rz_uI U 116 72 (nI ((fnd (T.1 2) 58 n j).getD n))) 116 73 0) (rz_i K) → rz mM_numbers 10 [(0, .ref 116), (1, .int (nI n))] [] (rz_uI (rz_uI U 116 72 (nI j)) 116 73 0) (rz_i K) := by
    intro w
    induction w with
    | zero =>
      intro j K e h
      rw [fnd_e (by omega)] at h
      have ej : j = n := by omega
      subst ej
      refine p_M_numbers_10 ⟨fun _ => h, fun z => absurd ?_ z⟩
      rw [u72]; exact nI_le (by omega) (by omega)
    | succ w ih =>
      intro j K e h
      refine p_M_numbers_10 ⟨fun z => ?_, fun _ => ?_⟩
      · rw [u72] at z
        have := (nI_leI (a := n) (b := j) (by omega) (by omega)).mp z
        omega
      · rw [u72, nI_clamp (by omega), show (rz_uI (rz_uI U 116 72 (nI j)) 116 73 0).1 151 j = T.1 2 j from (htx j (by omega)).1.symm, nI_1]
        rw [fnd_s (by omega)] at h
        refine ⟨rin (by omega) (by omega), fun z => ?_, fun z => ?_⟩
        · rw [if_pos z] at h; exact h
        · rw [if_neg z] at h
          have := ih (j + 1) K (by omega) h
          rw [uI_sw]
          exact this
  have right : ∀ K : Int32 → rz_S → Prop, rz mM_numbers 45 [(0, .ref 116), (1, .int (nI n))] [] (rz_uI (rz_uI U 116 72 (nI ((fnd (T.1 2) 58 n 0).getD n))) 116 73 0) (rz_i K) → rz_ev mM_numbers [.ref 116, .int (nI n)] U (rz_i K) := fun K h => by
    show rz _ 0 [(0, .ref 116), (1, .int (nI n))] [] _ _
    exact p_M_numbers_0 (lp n 0 K (by omega) h)
  cases hf : fnd (T.1 2) 58 n 0 with
  | none =>
    rw [hf] at left right
    rw [show (none : Option Nat).getD n = n from rfl] at right
    refine Or.inr ⟨rz_uI (rz_uI U 116 72 (nI (n + 1))) 116 73 30, nI (n + 1), 30, rzx_ofv left, rzx_of (fun K h => right K (p_M_numbers_45 ?_)), rfl⟩
    show ((rz_uI (rz_uI U 116 72 (nI n)) 116 73 0).2 116 72 + 1 ≤ nI n → _) ∧ _
    rw [u72, nI_1]
    refine ⟨fun z => ?_, fun _ => p_M_numbers_69 ⟨fun z => ?_, fun _ => ?_⟩⟩
    · have := (nI_leI (a := n + 1) (b := n) (by omega) (by omega)).mp z
      omega
    · rw [rz_uI_s] at z; exact absurd z (by decide)
    · show K 0 (rz_uI (rz_uI (rz_uI (rz_uI U 116 72 (nI n)) 116 73 0) 116 72 (nI (n + 1))) 116 73 30)
      rw [uI_sw, rz_uIU]
      exact h
  | some k =>
    obtain ⟨_, hk1, hk2⟩ := fnd_lt hf
    rw [hf] at left right
    rw [show (some k).getD n = k from rfl] at right
    have d58 : ¬ Dg (T.1 2 k) := by rw [hk2]; decide
    refine Or.inl ⟨rz_uI T 1 3 (nI k), rz_uI (rz_uI U 116 72 (nI (k + 1))) 116 73 0, rzx_ofv left, rzx_of (fun K h => right K (p_M_numbers_45 ?_)), k, k + 1, 0, by omega, by omega, rfl, rfl, fun _ => ⟨rfl, ?_⟩, fun z => by cases z⟩
    · show ((rz_uI (rz_uI U 116 72 (nI k)) 116 73 0).2 116 72 + 1 ≤ nI n → _) ∧ _
      rw [u72, nI_1]
      refine ⟨fun _ => p_M_numbers_69 ⟨fun _ => ?_, fun z => absurd ?_ z⟩, fun z => absurd (nI_le (by omega) (by omega)) z⟩
      · show K 1 (rz_uI (rz_uI (rz_uI U 116 72 (nI k)) 116 73 0) 116 72 (nI (k + 1)))
        rw [uI_sw]
        exact h
      · show (rz_uI (rz_uI (rz_uI U 116 72 (nI k)) 116 73 0) 116 72 (nI (k + 1))).2 116 73 = 0
        simp (disch := omega) only [uI1, fA2, rz_fA_n, rz_uI_n, rz_fA_s, rz_uI_s, pk_us]
    · unfold nmQ
      rw [show n - k = (n - (k + 1)) + 1 by omega]
      show (if Dg (T.1 2 k) then k else skp (T.1 2) (n - (k + 1)) (k + 1)) = _
      rw [if_neg d58]
