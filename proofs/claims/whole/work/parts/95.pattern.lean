/-! PATTERNs: which NAMEs they fit -/
def ftF (nm T : Nat → Int32) (n : Nat) : Nat → Nat → Bool
  | 0, _ => decide (n = 10) || decide (T n = 160)
  | k + 1, i => if nm i = 42 then true else if nm i = 63 then (if T i = 160 then false else ftF nm T n k (i + 1)) else if T i = nm i then ftF nm T n k (i + 1) else false
def pd (nm : Nat → Int32) (n i : Nat) : Int32 := if i < n then nm i else 160
def smF (nm T : Nat → Int32) (n : Nat) : Nat → Nat → Bool
  | 0, _ => true
  | k + 1, i => if T i = pd nm n i then smF nm T n k (i + 1) else false
theorem smF_s (nm T : Nat → Int32) (n k i : Nat) : smF nm T n (k + 1) i = (if T i = pd nm n i then smF nm T n k (i + 1) else false) := rfl
def wlF (nm : Nat → Int32) : Nat → Nat → Bool
  | 0, _ => false
  | k + 1, i => if nm i = 42 then true else if nm i = 63 then true else wlF nm k (i + 1)
theorem ftF_c {nm nm' T T' : Nat → Int32} {n : Nat} (hn : n ≤ 10) (h1 : ∀ i, i < n → nm i = nm' i) (h2 : ∀ i, i < 10 → T i = T' i) : ∀ k i, k + i = n → ftF nm T n k i = ftF nm' T' n k i := by
  intro k
  induction k with
  | zero =>
    intro i hi
    rw [ftF, ftF]
    by_cases e : n = 10
    · rw [decide_eq_true e, Bool.true_or, Bool.true_or]
    · rw [h2 n (by omega)]
  | succ k ih =>
    intro i hi
    rw [ftF, ftF, h1 i (by omega), h2 i (by omega), ih (i + 1) (by omega)]
theorem smF_c {nm nm' T T' : Nat → Int32} {n : Nat} (h1 : ∀ i, i < n → nm i = nm' i) (h2 : ∀ i, i < 10 → T i = T' i) : ∀ k i, k + i = 10 → smF nm T n k i = smF nm' T' n k i := by
  intro k
  induction k with
  | zero => intro i _; rfl
  | succ k ih =>
    intro i hi
    have e : pd nm n i = pd nm' n i := by
      unfold pd
      by_cases q : i < n
      · rw [if_pos q, if_pos q, h1 i q]
      · rw [if_neg q, if_neg q]
    rw [smF, smF, e, h2 i (by omega), ih (i + 1) (by omega)]
theorem wlF_c {nm nm' : Nat → Int32} {n : Nat} (h1 : ∀ i, i < n → nm i = nm' i) : ∀ k i, k + i = n → wlF nm k i = wlF nm' k i := by
  intro k
  induction k with
  | zero => intro i _; rfl
  | succ k ih => intro i hi; rw [wlF, wlF, h1 i (by omega), ih (i + 1) (by omega)]
section PAT
variable {S : rz_S} {p a at0 n : Nat}
theorem c_Pattern_fits (hp : ptP p) (ha : rz_T[a]? = some (.inl (0, 64))) (hn : n ≤ 10) (hl : S.2 p 1 = nI n) (hat : at0 + 10 ≤ 64) : rz_ev mPattern_fits [.ref p, .ref a, .int (nI at0)] S (rz_i (fun x S1 => x = nI (ftF (S.1 (p + 1)) (fun i => S.1 a (at0 + i)) n n 0).toNat ∧ S1 = S)) := by
  have lp : ∀ (k i : Nat), k + i = n → ftF (S.1 (p + 1)) (fun i => S.1 a (at0 + i)) n n 0 = ftF (S.1 (p + 1)) (fun i => S.1 a (at0 + i)) n k i → rz mPattern_fits 17 [(0, .ref p), (1, .ref a), (2, .int (nI at0)), (3, .int (nI i))] [] S (rz_i (fun x S1 => x = nI (ftF (S.1 (p + 1)) (fun i => S.1 a (at0 + i)) n n 0).toNat ∧ S1 = S)) := by
    intro k
    induction k with
    | zero =>
      intro i hi he
      refine p_Pattern_fits_17 hp ha ⟨fun _ => p_Pattern_fits_92 hp ha ?_, fun c => absurd (by rw [hl]; exact nI_le (by omega) (by omega)) c⟩
      rw [he, hl, nI_add, nI_clamp (by omega)]
      show _ ∧ _
      refine ⟨fun c => ?_, fun c => ⟨?_, fun d => ?_, fun d => ?_⟩⟩
      · have : n = 10 := by have := (nI_leI (a := 10) (by omega) (by omega)).mp c; omega
        exact ⟨by rw [ftF, decide_eq_true this, Bool.true_or]; rfl, rfl⟩
      · have : ¬ n = 10 := fun z => c (by rw [z]; decide)
        exact rin (by omega) (by omega)
      · exact ⟨by rw [ftF, decide_eq_true (p := S.1 a (at0 + n) = 160) d, Bool.or_true]; rfl, rfl⟩
      · have : ¬ n = 10 := fun z => c (by rw [z]; decide)
        exact ⟨by rw [ftF, decide_eq_false this, decide_eq_false (p := S.1 a (at0 + n) = 160) d]; rfl, rfl⟩
    | succ k ih =>
      intro i hi he
      rw [ftF] at he
      refine p_Pattern_fits_17 hp ha ⟨fun c => ?_, fun _ => ⟨fun c => ?_, fun _ => ?_⟩⟩
      · rw [hl] at c
        have := (nI_leI (by omega) (by omega)).mp c
        omega
      · have := (nI_leI (a := 10) (by omega) (by omega)).mp c
        omega
      rw [nI_add, nI_clamp (by omega), nI_clamp (by omega), show (nI i + 1 : Int32) = nI (i + 1) from nI_1 i]
      refine ⟨rin (by omega) (by omega), rin (by omega) (by omega), fun c => ?_, fun c => ⟨fun d => ⟨fun e => ?_, fun e => ?_⟩, fun d => ⟨fun e => ?_, fun e => ?_⟩⟩⟩
      · rw [if_pos c] at he
        exact ⟨by rw [he]; rfl, rfl⟩
      · rw [if_neg c, if_pos d, if_pos e] at he
        exact ⟨by rw [he]; rfl, rfl⟩
      · rw [if_neg c, if_pos d, if_neg e] at he
        exact ih (i + 1) (by omega) he
      · rw [if_neg c, if_neg d, if_pos e] at he
        exact ih (i + 1) (by omega) he
      · rw [if_neg c, if_neg d, if_neg e] at he
        exact ⟨by rw [he]; rfl, rfl⟩
  show rz _ 0 [(0, .ref p), (1, .ref a), (2, .int (nI at0))] [] _ _
  refine p_Pattern_fits_0 hp ha ⟨fun c => absurd c (nI_pos (by omega)), fun _ => ⟨fun _ => lp n 0 (by omega) rfl, fun c => absurd ?_ c⟩⟩
  exact nI_le (a := at0) (b := 54) (by omega) (by omega)
theorem c_M_fits {b q nb na : Nat} (hb : rz_T[b]? = some (.inl (0, nb))) (hnb : nb < 2 ^ 20) (ha : rz_T[a]? = some (.inl (0, na))) (hna : na < 2 ^ 20) (hn : n ≤ 10) (hq : q + n ≤ nb) (hat : at0 + 10 ≤ na) : rz_ev mM_fits [.ref b, .int (nI q), .int (nI n), .ref a, .int (nI at0)] S (rz_i (fun x S1 => x = nI (ftF (fun i => S.1 b (q + i)) (fun i => S.1 a (at0 + i)) n n 0).toNat ∧ S1 = S)) := by
  have lp : ∀ (k i : Nat), k + i = n → ftF (fun i => S.1 b (q + i)) (fun i => S.1 a (at0 + i)) n n 0 = ftF (fun i => S.1 b (q + i)) (fun i => S.1 a (at0 + i)) n k i → rz mM_fits 3 [(0, .ref b), (1, .int (nI q)), (2, .int (nI n)), (3, .ref a), (4, .int (nI at0)), (5, .int (nI i))] [] S (rz_i (fun x S1 => x = nI (ftF (fun i => S.1 b (q + i)) (fun i => S.1 a (at0 + i)) n n 0).toNat ∧ S1 = S)) := by
    intro k
    induction k with
    | zero =>
      intro i hi he
      refine p_M_fits_3 hb ha ⟨fun _ => ?_, fun c => absurd (nI_le (by omega) (by omega)) c⟩
      rw [he, nI_add, nI_clamp (by omega)]
      refine ⟨fun c => ?_, fun c => ⟨?_, fun d => ?_, fun d => ?_⟩⟩
      · have : n = 10 := (nI_eq (b := 10) (by omega) (by omega)).mp c
        exact ⟨by rw [ftF, decide_eq_true this, Bool.true_or]; rfl, rfl⟩
      · have : ¬ n = 10 := fun z => c (by rw [z]; rfl)
        exact rin (by omega) (by omega)
      · exact ⟨by rw [ftF, decide_eq_true (p := S.1 a (at0 + n) = 160) d, Bool.or_true]; rfl, rfl⟩
      · have : ¬ n = 10 := fun z => c (by rw [z]; rfl)
        exact ⟨by rw [ftF, decide_eq_false this, decide_eq_false (p := S.1 a (at0 + n) = 160) d]; rfl, rfl⟩
    | succ k ih =>
      intro i hi he
      rw [ftF] at he
      refine p_M_fits_3 hb ha ⟨fun c => ?_, fun _ => ?_⟩
      · have := (nI_leI (by omega) (by omega)).mp c
        omega
      rw [nI_add, nI_add, nI_clamp (by omega), nI_clamp (by omega), show (nI i + 1 : Int32) = nI (i + 1) from nI_1 i]
      refine ⟨rin (by omega) (by omega), fun c => ?_, fun c => ⟨fun d => ⟨rin (by omega) (by omega), fun e => ?_, fun e => ?_⟩, fun d => ⟨rin (by omega) (by omega), fun e => ?_, fun e => ?_⟩⟩⟩
      · rw [if_pos c] at he
        exact ⟨by rw [he]; rfl, rfl⟩
      · rw [if_neg c, if_pos d, if_pos e] at he
        exact ⟨by rw [he]; rfl, rfl⟩
      · rw [if_neg c, if_pos d, if_neg e] at he
        exact ih (i + 1) (by omega) he
      · rw [if_neg c, if_neg d, if_pos e] at he
        exact ih (i + 1) (by omega) he
      · rw [if_neg c, if_neg d, if_neg e] at he
        exact ⟨by rw [he]; rfl, rfl⟩
  show rz _ 0 [(0, .ref b), (1, .int (nI q)), (2, .int (nI n)), (3, .ref a), (4, .int (nI at0))] [] _ _
  exact p_M_fits_0 hb ha (lp n 0 (by omega) rfl)
theorem c_Pattern_padded {i : Nat} (hp : ptP p) (hn : n ≤ 10) (hl : S.2 p 1 = nI n) (hi : i < 10) : rz_ev mPattern_padded [.ref p, .int (nI i)] S (rz_i (fun x S1 => x = pd (S.1 (p + 1)) n i ∧ S1 = S)) := by
  show rz _ 0 [(0, .ref p), (1, .int (nI i))] [] _ _
  unfold pd
  refine p_Pattern_padded_0 hp ⟨fun c => absurd c (nI_pos (by omega)), fun _ => ?_⟩
  rw [hl]
  refine ⟨fun c => ?_, fun c => ⟨fun d => ?_, fun _ => ⟨rin (by omega) (by omega), ?_, rfl⟩⟩⟩
  · have := (nI_leI (by omega) (by omega)).mp c
    exact ⟨by rw [if_neg (by omega)], rfl⟩
  · have := (nI_leI (a := 10) (by omega) (by omega)).mp d
    omega
  · have : ¬ n ≤ i := fun z => c (nI_le z (by omega))
    rw [if_pos (by omega), nI_clamp (by omega)]
theorem c_Pattern_isSame (hp : ptP p) (ha : rz_T[a]? = some (.inl (0, 64))) (hn : n ≤ 10) (hl : S.2 p 1 = nI n) (hat : at0 + 10 ≤ 64) : rz_ev mPattern_isSame [.ref p, .ref a, .int (nI at0)] S (rz_i (fun x S1 => x = nI (smF (S.1 (p + 1)) (fun i => S.1 a (at0 + i)) n 10 0).toNat ∧ S1 = S)) := by
  have lp : ∀ (k i : Nat), k + i = 10 → smF (S.1 (p + 1)) (fun i => S.1 a (at0 + i)) n 10 0 = smF (S.1 (p + 1)) (fun i => S.1 a (at0 + i)) n k i → rz mPattern_isSame 17 [(0, .ref p), (1, .ref a), (2, .int (nI at0)), (3, .int (nI i))] [] S (rz_i (fun x S1 => x = nI (smF (S.1 (p + 1)) (fun i => S.1 a (at0 + i)) n 10 0).toNat ∧ S1 = S)) := by
    intro k
    induction k with
    | zero =>
      intro i hi he
      refine p_Pattern_isSame_17 hp ha ⟨fun _ => ⟨by rw [he]; rfl, rfl⟩, fun c => absurd (nI_le (a := 10) (by omega) (by omega)) c⟩
    | succ k ih =>
      intro i hi he
      rw [smF_s _ _ _ k] at he
      refine p_Pattern_isSame_17 hp ha ⟨fun c => ?_, fun _ => ?_⟩
      · have := (nI_leI (a := 10) (by omega) (by omega)).mp c
        omega
      rw [nI_add, nI_clamp (by omega), show (nI i + 1 : Int32) = nI (i + 1) from nI_1 i]
      refine ⟨rin (by omega) (by omega), rz_toI (c_Pattern_padded hp hn hl (by omega)) ⟨fun e => ?_, fun e => ?_⟩⟩
      · rw [if_pos e] at he
        exact ih (i + 1) (by omega) he
      · rw [if_neg e] at he
        exact ⟨by rw [he]; rfl, rfl⟩
  show rz _ 0 [(0, .ref p), (1, .ref a), (2, .int (nI at0))] [] _ _
  refine p_Pattern_isSame_0 hp ha ⟨fun c => absurd c (nI_pos (by omega)), fun _ => ⟨fun _ => lp 10 0 rfl rfl, fun c => absurd ?_ c⟩⟩
  exact nI_le (a := at0) (b := 54) (by omega) (by omega)
theorem c_M_same {b q nb na : Nat} (hb : rz_T[b]? = some (.inl (0, nb))) (hnb : nb < 2 ^ 20) (ha : rz_T[a]? = some (.inl (0, na))) (hna : na < 2 ^ 20) (hn : n ≤ 10) (hq : q + n ≤ nb) (hat : at0 + 10 ≤ na) : rz_ev mM_same [.ref b, .int (nI q), .int (nI n), .ref a, .int (nI at0)] S (rz_i (fun x S1 => x = nI (smF (fun i => S.1 b (q + i)) (fun i => S.1 a (at0 + i)) n 10 0).toNat ∧ S1 = S)) := by
  have lp : ∀ (k i : Nat) (f : Bool), k + i = 10 → smF (fun i => S.1 b (q + i)) (fun i => S.1 a (at0 + i)) n 10 0 = (f && smF (fun i => S.1 b (q + i)) (fun i => S.1 a (at0 + i)) n k i) → rz mM_same 6 [(0, .ref b), (1, .int (nI q)), (2, .int (nI n)), (3, .ref a), (4, .int (nI at0)), (5, .int (nI f.toNat)), (6, .int (nI i))] [] S (rz_i (fun x S1 => x = nI (smF (fun i => S.1 b (q + i)) (fun i => S.1 a (at0 + i)) n 10 0).toNat ∧ S1 = S)) := by
    intro k
    induction k with
    | zero =>
      intro i f hi he
      refine p_M_same_6 hb ha ⟨fun _ => ⟨?_, ?_, rfl⟩, fun c => absurd (nI_le (a := 10) (by omega) (by omega)) c⟩
      · cases f
        · exact Or.inl rfl
        · exact Or.inr rfl
      · rw [he, smF, Bool.and_true]
    | succ k ih =>
      intro i f hi he
      refine p_M_same_6 hb ha ⟨fun c => ?_, fun _ => ?_⟩
      · have := (nI_leI (a := 10) (by omega) (by omega)).mp c
        omega
      rw [show (nI i + 1 : Int32) = nI (i + 1) from nI_1 i]
      cases f with
      | false =>
        refine ⟨fun _ => ih (i + 1) false (by omega) (by rw [he, Bool.false_and, Bool.false_and]), fun c => absurd rfl c⟩
      | true =>
        rw [smF_s _ _ _ k, Bool.true_and] at he
        refine ⟨fun c => absurd c (by decide), fun _ => ?_⟩
        rw [nI_add, nI_add, nI_clamp (by omega), nI_clamp (by omega)]
        have key : ∀ s0, s0 = pd (fun i => S.1 b (q + i)) n i → rz mM_same 43 [(0, .ref b), (1, .int (nI q)), (2, .int (nI n)), (3, .ref a), (4, .int (nI at0)), (6, .int (nI i))] [.int s0, .int (S.1 a (at0 + i))] S (rz_i (fun x S1 => x = nI (smF (fun i => S.1 b (q + i)) (fun i => S.1 a (at0 + i)) n 10 0).toNat ∧ S1 = S)) := by
          intro s0 e0
          subst e0
          refine p_M_same_43 hb ha ⟨fun e => ?_, fun e => ?_⟩
          · rw [if_pos e] at he
            rw [show (nI i + 1 : Int32) = nI (i + 1) from nI_1 i]
            exact ih (i + 1) true (by omega) (by rw [he, Bool.true_and])
          · rw [if_neg e] at he
            rw [show (nI i + 1 : Int32) = nI (i + 1) from nI_1 i]
            exact ih (i + 1) false (by omega) (by rw [he, Bool.false_and])
        refine ⟨rin (by omega) (by omega), fun c => key _ ?_, fun c => ?_⟩
        · have := (nI_leI (by omega) (by omega)).mp c
          unfold pd
          rw [if_neg (by omega)]
        · have hlt : i < n := Nat.lt_of_not_le fun z => c (nI_le z (by omega))
          exact ⟨rin (by omega) (by omega), key _ (by unfold pd; rw [if_pos hlt])⟩
  show rz _ 0 [(0, .ref b), (1, .int (nI q)), (2, .int (nI n)), (3, .ref a), (4, .int (nI at0))] [] _ _
  exact p_M_same_0 hb ha (lp 10 0 true rfl (by rw [Bool.true_and]))
theorem c_Pattern_isWild (hp : ptP p) (hn : n ≤ 10) (hl : S.2 p 1 = nI n) : rz_ev mPattern_isWild [.ref p] S (rz_i (fun x S1 => x = nI (wlF (S.1 (p + 1)) n 0).toNat ∧ S1 = S)) := by
  have lp : ∀ (k i : Nat), k + i = n → wlF (S.1 (p + 1)) n 0 = wlF (S.1 (p + 1)) k i → rz mPattern_isWild 2 [(0, .ref p), (1, .int (nI i))] [] S (rz_i (fun x S1 => x = nI (wlF (S.1 (p + 1)) n 0).toNat ∧ S1 = S)) := by
    intro k
    induction k with
    | zero =>
      intro i hi he
      refine p_Pattern_isWild_2 hp ⟨fun _ => ⟨by rw [he]; rfl, rfl⟩, fun c => absurd (by rw [hl]; exact nI_le (by omega) (by omega)) c⟩
    | succ k ih =>
      intro i hi he
      rw [wlF] at he
      refine p_Pattern_isWild_2 hp ⟨fun c => ?_, fun _ => ⟨fun c => ?_, fun _ => ⟨rin (by omega) (by omega), ?_⟩⟩⟩
      · rw [hl] at c
        have := (nI_leI (by omega) (by omega)).mp c
        omega
      · have := (nI_leI (a := 10) (by omega) (by omega)).mp c
        omega
      rw [nI_clamp (by omega), show (nI i + 1 : Int32) = nI (i + 1) from nI_1 i]
      refine ⟨fun c => ?_, fun c => ⟨fun d => ?_, fun d => ?_⟩⟩
      · rw [if_pos c] at he
        exact ⟨by rw [he]; rfl, rfl⟩
      · rw [if_neg c, if_pos d] at he
        exact ⟨by rw [he]; rfl, rfl⟩
      · rw [if_neg c, if_neg d] at he
        exact ih (i + 1) (by omega) he
  show rz _ 0 [(0, .ref p)] [] _ _
  exact p_Pattern_isWild_0 hp (lp n 0 (by omega) rfl)
theorem c_M_isWild {q : Nat} (hq : q + n ≤ 401) : rz_ev mM_isWild [.ref 116, .int (nI q), .int (nI n)] S (rz_i (fun x S1 => x = nI (wlF (fun i => S.1 151 (q + i)) n 0).toNat ∧ S1 = S)) := by
  have lp : ∀ (k i : Nat) (f : Bool), k + i = n → wlF (fun i => S.1 151 (q + i)) n 0 = (f || wlF (fun i => S.1 151 (q + i)) k i) → rz mM_isWild 5 [(0, .ref 116), (1, .int (nI q)), (2, .int (nI n)), (3, .int (nI f.toNat)), (4, .int (nI (q + i)))] [] S (rz_i (fun x S1 => x = nI (wlF (fun i => S.1 151 (q + i)) n 0).toNat ∧ S1 = S)) := by
    intro k
    induction k with
    | zero =>
      intro i f hi he
      refine p_M_isWild_5 ⟨fun _ => ⟨?_, ?_, rfl⟩, fun c => absurd (by rw [nI_add]; exact nI_le (by omega) (by omega)) c⟩
      · cases f
        · exact Or.inl rfl
        · exact Or.inr rfl
      · rw [he, wlF, Bool.or_false]
    | succ k ih =>
      intro i f hi he
      refine p_M_isWild_5 ⟨fun c => ?_, fun _ => ?_⟩
      · rw [nI_add] at c
        have := (nI_leI (by omega) (by omega)).mp c
        omega
      rw [show (nI (q + i) + 1 : Int32) = nI (q + (i + 1)) from nI_1 (q + i)]
      cases f with
      | true => exact ⟨fun c => absurd c (by decide), fun _ => ih (i + 1) true (by omega) (by rw [he, Bool.true_or, Bool.true_or])⟩
      | false =>
        rw [wlF, Bool.false_or] at he
        refine ⟨fun _ => ⟨rin (by omega) (by omega), ?_⟩, fun c => absurd rfl c⟩
        rw [nI_clamp (by omega)]
        refine ⟨fun c => ?_, fun c => ⟨fun d => ?_, fun d => ?_⟩⟩
        · rw [if_pos c] at he
          exact ih (i + 1) true (by omega) (by rw [he, Bool.true_or])
        · rw [if_neg c, if_pos d] at he
          exact ih (i + 1) true (by omega) (by rw [he, Bool.true_or])
        · rw [if_neg c, if_neg d] at he
          exact ih (i + 1) false (by omega) (by rw [he, Bool.false_or])
  show rz _ 0 [(0, .ref 116), (1, .int (nI q)), (2, .int (nI n))] [] _ _
  exact p_M_isWild_0 (lp n 0 false (by omega) (by rw [Bool.false_or]))
/-- a NAME laid into a row -/
def nmR (F nm : Nat → Int32) (n at0 : Nat) : Nat → Int32 := fun j => if at0 ≤ j ∧ j < at0 + 10 then pd nm n (j - at0) else F j
theorem c_Pattern_putInto (hp : ptP p) (ha : rz_T[a]? = some (.inl (0, 64))) (hap : a ≠ p + 1) (hn : n ≤ 10) (hl : S.2 p 1 = nI n) (hat : at0 + 10 ≤ 64) : rz_ev mPattern_putInto [.ref p, .ref a, .int (nI at0)] S (rz_v (fun S1 => S1 = rz_fA S a (nmR (S.1 a) (S.1 (p + 1)) n at0))) := by
  have lp : ∀ (k i : Nat) (T : rz_S), k + i = 10 → T = rz_fA S a (fun j => if at0 ≤ j ∧ j < at0 + i then pd (S.1 (p + 1)) n (j - at0) else S.1 a j) → rz mPattern_putInto 2 [(0, .ref p), (1, .ref a), (2, .int (nI at0)), (3, .int (nI i))] [] T (rz_v (fun S1 => S1 = rz_fA S a (nmR (S.1 a) (S.1 (p + 1)) n at0))) := by
    intro k
    induction k with
    | zero =>
      intro i T hi he
      have e : i = 10 := by omega
      subst e
      exact p_Pattern_putInto_2 hp ha ⟨fun _ => he, fun c => absurd (by decide) c⟩
    | succ k ih =>
      intro i T hi he
      refine p_Pattern_putInto_2 hp ha ⟨fun c => ?_, fun _ => ⟨fun c => absurd c (nI_pos (by omega)), fun _ => ⟨fun c => ?_, fun _ => ?_⟩⟩⟩
      · have := (nI_leI (a := 10) (by omega) (by omega)).mp c
        omega
      · rw [nI_add] at c
        have := (nI_leI (a := 64) (by omega) (by omega)).mp c
        omega
      have e1 : T.1 (p + 1) = S.1 (p + 1) := by rw [he]; exact rz_fA_n (by omega)
      refine rz_toI (c_Pattern_padded hp hn (by rw [he]; exact hl) (by omega)) ?_
      rw [nI_add, nI_clamp (by omega), show (nI i + 1 : Int32) = nI (i + 1) from nI_1 i]
      refine ⟨rin (by omega) (by omega), ih (i + 1) _ (by omega) ?_⟩
      rw [e1, he, rz_fA_s, rz_fAA]
      congr 1
      funext j
      by_cases q : j = at0 + i
      · subst q
        rw [pk_us, if_pos ⟨by omega, by omega⟩, show at0 + i - at0 = i by omega]
      · rw [pk_un q]
        by_cases z : at0 ≤ j ∧ j < at0 + i
        · rw [if_pos z, if_pos ⟨z.1, by omega⟩]
        · rw [if_neg z, if_neg (by omega)]
  show rz _ 0 [(0, .ref p), (1, .ref a), (2, .int (nI at0))] [] _ _
  refine p_Pattern_putInto_0 hp ha (lp 10 0 S rfl ?_)
  have : (fun j => if at0 ≤ j ∧ j < at0 + 0 then pd (S.1 (p + 1)) n (j - at0) else S.1 a j) = S.1 a := by
    funext j
    rw [if_neg (by omega)]
  rw [this, rz_fA_id]
end PAT
