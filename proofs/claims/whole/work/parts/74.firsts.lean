/-! the FIRST bytes of a ROUND: the class by cells, the reference by bits -/
def isF (b : Nat → Bool) (N p : Nat) : Prop := b p = false ∧ rn b N p = 10
theorem rn_ones {b : Nat → Bool} {N p : Nat} (hb : rgb b N) (hN : 11 ≤ N) : ∀ n, (∀ i, i < n → b (p + i) = true) → rn b N (p + n) = min 10 (rn b N p + n) := by
  intro n
  induction n with
  | zero =>
    intro _
    have := rn_le b N p
    show rn b N p = _
    omega
  | succ n ih =>
    intro h
    rw [show p + (n + 1) = p + n + 1 by omega, rn_s hb hN, if_pos (h n (by omega)), ih (fun i hi => h i (by omega))]
    omega
theorem rn_add {b : Nat → Bool} {N p : Nat} (hb : rgb b N) (hN : 11 ≤ N) : ∀ n, rn b N (p + n) ≤ rn b N p + n := by
  intro n
  induction n with
  | zero => exact Nat.le_refl _
  | succ n ih =>
    rw [show p + (n + 1) = p + n + 1 by omega, rn_s hb hN]
    split <;> omega
theorem rn_z {b : Nat → Bool} {N p : Nat} (hb : rgb b N) (hN : 11 ≤ N) (h : b p = false) : rn b N (p + 1) = 0 := by
  rw [rn_s hb hN, h]; rfl
/-- what a cell has: j leading ones as far as they are counted, u ones at its end -/
theorem cell_no {b : Nat → Bool} {N p : Nat} (hb : rgb b N) (hN : 11 ≤ N) (h : ∀ i, i < 8 → b (p + i) = true) : ∀ i, i < 8 → ¬ isF b N (p + i) := by
  intro i hi z
  have := z.1
  rw [h i hi] at this
  cases this
theorem cell_at {b : Nat → Bool} {N p j : Nat} (hb : rgb b N) (hN : 11 ≤ N) (hj : j < 8) (h1 : ∀ i, i < j → b (p + i) = true) (h2 : b (p + j) = false) : ∀ i, i < 8 → (isF b N (p + i) ↔ i = j ∧ 10 ≤ rn b N p + j) := by
  intro i hi
  rcases Nat.lt_trichotomy i j with c | c | c
  · constructor
    · intro z
      have := z.1
      rw [h1 i c] at this
      cases this
    · intro z; omega
  · subst c
    constructor
    · intro z
      have := z.2
      rw [rn_ones hb hN i h1] at this
      exact ⟨rfl, by omega⟩
    · intro z
      exact ⟨h2, by rw [rn_ones hb hN i h1]; omega⟩
  · constructor
    · intro z
      have := rn_after hb hN h2 (i - j) (by omega) (by omega)
      rw [show p + j + (i - j) = p + i by omega, z.2] at this
      omega
    · intro z; omega
theorem cell_small {b : Nat → Bool} {N p : Nat} (hb : rgb b N) (hN : 11 ≤ N) (h : rn b N p < 3) : ∀ i, i < 8 → ¬ isF b N (p + i) := by
  intro i hi z
  have := rn_add (p := p) hb hN i
  rw [z.2] at this
  omega
section NF
variable {S : rz_S} {k : Nat} {b : Nat → Bool} {K : Int32 → rz_S → Prop}
theorem lp_nextFirst_66 (hk : rgP k) {a1 : Int32} {j c : Nat} {T : rz_S} (kk : ∀ u, u ≤ 8 → (∀ i, i < u → b (8 * c + (7 - i)) = true) → (u = 8 ∨ b (8 * c + (7 - u)) = false) → rz mRing_nextFirst 89 [(0, .ref k), (1, .int a1), (3, .int (nI j)), (4, .int (nI u))] [] T (rz_i K)) : ∀ (m u : Nat), 8 < m + u → u ≤ 8 → (∀ i, i < u → b (8 * c + (7 - i)) = true) → rz mRing_nextFirst 66 [(0, .ref k), (1, .int a1), (2, .int (by8 b (8 * c))), (3, .int (nI j)), (4, .int (nI u))] [] T (rz_i K) := by
  intro m
  induction m with
  | zero => intro u h1 h2; omega
  | succ m ih =>
    intro u h1 h2 h3
    refine p_Ring_nextFirst_66 hk ⟨fun d => ?_, fun d => ?_⟩
    · have : 8 ≤ u := (nI_leI (a := 8) (by omega) (by omega)).mp d
      exact kk u h2 h3 (Or.inl (by omega))
    · have hu : ¬ 8 ≤ u := fun z => d (nI_le (a := 8) z (by omega))
      rw [bit_one (by omega), b_by8 (by omega), decide_eq_true (by omega), Bool.true_and, nI_1]
      refine ⟨fun z => ?_, fun z => ?_⟩
      · have e := (nI_b1 _).mp z
        refine ih (u + 1) (by omega) (by omega) (fun i hi => ?_)
        by_cases e2 : i = u
        · subst e2; exact e
        · exact h3 i (by omega)
      · exact kk u h2 h3 (Or.inr (Bool.eq_false_iff.mpr fun e => z ((nI_b1 _).mpr e)))
theorem lp_nextFirst_34 (hk : rgP k) {a1 : Int32} {c r : Nat} {T : rz_S} (hr : T.2 k 7 = nI r) (hr2 : r ≤ 10) (kk : ∀ j, j ≤ 8 → (∀ i, i < j → b (8 * c + i) = true) → (j = 8 ∨ (r < 3 ∧ j = 0) ∨ (3 ≤ r ∧ b (8 * c + j) = false)) → rz mRing_nextFirst 66 [(0, .ref k), (1, .int a1), (2, .int (by8 b (8 * c))), (3, .int (nI j)), (4, .int 0)] [] T (rz_i K)) : ∀ (m j : Nat), 8 < m + j → j ≤ 8 → (r < 3 → j = 0) → (∀ i, i < j → b (8 * c + i) = true) → rz mRing_nextFirst 34 [(0, .ref k), (1, .int a1), (2, .int (by8 b (8 * c))), (3, .int (nI j)), (4, .int 0)] [] T (rz_i K) := by
  intro m
  induction m with
  | zero => intro j h1 h2; omega
  | succ m ih =>
    intro j h1 h2 h4 h3
    refine p_Ring_nextFirst_34 hk ?_
    rw [hr]
    refine ⟨fun d => ?_, fun d => ⟨fun d2 => ?_, fun d2 => ?_⟩⟩
    · have : 8 ≤ j := (nI_leI (a := 8) (by omega) (by omega)).mp d
      exact kk j h2 h3 (Or.inl (by omega))
    · have : r < 3 := (nI_ltI (b := 3) (by omega) (by omega)).mp d2
      exact kk j h2 h3 (Or.inr (Or.inl ⟨this, h4 this⟩))
    · have hj : ¬ 8 ≤ j := fun z => d (nI_le (a := 8) z (by omega))
      have hr3 : ¬ r < 3 := fun z => d2 (nI_lt (b := 3) z (by omega))
      rw [show (7 : Int32) - nI j = nI (7 - j) from pk_sub (a := 7) (by omega), bit_one (by omega), b_by8 (by omega), decide_eq_true (by omega), Bool.true_and, nI_1, show 7 - (7 - j) = j by omega]
      refine ⟨fun z => ?_, fun z => ?_⟩
      · have e := (nI_b1 _).mp z
        refine ih (j + 1) (by omega) (by omega) (fun z => absurd z hr3) (fun i hi => ?_)
        by_cases e2 : i = j
        · subst e2; exact e
        · exact h3 i (by omega)
      · exact kk j h2 h3 (Or.inr (Or.inr ⟨by omega, Bool.eq_false_iff.mpr fun e => z ((nI_b1 _).mpr e)⟩))
end NF
/-- the class's ROUND is looked through up to the cell c -/
def RgR (b : Nat → Bool) (S : rz_S) (k c : Nat) : Prop := S.2 k 6 = nI c ∧ S.2 k 7 = nI (rn b (8 * rgN k) (8 * c))
def NFpost (b : Nat → Bool) (S : rz_S) (k c : Nat) (x : Int32) (S1 : rz_S) : Prop := RgF S k S1 ∧
  ((∃ p c', 8 * c ≤ p ∧ p < 8 * rgN k ∧ isF b (8 * rgN k) p ∧ (∀ p', 8 * c ≤ p' → p' < p → ¬ isF b (8 * rgN k) p') ∧ x = nI p ∧ c' ≤ rgN k ∧ RgR b S1 k c' ∧ p < 8 * c' ∧ (∀ p', p < p' → p' < 8 * c' → ¬ isF b (8 * rgN k) p')) ∨
   ((∀ p', 8 * c ≤ p' → p' < 8 * rgN k → ¬ isF b (8 * rgN k) p') ∧ x = -1))
theorem lp_nextFirst {S : rz_S} {k : Nat} {b : Nat → Bool} (hk : rgP k) (hb : rgb b (8 * rgN k)) (h : RgH S k b) (c0 : Nat) : ∀ (m c : Nat) (T : rz_S), rgN k < m + c → c ≤ rgN k → c0 ≤ c → RgF S k T → RgR b T k c → (∀ p', 8 * c0 ≤ p' → p' < 8 * c → ¬ isF b (8 * rgN k) p') → rz mRing_nextFirst 2 [(0, .ref k), (1, .int (-1))] [] T (rz_i (NFpost b S k c0)) := by
  have hN := rgN_b hk
  have hN11 : 11 ≤ 8 * rgN k := by omega
  intro m
  induction m with
  | zero => intro c T h1 h2; omega
  | succ m ih =>
    intro c T h1 h2 h3 hF hR hno
    have hTH := RgF_H h hF
    refine p_Ring_nextFirst_2 hk ?_
    rw [hR.1]
    refine ⟨fun d => ?_, fun d => ⟨fun _ => ?_, fun z => absurd rfl z⟩⟩
    · have : rgN k ≤ c := (nI_leI (by omega) (by omega)).mp d
      exact ⟨hF, Or.inr ⟨fun p' q1 q2 => hno p' q1 (by omega), rfl⟩⟩
    · have hc : ¬ rgN k ≤ c := fun z => d (nI_le z (by omega))
      have hle := rn_le b (8 * rgN k) (8 * c)
      refine ⟨rin (by omega) (by omega), ?_⟩
      rw [nI_clamp (by omega), hTH.2 c (by omega)]
      refine lp_nextFirst_34 hk hR.2 hle (fun j hj hj1 hj2 => ?_) 9 0 (by omega) (by omega) (fun _ => rfl) (fun i hi => by omega)
      refine lp_nextFirst_66 hk (fun u hu hu1 hu2 => ?_) 9 0 (by omega) (by omega) (fun i hi => by omega)
      refine p_Ring_nextFirst_89 hk ?_
      rw [hR.2, hR.1]
      refine ⟨fun e8 => ?_, fun e8 => ?_⟩
      · -- all ones
        have u8 : u = 8 := (nI_eq (b := 8) (by omega) (by omega)).mp e8
        subst u8
        have ones : ∀ i, i < 8 → b (8 * c + i) = true := fun i hi => by
          have := hu1 (7 - i) (by omega)
          rw [show 7 - (7 - i) = i by omega] at this
          exact this
        have er := rn_ones (p := 8 * c) hb hN11 8 ones
        have nof : ∀ p', 8 * c0 ≤ p' → p' < 8 * (c + 1) → ¬ isF b (8 * rgN k) p' := by
          intro p' q1 q2
          by_cases z : p' < 8 * c
          · exact hno p' q1 z
          · have := cell_no hb hN11 ones (p' - 8 * c) (by omega)
            rw [show 8 * c + (p' - 8 * c) = p' by omega] at this
            exact this
        have go : ∀ x : Int32, x = nI (rn b (8 * rgN k) (8 * c + 8)) → rz mRing_nextFirst 2 [(0, .ref k), (1, .int (-1))] [] (rz_uI (rz_uI T k 7 x) k 6 (nI c + 1)) (rz_i (NFpost b S k c0)) := by
          intro x hx
          rw [nI_1]
          exact ih (c + 1) _ (by omega) (by omega) (by omega) (RgF_u (RgF_u hF (by omega)) (by omega)) ⟨rz_uI_s, (rz_uI_n (by omega)).trans (rz_uI_s.trans hx)⟩ nof
        rw [show (8 : Int32) = nI 8 from rfl, nI_add]
        refine ⟨fun z => go _ ?_, fun z => go _ ?_⟩
        · have : 10 ≤ rn b (8 * rgN k) (8 * c) + 8 := (nI_leI (a := 10) (by omega) (by omega)).mp z
          rw [er, show min 10 (rn b (8 * rgN k) (8 * c) + 8) = 10 by omega]
          rfl
        · have : ¬ 10 ≤ rn b (8 * rgN k) (8 * c) + 8 := fun z2 => z (nI_le (a := 10) z2 (by omega))
          rw [er, show min 10 (rn b (8 * rgN k) (8 * c) + 8) = rn b (8 * rgN k) (8 * c) + 8 by omega]
      · -- a 0 in the cell
        have u8 : ¬ u = 8 := fun z => e8 (by rw [z]; rfl)
        have hz : b (8 * c + (7 - u)) = false := hu2.resolve_left u8
        have eu : rn b (8 * rgN k) (8 * c + 8) = u := by
          have e0 := rn_z hb hN11 hz
          have := rn_ones (p := 8 * c + (7 - u) + 1) hb hN11 u (fun i hi => by
            have := hu1 (u - 1 - i) (by omega)
            rw [show 8 * c + (7 - (u - 1 - i)) = 8 * c + (7 - u) + 1 + i by omega] at this
            exact this)
          rw [show 8 * c + (7 - u) + 1 + u = 8 * c + 8 by omega, e0] at this
          omega
        have j8 : j ≠ 8 := fun z => by
          have := hj1 (7 - u) (by omega)
          rw [hz] at this
          cases this
        have hR2 : RgR b (rz_uI (rz_uI T k 7 (nI u)) k 6 (nI c + 1)) k (c + 1) := ⟨by rw [nI_1]; exact rz_uI_s, by rw [show 8 * (c + 1) = 8 * c + 8 by omega, eu]; exact (rz_uI_n (by omega)).trans rz_uI_s⟩
        have hF2 : RgF S k (rz_uI (rz_uI T k 7 (nI u)) k 6 (nI c + 1)) := RgF_u (RgF_u hF (by omega)) (by omega)
        rw [nI_add]
        refine ⟨fun z => p_Ring_nextFirst_151 hk ?_, fun z => p_Ring_nextFirst_151 hk ?_⟩
        · have z2 : rn b (8 * rgN k) (8 * c) + j < 10 := (nI_ltI (b := 10) (by omega) (by omega)).mp z
          have nof : ∀ p', 8 * c0 ≤ p' → p' < 8 * (c + 1) → ¬ isF b (8 * rgN k) p' := by
            intro p' q1 q2
            by_cases zz : p' < 8 * c
            · exact hno p' q1 zz
            · have e : 8 * c + (p' - 8 * c) = p' := by omega
              rcases hj2 with hj2 | ⟨hj2, _⟩ | ⟨hj2, hj3⟩
              · exact absurd hj2 j8
              · have := cell_small hb hN11 hj2 (p' - 8 * c) (by omega)
                rw [e] at this
                exact this
              · have := cell_at hb hN11 (by omega) hj1 hj3 (p' - 8 * c) (by omega)
                rw [e] at this
                intro q
                have := this.mp q
                omega
          rw [hR.1]
          exact ih (c + 1) _ (by omega) (by omega) (by omega) hF2 hR2 nof
        · have z2 : ¬ rn b (8 * rgN k) (8 * c) + j < 10 := fun z3 => z (nI_lt (b := 10) z3 (by omega))
          have hj3 : b (8 * c + j) = false := by
            rcases hj2 with hj2 | ⟨hj2, hj3⟩ | ⟨hj2, hj3⟩
            · exact absurd hj2 j8
            · omega
            · exact hj3
          have hat := cell_at hb hN11 (by omega) hj1 hj3
          rw [hR.1, show (8 : Int32) = nI 8 from rfl, pk_mul, nI_add]
          refine p_Ring_nextFirst_2 hk ?_
          have hfin : NFpost b S k c0 (nI (8 * c + j)) (rz_uI (rz_uI T k 7 (nI u)) k 6 (nI c + 1)) := by
            refine ⟨hF2, Or.inl ⟨8 * c + j, c + 1, by omega, by omega, (hat j (by omega)).mpr ⟨rfl, by omega⟩, fun p' q1 q2 => ?_, rfl, by omega, hR2, by omega, fun p' q1 q2 => ?_⟩⟩
            · by_cases zz : p' < 8 * c
              · exact hno p' q1 zz
              · have := hat (p' - 8 * c) (by omega)
                rw [show 8 * c + (p' - 8 * c) = p' by omega] at this
                intro q
                have := this.mp q
                omega
            · have := hat (p' - 8 * c) (by omega)
              rw [show 8 * c + (p' - 8 * c) = p' by omega] at this
              intro q
              have := this.mp q
              omega
          refine ⟨fun _ => hfin, fun _ => ⟨fun z3 => ?_, fun _ => hfin⟩⟩
          exact absurd z3 (fun z4 => by
            have := congrArg Int32.toInt z4
            rw [nI_toInt (by omega)] at this
            have e : ((-1 : Int32)).toInt = -1 := by decide
            omega)
theorem c_Ring_nextFirst {S : rz_S} {k c : Nat} {b : Nat → Bool} (hk : rgP k) (hb : rgb b (8 * rgN k)) (h : RgH S k b) (hc : c ≤ rgN k) (hR : RgR b S k c) : rz_ev mRing_nextFirst [.ref k] S (rz_i (NFpost b S k c)) := by
  show rz _ 0 [(0, .ref k)] [] _ _
  exact p_Ring_nextFirst_0 hk (lp_nextFirst hk hb h c (rgN k + 1) c S (by omega) hc (Nat.le_refl _) (RgF_r S k) hR (fun p' q1 q2 => by omega))
theorem c_Ring_startRound {S : rz_S} {k : Nat} (hk : rgP k) (x : Int32) : rz_ev mRing_startRound [.ref k, .int x] S (rz_v (fun S1 => S1 = rz_uI (rz_uI S k 6 0) k 7 x)) := by
  show rz _ 0 [(0, .ref k), (1, .int x)] [] _ _
  exact p_Ring_startRound_0 hk rfl
