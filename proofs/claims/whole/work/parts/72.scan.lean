/-! along a ring: runs of ones, the byte that comes next -/
def rnf (b : Nat → Bool) (p : Nat) : Nat → Nat → Nat
  | 0, i => i
  | f + 1, i => if b (p - 1 - i) = true then rnf b p f (i + 1) else i
/-- how many ones lie right ahead of p, ten at most -/
def rn (b : Nat → Bool) (N p : Nat) : Nat := rnf b (p + N) 10 0
def RN (b : Nat → Bool) (N p c : Nat) : Prop := c ≤ 10 ∧ (∀ i, i < c → b (p + N - 1 - i) = true) ∧ (c = 10 ∨ b (p + N - 1 - c) = false)
theorem rnf_RN {b : Nat → Bool} {N p : Nat} : ∀ (f i : Nat), f + i = 10 → (∀ j, j < i → b (p + N - 1 - j) = true) → RN b N p (rnf b (p + N) f i) := by
  intro f
  induction f with
  | zero =>
    intro i h1 h2
    exact ⟨by show i ≤ 10; omega, h2, Or.inl (by show i = 10; omega)⟩
  | succ f ih =>
    intro i h1 h2
    unfold rnf
    by_cases c : b (p + N - 1 - i) = true
    · rw [if_pos c]
      refine ih (i + 1) (by omega) (fun j hj => ?_)
      by_cases e : j = i
      · subst e; exact c
      · exact h2 j (by omega)
    · rw [if_neg c]
      exact ⟨by omega, h2, Or.inr (Bool.eq_false_iff.mpr c)⟩
theorem rn_RN (b : Nat → Bool) (N p : Nat) : RN b N p (rn b N p) := rnf_RN 10 0 (by omega) (fun j hj => by omega)
theorem RN_u {b : Nat → Bool} {N p c d : Nat} (h1 : RN b N p c) (h2 : RN b N p d) : c = d := by
  obtain ⟨a1, a2, a3⟩ := h1
  obtain ⟨b1, b2, b3⟩ := h2
  rcases Nat.lt_trichotomy c d with h | h | h
  · rcases a3 with a3 | a3
    · omega
    · have := b2 c h
      rw [a3] at this
      cases this
  · exact h
  · rcases b3 with b3 | b3
    · omega
    · have := a2 d h
      rw [b3] at this
      cases this
theorem rn_le (b : Nat → Bool) (N p : Nat) : rn b N p ≤ 10 := (rn_RN b N p).1
theorem rn_s {b : Nat → Bool} {N p : Nat} (hb : rgb b N) (hN : 11 ≤ N) : rn b N (p + 1) = if b p = true then min 10 (rn b N p + 1) else 0 := by
  have h := rn_RN b N p
  refine RN_u (rn_RN b N (p + 1)) ?_
  have e0 : b (p + 1 + N - 1 - 0) = b p := by
    rw [show p + 1 + N - 1 - 0 = p + N by omega]
    exact rgb_w hb
  by_cases c : b p = true
  · rw [if_pos c]
    refine ⟨by omega, fun i hi => ?_, ?_⟩
    · cases i with
      | zero => rw [e0]; exact c
      | succ i =>
        rw [show p + 1 + N - 1 - (i + 1) = p + N - 1 - i by omega]
        exact h.2.1 i (by omega)
    · rcases h.2.2 with h3 | h3
      · exact Or.inl (by omega)
      · by_cases z : rn b N p + 1 < 10
        · right
          rw [show p + 1 + N - 1 - min 10 (rn b N p + 1) = p + N - 1 - rn b N p by omega]
          exact h3
        · exact Or.inl (by omega)
  · rw [if_neg c]
    refine ⟨by omega, fun i hi => by omega, Or.inr ?_⟩
    rw [e0]
    exact Bool.eq_false_iff.mpr c
theorem rn_w {b : Nat → Bool} {N p : Nat} (hb : rgb b N) (hN : 11 ≤ N) : rn b N (p + N) = rn b N p := by
  have h := rn_RN b N p
  refine RN_u (rn_RN b N (p + N)) ⟨h.1, fun i hi => ?_, ?_⟩
  · have := h.1
    rw [show p + N + N - 1 - i = p + N - 1 - i + N by omega, rgb_w hb]
    exact h.2.1 i hi
  · rcases h.2.2 with h3 | h3
    · exact Or.inl h3
    · right
      have := h.1
      rw [show p + N + N - 1 - rn b N p = p + N - 1 - rn b N p + N by omega, rgb_w hb]
      exact h3
theorem rn_m {b : Nat → Bool} {N : Nat} (hb : rgb b N) (hN : 11 ≤ N) : ∀ p, rn b N (p % N) = rn b N p := by
  intro p
  have : ∀ k q, rn b N (q + N * k) = rn b N q := by
    intro k
    induction k with
    | zero => intro q; rfl
    | succ k ih =>
      intro q
      rw [show q + N * (k + 1) = q + N * k + N by rw [Nat.mul_succ]; omega, rn_w hb hN, ih]
  have e := Nat.mod_add_div p N
  rw [← this (p / N) (p % N), e]
/-- the next byte's end, and whether it is FIRST: q where one is, m bits of it have come -/
def nx (b : Nat → Bool) (N : Nat) : Nat → Nat → Nat → Bool → Option (Nat × Bool)
  | 0, _, _, _ => none
  | n + 1, q, m, f => if m = 8 then some (q, f) else nx b N n (q + 1) (if rn b N (q + 1) = 10 then 0 else m + 1) (f || (!(b q) && decide (rn b N q = 10)))
theorem nx_mono {b : Nat → Bool} {N : Nat} : ∀ {n q m : Nat} {f : Bool} {z : Nat × Bool}, nx b N n q m f = some z → nx b N (n + 1) q m f = some z := by
  intro n
  induction n with
  | zero => intro q m f z h; cases h
  | succ n ih =>
    intro q m f z h
    rw [nx] at h ⊢
    by_cases c : m = 8
    · rw [if_pos c] at h ⊢; exact h
    · rw [if_neg c] at h ⊢; exact ih h
theorem nx_le {b : Nat → Bool} {N n n' q m : Nat} {f : Bool} {z : Nat × Bool} (h : nx b N n q m f = some z) (hn : n ≤ n') : nx b N n' q m f = some z := by
  induction hn with
  | refl => exact h
  | step _ ih => exact nx_mono ih
/-- no MARK within the byte -/
theorem nx_plain {b : Nat → Bool} {N q : Nat} {f : Bool} (hb : rgb b N) (hN : 11 ≤ N) : ∀ (k m : Nat), k + m = 8 → (∀ j, j ≤ k → ¬ rn b N (q + j) = 10) → nx b N (k + 1) q m f = some (q + k, f) := by
  intro k
  induction k generalizing q with
  | zero =>
    intro m h1 h2
    rw [nx, if_pos (by omega)]
    rfl
  | succ k ih =>
    intro m h1 h2
    rw [nx, if_neg (by omega), if_neg (h2 1 (by omega)), decide_eq_false (show ¬ rn b N q = 10 from h2 0 (by omega)), Bool.and_false, Bool.or_false]
    rw [ih (q := q + 1) (m + 1) (by omega) (fun j hj => by rw [show q + 1 + j = q + (j + 1) by omega]; exact h2 (j + 1) (by omega))]
    rw [show q + 1 + k = q + (k + 1) by omega]
/-- behind a 0 at which one is, eight bits have no MARK -/
theorem rn_after {b : Nat → Bool} {N q : Nat} (hb : rgb b N) (hN : 11 ≤ N) (h0 : b q = false) : ∀ j, 1 ≤ j → j ≤ 10 → rn b N (q + j) ≤ j - 1 := by
  intro j
  induction j with
  | zero => intro h; omega
  | succ j ih =>
    intro _ h2
    rw [show q + (j + 1) = q + j + 1 by omega, rn_s hb hN]
    cases j with
    | zero =>
      rw [show q + 0 = q from rfl, h0]
      simp
    | succ j =>
      have := ih (by omega) (by omega)
      by_cases c : b (q + (j + 1)) = true
      · rw [if_pos c]; omega
      · rw [if_neg c]; omega
theorem nx_first {b : Nat → Bool} {N q m : Nat} {f : Bool} (hb : rgb b N) (hN : 11 ≤ N) (h0 : b q = false) (h1 : rn b N q = 10) (hm : m = 0) : nx b N 9 q m f = some (q + 8, true) := by
  subst hm
  rw [nx, if_neg (by omega), h0, decide_eq_true h1]
  have e : ¬ rn b N (q + 1) = 10 := by have := rn_after hb hN h0 1 (by omega) (by omega); omega
  rw [if_neg e]
  simp only [Bool.not_false, Bool.and_self, Bool.or_true]
  have := nx_plain (f := true) (q := q + 1) hb hN 7 1 (by omega) (fun j hj => by
    have := rn_after hb hN h0 (1 + j) (by omega) (by omega)
    rw [show q + 1 + j = q + (1 + j) by omega]
    omega)
  rw [this]
/-- in a MARK, the next 0 at z -/
theorem nx_mark {b : Nat → Bool} {N : Nat} {f : Bool} (hb : rgb b N) (hN : 11 ≤ N) : ∀ (k q : Nat), rn b N q = 10 → (∀ j, j < k → b (q + j) = true) → b (q + k) = false → nx b N (k + 9) q 0 f = some (q + k + 8, true) := by
  intro k
  induction k with
  | zero =>
    intro q h1 _ h3
    exact nx_first hb hN h3 h1 rfl
  | succ k ih =>
    intro q h1 h2 h3
    have c : b q = true := h2 0 (by omega)
    have e : rn b N (q + 1) = 10 := by rw [rn_s hb hN, if_pos c, h1]; rfl
    rw [show k + 1 + 9 = (k + 9) + 1 by omega, nx, if_neg (by omega), if_pos e]
    have : (f || (!(b q) && decide (rn b N q = 10))) = f := by rw [c]; simp
    rw [this, ih (q + 1) e (fun j hj => by rw [show q + 1 + j = q + (j + 1) by omega]; exact h2 (j + 1) (by omega)) (by rw [show q + 1 + k = q + (k + 1) by omega]; exact h3)]
    rw [show q + 1 + k + 8 = q + (k + 1) + 8 by omega]
/-- a MARK comes within the byte: j bits, all ones -/
theorem nx_into {b : Nat → Bool} {N : Nat} {f : Bool} (hb : rgb b N) (hN : 11 ≤ N) : ∀ (j q m k : Nat), m + j ≤ 8 → m ≠ 8 → rn b N (q + j) = 10 → (∀ i, i < j → ¬ rn b N (q + i) = 10) → (j = 0 → m = 0) → (∀ i, i < k → b (q + j + i) = true) → b (q + j + k) = false → nx b N (j + k + 9) q m f = some (q + j + k + 8, true) := by
  intro j
  induction j with
  | zero =>
    intro q m k h1 h1' h2 h3 h4 h5 h6
    have := h4 rfl
    subst this
    rw [show 0 + k + 9 = k + 9 by omega]
    exact nx_mark hb hN k q h2 h5 h6
  | succ j ih =>
    intro q m k h1 h1' h2 h3 h4 h5 h6
    rw [show j + 1 + k + 9 = (j + k + 9) + 1 by omega, nx, if_neg h1']
    rw [show (f || (!(b q) && decide (rn b N q = 10))) = f by rw [decide_eq_false (show ¬ rn b N q = 10 from h3 0 (by omega))]; simp]
    have e1 : ∀ i, q + 1 + i = q + (i + 1) := fun i => by omega
    by_cases c : rn b N (q + 1) = 10
    · have : j = 0 := by
        cases j with
        | zero => rfl
        | succ j => exact absurd c (h3 1 (by omega))
      subst this
      rw [if_pos c, ih (q + 1) 0 k (by omega) (by omega) c (fun i hi => by omega) (fun _ => rfl) h5 h6]
    · have hj : j ≠ 0 := fun z => by subst z; exact c h2
      rw [if_neg c, ih (q + 1) (m + 1) k (by omega) (by omega) (by rw [e1]; exact h2) (fun i hi => by rw [e1]; exact h3 (i + 1) (by omega)) (fun z => by subst z; exact absurd h2 c) (fun i hi => by rw [e1]; exact h5 i hi) (by rw [e1]; exact h6)]
      rw [e1]
/-- a 0 within N bits -/
theorem zero_in {b : Nat → Bool} {N z0 : Nat} (hb : rgb b N) (hz : z0 < N) (h0 : b z0 = false) (q : Nat) : ∃ i, i < N ∧ b (q + i) = false := by
  have hr : q % N < N := Nat.mod_lt _ (by omega)
  have hq := Nat.div_add_mod q N
  by_cases c : q % N ≤ z0
  · refine ⟨z0 - q % N, by omega, ?_⟩
    rw [hb, show q + (z0 - q % N) = N * (q / N) + z0 by omega, Nat.mul_add_mod, Nat.mod_eq_of_lt hz]
    exact h0
  · refine ⟨N + z0 - q % N, by omega, ?_⟩
    rw [hb, show q + (N + z0 - q % N) = N * (q / N + 1) + z0 by rw [Nat.mul_succ]; omega, Nat.mul_add_mod, Nat.mod_eq_of_lt hz]
    exact h0
/-- what comes next: eight bits without a MARK, or the FIRST byte behind the next MARK -/
theorem nx_cases {b : Nat → Bool} {N z0 : Nat} (hb : rgb b N) (hN : 11 ≤ N) (hz : z0 < N) (h0 : b z0 = false) (q : Nat) :
    ((∀ j, j ≤ 8 → ¬ rn b N (q + j) = 10) ∧ nx b N 9 q 0 false = some (q + 8, false)) ∨
    (∃ z, q ≤ z ∧ z < q + N ∧ b z = false ∧ rn b N z = 10 ∧ (∀ i, q ≤ i → i < z → b i = true) ∧ nx b N (z - q + 9) q 0 false = some (z + 8, true)) := by
  by_cases c : ∃ j, j ≤ 8 ∧ rn b N (q + j) = 10
  · right
    obtain ⟨j, ⟨h1, h2⟩, h3⟩ := pk_least (fun j => j ≤ 8 ∧ rn b N (q + j) = 10) c
    obtain ⟨i0, hi0, hb0⟩ := zero_in hb hz h0 q
    obtain ⟨i, h4, h5⟩ := pk_least (fun i => b (q + i) = false) ⟨i0, hb0⟩
    have hii : i ≤ i0 := Nat.le_of_not_lt fun z => h5 i0 z hb0
    have hones : ∀ u, u < j → b (q + u) = true := by
      intro u hu
      have hR := rn_RN b N (q + j)
      rw [h2] at hR
      have := hR.2.1 (j - 1 - u) (by omega)
      rw [show q + j + N - 1 - (j - 1 - u) = q + u + N by omega, rgb_w hb] at this
      exact this
    have hji : j ≤ i := Nat.le_of_not_lt fun z => by
      have := hones i z
      rw [h4] at this
      cases this
    have e1 : ∀ u, u < i → b (q + u) = true := fun u hu => by
      have := h5 u hu
      simpa using this
    have hnx := nx_into (f := false) hb hN j q 0 (i - j) (by omega) (by omega) h2 (fun u hu z => h3 u hu ⟨by omega, z⟩) (fun _ => rfl) (fun u hu => by rw [show q + j + u = q + (j + u) by omega]; exact e1 _ (by omega)) (by rw [show q + j + (i - j) = q + i by omega]; exact h4)
    refine ⟨q + i, by omega, by omega, h4, ?_, fun u hu1 hu2 => ?_, ?_⟩
    · have : ∀ u, j ≤ u → u ≤ i → rn b N (q + u) = 10 := by
        intro u hu
        induction hu with
        | refl => intro _; exact h2
        | step hu ih =>
          intro hu2
          rename_i u
          rw [show q + (u + 1) = q + u + 1 by omega, rn_s hb hN, if_pos (e1 u (by omega)), ih (by omega)]
          rfl
      exact this i hji (Nat.le_refl _)
    · have := e1 (u - q) (by omega)
      rw [show q + (u - q) = u by omega] at this
      exact this
    · rw [show q + i - q + 9 = j + (i - j) + 9 by omega, hnx]
      rw [show q + j + (i - j) + 8 = q + i + 8 by omega]
  · left
    have h1 : ∀ j, j ≤ 8 → ¬ rn b N (q + j) = 10 := fun j hj z => c ⟨j, hj, z⟩
    exact ⟨h1, nx_plain (f := false) hb hN 8 0 (by omega) h1⟩
/-! the class: ones ahead of a place; the next byte -/
theorem cellbit {b : Nat → Bool} {z : Nat} (hz : z < 2 ^ 31) : ((by8 b (8 * (z / 8))) >>> ((7 - (nI z &&& 7)) &&& 31)) &&& 1 = nI (b z).toNat := by
  rw [an7 hz, nI7s, bit_one (by omega), b_by8 (by omega), decide_eq_true (by omega), Bool.true_and, show 8 * (z / 8) + (7 - (7 - z % 8)) = z by omega]
def bk (N p c : Nat) : Nat := if c ≤ p then p - c else p + N - c
theorem bk_b {b : Nat → Bool} {N p c : Nat} (hb : rgb b N) (hc : c < N) : b (bk N p (c + 1)) = b (p + N - 1 - c) := by
  unfold bk
  by_cases h : c + 1 ≤ p
  · rw [if_pos h, show p + N - 1 - c = p - (c + 1) + N by omega, rgb_w hb]
  · rw [if_neg h]; congr 1; omega
theorem nI_b1 (x : Bool) : (nI x.toNat = 1) ↔ x = true := by cases x <;> decide
theorem nI_b0 (x : Bool) : (nI x.toNat = 0) ↔ x = false := by cases x <;> decide
theorem lp_Ring_onesAhead {S : rz_S} {k p : Nat} {b : Nat → Bool} (hk : rgP k) (hb : rgb b (8 * rgN k)) (h : RgH S k b) (hp : p < 8 * rgN k) : ∀ (m c : Nat), 10 < m + c → c ≤ 10 → (∀ i, i < c → b (p + 8 * rgN k - 1 - i) = true) → rz mRing_onesAhead 7 [(0, .ref k), (2, .int (nI c)), (3, .int (nI (bk (8 * rgN k) p c))), (4, .int 1)] [] S (rz_i (fun x S1 => x = nI (rn b (8 * rgN k) p) ∧ S1 = S)) := by
  have hN := rgN_b hk
  intro m
  induction m with
  | zero => intro c h1 h2; omega
  | succ m ih =>
    intro c h1 h2 h3
    refine p_Ring_onesAhead_7 hk ⟨fun d => ?_, fun d => ⟨fun z => absurd z (by decide), fun _ => ?_⟩⟩
    · have : 10 ≤ c := (nI_leI (a := 10) (by omega) (by omega)).mp d
      have e : c = 10 := by omega
      subst e
      exact ⟨congrArg nI (RN_u ⟨by omega, h3, Or.inl rfl⟩ (rn_RN b _ p)), rfl⟩
    · have hc : ¬ 10 ≤ c := fun z => d (nI_le (a := 10) z (by omega))
      have hbk : bk (8 * rgN k) p (c + 1) < 8 * rgN k := by unfold bk; split <;> omega
      have go : rz mRing_onesAhead 34 [(0, .ref k), (2, .int (nI c))] [.int (nI (bk (8 * rgN k) p (c + 1)))] S (rz_i (fun x S1 => x = nI (rn b (8 * rgN k) p) ∧ S1 = S)) := by
        refine p_Ring_onesAhead_34 hk ?_
        rw [h.1, sh3 (by omega), nI_clamp (by omega), h.2 _ (by omega), cellbit (by omega), bk_b hb (by omega)]
        have stop : b (p + 8 * rgN k - 1 - c) = false → rz mRing_onesAhead 69 [(0, .ref k), (2, .int (nI c)), (3, .int (nI (bk (8 * rgN k) p (c + 1))))] [] S (rz_i (fun x S1 => x = nI (rn b (8 * rgN k) p) ∧ S1 = S)) := by
          intro e
          refine p_Ring_onesAhead_69 hk (p_Ring_onesAhead_70 hk ⟨fun _ => ?_, fun z => absurd rfl z⟩)
          have e2 : nI c + 0 = nI c := nI_add c 0
          rw [e2]
          refine p_Ring_onesAhead_7 hk ⟨fun z => absurd z d, fun _ => ⟨fun _ => ?_, fun z => absurd rfl z⟩⟩
          exact ⟨congrArg nI (RN_u ⟨by omega, h3, Or.inr e⟩ (rn_RN b _ p)), rfl⟩
        refine ⟨fun z => absurd z (nI_ge hbk (by omega)), fun _ => ⟨rin (by omega) (by omega), fun z => ?_, fun z => ?_⟩⟩
        · have e := (nI_b1 _).mp z
          refine p_Ring_onesAhead_70 hk ⟨fun z => absurd z (by decide), fun _ => ?_⟩
          rw [nI_1]
          refine ih (c + 1) (by omega) (by omega) (fun i hi => ?_)
          by_cases e3 : i = c
          · subst e3; exact e
          · exact h3 i (by omega)
        · exact stop (Bool.eq_false_iff.mpr fun e => z ((nI_b1 _).mpr e))
      refine ⟨fun z => ?_, fun z => ?_⟩
      · have e0 : bk (8 * rgN k) p c = 0 := by
          have hx : bk (8 * rgN k) p c < 2 ^ 31 := by unfold bk; split <;> omega
          exact Nat.le_zero.mp ((nI_leI (b := 0) hx (by omega)).mp z)
        have e : bk (8 * rgN k) p (c + 1) = 8 * rgN k - 1 := by
          unfold bk at e0 ⊢
          split at e0 <;> split <;> omega
        rw [h.1, show (1 : Int32) = nI 1 from rfl, pk_sub (by omega), ← e]
        exact go
      · have e0 : bk (8 * rgN k) p c ≠ 0 := fun e => z (by rw [e]; exact Int32.le_refl _)
        have e : bk (8 * rgN k) p (c + 1) = bk (8 * rgN k) p c - 1 := by
          unfold bk at e0 ⊢
          split at e0 <;> split <;> omega
        rw [show (1 : Int32) = nI 1 from rfl, pk_sub (by omega), ← e]
        exact go
theorem c_Ring_onesAhead {S : rz_S} {k p : Nat} {b : Nat → Bool} (hk : rgP k) (hb : rgb b (8 * rgN k)) (h : RgH S k b) (hp : p < 8 * rgN k) : rz_ev mRing_onesAhead [.ref k, .int (nI p)] S (rz_i (fun x S1 => x = nI (rn b (8 * rgN k) p) ∧ S1 = S)) := by
  show rz _ 0 [(0, .ref k), (1, .int (nI p))] [] _ _
  refine p_Ring_onesAhead_0 hk ?_
  have := lp_Ring_onesAhead hk hb h hp 11 0 (by omega) (by omega) (fun i hi => by omega)
  have e : bk (8 * rgN k) p 0 = p := by unfold bk; rw [if_pos (by omega)]; rfl
  rw [e] at this
  exact this
/-- the ring k as one who goes along it is at q -/
def RgAt (b : Nat → Bool) (S : rz_S) (k q : Nat) : Prop := S.2 k 3 = nI (q % (8 * rgN k)) ∧ S.2 k 4 = nI (rn b (8 * rgN k) q)
/-- only where one is has changed -/
def RgF (S : rz_S) (k : Nat) (S1 : rz_S) : Prop := S1.1 = S.1 ∧ ∀ u z, ¬ (u = k ∧ 3 ≤ z ∧ z ≤ 7) → S1.2 u z = S.2 u z
theorem RgF_r (S : rz_S) (k : Nat) : RgF S k S := ⟨rfl, fun _ _ _ => rfl⟩
theorem RgF_t {S S1 S2 : rz_S} {k : Nat} (h1 : RgF S k S1) (h2 : RgF S1 k S2) : RgF S k S2 := ⟨h2.1.trans h1.1, fun u z h => (h2.2 u z h).trans (h1.2 u z h)⟩
theorem RgF_u {S S1 : rz_S} {k j : Nat} {x : Int32} (h1 : RgF S k S1) (hj : 3 ≤ j ∧ j ≤ 7) : RgF S k (rz_uI S1 k j x) := ⟨h1.1, fun u z h => by
  rw [rz_uI_n (fun e => h ⟨e.1, by omega, by omega⟩)]
  exact h1.2 u z h⟩
theorem RgF_H {S S1 : rz_S} {k : Nat} {b : Nat → Bool} (h : RgH S k b) (hf : RgF S k S1) : RgH S1 k b := by
  refine ⟨(hf.2 k 1 (by omega)).trans h.1, fun j hj => ?_⟩
  rw [hf.1]
  exact h.2 j hj
/-- the same, what is kept of the ROUND left as it was -/
def RgG (S : rz_S) (k : Nat) (S1 : rz_S) : Prop := S1.1 = S.1 ∧ ∀ u z, ¬ (u = k ∧ 3 ≤ z ∧ z ≤ 5) → S1.2 u z = S.2 u z
theorem RgG_r (S : rz_S) (k : Nat) : RgG S k S := ⟨rfl, fun _ _ _ => rfl⟩
theorem RgG_u {S S1 : rz_S} {k j : Nat} {x : Int32} (h1 : RgG S k S1) (hj : 3 ≤ j ∧ j ≤ 5) : RgG S k (rz_uI S1 k j x) := ⟨h1.1, fun u z h => by
  rw [rz_uI_n (fun e => h ⟨e.1, by omega, by omega⟩)]
  exact h1.2 u z h⟩
theorem RgG_F {S S1 : rz_S} {k : Nat} (h : RgG S k S1) : RgF S k S1 := ⟨h.1, fun u z hz => h.2 u z fun e => hz ⟨e.1, e.2.1, by omega⟩⟩
theorem md1 {N q : Nat} (hN : 0 < N) : (q + 1) % N = if q % N + 1 < N then q % N + 1 else 0 := by
  have hz : q % N < N := Nat.mod_lt _ hN
  rw [← Nat.mod_add_mod]
  by_cases c : q % N + 1 < N
  · rw [if_pos c, Nat.mod_eq_of_lt c]
  · rw [if_neg c, show q % N + 1 = N by omega, Nat.mod_self]
theorem lp_Ring_next {S : rz_S} {k : Nat} {b : Nat → Bool} (hk : rgP k) (hb : rgb b (8 * rgN k)) (h : RgH S k b) : ∀ (n i q m : Nat) (f : Bool) (v : Int32) (T : rz_S) (q' : Nat) (f' : Bool), nx b (8 * rgN k) n q m f = some (q', f') → n + i ≤ 8 * rgN k + 10 → m ≤ 8 → m ≤ q → (∀ j, j < m → bt v j = b (q - 1 - j)) → RgG S k T → RgAt b T k q → T.2 k 5 = nI f.toNat → rz mRing_next 11 [(0, .ref k), (1, .int v), (2, .int (nI m)), (3, .int (nI i))] [] T (rz_i (fun x S1 => x = by8 b (q' - 8) ∧ 8 ≤ q' ∧ RgG S k S1 ∧ RgAt b S1 k q' ∧ S1.2 k 5 = nI f'.toNat)) := by
  have hN := rgN_b hk
  have hN11 : 11 ≤ 8 * rgN k := by omega
  intro n
  induction n with
  | zero => intro i q m f v T q' f' e; cases e
  | succ n ih =>
    intro i q m f v T q' f' e hi hm hmq hv hF hA hf
    rw [nx] at e
    have hTH := RgF_H h (RgG_F hF)
    by_cases c8 : m = 8
    · rw [if_pos c8] at e
      obtain ⟨rfl, rfl⟩ := Prod.mk.inj (Option.some.inj e)
      subst c8
      have fin : v &&& 255 = by8 b (q - 8) ∧ 8 ≤ q ∧ RgG S k T ∧ RgAt b T k q ∧ T.2 k 5 = nI f.toNat := by
        refine ⟨?_, hmq, hF, hA, hf⟩
        apply b_ext
        intro j hj
        rw [b_and, b_255, b_by8 hj]
        by_cases cj : j < 8
        · rw [decide_eq_true cj, Bool.and_true, Bool.true_and, hv j cj]
          congr 1
          omega
        · rw [decide_eq_false cj, Bool.and_false, Bool.false_and]
      exact p_Ring_next_11 hk ⟨fun _ => fin, fun _ => ⟨fun _ => fin, fun z => absurd (Int32.le_refl _) z⟩⟩
    · rw [if_neg c8] at e
      have hn1 : n ≠ 0 := fun z => by subst z; cases e
      have hz : q % (8 * rgN k) < 8 * rgN k := Nat.mod_lt _ (by omega)
      have hbz : b (q % (8 * rgN k)) = b q := (hb q).symm
      -- behind the place and the FIRST have been set
      have after : ∀ T1 : rz_S, RgG S k T1 → T1.2 k 3 = nI ((q + 1) % (8 * rgN k)) → T1.2 k 4 = nI (rn b (8 * rgN k) q) → T1.2 k 5 = nI (f || (!(b q) && decide (rn b (8 * rgN k) q = 10))).toNat → rz mRing_next 100 [(0, .ref k), (1, .int v), (2, .int (nI m)), (3, .int (nI i)), (4, .int (nI (b q).toNat))] [] T1 (rz_i (fun x S1 => x = by8 b (q' - 8) ∧ 8 ≤ q' ∧ RgG S k S1 ∧ RgAt b S1 k q' ∧ S1.2 k 5 = nI f'.toNat)) := by
        intro T1 hF1 h3 h4 h5
        have last : rz mRing_next 130 [(0, .ref k), (1, .int v), (2, .int (nI m)), (3, .int (nI i)), (4, .int (nI (b q).toNat))] [.int (nI (rn b (8 * rgN k) (q + 1))), .ref k] T1 (rz_i (fun x S1 => x = by8 b (q' - 8) ∧ 8 ≤ q' ∧ RgG S k S1 ∧ RgAt b S1 k q' ∧ S1.2 k 5 = nI f'.toNat)) := by
          have hle := rn_le b (8 * rgN k) (q + 1)
          have hv2 : ∀ j, j < m + 1 → bt ((v <<< ((1 : Int32) &&& 31)) ||| nI (b q).toNat) j = b (q + 1 - 1 - j) := by
            intro j hj
            rw [b_or, b_shl1 v (by omega), b_nI (by omega)]
            cases j with
            | zero =>
              rw [Nat.testBit_zero, show q + 1 - 1 - 0 = q by omega]
              cases b q <;> simp
            | succ j =>
              have : (b q).toNat.testBit (j + 1) = false := by
                cases b q
                · exact Nat.zero_testBit _
                · rw [Nat.testBit_succ]; exact Nat.zero_testBit _
              rw [this, Bool.or_false, decide_eq_true (by omega), Bool.true_and, Nat.add_sub_cancel, hv j (by omega)]
              congr 1
              omega
          have hF2 : RgG S k (rz_uI T1 k 4 (nI (rn b (8 * rgN k) (q + 1)))) := RgG_u hF1 (by omega)
          have hA2 : RgAt b (rz_uI T1 k 4 (nI (rn b (8 * rgN k) (q + 1)))) k (q + 1) := ⟨(rz_uI_n (by omega)).trans h3, rz_uI_s⟩
          have hf2 : (rz_uI T1 k 4 (nI (rn b (8 * rgN k) (q + 1)))).2 k 5 = nI (f || (!(b q) && decide (rn b (8 * rgN k) q = 10))).toNat := (rz_uI_n (by omega)).trans h5
          refine p_Ring_next_130 hk hk ?_
          rw [rz_uI_s, nI_1, nI_1]
          refine ⟨fun c => ?_, fun c => ?_⟩
          · have c2 : rn b (8 * rgN k) (q + 1) < 10 := (nI_ltI (b := 10) (by omega) (by omega)).mp c
            rw [if_neg (by omega)] at e
            exact ih (i + 1) (q + 1) (m + 1) _ _ _ q' f' e (by omega) (by omega) (by omega) hv2 hF2 hA2 hf2
          · have c2 : rn b (8 * rgN k) (q + 1) = 10 := by
              have : ¬ rn b (8 * rgN k) (q + 1) < 10 := fun z => c (nI_lt (b := 10) z (by omega))
              omega
            rw [if_pos c2] at e
            exact ih (i + 1) (q + 1) 0 _ _ _ q' f' e (by omega) (by omega) (by omega) (fun j hj => by omega) hF2 hA2 hf2
        have hs := rn_s (p := q) hb hN11
        have hle := rn_le b (8 * rgN k) q
        refine p_Ring_next_100 hk ?_
        rw [h4]
        refine ⟨fun c => ?_, fun c => ⟨fun d => ?_, fun d => ?_⟩⟩
        · have cb := (nI_b0 _).mp c
          rw [cb] at hs
          rw [if_neg (by decide)] at hs
          rw [hs] at last
          exact last
        · have cb : b q = true := Bool.of_not_eq_false fun z => c ((nI_b0 _).mpr z)
          have : 10 ≤ rn b (8 * rgN k) q := (nI_leI (a := 10) (by omega) (by omega)).mp d
          rw [if_pos cb, show min 10 (rn b (8 * rgN k) q + 1) = 10 by omega] at hs
          rw [hs] at last
          exact last
        · have cb : b q = true := Bool.of_not_eq_false fun z => c ((nI_b0 _).mpr z)
          have : ¬ 10 ≤ rn b (8 * rgN k) q := fun z => d (nI_le (a := 10) z (by omega))
          rw [if_pos cb, show min 10 (rn b (8 * rgN k) q + 1) = rn b (8 * rgN k) q + 1 by omega] at hs
          rw [hs] at last
          rw [nI_1]
          exact last
      have mid : rz mRing_next 78 [(0, .ref k), (1, .int v), (2, .int (nI m)), (3, .int (nI i)), (4, .int (nI (b q).toNat))] [.int (nI ((q + 1) % (8 * rgN k))), .ref k] T (rz_i (fun x S1 => x = by8 b (q' - 8) ∧ 8 ≤ q' ∧ RgG S k S1 ∧ RgAt b S1 k q' ∧ S1.2 k 5 = nI f'.toNat)) := by
        have hle := rn_le b (8 * rgN k) q
        refine p_Ring_next_78 hk hk ?_
        rw [hA.2]
        refine ⟨fun c => ⟨fun d => ?_, fun d => ?_⟩, fun c => ?_⟩
        · have : rn b (8 * rgN k) q < 10 := (nI_ltI (b := 10) (by omega) (by omega)).mp d
          refine after _ (RgG_u hF (by omega)) rz_uI_s ((rz_uI_n (by omega)).trans hA.2) ((rz_uI_n (by omega)).trans ?_)
          rw [hf, decide_eq_false (by omega), Bool.and_false, Bool.or_false]
        · have h10 : rn b (8 * rgN k) q = 10 := by
            have : ¬ rn b (8 * rgN k) q < 10 := fun z => d (nI_lt (b := 10) z (by omega))
            omega
          have cb := (nI_b0 _).mp c
          refine after _ (RgG_u (RgG_u hF (by omega)) (by omega)) ((rz_uI_n (by omega)).trans rz_uI_s) ((rz_uI_n (by omega)).trans ((rz_uI_n (by omega)).trans hA.2)) ?_
          rw [rz_uI_s, cb, decide_eq_true h10]
          simp
          rfl
        · have cb : b q = true := Bool.of_not_eq_false fun z => c ((nI_b0 _).mpr z)
          refine after _ (RgG_u hF (by omega)) rz_uI_s ((rz_uI_n (by omega)).trans hA.2) ((rz_uI_n (by omega)).trans ?_)
          rw [hf, cb]
          simp
      refine p_Ring_next_11 hk ?_
      rw [hTH.1, hA.1, sh3 (by omega), nI_clamp (by omega), hTH.2 _ (by omega), cellbit (by omega), hbz, nI_1, show (8 : Int32) = nI 8 from rfl, nI_add]
      have hmd := md1 (N := 8 * rgN k) (q := q) (by omega)
      refine ⟨fun c => absurd c (nI_nlt (by omega) (by omega)), fun _ => ⟨fun c => absurd c (nI_ge (by omega) (by omega)), fun _ => ⟨rin (by omega) (by omega), fun c => ?_, fun c => ?_⟩⟩⟩
      · have : 8 * rgN k ≤ q % (8 * rgN k) + 1 := (nI_leI (by omega) (by omega)).mp c
        rw [if_neg (by omega)] at hmd
        rw [hmd] at mid
        exact mid
      · have : ¬ 8 * rgN k ≤ q % (8 * rgN k) + 1 := fun z => c (nI_le z (by omega))
        rw [if_pos (by omega)] at hmd
        rw [hmd] at mid
        exact mid
theorem c_Ring_next {S : rz_S} {k n q q' : Nat} {f' : Bool} {b : Nat → Bool} (hk : rgP k) (hb : rgb b (8 * rgN k)) (h : RgH S k b) (hA : RgAt b S k q) (hx : nx b (8 * rgN k) n q 0 false = some (q', f')) (hn : n ≤ 8 * rgN k + 10) : rz_ev mRing_next [.ref k] S (rz_i (fun x S1 => x = by8 b (q' - 8) ∧ 8 ≤ q' ∧ RgG S k S1 ∧ RgAt b S1 k q' ∧ S1.2 k 5 = nI f'.toNat)) := by
  show rz _ 0 [(0, .ref k)] [] _ _
  refine p_Ring_next_0 hk ?_
  exact lp_Ring_next hk hb h n 0 q 0 false 0 _ q' f' hx (by omega) (by omega) (by omega) (fun j hj => by omega) (RgG_u (RgG_r S k) (by omega)) ⟨(rz_uI_n (by omega)).trans hA.1, (rz_uI_n (by omega)).trans hA.2⟩ rz_uI_s
theorem c_Ring_goTo {S : rz_S} {k p : Nat} {b : Nat → Bool} (hk : rgP k) (h : RgH S k b) (hp : p < 8 * rgN k) (x : Int32) : rz_ev mRing_goTo [.ref k, .int (nI p), .int x] S (rz_v (fun S1 => S1 = rz_uI (rz_uI S k 3 (nI p)) k 4 x)) := by
  have hN := rgN_b hk
  show rz _ 0 [(0, .ref k), (1, .int (nI p)), (2, .int x)] [] _ _
  refine p_Ring_goTo_0 hk ?_
  rw [h.1]
  exact ⟨fun c => absurd c (nI_pos (by omega)), fun _ => ⟨fun c => absurd c (nI_ge hp (by omega)), fun _ => rfl⟩⟩
