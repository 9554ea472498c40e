/-! a ring's bits: the class's cells and the reference's bytes -/
def RgH (S : rz_S) (k : Nat) (b : Nat → Bool) : Prop := S.2 k 1 = nI (8 * rgN k) ∧ ∀ j, j < rgN k → S.1 (k + 1) j = by8 b (8 * j)
theorem rgN_b {k : Nat} (h : rgP k) : 640 ≤ rgN k ∧ rgN k ≤ 1000 := by
  obtain ⟨h1, h2, h3⟩ := h
  unfold rgN
  omega
theorem rin {c n : Nat} (h : c < n) (hn : n < 2 ^ 31) : rx_in (nI c) n = true := decide_eq_true (vp_in_nI h hn)
theorem sh3 {p : Nat} (h : p < 2 ^ 31) : nI p >>> ((3 : Int32) &&& 31) = nI (p / 8) := pk_shrN h _ 3 (by decide)
theorem an7 {p : Nat} (h : p < 2 ^ 31) : nI p &&& 7 = nI (p % 8) := pk_andN (by omega) 3 (by decide)
theorem nI8s {p : Nat} : (8 : Int32) - nI (p % 8) = nI (8 - p % 8) := pk_sub (a := 8) (b := p % 8) (by omega)
theorem nx_bits {b : Nat → Bool} {L c nx i : Nat} (hb : rgb b (8 * L)) (hc : c < L) (hx : nx = if c + 1 < L then c + 1 else 0) : b (8 * nx + i) = b (8 * c + 8 + i) := by
  by_cases h : c + 1 < L
  · rw [hx, if_pos h]; congr 1
  · rw [hx, if_neg h, show 8 * c + 8 + i = (8 * 0 + i) + 8 * L by omega, rgb_w hb]
theorem eight_val {b : Nat → Bool} {L c nx p : Nat} (hb : rgb b (8 * L)) (hc : p / 8 = c) (hL : c < L) (hp : p < 2 ^ 31) (hx : nx = if c + 1 < L then c + 1 else 0) : ((((by8 b (8 * c)) <<< ((8 : Int32) &&& 31)) ||| (by8 b (8 * nx))) >>> ((8 - (nI p &&& 7)) &&& 31)) &&& 255 = by8 b p := by
  have hw : ∀ i, b (8 * nx + i) = b (8 * c + 8 + i) := fun i => nx_bits hb hL hx
  rw [an7 hp, nI8s]
  apply b_ext
  intro i hi
  rw [b_and, b_255, b_by8 hi]
  by_cases h : i < 8
  · rw [b_sshr (8 - p % 8) (by omega) _ hi, if_pos (by omega), b_or, b_shl8 _ (by omega), b_by8 (by omega), b_by8 (by omega), decide_eq_true h, Bool.and_true, Bool.true_and]
    by_cases h2 : 8 ≤ 8 - p % 8 + i
    · rw [decide_eq_true h2, decide_eq_true (by omega : 8 - p % 8 + i - 8 < 8), decide_eq_false (by omega : ¬ 8 - p % 8 + i < 8)]
      simp only [Bool.true_and, Bool.false_and, Bool.or_false]
      congr 1
      omega
    · rw [decide_eq_false h2, decide_eq_true (by omega : 8 - p % 8 + i < 8), hw]
      simp only [Bool.true_and, Bool.false_and, Bool.false_or]
      congr 1
      omega
  · rw [decide_eq_false h]
    simp
theorem by8_w {b : Nat → Bool} {N p : Nat} (hb : rgb b N) : by8 b (p + N) = by8 b p := by8_ext (fun i _ => by rw [show p + N + i = p + i + N by omega, rgb_w hb])
theorem c_Ring_eight {S : rz_S} {k p : Nat} {b : Nat → Bool} (hk : rgP k) (hb : rgb b (8 * rgN k)) (h : RgH S k b) (hp : p < 16 * rgN k) : rz_ev mRing_eight [.ref k, .int (nI p)] S (rz_i (fun x S1 => x = by8 b p ∧ S1 = S)) := by
  have hN := rgN_b hk
  have key : ∀ q, q < 8 * rgN k → by8 b q = by8 b p → rz mRing_eight 18 [(0, .ref k)] [.int (nI q)] S (rz_i (fun x S1 => x = by8 b p ∧ S1 = S)) := by
    intro q hq e
    refine p_Ring_eight_18 hk ?_
    rw [sh3 (by omega), nI_1]
    refine ⟨fun c => absurd c (nI_pos (by omega)), fun _ => ⟨fun _ => ⟨fun c => ?_, fun c => ?_⟩, fun c => absurd (nI_lt (by omega) (by omega)) c⟩⟩
    · have c2 : rgN k ≤ q / 8 + 1 := (nI_leI (by omega) (by omega)).mp c
      refine p_Ring_eight_56 hk ⟨rin (by omega) (by omega), rin (c := 0) (by omega) (by omega), ?_, rfl⟩
      rw [nI_clamp (by omega), show (0 : Int32).toNatClampNeg = 0 from rfl, h.2 _ (by omega), h.2 0 (by omega), ← e]
      exact eight_val (nx := 0) hb rfl (by omega) (by omega) (by rw [if_neg (by omega)])
    · have c2 : ¬ rgN k ≤ q / 8 + 1 := fun z => c (nI_le z (by omega))
      refine p_Ring_eight_56 hk ⟨rin (by omega) (by omega), rin (by omega) (by omega), ?_, rfl⟩
      rw [nI_clamp (by omega), nI_clamp (by omega), h.2 _ (by omega), h.2 _ (by omega), ← e]
      exact eight_val hb rfl (by omega) (by omega) (by rw [if_pos (by omega)])
  show rz _ 0 [(0, .ref k), (1, .int (nI p))] [] _ _
  refine p_Ring_eight_0 hk ?_
  rw [h.1]
  refine ⟨fun c => ?_, fun c => ?_⟩
  · exact key p ((nI_ltI (by omega) (by omega)).mp c) rfl
  · have c2 : 8 * rgN k ≤ p := Nat.le_of_not_lt fun z => c (nI_lt z (by omega))
    rw [pk_sub c2]
    refine key _ (by omega) ?_
    rw [← by8_w hb (p := p - 8 * rgN k), Nat.sub_add_cancel c2]
/-! a byte is laid into the ring -/
theorem rz_fAA {S : rz_S} {k : Nat} {f g : Nat → Int32} : rz_fA (rz_fA S k f) k g = rz_fA S k g := by
  apply Prod.ext
  · funext q
    simp only [rz_fA]
    by_cases h : q = k
    · rw [if_pos h, if_pos h]
    · rw [if_neg h, if_neg h, if_neg h]
  · rfl
theorem b_m255 {s i : Nat} (hs : s < 32) (hi : i < 32) : bt ((255 <<< (nI s &&& 31)) ^^^ (-1)) i = !(decide (s ≤ i) && decide (i - s < 8)) := by
  rw [b_xor, b_m1 i hi, b_shl s hs 255 hi, b_255]
  cases (decide (s ≤ i) && decide (i - s < 8)) <;> rfl
/-- the two cells' new bits -/
theorem put_bit {P v : Int32} {s i : Nat} (hs : s < 32) (hi : i < 32) : bt ((P &&& ((255 <<< (nI s &&& 31)) ^^^ (-1))) ||| (v <<< (nI s &&& 31))) i = ((bt P i && !(decide (s ≤ i) && decide (i - s < 8))) || (decide (s ≤ i) && bt v (i - s))) := by
  rw [b_or, b_and, b_m255 hs hi, b_shl s hs v hi]
theorem put_hi {b : Nat → Bool} {L c nx p : Nat} {v : Int32} (hb : rgb b (8 * L)) (hc : p / 8 = c) (hL : c < L) (h2 : 2 ≤ L) (hp : p < 2 ^ 31) (hv : ∀ i, 8 ≤ i → bt v i = false) : ((((((by8 b (8 * c)) <<< ((8 : Int32) &&& 31)) ||| (by8 b (8 * nx))) &&& ((255 <<< ((8 - (nI p &&& 7)) &&& 31)) ^^^ (-1))) ||| (v <<< ((8 - (nI p &&& 7)) &&& 31))) >>> ((8 : Int32) &&& 31)) &&& 255 = by8 (pw b (8 * L) p 8 (fun o => bt v (7 - o))) (8 * c) := by
  rw [an7 hp, nI8s]
  apply b_ext
  intro i hi
  rw [b_and, b_255, b_by8 hi]
  by_cases h : i < 8
  · rw [b_sshr8 _ hi, if_pos (by omega), put_bit (by omega) (by omega), b_or, b_shl8 _ (by omega), b_by8 (by omega), b_by8 (by omega), decide_eq_true h, Bool.and_true, Bool.true_and, pw_at (by omega)]
    rw [decide_eq_true (by omega : 8 ≤ 8 + i), decide_eq_true (by omega : 8 - p % 8 ≤ 8 + i), decide_eq_true (by omega : 8 + i - 8 < 8), decide_eq_false (by omega : ¬ 8 + i < 8)]
    simp only [Bool.true_and, Bool.false_and, Bool.or_false]
    by_cases h3 : p ≤ 8 * c + (7 - i)
    · rw [if_pos (by omega), decide_eq_true (by omega : 8 + i - (8 - p % 8) < 8)]
      simp only [Bool.not_true, Bool.and_false, Bool.false_or]
      congr 1
      omega
    · rw [if_neg (by omega), if_neg (by omega), decide_eq_false (by omega : ¬ 8 + i - (8 - p % 8) < 8), hv _ (by omega)]
      simp only [Bool.not_false, Bool.and_true, Bool.or_false]
      congr 1
      omega
  · rw [decide_eq_false h]
    simp
theorem put_lo {b : Nat → Bool} {L c nx p : Nat} {v : Int32} (hb : rgb b (8 * L)) (hc : p / 8 = c) (hL : c < L) (h2 : 2 ≤ L) (hp : p < 2 ^ 31) (hx : nx = if c + 1 < L then c + 1 else 0) : (((((by8 b (8 * c)) <<< ((8 : Int32) &&& 31)) ||| (by8 b (8 * nx))) &&& ((255 <<< ((8 - (nI p &&& 7)) &&& 31)) ^^^ (-1))) ||| (v <<< ((8 - (nI p &&& 7)) &&& 31))) &&& 255 = by8 (pw b (8 * L) p 8 (fun o => bt v (7 - o))) (8 * nx) := by
  have hnx : nx < L := by by_cases h : c + 1 < L <;> simp only [h, if_true, if_false] at hx <;> omega
  rw [an7 hp, nI8s]
  apply b_ext
  intro i hi
  rw [b_and, b_255, b_by8 hi]
  by_cases h : i < 8
  · rw [put_bit (by omega) (by omega), b_or, b_shl8 _ (by omega), b_by8 (by omega), b_by8 (by omega), decide_eq_true h, Bool.and_true, Bool.true_and, pw_at (by omega)]
    rw [decide_eq_false (by omega : ¬ 8 ≤ i)]
    simp only [Bool.false_and, Bool.false_or, Bool.true_and]
    by_cases h3 : 8 - p % 8 ≤ i
    · rw [decide_eq_true h3, decide_eq_true (by omega : i - (8 - p % 8) < 8)]
      simp only [Bool.true_and, Bool.not_true, Bool.and_false, Bool.false_or]
      by_cases h4 : c + 1 < L
      · rw [if_pos h4] at hx
        rw [if_pos (by omega)]
        congr 1
        omega
      · rw [if_neg h4] at hx
        rw [if_neg (by omega), if_pos (by omega)]
        congr 1
        omega
    · rw [decide_eq_false h3]
      simp only [Bool.false_and, Bool.not_false, Bool.and_true, Bool.or_false]
      by_cases h4 : c + 1 < L
      · rw [if_pos h4] at hx
        rw [if_neg (by omega), if_neg (by omega)]
      · rw [if_neg h4] at hx
        rw [if_neg (by omega), if_neg (by omega)]
  · rw [decide_eq_false h]
    simp
theorem put_no {b : Nat → Bool} {L c nx p j : Nat} {g : Nat → Bool} (hc : p / 8 = c) (hL : c < L) (hx : nx = if c + 1 < L then c + 1 else 0) (hj : j < L) (h1 : j ≠ c) (h2 : j ≠ nx) : by8 (pw b (8 * L) p 8 g) (8 * j) = by8 b (8 * j) := by
  refine by8_ext (fun i hi => ?_)
  rw [pw_at (by omega)]
  by_cases h4 : c + 1 < L
  · rw [if_pos h4] at hx
    rw [if_neg (by omega), if_neg (by omega)]
  · rw [if_neg h4] at hx
    rw [if_neg (by omega), if_neg (by omega)]
/-- S with the bits b in the ring k -/
def rgPut (S : rz_S) (k : Nat) (b : Nat → Bool) (S1 : rz_S) : Prop := ∃ f, S1 = rz_fA S (k + 1) f ∧ ∀ j, j < rgN k → f j = by8 b (8 * j)
theorem rgPut_H {S S1 : rz_S} {k : Nat} {b b' : Nat → Bool} (h : RgH S k b) (hp : rgPut S k b' S1) : RgH S1 k b' := by
  obtain ⟨f, rfl, hf⟩ := hp
  refine ⟨h.1, fun j hj => ?_⟩
  rw [rz_fA_s]
  exact hf j hj
theorem rgPut_0 {S : rz_S} {k : Nat} {b : Nat → Bool} (h : RgH S k b) : rgPut S k b S := by
  refine ⟨S.1 (k + 1), ?_, h.2⟩
  apply Prod.ext
  · funext q
    simp only [rz_fA]
    by_cases e : q = k + 1
    · rw [if_pos e, e]
    · rw [if_neg e]
  · rfl
theorem rgPut_t {S S1 S2 : rz_S} {k : Nat} {b b' : Nat → Bool} (h1 : rgPut S k b S1) (h2 : rgPut S1 k b' S2) : rgPut S k b' S2 := by
  obtain ⟨f, rfl, _⟩ := h1
  obtain ⟨g, rfl, hg⟩ := h2
  exact ⟨g, rz_fAA, hg⟩
theorem c_Ring_put {S : rz_S} {k p : Nat} {v : Int32} {b : Nat → Bool} (hk : rgP k) (hb : rgb b (8 * rgN k)) (h : RgH S k b) (hp : p < 16 * rgN k) (hv : ∀ i, 8 ≤ i → bt v i = false) : rz_ev mRing_put [.ref k, .int (nI p), .int v] S (rz_v (fun S1 => rgPut S k (pw b (8 * rgN k) (nxp (8 * rgN k) p 0) 8 (fun o => bt v (7 - o))) S1)) := by
  have hN := rgN_b hk
  have key : ∀ q, q < 8 * rgN k → rz mRing_put 18 [(0, .ref k), (2, .int v)] [.int (nI q)] S (rz_v (fun S1 => rgPut S k (pw b (8 * rgN k) q 8 (fun o => bt v (7 - o))) S1)) := by
    intro q hq
    have fin : ∀ nx, (nx = if q / 8 + 1 < rgN k then q / 8 + 1 else 0) → rz mRing_put 60 [(0, .ref k), (2, .int v), (3, .int (nI q)), (4, .int (nI (q / 8)))] [.int (nI nx)] S (rz_v (fun S1 => rgPut S k (pw b (8 * rgN k) q 8 (fun o => bt v (7 - o))) S1)) := by
      intro nx hx
      have hnx : nx < rgN k := by by_cases h : q / 8 + 1 < rgN k <;> simp only [h, if_true, if_false] at hx <;> omega
      refine p_Ring_put_60 hk ⟨rin (by omega) (by omega), rin (by omega) (by omega), _, rz_fAA, fun j hj => ?_⟩
      rw [nI_clamp (by omega), nI_clamp (by omega), h.2 _ (by omega), h.2 _ hnx]
      by_cases e1 : j = nx
      · subst e1
        rw [pk_us]
        exact put_lo hb rfl (by omega) (by omega) (by omega) hx
      · rw [pk_un e1]
        by_cases e2 : j = q / 8
        · subst e2
          rw [pk_us]
          exact put_hi hb rfl (by omega) (by omega) (by omega) hv
        · rw [pk_un e2, h.2 j hj]
          exact (put_no rfl (by omega) hx hj e2 e1).symm
    refine p_Ring_put_18 hk ?_
    rw [sh3 (by omega), nI_1]
    refine ⟨fun c => absurd c (nI_pos (by omega)), fun _ => ⟨fun _ => ⟨fun c => ?_, fun c => ?_⟩, fun c => absurd (nI_lt (by omega) (by omega)) c⟩⟩
    · have c2 : rgN k ≤ q / 8 + 1 := (nI_leI (by omega) (by omega)).mp c
      exact fin 0 (by rw [if_neg (by omega)])
    · have c2 : ¬ rgN k ≤ q / 8 + 1 := fun z => c (nI_le z (by omega))
      exact fin _ (by rw [if_pos (by omega)])
  show rz _ 0 [(0, .ref k), (1, .int (nI p)), (2, .int v)] [] _ _
  refine p_Ring_put_0 hk ?_
  rw [h.1]
  refine ⟨fun c => ?_, fun c => ?_⟩
  · have c2 : p < 8 * rgN k := (nI_ltI (by omega) (by omega)).mp c
    have e : nxp (8 * rgN k) p 0 = p := by unfold nxp; rw [if_pos (by omega)]; rfl
    rw [e]
    exact key p c2
  · have c2 : 8 * rgN k ≤ p := Nat.le_of_not_lt fun z => c (nI_lt z (by omega))
    have e : nxp (8 * rgN k) p 0 = p - 8 * rgN k := by unfold nxp; rw [if_neg (by omega)]; rfl
    rw [pk_sub c2, e]
    exact key _ (by omega)
theorem md_add {N p o : Nat} (hp : p < N) (ho : o < N) : (p + o) % N = if p + o < N then p + o else p + o - N := by
  by_cases h : p + o < N
  · rw [if_pos h, Nat.mod_eq_of_lt h]
  · rw [if_neg h, Nat.mod_eq_sub_mod (by omega), Nat.mod_eq_of_lt (by omega)]
theorem pw_out {b : Nat → Bool} {N p n o : Nat} {g : Nat → Bool} (hb : rgb b N) (hp : p < N) (hn : n ≤ o) (ho : o < N) : pw b N p n g (p + o) = b (p + o) := by
  rw [hb (p + o)]
  unfold pw
  rw [md_add hp ho]
  by_cases h : p + o < N
  · simp only [if_pos h]
    rw [if_neg (by omega), if_neg (by omega)]
  · simp only [if_neg h]
    rw [if_neg (by omega), if_neg (by omega)]
theorem pw_in {b : Nat → Bool} {N p n o : Nat} {g : Nat → Bool} (hp : p < N) (hn : n ≤ N) (ho : o < n) : pw b N p n g (p + o) = g o := by
  unfold pw
  rw [md_add hp (by omega)]
  by_cases h : p + o < N
  · simp only [if_pos h]
    rw [if_pos (by omega)]
    congr 1
    omega
  · simp only [if_neg h]
    rw [if_neg (by omega), if_pos (by omega)]
    congr 1
    omega
/-- n bits turned by a mask -/
def fl (b : Nat → Bool) (N p : Nat) (m : Int32) (n : Nat) : Nat → Bool := pw b N p n (fun o => b (p + o) ^^ bt m (31 - o))
theorem fl_r (b : Nat → Bool) (N p : Nat) (m : Int32) (n : Nat) : rgb (fl b N p m n) N := pw_r _ _ _ _ _
theorem vl_8 {b : Nat → Bool} {p n : Nat} : (nI (vl b p n) <<< ((8 : Int32) &&& 31)) ||| by8 b (p + n) = nI (vl b p (n + 8)) := by
  apply b_ext
  intro i hi
  rw [b_or, b_shl8 _ hi, b_by8 hi, b_nI (by omega), b_nI hi, vl_bit, vl_bit]
  by_cases h : i < 8
  · rw [decide_eq_false (by omega : ¬ 8 ≤ i), decide_eq_true h, decide_eq_true (by omega : i < n + 8)]
    simp only [Bool.false_and, Bool.true_and, Bool.false_or]
    congr 1
    omega
  · rw [decide_eq_true (by omega : 8 ≤ i), decide_eq_false h]
    simp only [Bool.false_and, Bool.true_and, Bool.or_false]
    by_cases h2 : i < n + 8
    · rw [decide_eq_true h2, decide_eq_true (by omega : i - 8 < n)]
      congr 2
      omega
    · rw [decide_eq_false h2, decide_eq_false (by omega : ¬ i - 8 < n)]
      rfl
theorem b_shl1 (x : Int32) {i : Nat} (hi : i < 32) : bt (x <<< ((1 : Int32) &&& 31)) i = (decide (1 ≤ i) && bt x (i - 1)) := b_shl 1 (by omega) x hi
theorem b_shl5 (x : Int32) {i : Nat} (hi : i < 32) : bt (x <<< ((5 : Int32) &&& 31)) i = (decide (5 ≤ i) && bt x (i - 5)) := b_shl 5 (by omega) x hi
theorem vl_1 {b : Nat → Bool} {p n : Nat} : (nI (vl b p n) <<< ((1 : Int32) &&& 31)) ||| nI (b (p + n)).toNat = nI (vl b p (n + 1)) := by
  apply b_ext
  intro i hi
  rw [b_or, b_shl1 _ hi, b_nI (by omega), b_nI hi, b_nI hi, vl_bit, vl_bit]
  cases i with
  | zero =>
    rw [Nat.testBit_zero]
    cases hc : b (p + n) <;> simp [hc]
  | succ i =>
    have : (b (p + n)).toNat.testBit (i + 1) = false := by
      cases b (p + n)
      · exact Nat.zero_testBit _
      · rw [Nat.testBit_succ]; exact Nat.zero_testBit _
    rw [this, decide_eq_true (by omega : 1 ≤ i + 1), Bool.true_and, Bool.or_false]
    by_cases h2 : i < n
    · rw [decide_eq_true (by omega : i + 1 - 1 < n), decide_eq_true (by omega : i + 1 < n + 1)]
      congr 2
      omega
    · rw [decide_eq_false (by omega : ¬ i + 1 - 1 < n), decide_eq_false (by omega : ¬ i + 1 < n + 1)]
      rfl
theorem c_Ring_hasBit {S : rz_S} {k : Nat} {b : Nat → Bool} (h : RgH S k b) (hk : rgP k) (x : Int32) : rz_ev mRing_hasBit [.ref k, .int x] S (rz_i (fun y S1 => y = (if x < 0 then 0 else if nI (8 * rgN k) ≤ x then 0 else 1) ∧ S1 = S)) := by
  show rz _ 0 [(0, .ref k), (1, .int x)] [] _ _
  refine p_Ring_hasBit_0 hk ?_
  rw [h.1]
  refine ⟨fun c => ⟨by rw [if_pos c], rfl⟩, fun c => ⟨fun c2 => ⟨by rw [if_neg c, if_pos c2], rfl⟩, fun c2 => ⟨by rw [if_neg c, if_neg c2], rfl⟩⟩⟩
theorem lp_Ring_word {S : rz_S} {k p : Nat} {b : Nat → Bool} (hk : rgP k) (hb : rgb b (8 * rgN k)) (h : RgH S k b) (hp : p < 8 * rgN k) : ∀ (m j : Nat), 4 < m + j → j ≤ 4 → rz mRing_word 4 [(0, .ref k), (1, .int (nI p)), (2, .int (nI (vl b p (8 * j)))), (3, .int (nI (8 * j)))] [] S (rz_i (fun x S1 => x = nI (vl b p 32) ∧ S1 = S)) := by
  have hN := rgN_b hk
  intro m
  induction m with
  | zero => intro j h1 h2; omega
  | succ m ih =>
    intro j h1 h2
    refine p_Ring_word_4 hk ⟨fun c => ?_, fun c => ?_⟩
    · have : 32 ≤ 8 * j := (nI_leI (a := 32) (by omega) (by omega)).mp c
      have e : j = 4 := by omega
      subst e
      exact ⟨rfl, rfl⟩
    · have c2 : ¬ 32 ≤ 8 * j := fun z => c (nI_le (a := 32) z (by omega))
      rw [nI_add]
      refine rz_toI (c_Ring_eight hk hb h (by omega)) ?_
      rw [vl_8, show (8 : Int32) = nI 8 from rfl, nI_add]
      exact ih (j + 1) (by omega) (by omega)
theorem c_Ring_word {S : rz_S} {k p : Nat} {b : Nat → Bool} (hk : rgP k) (hb : rgb b (8 * rgN k)) (h : RgH S k b) (hp : p < 8 * rgN k) : rz_ev mRing_word [.ref k, .int (nI p)] S (rz_i (fun x S1 => x = nI (vl b p 32) ∧ S1 = S)) := by
  show rz _ 0 [(0, .ref k), (1, .int (nI p))] [] _ _
  refine p_Ring_word_0 hk ?_
  exact lp_Ring_word hk hb h hp 5 0 (by omega) (by omega)
theorem nxp_0 {N p n : Nat} : nxp N (p + n) 0 = nxp N p n := rfl
theorem fl_8 {b : Nat → Bool} {N p n : Nat} {m v : Int32} (hb : rgb b N) (hp : p < N) (hn : n + 8 ≤ 32) (hN : 32 ≤ N) (hv : v = by8 b (p + n) ^^^ ((m >>> ((24 - nI n) &&& 31)) &&& 255)) : pw (fl b N p m n) N (nxp N (p + n) 0) 8 (fun o => bt v (7 - o)) = fl b N p m (n + 8) := by
  rw [nxp_0]
  unfold fl
  rw [pw_pw hp (by omega)]
  refine pw_ext hp (by omega) (fun o ho => ?_)
  by_cases h : o < n
  · rw [if_pos h]
  · rw [if_neg h, hv, b_xor, b_and, b_255, b_by8 (by omega), show (24 : Int32) - nI n = nI (24 - n) from pk_sub (a := 24) (by omega), b_sshr (24 - n) (by omega) _ (by omega), if_pos (by omega), decide_eq_true (by omega : 7 - (o - n) < 8)]
    simp only [Bool.true_and, Bool.and_true]
    congr 2
    · omega
    · omega
theorem fl_by {b : Nat → Bool} {N p n : Nat} {m : Int32} (hb : rgb b N) (hp : p < N) (hn : n + 8 ≤ 32) (hN : 32 ≤ N) : by8 (fl b N p m n) (p + n) = by8 b (p + n) := by
  refine by8_ext (fun i hi => ?_)
  rw [show p + n + i = p + (n + i) by omega]
  exact pw_out hb hp (by omega) (by omega)
theorem b_lt256 {x y : Int32} {i : Nat} (h : 8 ≤ i) : bt (x &&& 255) i = false := by
  rw [b_and, b_255, decide_eq_false (by omega), Bool.and_false]
theorem lp_Ring_flip {S : rz_S} {k p : Nat} {b : Nat → Bool} {mk : Int32} (hk : rgP k) (hb : rgb b (8 * rgN k)) (h : RgH S k b) (hp : p < 8 * rgN k) : ∀ (m j : Nat) (T : rz_S), 4 < m + j → j ≤ 4 → rgPut S k (fl b (8 * rgN k) p mk (8 * j)) T → rz mRing_flip 2 [(0, .ref k), (1, .int (nI p)), (2, .int mk), (3, .int (nI (8 * j)))] [] T (rz_v (fun S1 => rgPut S k (fl b (8 * rgN k) p mk 32) S1)) := by
  have hN := rgN_b hk
  intro m
  induction m with
  | zero => intro j T h1 h2; omega
  | succ m ih =>
    intro j T h1 h2 hT
    have hTH := rgPut_H h hT
    refine p_Ring_flip_2 hk ⟨fun c => ?_, fun c => ?_⟩
    · have : 32 ≤ 8 * j := (nI_leI (a := 32) (by omega) (by omega)).mp c
      have e : j = 4 := by omega
      subst e
      exact hT
    · have c2 : ¬ 32 ≤ 8 * j := fun z => c (nI_le (a := 32) z (by omega))
      rw [nI_add]
      refine rz_toI (c_Ring_eight hk (fl_r _ _ _ _ _) hTH (by omega)) ?_
      rw [fl_by hb hp (by omega) (by omega)]
      refine rz_useV (c_Ring_put hk (fl_r _ _ _ _ _) hTH (by omega) (fun i hi => ?_)) (fun S1 q => ?_)
      · rw [b_xor, b_lt256 (y := 0) hi]
        rcases Nat.lt_or_ge i 32 with z | z
        · rw [b_by8 z, decide_eq_false (by omega)]; rfl
        · rw [b_big z]; rfl
      · rw [fl_8 hb hp (by omega) (by omega) rfl] at q
        rw [show (8 : Int32) = nI 8 from rfl, nI_add]
        exact ih (j + 1) S1 (by omega) (by omega) (rgPut_t hT q)
theorem c_Ring_flip {S : rz_S} {k p : Nat} {b : Nat → Bool} {mk : Int32} (hk : rgP k) (hb : rgb b (8 * rgN k)) (h : RgH S k b) (hp : p < 8 * rgN k) : rz_ev mRing_flip [.ref k, .int (nI p), .int mk] S (rz_v (fun S1 => rgPut S k (fl b (8 * rgN k) p mk 32) S1)) := by
  show rz _ 0 [(0, .ref k), (1, .int (nI p)), (2, .int mk)] [] _ _
  refine p_Ring_flip_0 hk ?_
  refine lp_Ring_flip hk hb h hp 5 0 S (by omega) (by omega) ?_
  have : fl b (8 * rgN k) p mk (8 * 0) = b := pw_0 hb hp
  rw [this]
  exact rgPut_0 h
