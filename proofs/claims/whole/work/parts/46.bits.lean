/-! numbers by their bits; the family bt begins as kit/laws/BITS.to-paste has it -/
/-! ===== Int32 by its bits: bt x i ===== -/
def bt (x : Int32) (i : Nat) : Bool := x.toBitVec.getLsbD i
theorem b_ext {x y : Int32} (h : ∀ i, i < 32 → bt x i = bt y i) : x = y := Int32.toBitVec_inj.mp (BitVec.eq_of_getLsbD_eq (fun i hi => h i hi))
theorem b_or (x y : Int32) (i : Nat) : bt (x ||| y) i = (bt x i || bt y i) := by unfold bt; rw [Int32.toBitVec_or, BitVec.getLsbD_or]
theorem b_and (x y : Int32) (i : Nat) : bt (x &&& y) i = (bt x i && bt y i) := by unfold bt; rw [Int32.toBitVec_and, BitVec.getLsbD_and]
theorem b_xor (x y : Int32) (i : Nat) : bt (x ^^^ y) i = (bt x i ^^ bt y i) := by unfold bt; rw [Int32.toBitVec_xor, BitVec.getLsbD_xor]
theorem b_big {x : Int32} {i : Nat} (h : 32 ≤ i) : bt x i = false := BitVec.getLsbD_of_ge _ _ h
theorem b_255 (i : Nat) : bt 255 i = decide (i < 8) := by
  rcases Nat.lt_or_ge i 32 with h | h
  · exact (by decide +kernel : ∀ i, i < 32 → bt 255 i = decide (i < 8)) i h
  · rw [b_big h, decide_eq_false (by omega)]
theorem b_65535 (i : Nat) : bt 65535 i = decide (i < 16) := by
  rcases Nat.lt_or_ge i 32 with h | h
  · exact (by decide +kernel : ∀ i, i < 32 → bt 65535 i = decide (i < 16)) i h
  · rw [b_big h, decide_eq_false (by omega)]
theorem b_m1 : ∀ i, i < 32 → bt (-1) i = true := by decide +kernel
theorem b_0 (i : Nat) : bt 0 i = false := BitVec.getLsbD_zero
theorem s_l : ∀ n, n < 32 → ((nI n &&& 31).toBitVec.smod 32).toNat = n := by decide +kernel
theorem s_u : ∀ n, n < 32 → (((nI n).toUInt32 &&& Int32.toUInt32 31).toBitVec % 32).toNat = n := by decide +kernel
theorem b_shl (n : Nat) (hn : n < 32) (x : Int32) {i : Nat} (hi : i < 32) : bt (x <<< (nI n &&& 31)) i = (decide (n ≤ i) && bt x (i - n)) := by
  unfold bt
  rw [Int32.toBitVec_shiftLeft]
  show (x.toBitVec <<< ((nI n &&& 31).toBitVec.smod 32).toNat).getLsbD i = _
  rw [s_l n hn, BitVec.getLsbD_shiftLeft]
  rcases Nat.lt_or_ge i n with h | h
  · simp [h, Nat.not_le.mpr h]
  · simp [hi, h, Nat.not_lt.mpr h]
theorem b_ushr (n : Nat) (hn : n < 32) (x : Int32) (i : Nat) : bt ((x.toUInt32 >>> ((nI n).toUInt32 &&& Int32.toUInt32 31)).toInt32) i = bt x (n + i) := by
  show (x.toUInt32 >>> ((nI n).toUInt32 &&& Int32.toUInt32 31)).toBitVec.getLsbD i = x.toUInt32.toBitVec.getLsbD (n + i)
  rw [UInt32.toBitVec_shiftRight]
  show (x.toUInt32.toBitVec >>> (((nI n).toUInt32 &&& Int32.toUInt32 31).toBitVec % 32).toNat).getLsbD i = _
  rw [s_u n hn, BitVec.getLsbD_ushiftRight]
theorem b_sshr (n : Nat) (hn : n < 32) (x : Int32) {i : Nat} (hi : i < 32) : bt (x >>> (nI n &&& 31)) i = if n + i < 32 then bt x (n + i) else bt x 31 := by
  unfold bt
  rw [Int32.toBitVec_shiftRight]
  show (x.toBitVec.sshiftRight ((nI n &&& 31).toBitVec.smod 32).toNat).getLsbD i = _
  rw [s_l n hn, BitVec.getLsbD_sshiftRight, BitVec.msb_eq_getLsbD_last]
  simp [hi]
theorem b_shl8 (x : Int32) {i : Nat} (hi : i < 32) : bt (x <<< ((8 : Int32) &&& 31)) i = (decide (8 ≤ i) && bt x (i - 8)) := b_shl 8 (by omega) x hi
theorem b_shl16 (x : Int32) {i : Nat} (hi : i < 32) : bt (x <<< ((16 : Int32) &&& 31)) i = (decide (16 ≤ i) && bt x (i - 16)) := b_shl 16 (by omega) x hi
theorem b_shl24 (x : Int32) {i : Nat} (hi : i < 32) : bt (x <<< ((24 : Int32) &&& 31)) i = (decide (24 ≤ i) && bt x (i - 24)) := b_shl 24 (by omega) x hi
theorem b_sshr8 (x : Int32) {i : Nat} (hi : i < 32) : bt (x >>> ((8 : Int32) &&& 31)) i = if 8 + i < 32 then bt x (8 + i) else bt x 31 := b_sshr 8 (by omega) x hi

theorem b_nI {n i : Nat} (h : i < 32) : bt (nI n) i = n.testBit i := by
  show (BitVec.ofNat 32 n).getLsbD i = _
  rw [BitVec.getLsbD_ofNat]
  simp [h]
theorem b_1 (i : Nat) : bt 1 i = decide (i = 0) := by
  rcases Nat.lt_or_ge i 32 with h | h
  · exact (by decide +kernel : ∀ i, i < 32 → bt 1 i = decide (i = 0)) i h
  · rw [b_big h, decide_eq_false (by omega)]
theorem b_sx (x : Int32) {i : Nat} (hi : i < 32) : bt x.toInt8.toInt32 i = if i < 8 then bt x i else bt x 7 := by
  unfold bt
  rw [Int8.toBitVec_toInt32, Int32.toBitVec_toInt8, BitVec.getLsbD_signExtend]
  by_cases h : i < 8
  · rw [if_pos h, if_pos h, BitVec.getLsbD_signExtend]
    simp [hi, h]
  · rw [if_neg h, if_neg h, BitVec.msb_eq_getLsbD_last, BitVec.getLsbD_signExtend]
    simp [hi]
theorem b_nb (x : Int32) : vp_nar .byte x.toInt8.toInt32 = x.toInt8.toInt32 := pk_vb x
/-- the number of n bits from p on -/
def vl (b : Nat → Bool) (p : Nat) : Nat → Nat
  | 0 => 0
  | n + 1 => 2 * vl b p n + (b (p + n)).toNat
theorem vl_lt (b : Nat → Bool) (p : Nat) : ∀ n, vl b p n < 2 ^ n := by
  intro n
  induction n with
  | zero => exact Nat.one_pos
  | succ n ih =>
    show 2 * vl b p n + (b (p + n)).toNat < 2 ^ (n + 1)
    have : (b (p + n)).toNat ≤ 1 := Bool.toNat_le _
    rw [Nat.pow_succ]
    omega
theorem vl_bit (b : Nat → Bool) (p : Nat) : ∀ n i, (vl b p n).testBit i = (decide (i < n) && b (p + (n - 1 - i))) := by
  intro n
  induction n with
  | zero => intro i; simp [vl]
  | succ n ih =>
    intro i
    have hc : (b (p + n)).toNat ≤ 1 := Bool.toNat_le _
    cases i with
    | zero =>
      rw [Nat.testBit_zero]
      show decide ((2 * vl b p n + (b (p + n)).toNat) % 2 = 1) = _
      have e : p + (n + 1 - 1 - 0) = p + n := by omega
      rw [e]
      cases b (p + n) <;> simp <;> omega
    | succ i =>
      rw [Nat.testBit_succ]
      show ((2 * vl b p n + (b (p + n)).toNat) / 2).testBit i = _
      rw [show (2 * vl b p n + (b (p + n)).toNat) / 2 = vl b p n by omega, ih i]
      have e : p + (n + 1 - 1 - (i + 1)) = p + (n - 1 - i) := by omega
      rw [e]
      by_cases h : i < n
      · rw [decide_eq_true h, decide_eq_true (by omega)]
      · rw [decide_eq_false h, decide_eq_false (by omega)]
theorem vl_ext {b c : Nat → Bool} {p q : Nat} : ∀ {n : Nat}, (∀ i, i < n → b (p + i) = c (q + i)) → vl b p n = vl c q n := by
  intro n
  induction n with
  | zero => intro _; rfl
  | succ n ih =>
    intro h
    show 2 * vl b p n + (b (p + n)).toNat = 2 * vl c q n + (c (q + n)).toNat
    rw [ih (fun i hi => h i (by omega)), h n (by omega)]
/-- the byte from p on; the same as a byte of the machine -/
def by8 (b : Nat → Bool) (p : Nat) : Int32 := nI (vl b p 8)
def sb8 (b : Nat → Bool) (p : Nat) : Int32 := (by8 b p).toInt8.toInt32
theorem b_by8 {b : Nat → Bool} {p i : Nat} (hi : i < 32) : bt (by8 b p) i = (decide (i < 8) && b (p + (7 - i))) := by
  unfold by8
  rw [b_nI hi, vl_bit]
theorem b_sb8 {b : Nat → Bool} {p i : Nat} (hi : i < 32) : bt (sb8 b p) i = b (p + (7 - i)) := by
  unfold sb8
  rw [b_sx _ hi]
  by_cases h : i < 8
  · rw [if_pos h, b_by8 hi]; simp [h]
  · rw [if_neg h, b_by8 (by omega), show 7 - i = 7 - 7 by omega]; simp
theorem by8_ext {b c : Nat → Bool} {p q : Nat} (h : ∀ i, i < 8 → b (p + i) = c (q + i)) : by8 b p = by8 c q := by
  unfold by8
  rw [vl_ext h]
theorem sb8_ext {b c : Nat → Bool} {p q : Nat} (h : ∀ i, i < 8 → b (p + i) = c (q + i)) : sb8 b p = sb8 c q := by
  unfold sb8
  rw [by8_ext h]
theorem by8_lt (b : Nat → Bool) (p : Nat) : vl b p 8 < 256 := vl_lt b p 8
/-- n bits of g laid into the ring b of N bits from p on -/
def pw (b : Nat → Bool) (N p n : Nat) (g : Nat → Bool) : Nat → Bool := fun q => if p ≤ q % N ∧ q % N < p + n then g (q % N - p) else if q % N + N < p + n then g (q % N + N - p) else b (q % N)
def rgb (b : Nat → Bool) (N : Nat) : Prop := ∀ q, b q = b (q % N)
theorem pw_r (b : Nat → Bool) (N p n : Nat) (g : Nat → Bool) : rgb (pw b N p n g) N := by
  intro q
  unfold pw
  rw [Nat.mod_mod]
theorem pw_at {b : Nat → Bool} {N p n q : Nat} {g : Nat → Bool} (hq : q < N) : pw b N p n g q = if p ≤ q ∧ q < p + n then g (q - p) else if q + N < p + n then g (q + N - p) else b q := by
  unfold pw
  rw [Nat.mod_eq_of_lt hq]
theorem rgb_w {b : Nat → Bool} {N q : Nat} (h : rgb b N) : b (q + N) = b q := by
  rw [h (q + N), h q, Nat.add_mod_right]
/-- the place n on -/
def nxp (N p n : Nat) : Nat := if p + n < N then p + n else p + n - N
theorem pw_pw {b : Nat → Bool} {N p n k : Nat} {g g' : Nat → Bool} (hp : p < N) (hn : n + k ≤ N) : pw (pw b N p n g) N (nxp N p n) k g' = pw b N p (n + k) (fun o => if o < n then g o else g' (o - n)) := by
  funext q
  have hN : 0 < N := by omega
  have hq : q % N < N := Nat.mod_lt _ hN
  rw [pw_r _ _ _ _ _ q, pw_r b N p (n + k) _ q]
  generalize q % N = z at hq
  rw [pw_at hq, pw_at hq, pw_at hq]
  unfold nxp
  by_cases h1 : p + n < N
  · rw [if_pos h1]
    by_cases c1 : p + n ≤ z ∧ z < p + n + k
    · rw [if_pos c1, if_pos (by omega), if_neg (by omega)]
      congr 1
      omega
    · rw [if_neg c1]
      by_cases c2 : z + N < p + n + k
      · rw [if_pos c2, if_neg (by omega), if_pos (by omega), if_neg (by omega)]
        congr 1
        omega
      · rw [if_neg c2]
        by_cases c3 : p ≤ z ∧ z < p + n
        · rw [if_pos c3, if_pos (by omega), if_pos (by omega)]
        · rw [if_neg c3, if_neg (by omega), if_neg (by omega), if_neg (by omega)]
  · rw [if_neg h1]
    by_cases c1 : p + n - N ≤ z ∧ z < p + n - N + k
    · rw [if_pos c1, if_neg (by omega), if_pos (by omega), if_neg (by omega)]
      congr 1
      omega
    · rw [if_neg c1, if_neg (by omega)]
      by_cases c3 : p ≤ z ∧ z < p + n
      · rw [if_pos c3, if_pos (by omega), if_pos (by omega)]
      · rw [if_neg c3]
        by_cases c4 : z + N < p + n
        · rw [if_pos c4, if_neg (by omega), if_pos (by omega), if_pos (by omega)]
        · rw [if_neg c4, if_neg (by omega), if_neg (by omega)]
theorem pw_0 {b : Nat → Bool} {N p : Nat} {g : Nat → Bool} (hb : rgb b N) (hp : p < N) : pw b N p 0 g = b := by
  funext q
  have hq : q % N < N := Nat.mod_lt _ (by omega)
  rw [pw_r _ _ _ _ _ q, hb q, pw_at hq, if_neg (by omega), if_neg (by omega)]
theorem pw_ext {b : Nat → Bool} {N p n : Nat} {g g' : Nat → Bool} (hp : p < N) (hn : n ≤ N) (h : ∀ o, o < n → g o = g' o) : pw b N p n g = pw b N p n g' := by
  funext q
  unfold pw
  by_cases c1 : p ≤ q % N ∧ q % N < p + n
  · rw [if_pos c1, if_pos c1, h _ (by omega)]
  · rw [if_neg c1, if_neg c1]
    by_cases c2 : q % N + N < p + n
    · rw [if_pos c2, if_pos c2, h _ (by omega)]
    · rw [if_neg c2, if_neg c2]
