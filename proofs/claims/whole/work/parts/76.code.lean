/-! the group code: encode and decode by bits -/
def gr (v : Nat) : Nat := [10, 11, 18, 19, 14, 15, 22, 23, 9, 25, 26, 27, 13, 29, 30, 21].getD v 21
def dvN (g : Nat) : Nat := [99, 99, 99, 99, 99, 99, 99, 99, 99, 8, 0, 1, 99, 12, 4, 5, 99, 99, 2, 3, 99, 15, 6, 7, 99, 9, 10, 11, 99, 13, 14, 99].getD g 99
def dvI (g : Nat) : Int32 := if dvN g < 16 then nI (dvN g) else -1
/-- the half bytes of a row, and the bits of their groups -/
def nbl (pl : Nat → Nat) (k : Nat) : Nat := if k % 2 = 0 then pl (k / 2) / 16 else pl (k / 2) % 16
def gb (pl : Nat → Nat) (i : Nat) : Bool := (gr (nbl pl (i / 5))).testBit (4 - i % 5)
theorem gr_lt : ∀ v, v < 16 → gr v < 32 := by decide
theorem dv_gr : ∀ v, v < 16 → dvN (gr v) = v := by decide
theorem sa2 : ∀ v, v < 16 → sa_v 2 v = nI (gr v) := by decide +kernel
theorem sa3 : ∀ g, g < 32 → sa_v 3 g = dvI g := by decide +kernel
theorem nbl_lt {pl : Nat → Nat} {k : Nat} (h : pl (k / 2) < 256) : nbl pl k < 16 := by
  unfold nbl
  split <;> omega
theorem ev1 {i : Nat} (h : i < 2 ^ 31) : nI i &&& 1 = nI (i % 2) := pk_andN (by omega) 1 (by decide)
theorem sh1 {i : Nat} (h : i < 2 ^ 31) : nI i >>> ((1 : Int32) &&& 31) = nI (i / 2) := pk_shrN h _ 1 (by decide)
theorem an15 {p : Nat} (h : p < 2 ^ 31) : nI p &&& 15 = nI (p % 16) := pk_andN (by omega) 4 (by decide)
theorem sh4 {p : Nat} (h : p < 2 ^ 31) : nI p >>> ((4 : Int32) &&& 31) = nI (p / 16) := pk_shrN h _ 4 (by decide)
theorem sh0 {p : Nat} (h : p < 2 ^ 31) : nI p >>> ((0 : Int32) &&& 31) = nI p := by
  have := pk_shrN h ((0 : Int32) &&& 31) 0 (by decide)
  rw [this, show 2 ^ 0 = 1 from rfl, Nat.div_one]
theorem b_4095 (i : Nat) : bt 4095 i = decide (i < 12) := by
  rcases Nat.lt_or_ge i 32 with h | h
  · exact (by decide +kernel : ∀ i, i < 32 → bt 4095 i = decide (i < 12)) i h
  · rw [b_big h, decide_eq_false (by omega)]
theorem b_31 (i : Nat) : bt 31 i = decide (i < 5) := by
  rcases Nat.lt_or_ge i 32 with h | h
  · exact (by decide +kernel : ∀ i, i < 32 → bt 31 i = decide (i < 5)) i h
  · rw [b_big h, decide_eq_false (by omega)]
theorem gb_at {pl : Nat → Nat} {i u : Nat} (hu : u < 5) : gb pl (5 * i + (4 - u)) = (gr (nbl pl i)).testBit u := by
  unfold gb
  rw [show (5 * i + (4 - u)) / 5 = i by omega, show 4 - (5 * i + (4 - u)) % 5 = u by omega]
/-- five bits more are held -/
theorem held5 {pl : Nat → Nat} {h h' : Int32} {i m : Nat} (hnb : nbl pl i < 16) (hh : ∀ u, u < m → bt h u = gb pl (5 * i - 1 - u)) (hm : m ≤ 5 * i) (hm7 : m ≤ 7) (e : ∀ u, u < 12 → bt h' u = bt ((h <<< ((5 : Int32) &&& 31)) ||| nI (gr (nbl pl i))) u) : ∀ u, u < m + 5 → bt h' u = gb pl (5 * (i + 1) - 1 - u) := by
  intro u hu
  rw [e u (by omega), b_or, b_shl5 h (by omega), b_nI (by omega)]
  by_cases c : u < 5
  · rw [decide_eq_false (by omega), Bool.false_and, Bool.false_or, ← gb_at c]
    congr 1
    omega
  · have g0 : (gr (nbl pl i)).testBit u = false := by
      apply Nat.testBit_lt_two_pow
      exact Nat.lt_of_lt_of_le (gr_lt _ hnb) (Nat.pow_le_pow_right (n := 2) (by omega) (show 5 ≤ u by omega))
    rw [g0, Bool.or_false, decide_eq_true (by omega), Bool.true_and, hh (u - 5) (by omega)]
    congr 1
    omega
/-- eight of the bits that are held go out -/
theorem held8 {pl : Nat → Nat} {h : Int32} {i m to : Nat} (hh : ∀ u, u < m + 8 → bt h u = gb pl (5 * (i + 1) - 1 - u)) (hm : m < 8) (e : 5 * (i + 1) = 8 * (to + 1) + m) : (h >>> (nI m &&& 31)) &&& 255 = by8 (gb pl) (8 * to) := by
  apply b_ext
  intro j hj
  rw [b_and, b_255, b_by8 hj]
  by_cases c : j < 8
  · rw [decide_eq_true c, Bool.and_true, Bool.true_and, b_sshr m (by omega) _ hj, if_pos (by omega), hh (m + j) (by omega)]
    congr 1
    omega
  · rw [decide_eq_false c, Bool.and_false, Bool.false_and]
/-- S with the row f at k -/
def rwPut (S : rz_S) (k n : Nat) (P : Nat → Int32) (S1 : rz_S) : Prop := ∃ f, S1 = rz_fA S k f ∧ ∀ j, j < n → f j = P j
theorem rz_fA_self (S : rz_S) (k : Nat) : rz_fA S k (S.1 k) = S := by
  apply Prod.ext
  · funext q
    simp only [rz_fA]
    by_cases e : q = k
    · rw [if_pos e, e]
    · rw [if_neg e]
  · rfl
theorem lp_Disk_encode {S : rz_S} {a0 a1 n m : Nat} {pl : Nat → Nat} (h0 : rz_T[a0]? = some (.inl (0, n))) (h1 : rz_T[a1]? = some (.inl (0, m))) (hm : 10 * n = 8 * m) (hn : n ≤ 1000) (ne : a0 ≠ a1) (hp : ∀ j, j < n → S.1 a0 j = nI (pl j) ∧ pl j < 256) : ∀ (w i : Nat) (h : Int32) (f : Nat → Int32), 2 * n < w + i → i ≤ 2 * n → (∀ u, u < 5 * i % 8 → bt h u = gb pl (5 * i - 1 - u)) → (∀ j, j < 5 * i / 8 → f j = by8 (gb pl) (8 * j)) → rz mDisk_encode 10 [(0, .ref a0), (1, .ref a1), (2, .int h), (3, .int (nI (5 * i % 8))), (4, .int (nI (5 * i / 8))), (5, .int (nI i))] [] (rz_fA S a1 f) (rz_v (rwPut S a1 m (fun j => by8 (gb pl) (8 * j)))) := by
  intro w
  induction w with
  | zero => intro i h f c1 c2; omega
  | succ w ih =>
    intro i h f c1 c2 hh hf
    refine p_Disk_encode_10 h0 h1 ?_
    rw [show (2 : Int32) * Int32.ofNat n = nI (2 * n) from pk_mul 2 n, sh1 (by omega), ev1 (by omega)]
    refine ⟨fun c => ?_, fun c => ?_⟩
    · have : 2 * n ≤ i := (nI_leI (by omega) (by omega)).mp c
      have e : i = 2 * n := by omega
      subst e
      exact ⟨f, rfl, fun j hj => hf j (by omega)⟩
    · have hi : ¬ 2 * n ≤ i := fun z => c (nI_le z (by omega))
      have hpi := hp (i / 2) (by omega)
      refine ⟨rin (by omega) (by omega), ?_⟩
      rw [nI_clamp (by omega), rz_fA_n ne, hpi.1]
      have nb16 : nbl pl i < 16 := nbl_lt hpi.2
      have go : ∀ s0 : Int32, (nI (pl (i / 2)) >>> (s0 &&& 31)) &&& 15 = nI (nbl pl i) → rz mDisk_encode 37 [(0, .ref a0), (1, .ref a1), (2, .int h), (3, .int (nI (5 * i % 8))), (4, .int (nI (5 * i / 8))), (5, .int (nI i))] [.int s0, .int (nI (pl (i / 2)))] (rz_fA S a1 f) (rz_v (rwPut S a1 m (fun j => by8 (gb pl) (8 * j)))) := by
        intro s0 e0
        refine p_Disk_encode_37 h0 h1 ?_
        rw [e0, nI_clamp (by omega), sa2 _ nb16, nI_1, show (5 : Int32) = nI 5 from rfl, nI_add]
        refine ⟨rin nb16 (by omega), ?_⟩
        have hh5 := held5 (h' := ((h <<< (nI 5 &&& 31)) ||| nI (gr (nbl pl i))) &&& 4095) nb16 hh (by omega) (by omega) (fun u hu => by rw [b_and, b_4095, decide_eq_true hu, Bool.and_true]; rfl)
        refine ⟨fun d => ?_, fun d => ⟨fun d2 => ?_, fun d2 => ⟨rin ?_ ?_, ?_⟩⟩⟩
        · have d1 : 5 * i % 8 + 5 < 8 := (nI_ltI (b := 8) (by omega) (by omega)).mp d
          have e1 : 5 * (i + 1) % 8 = 5 * i % 8 + 5 := by omega
          have e2 : 5 * (i + 1) / 8 = 5 * i / 8 := by omega
          have := ih (i + 1) (((h <<< (nI 5 &&& 31)) ||| nI (gr (nbl pl i))) &&& 4095) f (by omega) (by omega) (by rw [e1]; exact hh5) (by rw [e2]; exact hf)
          rw [e1, e2] at this
          exact this
        · have : m ≤ 5 * i / 8 := (nI_leI (by omega) (by omega)).mp d2
          have : ¬ 5 * i % 8 + 5 < 8 := fun z => d (nI_lt (b := 8) z (by omega))
          omega
        · have : ¬ 5 * i % 8 + 5 < 8 := fun z => d (nI_lt (b := 8) z (by omega))
          omega
        · omega
        · have d1 : ¬ 5 * i % 8 + 5 < 8 := fun z => d (nI_lt (b := 8) z (by omega))
          have e1 : 5 * (i + 1) % 8 = 5 * i % 8 + 5 - 8 := by omega
          have e2 : 5 * (i + 1) / 8 = 5 * i / 8 + 1 := by omega
          have e3 : nI (5 * i % 8 + 5) + (-8) = nI (5 * i % 8 + 5 - 8) := by
            rw [← pk_sub (a := 5 * i % 8 + 5) (b := 8) (by omega)]
            exact (Int32.sub_eq_add_neg (nI (5 * i % 8 + 5)) 8).symm
          rw [e3, nI_1, nI_clamp (by omega), rz_fA_s, rz_fAA]
          have h8 := held8 (to := 5 * i / 8) (m := 5 * i % 8 + 5 - 8) (i := i) (fun u hu => hh5 u (by omega)) (by omega) (by omega)
          rw [h8]
          have := ih (i + 1) (((h <<< (nI 5 &&& 31)) ||| nI (gr (nbl pl i))) &&& 4095) (upd f (5 * i / 8) (by8 (gb pl) (8 * (5 * i / 8)))) (by omega) (by omega) (by rw [e1]; exact fun u hu => hh5 u (by omega)) (by
            rw [e2]
            intro j hj
            by_cases ej : j = 5 * i / 8
            · subst ej; exact pk_us
            · rw [pk_un ej]; exact hf j (by omega))
          rw [e1, e2] at this
          exact this
      refine ⟨fun z => go 4 ?_, fun z => go 0 ?_⟩
      · have : i % 2 = 0 := (nI_eq (b := 0) (by omega) (by omega)).mp z
        rw [sh4 (by omega), an15 (by omega)]
        unfold nbl
        rw [if_pos this, Nat.mod_eq_of_lt (by omega)]
      · have : ¬ i % 2 = 0 := fun z2 => z (by rw [z2]; rfl)
        rw [sh0 (by omega), an15 (by omega)]
        unfold nbl
        rw [if_neg this]
theorem c_Disk_encode {S : rz_S} {a0 a1 n m : Nat} {pl : Nat → Nat} (h0 : rz_T[a0]? = some (.inl (0, n))) (h1 : rz_T[a1]? = some (.inl (0, m))) (hm : 10 * n = 8 * m) (hn : n ≤ 1000) (ne : a0 ≠ a1) (hp : ∀ j, j < n → S.1 a0 j = nI (pl j) ∧ pl j < 256) : rz_ev mDisk_encode [.ref a0, .ref a1] S (rz_v (rwPut S a1 m (fun j => by8 (gb pl) (8 * j)))) := by
  show rz _ 0 [(0, .ref a0), (1, .ref a1)] [] _ _
  refine p_Disk_encode_0 h0 h1 ?_
  have := lp_Disk_encode h0 h1 hm hn ne hp (2 * n + 1) 0 0 (S.1 a1) (by omega) (by omega) (fun u hu => by omega) (fun j hj => by omega)
  rw [rz_fA_self] at this
  exact this
