/-! the reference's rings; bits and turn: the pairs -/
def tN (t : Nat) : Nat := 1000 - 120 * ((t - 1) / 3)
theorem tN_k {t : Nat} (h1 : 1 ≤ t) : rgN (11 + 2 * t) = tN t := by
  unfold rgN tN
  omega
theorem tP {t : Nat} (h1 : 1 ≤ t) (h2 : t ≤ 12) : rgP (11 + 2 * t) := ⟨by omega, by omega, by omega⟩
theorem tN_b {t : Nat} (h2 : t ≤ 12) : 640 ≤ tN t ∧ tN t ≤ 1000 := by
  unfold tN
  omega
theorem t_lo {t : Nat} (h1 : 1 ≤ t) (h2 : t ≤ 12) : ¬ nI t < 1 := nI_nlt (a := t) (b := 1) h1 (by omega)
theorem t_hi {t : Nat} (h2 : t ≤ 12) : ¬ (12 : Int32) < nI t := nI_nlt (a := 12) (b := t) h2 (by omega)
theorem tN_I : ∀ t, t < 13 → 1 ≤ t → (1000 - 120 * ((nI t - 1) / 3) : Int32) = nI (tN t) := by decide +kernel
theorem c_M_bytes {S : rz_S} {t : Nat} (h1 : 1 ≤ t) (h2 : t ≤ 12) : rz_ev mM_bytesOf [.int (nI t)] S (rz_i (fun x S1 => x = nI (tN t) ∧ S1 = S)) := by
  have := c_M_bytesOf (S := S) (nI t)
  rw [tN_I t (by omega) h1] at this
  exact this
def RfH (S : rz_S) (t : Nat) (b : Nat → Bool) : Prop := ∀ j, j < tN t → S.1 117 (1000 * (t - 1) + j) = sb8 b (8 * j)
theorem ixR {t p : Nat} (h1 : 1 ≤ t) (hp : p < 2 ^ 31) : (1000 * (nI t - 1)) + (nI p >>> ((3 : Int32) &&& 31)) = nI (1000 * (t - 1) + p / 8) := by
  rw [sh3 hp, show (1000 : Int32) = nI 1000 from rfl, show (1 : Int32) = nI 1 from rfl, pk_sub h1, pk_mul, nI_add]
theorem nI7s {p : Nat} : (7 : Int32) - nI (p % 8) = nI (7 - p % 8) := pk_sub (a := 7) (b := p % 8) (by omega)
theorem bit_one {x : Int32} {s : Nat} (hs : s < 32) : (x >>> (nI s &&& 31)) &&& 1 = nI (bt x s).toNat := by
  apply b_ext
  intro i hi
  rw [b_and, b_1, b_sshr s hs _ hi, b_nI hi]
  cases i with
  | zero =>
    rw [if_pos (by omega), Nat.testBit_zero, decide_eq_true rfl, Bool.and_true, Nat.add_zero]
    cases bt x s <;> rfl
  | succ i =>
    have : (bt x s).toNat.testBit (i + 1) = false := by
      cases bt x s
      · exact Nat.zero_testBit _
      · rw [Nat.testBit_succ]; exact Nat.zero_testBit _
    rw [this, decide_eq_false (by omega), Bool.and_false]
theorem c_M_bit {S : rz_S} {t p : Nat} {b : Nat → Bool} (h1 : 1 ≤ t) (h2 : t ≤ 12) (h : RfH S t b) (hp : p < 8 * tN t) : rz_ev mM_bitAt [.ref 116, .int (nI t), .int (nI p)] S (rz_i (fun x S1 => x = nI (b p).toNat ∧ S1 = S)) := by
  have hN := tN_b h2
  show rz _ 0 [(0, .ref 116), (1, .int (nI t)), (2, .int (nI p))] [] _ _
  refine p_M_bitAt_0 ?_
  rw [ixR h1 (by omega), an7 (by omega), nI7s, nI_clamp (by omega), h _ (by omega), bit_one (by omega), b_sb8 (by omega)]
  refine ⟨rin (by omega) (by omega), ?_, rfl⟩
  rw [show 8 * (p / 8) + (7 - (7 - p % 8)) = p by omega]
def RfPut (S : rz_S) (t : Nat) (b : Nat → Bool) (S1 : rz_S) : Prop := ∃ f, S1 = rz_fA S 117 f ∧ (∀ j, j < tN t → f (1000 * (t - 1) + j) = sb8 b (8 * j)) ∧ ∀ i, (i < 1000 * (t - 1) ∨ 1000 * (t - 1) + 1000 ≤ i) → f i = S.1 117 i
theorem RfPut_H {S S1 : rz_S} {t : Nat} {b' : Nat → Bool} (hp : RfPut S t b' S1) : RfH S1 t b' := by
  obtain ⟨f, rfl, hf, _⟩ := hp
  intro j hj
  rw [rz_fA_s]
  exact hf j hj
theorem RfPut_0 {S : rz_S} {t : Nat} {b : Nat → Bool} (h : RfH S t b) : RfPut S t b S := by
  refine ⟨S.1 117, ?_, h, fun _ _ => rfl⟩
  apply Prod.ext
  · funext q
    simp only [rz_fA]
    by_cases e : q = 117
    · rw [if_pos e, e]
    · rw [if_neg e]
  · rfl
theorem RfPut_t {S S1 S2 : rz_S} {t : Nat} {b b' : Nat → Bool} (h1 : RfPut S t b S1) (h2 : RfPut S1 t b' S2) : RfPut S t b' S2 := by
  obtain ⟨f, rfl, _, hf⟩ := h1
  obtain ⟨g, rfl, hg, hg2⟩ := h2
  refine ⟨g, rz_fAA, hg, fun i hi => ?_⟩
  rw [hg2 i hi, rz_fA_s]
  exact hf i hi
theorem b_128 : ∀ r, r < 8 → ∀ i, i < 32 → bt (128 >>> (nI r &&& 31)) i = decide (i = 7 - r) := by decide +kernel
theorem set_by {b : Nat → Bool} {N j p : Nat} {x : Bool} (hN : 8 * j + 8 ≤ N) (hp : p < N) : (p / 8 = j → ∀ i, i < 8 → pw b N p 1 (fun _ => x) (8 * j + i) = if i = p % 8 then x else b (8 * j + i)) ∧ (¬ p / 8 = j → ∀ i, i < 8 → pw b N p 1 (fun _ => x) (8 * j + i) = b (8 * j + i)) := by
  constructor
  · intro e i hi
    rw [pw_at (by omega)]
    by_cases h : i = p % 8
    · rw [if_pos h, if_pos (by omega)]
    · rw [if_neg h, if_neg (by omega), if_neg (by omega)]
  · intro e i hi
    rw [pw_at (by omega), if_neg (by omega), if_neg (by omega)]
theorem c_M_setBit {S : rz_S} {t p : Nat} {b : Nat → Bool} {x : Bool} (h1 : 1 ≤ t) (h2 : t ≤ 12) (h : RfH S t b) (hp : p < 8 * tN t) : rz_ev mM_setBit [.ref 116, .int (nI t), .int (nI p), .int (nI x.toNat)] S (rz_v (fun S1 => RfPut S t (pw b (8 * tN t) p 1 (fun _ => x)) S1)) := by
  have hN := tN_b h2
  have fin : ∀ v : Int32, (∀ i, i < 32 → bt v i = if i < 8 then (if i = 7 - p % 8 then x else b (8 * (p / 8) + (7 - i))) else (if p % 8 = 0 then x else b (8 * (p / 8)))) → RfPut S t (pw b (8 * tN t) p 1 (fun _ => x)) (rz_fA S 117 (upd (S.1 117) (1000 * (t - 1) + p / 8) v)) := by
    intro v hv
    refine ⟨_, rfl, fun j hj => ?_, fun i hi => pk_un (by omega)⟩
    obtain ⟨e1, e2⟩ := set_by (b := b) (x := x) (j := j) (N := 8 * tN t) (p := p) (by omega) hp
    by_cases e : p / 8 = j
    · subst e
      rw [pk_us]
      apply b_ext
      intro i hi
      rw [hv i hi, b_sb8 hi]
      by_cases c : i < 8
      · rw [if_pos c, e1 rfl (7 - i) (by omega)]
        by_cases c2 : i = 7 - p % 8
        · rw [if_pos c2, if_pos (by omega)]
        · rw [if_neg c2, if_neg (by omega)]
      · rw [if_neg c, e1 rfl (7 - i) (by omega)]
        by_cases c2 : p % 8 = 0
        · rw [if_pos c2, if_pos (by omega)]
        · rw [if_neg c2, if_neg (by omega)]
          congr 1
          omega
    · rw [pk_un (by omega), h j hj]
      exact (sb8_ext (e2 e)).symm
  show rz _ 0 [(0, .ref 116), (1, .int (nI t)), (2, .int (nI p)), (3, .int (nI x.toNat))] [] _ _
  refine p_M_setBit_0 ?_
  rw [ixR h1 (by omega), an7 (by omega), nI_clamp (by omega), h _ (by omega), b_nb, b_nb]
  refine ⟨fun c => ⟨rin (by omega) (by omega), fin _ (fun i hi => ?_)⟩, fun c => ⟨rin (by omega) (by omega), fin _ (fun i hi => ?_)⟩⟩
  · have hx : x = true := by
      cases x
      · exact absurd c (by decide)
      · rfl
    subst hx
    rw [b_sx _ hi]
    by_cases c1 : i < 8
    · rw [if_pos c1, if_pos c1, b_or, b_128 _ (by omega) i hi, b_sb8 hi]
      by_cases c2 : i = 7 - p % 8
      · rw [decide_eq_true c2, if_pos c2, Bool.or_true]
      · rw [decide_eq_false c2, if_neg c2, Bool.or_false]
    · rw [if_neg c1, if_neg c1, b_or, b_128 _ (by omega) 7 (by omega), b_sb8 (by omega)]
      by_cases c2 : p % 8 = 0
      · rw [decide_eq_true (by omega), if_pos c2, Bool.or_true]
      · rw [decide_eq_false (by omega), if_neg c2, Bool.or_false]; rfl
  · have hx : x = false := by
      cases x
      · rfl
      · exact absurd (by decide) c
    subst hx
    rw [b_sx _ hi]
    by_cases c1 : i < 8
    · rw [if_pos c1, if_pos c1, b_and, b_xor, b_m1 i hi, b_128 _ (by omega) i hi, b_sb8 hi]
      by_cases c2 : i = 7 - p % 8
      · rw [decide_eq_true c2, if_pos c2]; simp
      · rw [decide_eq_false c2, if_neg c2]; simp
    · rw [if_neg c1, if_neg c1, b_and, b_xor, b_m1 7 (by omega), b_128 _ (by omega) 7 (by omega), b_sb8 (by omega)]
      by_cases c2 : p % 8 = 0
      · rw [decide_eq_true (by omega), if_pos c2]; simp
      · rw [decide_eq_false (by omega), if_neg c2]; simp
theorem c_M_isBit {S : rz_S} (x y : Int32) : rz_ev mM_isBit [.int x, .int y] S (rz_i (fun z S1 => z = (if x < 1 then 0 else if 12 < x then 0 else if y < 0 then 0 else if 8 * (1000 - 120 * ((x - 1) / 3)) ≤ y then 0 else 1) ∧ S1 = S)) := by
  show rz _ 0 [(0, .int x), (1, .int y)] [] _ _
  refine p_M_isBit_0 ⟨fun c => ⟨by rw [if_pos c], rfl⟩, fun c => ⟨fun c2 => ⟨by rw [if_neg c, if_pos c2], rfl⟩, fun c2 => ⟨fun c3 => ⟨by rw [if_neg c, if_neg c2, if_pos c3], rfl⟩, fun c3 => rz_toI (c_M_bytesOf x) ⟨fun c4 => ⟨by rw [if_neg c, if_neg c2, if_neg c3, if_pos c4], rfl⟩, fun c4 => ⟨by rw [if_neg c, if_neg c2, if_neg c3, if_neg c4], rfl⟩⟩⟩⟩⟩
theorem lp_M_bits {S : rz_S} {t p : Nat} {b : Nat → Bool} (h1 : 1 ≤ t) (h2 : t ≤ 12) (hb : rgb b (8 * tN t)) (h : RfH S t b) (hp : p < 8 * tN t) : ∀ (m j : Nat), 32 < m + j → j ≤ 32 → rz mM_bits 24 [(0, .ref 116), (1, .int (nI t)), (2, .int (nI p)), (3, .int (nI (8 * tN t))), (4, .int (nI (vl b p j))), (5, .int (nI j))] [] S (rz_i (fun x S1 => x = nI (vl b p 32) ∧ S1 = S)) := by
  have hN := tN_b h2
  intro m
  induction m with
  | zero => intro j c1 c2; omega
  | succ m ih =>
    intro j c1 c2
    refine p_M_bits_24 ⟨fun c => ?_, fun c => ?_⟩
    · have : 32 ≤ j := (nI_leI (a := 32) (by omega) (by omega)).mp c
      have e : j = 32 := by omega
      subst e
      exact ⟨rfl, rfl⟩
    · have c2 : ¬ 32 ≤ j := fun z => c (nI_le (a := 32) z (by omega))
      refine ⟨nI_ne0 (by omega) (by omega), ?_⟩
      rw [nI_add, pk_rem (by omega) (by omega) (by omega)]
      refine rz_toI (c_M_bit h1 h2 h (Nat.mod_lt _ (by omega))) ?_
      rw [← hb (p + j), vl_1, nI_1]
      exact ih (j + 1) (by omega) (by omega)
theorem lp_M_turn {S : rz_S} {t p : Nat} {b : Nat → Bool} {mk : Int32} (h1 : 1 ≤ t) (h2 : t ≤ 12) (hb : rgb b (8 * tN t)) (hp : p < 8 * tN t) : ∀ (m j : Nat) (T : rz_S), 32 < m + j → j ≤ 32 → RfPut S t (fl b (8 * tN t) p mk j) T → rz mM_turn 22 [(0, .ref 116), (1, .int (nI t)), (2, .int (nI p)), (3, .int mk), (4, .int (nI (8 * tN t))), (5, .int (nI j))] [] T (rz_i (fun x S1 => x = 1 ∧ RfPut S t (fl b (8 * tN t) p mk 32) S1)) := by
  have hN := tN_b h2
  intro m
  induction m with
  | zero => intro j T c1 c2; omega
  | succ m ih =>
    intro j T c1 c2 hT
    refine p_M_turn_22 ⟨fun c => ?_, fun c => ?_⟩
    · have : 32 ≤ j := (nI_leI (a := 32) (by omega) (by omega)).mp c
      have e : j = 32 := by omega
      subst e
      exact ⟨rfl, hT⟩
    · have c2 : ¬ 32 ≤ j := fun z => c (nI_le (a := 32) z (by omega))
      have hq : (p + j) % (8 * tN t) = nxp (8 * tN t) p j := md_add hp (by omega)
      have hq2 : (p + j) % (8 * tN t) < 8 * tN t := Nat.mod_lt _ (by omega)
      have ep : ∀ x : Bool, pw (fl b (8 * tN t) p mk j) (8 * tN t) ((p + j) % (8 * tN t)) 1 (fun _ => x) = pw b (8 * tN t) p (j + 1) (fun o => if o < j then (b (p + o) ^^ bt mk (31 - o)) else x) := by
        intro x
        rw [hq]
        unfold fl
        rw [pw_pw hp (by omega)]
      refine ⟨nI_ne0 (by omega) (by omega), ?_⟩
      rw [nI_add, pk_rem (by omega) (by omega) (by omega), show (31 : Int32) - nI j = nI (31 - j) from pk_sub (a := 31) (by omega), bit_one (by omega), nI_1]
      refine ⟨fun d => ?_, fun d => ?_⟩
      · have hm : bt mk (31 - j) = true := by
          cases hc : bt mk (31 - j)
          · rw [hc] at d; exact absurd d (by decide)
          · rfl
        refine rz_toI (c_M_bit h1 h2 (RfPut_H hT) hq2) ?_
        have e0 : fl b (8 * tN t) p mk j ((p + j) % (8 * tN t)) = b (p + j) := by
          rw [← fl_r b (8 * tN t) p mk j (p + j)]
          exact pw_out hb hp (by omega) (by omega)
        rw [e0]
        have e1 : (1 : Int32) - nI (b (p + j)).toNat = nI (!(b (p + j))).toNat := by cases b (p + j) <;> rfl
        rw [e1]
        refine rz_useV (c_M_setBit h1 h2 (RfPut_H hT) hq2) (fun S1 q => ih (j + 1) S1 (by omega) (by omega) (RfPut_t hT ?_))
        rw [ep] at q
        have e2 : pw b (8 * tN t) p (j + 1) (fun o => if o < j then (b (p + o) ^^ bt mk (31 - o)) else !(b (p + j))) = fl b (8 * tN t) p mk (j + 1) := by
          refine pw_ext hp (by omega) (fun o ho => ?_)
          by_cases z : o < j
          · rw [if_pos z]
          · have : o = j := by omega
            subst this
            rw [if_neg z, hm, Bool.xor_true]
        rw [e2] at q
        exact q
      · have hm : bt mk (31 - j) = false := by
          cases hc : bt mk (31 - j)
          · rfl
          · rw [hc] at d; exact absurd (by decide) d
        refine ih (j + 1) T (by omega) (by omega) ?_
        have e2 : fl b (8 * tN t) p mk (j + 1) = fl b (8 * tN t) p mk j := by
          have e3 : fl b (8 * tN t) p mk j = pw (fl b (8 * tN t) p mk j) (8 * tN t) ((p + j) % (8 * tN t)) 1 (fun _ => b (p + j)) := by
            funext q
            have hq3 : q % (8 * tN t) < 8 * tN t := Nat.mod_lt _ (by omega)
            rw [fl_r b (8 * tN t) p mk j q, pw_r _ _ _ _ _ q]
            generalize q % (8 * tN t) = z at hq3
            rw [pw_at hq3]
            by_cases c3 : (p + j) % (8 * tN t) ≤ z ∧ z < (p + j) % (8 * tN t) + 1
            · rw [if_pos c3]
              have : z = (p + j) % (8 * tN t) := by omega
              rw [this, ← fl_r b (8 * tN t) p mk j (p + j)]
              exact pw_out hb hp (by omega) (by omega)
            · rw [if_neg c3, if_neg (by omega)]
          rw [e3, ep]
          refine pw_ext hp (by omega) (fun o ho => ?_)
          by_cases z : o < j
          · rw [if_pos z]
          · have : o = j := by omega
            subst this
            rw [if_neg z, hm, Bool.xor_false]
        rw [e2]
        exact hT
/-- the DISK: both have the same bits -/
def R_rings (S : rz_S) : Prop := ∃ B : Nat → Nat → Bool, ∀ t, 1 ≤ t → t ≤ 12 → rgb (B t) (8 * tN t) ∧ RgH S (11 + 2 * t) (B t) ∧ RfH S t (B t)
theorem trk (x : Int32) : (x < 1 ∨ 12 < x) ∨ ∃ t : Nat, 1 ≤ t ∧ t ≤ 12 ∧ x = nI t := by
  rcases pk_ix x (n := 13) (by decide) with h | h | ⟨j, hj, rfl⟩
  · exact Or.inl (Or.inl (Int32.lt_iff_toInt_lt.mpr (by have := Int32.lt_iff_toInt_lt.mp h; simp at this ⊢; omega)))
  · exact Or.inl (Or.inr (Int32.lt_iff_toInt_lt.mpr (by have := Int32.le_iff_toInt_le.mp h; rw [nI_toInt (by decide)] at this; simp at this ⊢; omega)))
  · cases j with
    | zero => exact Or.inl (Or.inl (by decide))
    | succ j => exact Or.inr ⟨j + 1, by omega, by omega, rfl⟩
theorem c_Disk_ring {S : rz_S} {t : Nat} (h1 : 1 ≤ t) (h2 : t ≤ 12) : rz_ev mDisk_ring [.ref 6, .int (nI t)] S (rz_r (fun v S1 => v = .ref (11 + 2 * t) ∧ S1 = S)) := by
  show rz _ 0 [(0, .ref 6), (1, .int (nI t))] [] _ _
  refine p_Disk_ring_0 ⟨fun c => absurd c (nI_nlt (a := t) (b := 1) h1 (by omega)), fun _ => ⟨fun c => absurd c (nI_nlt (a := 12) (b := t) h2 (by omega)), fun _ => ?_⟩⟩
  rw [show (1 : Int32) = nI 1 from rfl, pk_sub h1, nI_clamp (by omega)]
  exact ⟨rin (by omega) (by omega), by rw [show 13 + 2 * (t - 1) = 11 + 2 * t by omega], rfl⟩
theorem c_Disk_ring0 {S : rz_S} {x : Int32} (h : x < 1 ∨ 12 < x) : rz_ev mDisk_ring [.ref 6, .int x] S (rz_r (fun v S1 => v = .null ∧ S1 = S)) := by
  show rz _ 0 [(0, .ref 6), (1, .int x)] [] _ _
  refine p_Disk_ring_0 ⟨fun _ => ⟨rfl, rfl⟩, fun c => ⟨fun _ => ⟨rfl, rfl⟩, fun c2 => absurd h (fun z => z.elim c c2)⟩⟩
theorem R_rings_put {S S1 S2 : rz_S} {t : Nat} {b : Nat → Bool} {B : Nat → Nat → Bool} (h1 : 1 ≤ t) (h2 : t ≤ 12) (hB : ∀ t, 1 ≤ t → t ≤ 12 → rgb (B t) (8 * tN t) ∧ RgH S (11 + 2 * t) (B t) ∧ RfH S t (B t)) (hb : rgb b (8 * tN t)) (hx : rgPut S (11 + 2 * t) b S1) (hm : RfPut S1 t b S2) : R_rings S2 := by
  have hx2 := rgPut_H (hB t h1 h2).2.1 hx
  have hm2 := RfPut_H hm
  obtain ⟨f, rfl, _⟩ := hx
  obtain ⟨g, rfl, _, hg⟩ := hm
  refine ⟨fun u => if u = t then b else B u, fun u u1 u2 => ?_⟩
  by_cases e : u = t
  · subst e
    simp only [if_true]
    refine ⟨hb, ⟨hx2.1, fun j hj => ?_⟩, hm2⟩
    rw [rz_fA_n (by omega)]
    exact hx2.2 j hj
  · simp only [if_neg e]
    obtain ⟨a1, a2, a3⟩ := hB u u1 u2
    refine ⟨a1, ⟨a2.1, fun j hj => ?_⟩, fun j hj => ?_⟩
    · rw [rz_fA_n (by omega), rz_fA_n (by omega)]
      exact a2.2 j hj
    · have hN := tN_b u2
      rw [rz_fA_s, hg _ (by omega), rz_fA_n (by omega)]
      exact a3 j hj
theorem rd_bits {S : rz_S} {P : rz_S → Prop} (hR : R_rings S) (hP : P S) (x y : Int32) : rd_two mX_bits mM_bits [.int x, .int y] S P := by
  obtain ⟨B, hB⟩ := hR
  rcases trk x with h | ⟨t, h1, h2, rfl⟩
  · have hx : rz_ev mX_bits [.ref 0, .int x, .int y] S (rz_i (fun x S1 => x = 0 ∧ S1 = S)) := by
      show rz _ 0 [(0, .ref 0), (1, .int x), (2, .int y)] [] _ _
      exact p_X_bits_0 (rz_toR (c_Disk_ring0 h) (p_X_bits_8 ⟨rfl, rfl⟩))
    have hm : rz_ev mM_bits [.ref 116, .int x, .int y] S (rz_i (fun x S1 => x = 0 ∧ S1 = S)) := by
      show rz _ 0 [(0, .ref 116), (1, .int x), (2, .int y)] [] _ _
      refine p_M_bits_0 (rz_toI (c_M_isBit x y) ?_)
      have e : (if x < 1 then (0 : Int32) else if 12 < x then 0 else if y < 0 then 0 else if 8 * (1000 - 120 * ((x - 1) / 3)) ≤ y then 0 else 1) = 0 := by
        rcases h with h | h
        · rw [if_pos h]
        · by_cases c : x < 1
          · rw [if_pos c]
          · rw [if_neg c, if_pos h]
      rw [e]
      exact ⟨fun _ => ⟨rfl, rfl⟩, fun c => absurd rfl c⟩
    exact rd_exact hx hm rfl hP
  · obtain ⟨hb, hX, hM⟩ := hB t h1 h2
    have hN := tN_b h2
    have hk := tP h1 h2
    have eN := tN_k h1
    rcases pk_ix y (n := 8 * tN t) (by omega) with h | h | ⟨p, hp, rfl⟩
    · have hx : rz_ev mX_bits [.ref 0, .int (nI t), .int y] S (rz_i (fun x S1 => x = 0 ∧ S1 = S)) := by
        show rz _ 0 [(0, .ref 0), (1, .int (nI t)), (2, .int y)] [] _ _
        refine p_X_bits_0 (rz_toR (c_Disk_ring h1 h2) (p_X_bits_8' hk (rz_toI (c_Ring_hasBit hX hk y) ?_)))
        rw [if_pos h]
        exact ⟨fun _ => ⟨rfl, rfl⟩, fun c => absurd rfl c⟩
      have hm : rz_ev mM_bits [.ref 116, .int (nI t), .int y] S (rz_i (fun x S1 => x = 0 ∧ S1 = S)) := by
        show rz _ 0 [(0, .ref 116), (1, .int (nI t)), (2, .int y)] [] _ _
        refine p_M_bits_0 (rz_toI (c_M_isBit _ y) ?_)
        have e : (if nI t < 1 then (0 : Int32) else if 12 < nI t then 0 else if y < 0 then 0 else if 8 * (1000 - 120 * ((nI t - 1) / 3)) ≤ y then 0 else 1) = 0 := by
          rw [if_pos h]
          split
          · rfl
          · split <;> rfl
        rw [e]
        exact ⟨fun _ => ⟨rfl, rfl⟩, fun c => absurd rfl c⟩
      exact rd_exact hx hm rfl hP
    · have hx : rz_ev mX_bits [.ref 0, .int (nI t), .int y] S (rz_i (fun x S1 => x = 0 ∧ S1 = S)) := by
        show rz _ 0 [(0, .ref 0), (1, .int (nI t)), (2, .int y)] [] _ _
        refine p_X_bits_0 (rz_toR (c_Disk_ring h1 h2) (p_X_bits_8' hk (rz_toI (c_Ring_hasBit hX hk y) ?_)))
        have e : (if y < 0 then (0 : Int32) else if nI (8 * rgN (11 + 2 * t)) ≤ y then 0 else 1) = 0 := by
          rw [eN, if_pos h]
          split <;> rfl
        rw [e]
        exact ⟨fun _ => ⟨rfl, rfl⟩, fun c => absurd rfl c⟩
      have hm : rz_ev mM_bits [.ref 116, .int (nI t), .int y] S (rz_i (fun x S1 => x = 0 ∧ S1 = S)) := by
        show rz _ 0 [(0, .ref 116), (1, .int (nI t)), (2, .int y)] [] _ _
        refine p_M_bits_0 (rz_toI (c_M_isBit _ y) ?_)
        have e : (if nI t < 1 then (0 : Int32) else if 12 < nI t then 0 else if y < 0 then 0 else if 8 * (1000 - 120 * ((nI t - 1) / 3)) ≤ y then 0 else 1) = 0 := by
          rw [tN_I t (by omega) h1, show (8 : Int32) = nI 8 from rfl, pk_mul, if_pos h]
          split
          · rfl
          · split
            · rfl
            · split <;> rfl
        rw [e]
        exact ⟨fun _ => ⟨rfl, rfl⟩, fun c => absurd rfl c⟩
      exact rd_exact hx hm rfl hP
    · have hx : rz_ev mX_bits [.ref 0, .int (nI t), .int (nI p)] S (rz_i (fun x S1 => x = nI (vl (B t) p 32) ∧ S1 = S)) := by
        show rz _ 0 [(0, .ref 0), (1, .int (nI t)), (2, .int (nI p))] [] _ _
        refine p_X_bits_0 (rz_toR (c_Disk_ring h1 h2) (p_X_bits_8' hk (rz_toI (c_Ring_hasBit hX hk _) ?_)))
        rw [eN, if_neg (nI_pos (by omega)), if_neg (nI_ge hp (by omega))]
        exact ⟨fun c => absurd c (by decide), fun _ => rz_toI (c_Ring_word hk (by rw [eN]; exact hb) hX (by omega)) ⟨rfl, rfl⟩⟩
      have hm : rz_ev mM_bits [.ref 116, .int (nI t), .int (nI p)] S (rz_i (fun x S1 => x = nI (vl (B t) p 32) ∧ S1 = S)) := by
        show rz _ 0 [(0, .ref 116), (1, .int (nI t)), (2, .int (nI p))] [] _ _
        refine p_M_bits_0 (rz_toI (c_M_isBit _ _) ?_)
        rw [tN_I t (by omega) h1, show (8 : Int32) = nI 8 from rfl, pk_mul, if_neg (t_lo h1 h2), if_neg (t_hi h2), if_neg (nI_pos (by omega)), if_neg (nI_ge hp (by omega))]
        refine ⟨fun c => absurd c (by decide), fun _ => rz_toI (c_M_bytes h1 h2) ?_⟩
        rw [pk_mul]
        exact lp_M_bits h1 h2 hb hM hp 33 0 (by omega) (by omega)
      exact rd_exact hx hm rfl hP
theorem rd_turn {S : rz_S} {P : rz_S → Prop} (hR : R_rings S) (hP0 : P S) (hP : ∀ t f g, 1 ≤ t → t ≤ 12 → R_rings (rz_fA (rz_fA S (12 + 2 * t) f) 117 g) → P (rz_fA (rz_fA S (12 + 2 * t) f) 117 g)) (x y mk : Int32) : rd_two mX_turn mM_turn [.int x, .int y, .int mk] S P := by
  obtain ⟨B, hB⟩ := hR
  have nope : ∀ x : Int32, rz_ev mX_turn [.ref 0, .int x, .int y, .int mk] S (rz_i (fun x S1 => x = 0 ∧ S1 = S)) → (if x < 1 then (0 : Int32) else if 12 < x then 0 else if y < 0 then 0 else if 8 * (1000 - 120 * ((x - 1) / 3)) ≤ y then 0 else 1) = 0 → rd_two mX_turn mM_turn [.int x, .int y, .int mk] S P := by
    intro x hx e
    refine rd_exact hx (b := 0) (SM := S) ?_ rfl hP0
    show rz _ 0 [(0, .ref 116), (1, .int x), (2, .int y), (3, .int mk)] [] _ _
    refine p_M_turn_0 (rz_toI (c_M_isBit x y) ?_)
    rw [e]
    exact ⟨fun _ => ⟨rfl, rfl⟩, fun c => absurd rfl c⟩
  rcases trk x with h | ⟨t, h1, h2, rfl⟩
  · refine nope x ?_ ?_
    · show rz _ 0 [(0, .ref 0), (1, .int x), (2, .int y), (3, .int mk)] [] _ _
      exact p_X_turn_0 (rz_toR (c_Disk_ring0 h) (p_X_turn_8 ⟨rfl, rfl⟩))
    · rcases h with h | h
      · rw [if_pos h]
      · by_cases c : x < 1
        · rw [if_pos c]
        · rw [if_neg c, if_pos h]
  · obtain ⟨hb, hX, hM⟩ := hB t h1 h2
    have hN := tN_b h2
    have hk := tP h1 h2
    have eN := tN_k h1
    rcases pk_ix y (n := 8 * tN t) (by omega) with h | h | ⟨p, hp, rfl⟩
    · refine nope _ ?_ ?_
      · show rz _ 0 [(0, .ref 0), (1, .int (nI t)), (2, .int y), (3, .int mk)] [] _ _
        refine p_X_turn_0 (rz_toR (c_Disk_ring h1 h2) (p_X_turn_8' hk (rz_toI (c_Ring_hasBit hX hk y) ?_)))
        rw [if_pos h]
        exact ⟨fun _ => ⟨rfl, rfl⟩, fun c => absurd rfl c⟩
      · rw [if_pos h]
        split
        · rfl
        · split <;> rfl
    · refine nope _ ?_ ?_
      · show rz _ 0 [(0, .ref 0), (1, .int (nI t)), (2, .int y), (3, .int mk)] [] _ _
        refine p_X_turn_0 (rz_toR (c_Disk_ring h1 h2) (p_X_turn_8' hk (rz_toI (c_Ring_hasBit hX hk y) ?_)))
        have e : (if y < 0 then (0 : Int32) else if nI (8 * rgN (11 + 2 * t)) ≤ y then 0 else 1) = 0 := by
          rw [eN, if_pos h]
          split <;> rfl
        rw [e]
        exact ⟨fun _ => ⟨rfl, rfl⟩, fun c => absurd rfl c⟩
      · rw [tN_I t (by omega) h1, show (8 : Int32) = nI 8 from rfl, pk_mul, if_pos h]
        split
        · rfl
        · split
          · rfl
          · split <;> rfl
    · have hx : rz_ev mX_turn [.ref 0, .int (nI t), .int (nI p), .int mk] S (rz_i (fun x S1 => x = 1 ∧ rgPut S (11 + 2 * t) (fl (B t) (8 * tN t) p mk 32) S1)) := by
        show rz _ 0 [(0, .ref 0), (1, .int (nI t)), (2, .int (nI p)), (3, .int mk)] [] _ _
        refine p_X_turn_0 (rz_toR (c_Disk_ring h1 h2) (p_X_turn_8' hk (rz_toI (c_Ring_hasBit hX hk _) ?_)))
        rw [eN, if_neg (nI_pos (by omega)), if_neg (nI_ge hp (by omega))]
        refine ⟨fun c => absurd c (by decide), fun _ => rz_useV (c_Ring_flip hk (by rw [eN]; exact hb) hX (by omega)) (fun S1 q => ⟨rfl, ?_⟩)⟩
        rw [eN] at q
        exact q
      refine rz_useI hx (fun x1 S1 q => ?_)
      obtain ⟨rfl, q⟩ := q
      have q0 := q
      obtain ⟨f, rfl, qf⟩ := q
      have hM1 : RfH (rz_fA S (11 + 2 * t + 1) f) t (B t) := by
        intro j hj
        rw [rz_fA_n (by omega)]
        exact hM j hj
      show rz _ 0 [(0, .ref 116), (1, .int (nI t)), (2, .int (nI p)), (3, .int mk)] [] _ _
      refine p_M_turn_0 (rz_toI (c_M_isBit _ _) ?_)
      rw [tN_I t (by omega) h1, show (8 : Int32) = nI 8 from rfl, pk_mul, if_neg (t_lo h1 h2), if_neg (t_hi h2), if_neg (nI_pos (by omega)), if_neg (nI_ge hp (by omega))]
      refine ⟨fun c => absurd c (by decide), fun _ => rz_toI (c_M_bytes h1 h2) ?_⟩
      rw [pk_mul]
      have l0 : RfPut (rz_fA S (11 + 2 * t + 1) f) t (fl (B t) (8 * tN t) p mk 0) (rz_fA S (11 + 2 * t + 1) f) := by
        rw [show fl (B t) (8 * tN t) p mk 0 = B t from pw_0 hb hp]
        exact RfPut_0 hM1
      refine rz_weak (lp_M_turn h1 h2 hb hp 33 0 _ (by omega) (by omega) l0) (fun r S2 q2 => ?_)
      obtain ⟨y2, rfl, rfl, q2⟩ := q2
      refine ⟨_, rfl, rfl, ?_⟩
      have hR2 := R_rings_put h1 h2 hB (fl_r _ _ _ _ _) q0 q2
      obtain ⟨g, rfl, _⟩ := q2
      have e12 : 11 + 2 * t + 1 = 12 + 2 * t := by omega
      rw [e12] at hR2 ⊢
      exact hP t f g h1 h2 hR2
