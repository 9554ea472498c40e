/-! headers, and SEEK on both sides -/
theorem nx_xor (a b : Nat) : nI a ^^^ nI b = nI (a ^^^ b) := by
  apply Int32.toBitVec_inj.1
  show BitVec.ofNat 32 a ^^^ BitVec.ofNat 32 b = BitVec.ofNat 32 (a ^^^ b)
  apply BitVec.eq_of_getLsbD_eq
  intro i hi
  simp [hi]
theorem gb_vl {pl : Nat → Nat} {k : Nat} (h : nbl pl k < 16) : vl (gb pl) (5 * k) 5 = gr (nbl pl k) := by
  apply Nat.eq_of_testBit_eq
  intro i
  rw [vl_bit]
  by_cases c : i < 5
  · rw [decide_eq_true c, Bool.true_and, ← gb_at c]
  · rw [decide_eq_false c, Bool.false_and]
    exact (Nat.testBit_lt_two_pow (Nat.lt_of_lt_of_le (gr_lt _ h) (Nat.pow_le_pow_right (n := 2) (by omega) (show 5 ≤ i by omega)))).symm
theorem gb_gv {pl : Nat → Nat} {k : Nat} (h : pl (k / 2) < 256) : gv (gb pl) k = nbl pl k := by
  have := nbl_lt h
  unfold gv
  rw [gb_vl this, dv_gr _ this]
theorem gb_dec {pl : Nat → Nat} {j : Nat} (h : pl j < 256) : dec (gb pl) j = pl j := by
  unfold dec
  rw [gb_gv (by rw [show 2 * j / 2 = j by omega]; exact h), gb_gv (by rw [show (2 * j + 1) / 2 = j by omega]; exact h)]
  unfold nbl
  rw [if_pos (by omega), if_neg (by omega), show 2 * j / 2 = j by omega, show (2 * j + 1) / 2 = j by omega]
  omega
theorem gr_zero : ∀ v, v < 16 → ∃ u, u < 5 ∧ (gr v).testBit u = false := by decide
/-- a group has a 0: nowhere lie ten 1s in a row -/
theorem gb_quiet {pl : Nat → Nat} {n s : Nat} (h : ∀ j, j < n → pl j < 256) (hs : s + 10 ≤ 10 * n) : ∃ u, u < 10 ∧ gb pl (s + u) = false := by
  obtain ⟨u, hu, e⟩ := gr_zero (nbl pl ((s + 4) / 5)) (nbl_lt (h _ (by omega)))
  refine ⟨5 * ((s + 4) / 5) + (4 - u) - s, by omega, ?_⟩
  rw [show s + (5 * ((s + 4) / 5) + (4 - u) - s) = 5 * ((s + 4) / 5) + (4 - u) by omega, gb_at hu]
  exact e
def hpl (t s i j : Nat) : Nat → Nat
  | 0 => 8
  | 1 => ((s ^^^ t) ^^^ i) ^^^ j
  | 2 => s
  | 3 => t
  | 4 => j
  | 5 => i
  | 6 => 15
  | 7 => 15
  | _ => 0
theorem xor_256 {a b : Nat} (ha : a < 256) (hb : b < 256) : a ^^^ b < 256 := Nat.xor_lt_two_pow (n := 8) ha hb
theorem hpl_lt {t s i j : Nat} (ht : t < 256) (hs : s < 256) (hi : i < 256) (hj : j < 256) : ∀ k, hpl t s i j k < 256 := by
  intro k
  match k with
  | 0 => exact (by decide : (8 : Nat) < 256)
  | 1 => exact xor_256 (xor_256 (xor_256 hs ht) hi) hj
  | 2 => exact hs
  | 3 => exact ht
  | 4 => exact hj
  | 5 => exact hi
  | 6 => exact (by decide : (15 : Nat) < 256)
  | 7 => exact (by decide : (15 : Nat) < 256)
  | k + 8 => exact (by decide : (0 : Nat) < 256)
def hrow (f : Nat → Int32) (t s i j : Nat) : Nat → Int32 := upd (upd (upd (upd (upd (upd (upd (upd f 0 8) 1 (((nI s ^^^ nI t) ^^^ nI i) ^^^ nI j)) 2 (nI s)) 3 (nI t)) 4 (nI j)) 5 (nI i)) 6 15) 7 15
theorem hrow_at {f : Nat → Int32} {t s i j : Nat} : ∀ k, k < 8 → hrow f t s i j k = nI (hpl t s i j k) := by
  intro k hk
  match k, hk with
  | 0, _ => rfl
  | 1, _ =>
    show ((nI s ^^^ nI t) ^^^ nI i) ^^^ nI j = nI (((s ^^^ t) ^^^ i) ^^^ j)
    rw [nx_xor, nx_xor, nx_xor]
  | 2, _ => rfl
  | 3, _ => rfl
  | 4, _ => rfl
  | 5, _ => rfl
  | 6, _ => rfl
  | 7, _ => rfl
  | k + 8, h => exact absurd h (by omega)
theorem c_Disk_fillHeader {S : rz_S} {t s i j : Nat} : rz_ev mDisk_fillHeader [.ref 6, .int (nI t), .int (nI s), .int (nI i), .int (nI j)] S (rz_v (fun S1 => S1 = rz_fA S 8 (hrow (S.1 8) t s i j))) := by
  show rz _ 0 [(0, .ref 6), (1, .int (nI t)), (2, .int (nI s)), (3, .int (nI i)), (4, .int (nI j))] [] _ _
  refine p_Disk_fillHeader_0 ?_
  rw [rz_fAA, rz_fAA, rz_fAA, rz_fAA, rz_fAA, rz_fAA, rz_fAA]
  rfl
theorem c_M_header {S : rz_S} {t s i j : Nat} (ht : t < 256) (hs : s < 256) (hi : i < 256) (hj : j < 256) : rz_ev mM_header [.ref 116, .int (nI t), .int (nI s), .int (nI i), .int (nI j)] S (rz_v (fun S1 => ∃ f g, S1 = rz_fA (rz_fA S 119 f) 120 g ∧ ∀ q, q < 10 → g q = by8 (gb (hpl t s i j)) (8 * q))) := by
  show rz _ 0 [(0, .ref 116), (1, .int (nI t)), (2, .int (nI s)), (3, .int (nI i)), (4, .int (nI j))] [] _ _
  refine p_M_header_0 ?_
  rw [rz_fAA, rz_fAA, rz_fAA, rz_fAA, rz_fAA, rz_fAA, rz_fAA]
  refine rz_useV (c_M_codes (n := 8) (pl := hpl t s i j) (by omega) (fun q hq => ⟨?_, hpl_lt ht hs hi hj q⟩)) (fun S1 q => ?_)
  · rw [rz_fA_s]
    exact hrow_at q hq
  · obtain ⟨g, rfl, hg⟩ := q
    exact ⟨_, g, rfl, hg⟩
/-- the ten bytes at p are those of the header -/
def mt (b h : Nat → Bool) (p : Nat) : Prop := ∀ i, i < 10 → by8 b (p + 8 * i) = by8 h (8 * i)
theorem by8_inj {b c : Nat → Bool} {p q : Nat} (h : by8 b p = by8 c q) : ∀ i, i < 8 → b (p + i) = c (q + i) := by
  intro i hi
  have this : bt (by8 b p) (7 - i) = bt (by8 c q) (7 - i) := by rw [h]
  rw [b_by8 (by omega), b_by8 (by omega), decide_eq_true (by omega), Bool.true_and, Bool.true_and, show 7 - (7 - i) = i by omega] at this
  exact this
theorem mt_bit {b h : Nat → Bool} {p : Nat} (hm : mt b h p) : ∀ i, i < 80 → b (p + i) = h i := by
  intro i hi
  have := by8_inj (hm (i / 8) (by omega)) (i % 8) (by omega)
  rw [show p + 8 * (i / 8) + i % 8 = p + i by omega, show 8 * (i / 8) + i % 8 = i by omega] at this
  exact this
/-! the class: holds -/
theorem lp_Ring_holds {S : rz_S} {k p : Nat} {b h : Nat → Bool} (hk : rgP k) (hb : rgb b (8 * rgN k)) (hR : RgH S k b) (hp : p < 8 * rgN k) (h9 : ∀ i, i < 10 → S.1 9 i = by8 h (8 * i)) : ∀ (w i : Nat), 10 < w + i → i ≤ 10 → (∀ u, u < i → by8 b (p + 8 * u) = by8 h (8 * u)) → rz mRing_holds 16 [(0, .ref k), (2, .ref 9), (3, .int (nI ((p / 8 + i) % rgN k))), (4, .int (8 - (nI p &&& 7))), (5, .int (nI i))] [] S (rz_i (fun x S1 => S1 = S ∧ ((mt b h p ∧ x = 1) ∨ (¬ mt b h p ∧ x = 0)))) := by
  have hN := rgN_b hk
  intro w
  induction w with
  | zero => intro i c1 c2; omega
  | succ w ih =>
    intro i c1 c2 hu
    have hc : (p / 8 + i) % rgN k < rgN k := Nat.mod_lt _ (by omega)
    refine p_Ring_holds_16 (na2 := 10) hk rfl ⟨fun c => ?_, fun c => ?_⟩
    · have : 10 ≤ i := (nI_leI (a := 10) (by omega) (by omega)).mp c
      have e : i = 10 := by omega
      subst e
      exact ⟨rfl, Or.inl ⟨hu, rfl⟩⟩
    · have hi : ¬ 10 ≤ i := fun z => c (nI_le (a := 10) z (by omega))
      have hmd := md1 (N := rgN k) (q := p / 8 + i) (by omega)
      -- the byte here
      have val : ∀ nx, nx = (if (p / 8 + i) % rgN k + 1 < rgN k then (p / 8 + i) % rgN k + 1 else 0) → ((((by8 b (8 * ((p / 8 + i) % rgN k))) <<< ((8 : Int32) &&& 31)) ||| (by8 b (8 * nx))) >>> ((8 - (nI p &&& 7)) &&& 31)) &&& 255 = by8 b (p + 8 * i) := by
        intro nx hx
        have e7 : nI p &&& 7 = nI (8 * ((p / 8 + i) % rgN k) + p % 8) &&& 7 := by
          rw [an7 (by omega), an7 (by omega), show (8 * ((p / 8 + i) % rgN k) + p % 8) % 8 = p % 8 by omega]
        rw [e7, eight_val hb (c := (p / 8 + i) % rgN k) (by omega) hc (by omega) hx]
        refine by8_ext (fun u _ => ?_)
        have hq := Nat.div_add_mod (p / 8 + i) (rgN k)
        generalize (p / 8 + i) / rgN k = dq at hq
        generalize (p / 8 + i) % rgN k = mq at hq
        rw [hb (8 * mq + p % 8 + u), hb (p + 8 * i + u)]
        have e1 : p + 8 * i + u = 8 * rgN k * dq + (8 * mq + p % 8 + u) := by
          have e2 : 8 * rgN k * dq = 8 * (rgN k * dq) := Nat.mul_assoc _ _ _
          omega
        rw [e1, Nat.mul_add_mod]
      have go : ∀ nx, nx = (if (p / 8 + i) % rgN k + 1 < rgN k then (p / 8 + i) % rgN k + 1 else 0) → rz mRing_holds 41 [(0, .ref k), (2, .ref 9), (3, .int (nI ((p / 8 + i) % rgN k))), (4, .int (8 - (nI p &&& 7))), (5, .int (nI i))] [.int (nI nx)] S (rz_i (fun x S1 => S1 = S ∧ ((mt b h p ∧ x = 1) ∨ (¬ mt b h p ∧ x = 0)))) := by
        intro nx hx
        have hnx : nx < rgN k := by rw [hx]; split <;> omega
        refine p_Ring_holds_41 (na2 := 10) hk rfl ?_
        rw [nI_clamp (by omega), nI_clamp (by omega), nI_clamp (by omega), hR.2 _ hc, hR.2 _ hnx, h9 i (by omega), val nx hx, nI_1]
        refine ⟨fun z => absurd z (nI_pos (by omega)), fun _ => ⟨fun z => absurd z (nI_ge hc (by omega)), fun _ => ⟨rin hc (by omega), rin hnx (by omega), rin (by omega) (by omega), fun z => ?_, fun z => ?_⟩⟩⟩
        · have := ih (i + 1) (by omega) (by omega) (fun u hu2 => by
            by_cases e : u = i
            · subst e; exact z
            · exact hu u (by omega))
          rw [show p / 8 + (i + 1) = p / 8 + i + 1 by omega, hmd, ← hx] at this
          exact this
        · exact ⟨rfl, Or.inr ⟨fun m => z (m i (by omega)), rfl⟩⟩
      rw [nI_1]
      refine ⟨fun z => ?_, fun z => ?_⟩
      · have : rgN k ≤ (p / 8 + i) % rgN k + 1 := (nI_leI (by omega) (by omega)).mp z
        exact go 0 (by rw [if_neg (by omega)])
      · have : ¬ rgN k ≤ (p / 8 + i) % rgN k + 1 := fun q => z (nI_le q (by omega))
        exact go _ (by rw [if_pos (by omega)])
theorem c_Ring_holds {S : rz_S} {k p : Nat} {b h : Nat → Bool} (hk : rgP k) (hb : rgb b (8 * rgN k)) (hR : RgH S k b) (hp : p < 8 * rgN k) (h9 : ∀ i, i < 10 → S.1 9 i = by8 h (8 * i)) : rz_ev mRing_holds [.ref k, .int (nI p), .ref 9] S (rz_i (fun x S1 => S1 = S ∧ ((mt b h p ∧ x = 1) ∨ (¬ mt b h p ∧ x = 0)))) := by
  have hN := rgN_b hk
  show rz _ 0 [(0, .ref k), (1, .int (nI p)), (2, .ref 9)] [] _ _
  refine p_Ring_holds_0 (na2 := 10) hk rfl ?_
  have := lp_Ring_holds hk hb hR hp h9 11 0 (by omega) (by omega) (fun u hu => by omega)
  rw [Nat.add_zero, Nat.mod_eq_of_lt (by omega)] at this
  rw [sh3 (by omega)]
  exact this
/-! what SEEK finds -/
def SkP (b h : Nat → Bool) (N : Nat) (A : Nat → Prop) (x : Int32) : Prop :=
  ((∀ p, p < N → ¬ isF b N p) ∧ x = 21) ∨ ((∃ p, p < N ∧ isF b N p) ∧ (∀ p, p < N → isF b N p → ¬ mt b h p) ∧ x = 20) ∨
  (∃ p, p < N ∧ isF b N p ∧ mt b h p ∧ (∀ p', p' < p → isF b N p' → ¬ mt b h p') ∧ x = 0 ∧ A (p + 80))
/-- of the class only the disk's own rows, and where one is on the rings, have changed -/
def cF (S S1 : rz_S) : Prop := (∀ q, ¬ (8 ≤ q ∧ q ≤ 12) → S1.1 q = S.1 q) ∧ ∀ u z, ¬ (13 ≤ u ∧ u ≤ 35 ∧ 3 ≤ z ∧ z ≤ 7) → S1.2 u z = S.2 u z
theorem cF_r (S : rz_S) : cF S S := ⟨fun _ _ => rfl, fun _ _ _ => rfl⟩
theorem cF_t {S S1 S2 : rz_S} (h1 : cF S S1) (h2 : cF S1 S2) : cF S S2 := ⟨fun q h => (h2.1 q h).trans (h1.1 q h), fun u z h => (h2.2 u z h).trans (h1.2 u z h)⟩
theorem cF_g {S S1 : rz_S} {k : Nat} (hk : rgP k) (h : RgF S k S1) : cF S S1 := ⟨fun q _ => by rw [h.1], fun u z hz => h.2 u z fun e => hz (by obtain ⟨a, b, c⟩ := hk; omega)⟩
theorem cF_a {S : rz_S} {q : Nat} {f : Nat → Int32} (hq : 8 ≤ q ∧ q ≤ 12) : cF S (rz_fA S q f) := ⟨fun u hu => rz_fA_n (by omega), fun _ _ _ => rfl⟩
theorem cF_u {S : rz_S} {k j : Nat} {x : Int32} (hk : rgP k) (hj : 3 ≤ j ∧ j ≤ 7) : cF S (rz_uI S k j x) := cF_g hk (RgF_u (RgF_r S k) hj)
theorem cF_H {S S1 : rz_S} {k : Nat} {b : Nat → Bool} (hk : rgP k) (h : RgH S k b) (hf : cF S S1) : RgH S1 k b := by
  obtain ⟨a, c, d⟩ := hk
  refine ⟨(hf.2 k 1 (by omega)).trans h.1, fun j hj => ?_⟩
  rw [hf.1 (k + 1) (by omega)]
  exact h.2 j hj
theorem lp_Disk_seek {S : rz_S} {k : Nat} {b h : Nat → Bool} (hk : rgP k) (hb : rgb b (8 * rgN k)) (hR : RgH S k b) : ∀ (w i p c : Nat) (T : rz_S), 8 * rgN k < w + p → i ≤ p → p < 8 * rgN k → isF b (8 * rgN k) p → (∀ p', p' < p → isF b (8 * rgN k) p' → ¬ mt b h p') → cF S T → T.1 11 = S.1 11 → (∀ i, i < 10 → T.1 9 i = by8 h (8 * i)) → c ≤ rgN k → RgR b T k c → p < 8 * c → (∀ p', p < p' → p' < 8 * c → ¬ isF b (8 * rgN k) p') → rz mDisk_seek 52 [(0, .ref 6), (1, .ref k), (4, .int (nI p)), (5, .int (nI i))] [] T (rz_i (fun x S1 => cF S S1 ∧ S1.1 11 = S.1 11 ∧ SkP b h (8 * rgN k) (RgAt b S1 k) x)) := by
  have hN := rgN_b hk
  have hN11 : 11 ≤ 8 * rgN k := by omega
  intro w
  induction w with
  | zero => intro i p c T c1 c2 c3; omega
  | succ w ih =>
    intro i p c T c1 c2 c3 hF hno hcF h11 h9 hc hRR hpc hnc
    have hTH := cF_H hk hR hcF
    refine p_Disk_seek_52 hk ?_
    rw [hTH.1]
    have hp1 : ¬ nI p = -1 := fun z => by
      have := congrArg Int32.toInt z
      rw [nI_toInt (by omega)] at this
      have e : ((-1 : Int32)).toInt = -1 := by decide
      omega
    refine ⟨fun z => absurd z (nI_ge (by omega) (by omega)), fun _ => ⟨fun z => absurd z hp1, fun _ => ?_⟩⟩
    refine rz_useI (c_Ring_holds hk hb hTH c3 h9) (fun x T1 q => ?_)
    obtain ⟨rfl, q⟩ := q
    refine ⟨fun z => ?_, fun z => ?_⟩
    · have nm : ¬ mt b h p := by
        rcases q with ⟨_, q⟩ | ⟨q, _⟩
        · rw [z] at q; exact absurd q (by decide)
        · exact q
      refine rz_useI (c_Ring_nextFirst hk hb hTH hc hRR) (fun y T2 r => ?_)
      obtain ⟨rF, ⟨p2, c', r1, r2, r3, r4, rfl, r5, r6, r7, r8⟩ | ⟨r1, rfl⟩⟩ := r
      · rw [nI_1]
        refine ih (i + 1) p2 c' T2 (by omega) (by omega) r2 r3 (fun p' g1 g2 => ?_) (cF_t hcF (cF_g hk rF)) (by rw [rF.1]; exact h11) (fun u hu => by rw [rF.1]; exact h9 u hu) r5 r6 r7 r8
        by_cases e1 : p' < p
        · exact hno p' e1 g2
        · by_cases e2 : p' = p
          · subst e2; exact nm
          · by_cases e3 : p' < 8 * c
            · exact absurd g2 (hnc p' (by omega) e3)
            · exact absurd g2 (r4 p' (by omega) g1)
      · have hT2 := RgF_H hTH rF
        have fin : cF S T2 ∧ T2.1 11 = S.1 11 ∧ SkP b h (8 * rgN k) (RgAt b T2 k) 20 := by
          refine ⟨cF_t hcF (cF_g hk rF), by rw [rF.1]; exact h11, Or.inr (Or.inl ⟨⟨p, c3, hF⟩, fun p' g1 g2 => ?_, rfl⟩)⟩
          by_cases e1 : p' < p
          · exact hno p' e1 g2
          · by_cases e2 : p' = p
            · subst e2; exact nm
            · by_cases e3 : p' < 8 * c
              · exact absurd g2 (hnc p' (by omega) e3)
              · exact absurd g2 (r1 p' (by omega) g1)
        exact p_Disk_seek_52 hk ⟨fun _ => fin, fun _ => ⟨fun _ => fin, fun z => absurd rfl z⟩⟩
    · have ym : mt b h p := by
        rcases q with ⟨q, _⟩ | ⟨_, q⟩
        · exact q
        · exact absurd q z
      rw [hTH.1, show (8 : Int32) * 10 = nI 80 from by decide, nI_add, pk_rem (by omega) (by omega) (by omega)]
      have hlt : (p + 80) % (8 * rgN k) < 8 * rgN k := Nat.mod_lt _ (by omega)
      refine ⟨nI_ne0 (by omega) (by omega), ?_⟩
      refine rz_toI (c_Ring_onesAhead hk hb hTH hlt) ?_
      refine rz_toV (c_Ring_goTo hk hTH hlt _) ?_
      refine ⟨cF_t hcF (cF_t (cF_u hk (by omega)) (cF_u hk (by omega))), h11, Or.inr (Or.inr ⟨p, c3, hF, ym, hno, rfl, ?_, ?_⟩)⟩
      · exact (rz_uI_n (by omega)).trans rz_uI_s
      · rw [rz_uI_s, rn_m hb hN11]
theorem c_Disk_seek {S : rz_S} {k t s i j : Nat} {b : Nat → Bool} (hk : rgP k) (hb : rgb b (8 * rgN k)) (hR : RgH S k b) (ht : t < 256) (hs : s < 256) (hi : i < 256) (hj : j < 256) (e1 : S.2 6 1 = nI i) (e2 : S.2 6 2 = nI j) : rz_ev mDisk_seek [.ref 6, .ref k, .int (nI t), .int (nI s)] S (rz_i (fun x S1 => cF S S1 ∧ S1.1 11 = S.1 11 ∧ SkP b (gb (hpl t s i j)) (8 * rgN k) (RgAt b S1 k) x)) := by
  have hN := rgN_b hk
  show rz _ 0 [(0, .ref 6), (1, .ref k), (2, .int (nI t)), (3, .int (nI s))] [] _ _
  refine p_Disk_seek_0 hk ?_
  rw [e1, e2]
  refine rz_toV c_Disk_fillHeader ?_
  have zk := rgZ hk
  refine rz_useV (c_Disk_encode (a0 := 8) (a1 := 9) (n := 8) (m := 10) (pl := hpl t s i j) rfl rfl (by omega) (by omega) (by omega) (fun q hq => ⟨by rw [rz_fA_s]; exact hrow_at q hq, hpl_lt ht hs hi hj q⟩)) (fun S2 q2 => ?_)
  obtain ⟨g, rfl, hg⟩ := q2
  have cF2 : cF S (rz_fA (rz_fA S 8 (hrow (S.1 8) t s i j)) 9 g) := cF_t (cF_a (by omega)) (cF_a (by omega))
  have hR2 := cF_H hk hR cF2
  have h9 : ∀ q, q < 10 → (rz_fA (rz_fA S 8 (hrow (S.1 8) t s i j)) 9 g).1 9 q = by8 (gb (hpl t s i j)) (8 * q) := fun q hq => by rw [rz_fA_s]; exact hg q hq
  have h11 : (rz_fA (rz_fA S 8 (hrow (S.1 8) t s i j)) 9 g).1 11 = S.1 11 := by rw [rz_fA_n (by omega), rz_fA_n (by omega)]
  generalize rz_fA (rz_fA S 8 (hrow (S.1 8) t s i j)) 9 g = T at cF2 hR2 h9 h11
  refine rz_toI (c_Ring_onesAhead (p := 0) hk hb hR2 (by omega)) ?_
  refine rz_toV (c_Ring_startRound hk _) ?_
  have cF3 : cF T (rz_uI (rz_uI T k 6 0) k 7 (nI (rn b (8 * rgN k) 0))) := cF_t (cF_u hk (by omega)) (cF_u hk (by omega))
  have hR3 := cF_H hk hR2 cF3
  have hRR : RgR b (rz_uI (rz_uI T k 6 0) k 7 (nI (rn b (8 * rgN k) 0))) k 0 := ⟨(rz_uI_n (by omega)).trans rz_uI_s, rz_uI_s⟩
  refine rz_useI (c_Ring_nextFirst hk hb hR3 (by omega) hRR) (fun y T2 r => ?_)
  obtain ⟨rF, ⟨p2, c', r1, r2, r3, r4, rfl, r5, r6, r7, r8⟩ | ⟨r1, rfl⟩⟩ := r
  · refine ⟨fun z => ?_, fun _ => ?_⟩
    · have := congrArg Int32.toInt z
      rw [nI_toInt (by omega)] at this
      have e : ((-1 : Int32)).toInt = -1 := by decide
      omega
    · exact lp_Disk_seek hk hb hR (8 * rgN k + 1) 0 p2 c' T2 (by omega) (by omega) r2 r3 (fun p' g1 g2 => absurd g2 (r4 p' (by omega) g1)) (cF_t cF2 (cF_t cF3 (cF_g hk rF))) (by rw [rF.1]; exact h11) (fun u hu => by rw [rF.1]; exact h9 u hu) r5 r6 r7 r8
  · exact ⟨fun _ => ⟨cF_t cF2 (cF_t cF3 (cF_g hk rF)), by rw [rF.1]; exact h11, Or.inl ⟨fun p hp => r1 p (by omega) hp, rfl⟩⟩, fun z => absurd rfl z⟩
