/-! bytes laid one behind the other: G are the bits of the stream, p where it begins -/
theorem nxp_lt {N p n : Nat} (hp : p < N) (hn : n ≤ N) : nxp N p n < N := by
  unfold nxp
  split <;> omega
theorem nxp_nxp {N p n m : Nat} (hp : p < N) (hn : n + m ≤ N) : (if nxp N p n + m < N then nxp N p n + m else nxp N p n + m - N) = nxp N p (n + m) := by
  unfold nxp
  split <;> split <;> split <;> omega
theorem pw_st {b : Nat → Bool} {N p n : Nat} {G g : Nat → Bool} {m : Nat} (hp : p < N) (hn : n + m ≤ N) (hg : ∀ o, o < m → g o = G (n + o)) : pw (pw b N p n G) N (nxp N p n) m g = pw b N p (n + m) G := by
  rw [pw_pw hp hn]
  refine pw_ext hp hn (fun o ho => ?_)
  by_cases c : o < n
  · rw [if_pos c]
  · rw [if_neg c, hg (o - n) (by omega), show n + (o - n) = o by omega]
theorem bt_hi {v : Nat} (hv : v < 256) : ∀ i, 8 ≤ i → bt (nI v) i = false := by
  intro i hi
  rcases Nat.lt_or_ge i 32 with h | h
  · rw [b_nI h]
    exact Nat.testBit_lt_two_pow (Nat.lt_of_lt_of_le hv (Nat.pow_le_pow_right (n := 2) (by omega) hi))
  · exact b_big h
/-! the class -/
def gF (k : Nat) (T T1 : rz_S) : Prop := (∀ q, q ≠ k + 1 → T1.1 q = T.1 q) ∧ ∀ u z, ¬ (u = k ∧ 3 ≤ z ∧ z ≤ 7) → T1.2 u z = T.2 u z
theorem gF_r (k : Nat) (T : rz_S) : gF k T T := ⟨fun _ _ => rfl, fun _ _ _ => rfl⟩
theorem gF_t {k : Nat} {S S1 S2 : rz_S} (h1 : gF k S S1) (h2 : gF k S1 S2) : gF k S S2 := ⟨fun q h => (h2.1 q h).trans (h1.1 q h), fun u z h => (h2.2 u z h).trans (h1.2 u z h)⟩
theorem gF_u {k j : Nat} {S : rz_S} {x : Int32} (hj : 3 ≤ j ∧ j ≤ 7) : gF k S (rz_uI S k j x) := ⟨fun _ _ => rfl, fun u z h => rz_uI_n fun e => h ⟨e.1, by omega, by omega⟩⟩
theorem t255 : ∀ o, o < 8 → (255 : Nat).testBit (7 - o) = true := by decide
theorem t85 : ∀ o, o < 8 → (85 : Nat).testBit (7 - o) = decide (o % 2 = 1) := by decide
theorem by8_v (b : Nat → Bool) (p : Nat) : ∀ o, o < 8 → (vl b p 8).testBit (7 - o) = b (p + o) := by
  intro o ho
  rw [vl_bit, decide_eq_true (by omega), Bool.true_and]
  congr 1
  omega
theorem put_st {T : rz_S} {k p n v : Nat} {b G : Nat → Bool} (hk : rgP k) (hp : p < 8 * rgN k) (hn : n + 8 ≤ 8 * rgN k) (hv : v < 256) (hT : RgH T k (pw b (8 * rgN k) p n G)) (hG : ∀ o, o < 8 → v.testBit (7 - o) = G (n + o)) : rz_ev mRing_put [.ref k, .int (nI (nxp (8 * rgN k) p n)), .int (nI v)] T (rz_v (fun T1 => RgH T1 k (pw b (8 * rgN k) p (n + 8) G) ∧ gF k T T1 ∧ T1.2 = T.2)) := by
  have hN := rgN_b hk
  have hlt := nxp_lt (N := 8 * rgN k) (n := n) hp (by omega)
  refine rz_useV (c_Ring_put hk (pw_r _ _ _ _ _) hT (by omega) (bt_hi hv)) (fun S1 q => ?_)
  have e : nxp (8 * rgN k) (nxp (8 * rgN k) p n) 0 = nxp (8 * rgN k) p n := by
    show (if nxp (8 * rgN k) p n + 0 < 8 * rgN k then _ else _) = _
    rw [if_pos (by omega)]
    rfl
  rw [e, pw_st hp hn (fun o ho => by rw [b_nI (by omega)]; exact hG o ho)] at q
  refine ⟨rgPut_H hT q, ?_⟩
  obtain ⟨f, rfl, _⟩ := q
  exact ⟨⟨fun u hu => rz_fA_n hu, fun _ _ _ => rfl⟩, rfl⟩
/-- the stream has n bits laid, and the place is behind them -/
def LA (b : Nat → Bool) (k p n : Nat) (G : Nat → Bool) (T : rz_S) : Prop := RgH T k (pw b (8 * rgN k) p n G) ∧ T.2 k 3 = nI (nxp (8 * rgN k) p n)
theorem lp_putMarked {T0 : rz_S} {k p n0 a m : Nat} {b G hb : Nat → Bool} (hk : rgP k) (hp : p < 8 * rgN k) (hm : n0 + 8 * (5 + m) ≤ 8 * rgN k) (ha : rz_T[a]? = some (.inl (0, m))) (ha1 : a ≠ k + 1) (hrow : ∀ j, j < m → T0.1 a j = by8 hb (8 * j)) (hG1 : ∀ o, o < 40 → G (n0 + o) = true) (hG2 : ∀ o, o < 8 * m → G (n0 + 40 + o) = hb o) : ∀ (w i : Nat) (T : rz_S), 5 + m < w + i → i ≤ 5 + m → RgH T k (pw b (8 * rgN k) p (n0 + 8 * i) G) → gF k T0 T → rz mRing_putMarked 7 [(0, .ref k), (1, .ref a), (2, .int (nI (nxp (8 * rgN k) p (n0 + 8 * i)))), (3, .int (nI i))] [] T (rz_v (fun T1 => LA b k p (n0 + 8 * (5 + m)) G T1 ∧ gF k T0 T1)) := by
  have hN := rgN_b hk
  intro w
  induction w with
  | zero => intro i T c1 c2; omega
  | succ w ih =>
    intro i T c1 c2 hT hF
    have hlt := nxp_lt (N := 8 * rgN k) (p := p) (n := n0 + 8 * i) hp (by omega)
    have go : ∀ v : Nat, i < 5 + m → v < 256 → (∀ o, o < 8 → v.testBit (7 - o) = G (n0 + 8 * i + o)) → rz mRing_putMarked 33 [(0, .ref k), (1, .ref a), (2, .int (nI (nxp (8 * rgN k) p (n0 + 8 * i)))), (3, .int (nI i))] [.int (nI v), .int (nI (nxp (8 * rgN k) p (n0 + 8 * i))), .ref k] T (rz_v (fun T1 => LA b k p (n0 + 8 * (5 + m)) G T1 ∧ gF k T0 T1)) := by
      intro v hi hv hvG
      refine p_Ring_putMarked_33 hk ha hk (rz_useV (put_st (b := b) (G := G) hk hp (by omega) hv hT hvG) (fun T1 q => ?_))
      obtain ⟨q1, q2, q3⟩ := q
      have hnx := nxp_nxp (N := 8 * rgN k) (p := p) (n := n0 + 8 * i) (m := 8) hp (by omega)
      have := ih (i + 1) T1 (by omega) (by omega) q1 (gF_t hF q2)
      rw [show n0 + 8 * (i + 1) = n0 + 8 * i + 8 by omega, ← hnx] at this
      rw [q1.1, show (8 : Int32) = nI 8 from rfl, nI_add, nI_1]
      refine ⟨fun z => ?_, fun z => ?_⟩
      · have z2 : 8 * rgN k ≤ nxp (8 * rgN k) p (n0 + 8 * i) + 8 := (nI_leI (by omega) (by omega)).mp z
        rw [if_neg (by omega)] at this
        rw [pk_sub z2]
        exact this
      · have z2 : ¬ 8 * rgN k ≤ nxp (8 * rgN k) p (n0 + 8 * i) + 8 := fun q => z (nI_le q (by omega))
        rw [if_pos (by omega)] at this
        exact this
    refine p_Ring_putMarked_7 hk ha ?_
    rw [show (5 : Int32) + Int32.ofNat m = nI (5 + m) from nI_add 5 m]
    refine ⟨fun c => ?_, fun c => ⟨fun d => ⟨?_, ?_⟩, fun d => ?_⟩⟩
    · have : 5 + m ≤ i := (nI_leI (by omega) (by omega)).mp c
      have e : i = 5 + m := by omega
      subst e
      exact ⟨⟨⟨(rz_uI_n (by omega)).trans hT.1, hT.2⟩, rz_uI_s⟩, gF_t hF (gF_u (by omega))⟩
    · have : ¬ 5 + m ≤ i := fun z => c (nI_le z (by omega))
      have d5 : 5 ≤ i := (nI_leI (a := 5) (by omega) (by omega)).mp d
      rw [show nI i - 5 = nI (i - 5) from pk_sub (b := 5) d5]
      exact rin (by omega) (by omega)
    · have hi : ¬ 5 + m ≤ i := fun z => c (nI_le z (by omega))
      have d5 : 5 ≤ i := (nI_leI (a := 5) (by omega) (by omega)).mp d
      rw [show nI i - 5 = nI (i - 5) from pk_sub (b := 5) d5, nI_clamp (by omega), hF.1 a ha1, hrow (i - 5) (by omega)]
      refine go _ (by omega) (vl_lt _ _ 8) (fun o ho => ?_)
      rw [by8_v _ _ o ho, show n0 + 8 * i + o = n0 + 40 + (8 * (i - 5) + o) by omega, hG2 _ (by omega)]
    · have hi : ¬ 5 + m ≤ i := fun z => c (nI_le z (by omega))
      have d5 : ¬ 5 ≤ i := fun z => d (nI_le (a := 5) z (by omega))
      refine go 255 (by omega) (by omega) (fun o ho => ?_)
      rw [t255 o ho, show n0 + 8 * i + o = n0 + (8 * i + o) by omega, hG1 _ (by omega)]
theorem c_Ring_putMarked {T : rz_S} {k p n0 a m : Nat} {b G hb : Nat → Bool} (hk : rgP k) (hp : p < 8 * rgN k) (hm : n0 + 8 * (5 + m) ≤ 8 * rgN k) (ha : rz_T[a]? = some (.inl (0, m))) (ha1 : a ≠ k + 1) (hrow : ∀ j, j < m → T.1 a j = by8 hb (8 * j)) (hG1 : ∀ o, o < 40 → G (n0 + o) = true) (hG2 : ∀ o, o < 8 * m → G (n0 + 40 + o) = hb o) (hL : LA b k p n0 G T) : rz_ev mRing_putMarked [.ref k, .ref a] T (rz_v (fun T1 => LA b k p (n0 + 8 * (5 + m)) G T1 ∧ gF k T T1)) := by
  show rz _ 0 [(0, .ref k), (1, .ref a)] [] _ _
  refine p_Ring_putMarked_0 hk ha ?_
  rw [hL.2]
  exact lp_putMarked hk hp hm ha ha1 hrow hG1 hG2 (5 + m + 1) 0 T (by omega) (by omega) hL.1 (gF_r k T)
theorem lp_putGap {T0 : rz_S} {k p n0 m : Nat} {b G : Nat → Bool} (hk : rgP k) (hp : p < 8 * rgN k) (hm : n0 + 8 * m ≤ 8 * rgN k) (hG : ∀ o, o < 8 * m → G (n0 + o) = decide (o % 2 = 1)) : ∀ (w i : Nat) (T : rz_S), m < w + i → i ≤ m → LA b k p (n0 + 8 * i) G T → gF k T0 T → rz mRing_putGap 2 [(0, .ref k), (1, .int (nI m)), (2, .int (nI i))] [] T (rz_v (fun T1 => LA b k p (n0 + 8 * m) G T1 ∧ gF k T0 T1)) := by
  have hN := rgN_b hk
  intro w
  induction w with
  | zero => intro i T c1 c2; omega
  | succ w ih =>
    intro i T c1 c2 hL hF
    have hlt := nxp_lt (N := 8 * rgN k) (p := p) (n := n0 + 8 * i) hp (by omega)
    refine p_Ring_putGap_2 hk ⟨fun c => ?_, fun c => ?_⟩
    · have : m ≤ i := (nI_leI (by omega) (by omega)).mp c
      have e : i = m := by omega
      subst e
      exact ⟨hL, hF⟩
    · have hi : ¬ m ≤ i := fun z => c (nI_le z (by omega))
      rw [hL.2]
      refine rz_useV (put_st (b := b) (G := G) (v := 85) hk hp (by omega) (by omega) hL.1 (fun o ho => ?_)) (fun T1 q => ?_)
      · rw [t85 o ho, show n0 + 8 * i + o = n0 + (8 * i + o) by omega, hG _ (by omega)]
        congr 1
        apply propext
        omega
      · obtain ⟨q1, q2, q3⟩ := q
        have hnx := nxp_nxp (N := 8 * rgN k) (p := p) (n := n0 + 8 * i) (m := 8) hp (by omega)
        rw [q3, hL.1.1, hL.2, show (8 : Int32) = nI 8 from rfl, nI_add, nI_1]
        refine ⟨fun z => ?_, fun z => ?_⟩
        · have z2 : 8 * rgN k ≤ nxp (8 * rgN k) p (n0 + 8 * i) + 8 := (nI_leI (by omega) (by omega)).mp z
          rw [if_neg (by omega)] at hnx
          rw [pk_sub z2, hnx]
          exact ih (i + 1) _ (by omega) (by omega) ⟨⟨(rz_uI_n (by omega)).trans q1.1, q1.2⟩, rz_uI_s⟩ (gF_t hF (gF_t q2 (gF_u (by omega))))
        · have z2 : ¬ 8 * rgN k ≤ nxp (8 * rgN k) p (n0 + 8 * i) + 8 := fun q => z (nI_le q (by omega))
          rw [if_pos (by omega)] at hnx
          rw [hnx]
          exact ih (i + 1) _ (by omega) (by omega) ⟨⟨(rz_uI_n (by omega)).trans q1.1, q1.2⟩, rz_uI_s⟩ (gF_t hF (gF_t q2 (gF_u (by omega))))
theorem c_Ring_putGap {T : rz_S} {k p n0 m : Nat} {b G : Nat → Bool} (hk : rgP k) (hp : p < 8 * rgN k) (hm : n0 + 8 * m ≤ 8 * rgN k) (hG : ∀ o, o < 8 * m → G (n0 + o) = decide (o % 2 = 1)) (hL : LA b k p n0 G T) : rz_ev mRing_putGap [.ref k, .int (nI m)] T (rz_v (fun T1 => LA b k p (n0 + 8 * m) G T1 ∧ gF k T T1)) := by
  show rz _ 0 [(0, .ref k), (1, .int (nI m))] [] _ _
  exact p_Ring_putGap_0 hk (lp_putGap hk hp hm hG (m + 1) 0 T (by omega) (by omega) hL (gF_r k T))
/-! the reference: lays -/
def LM (b : Nat → Bool) (t p n : Nat) (G : Nat → Bool) (T : rz_S) : Prop := RfH T t (pw b (8 * tN t) p n G) ∧ T.2 116 20 = nI (nxp (8 * tN t) p n)
def hF (t : Nat) (T T1 : rz_S) : Prop := (∀ q, q ≠ 117 → T1.1 q = T.1 q) ∧ (∀ i, (i < 1000 * (t - 1) ∨ 1000 * (t - 1) + 1000 ≤ i) → T1.1 117 i = T.1 117 i) ∧ ∀ u z, ¬ (u = 116 ∧ z = 20) → T1.2 u z = T.2 u z
theorem hF_r (t : Nat) (T : rz_S) : hF t T T := ⟨fun _ _ => rfl, fun _ _ => rfl, fun _ _ _ => rfl⟩
theorem hF_t {t : Nat} {S S1 S2 : rz_S} (h1 : hF t S S1) (h2 : hF t S1 S2) : hF t S S2 := ⟨fun q h => (h2.1 q h).trans (h1.1 q h), fun i h => (h2.2.1 i h).trans (h1.2.1 i h), fun u z h => (h2.2.2 u z h).trans (h1.2.2 u z h)⟩
theorem hF_p {t : Nat} {S S1 : rz_S} {b : Nat → Bool} (h : RfPut S t b S1) : hF t S S1 := by
  obtain ⟨f, rfl, _, h2⟩ := h
  exact ⟨fun q hq => rz_fA_n hq, fun i hi => by rw [rz_fA_s]; exact h2 i hi, fun _ _ _ => rfl⟩
theorem lp_M_lays {T0 : rz_S} {t p n0 v : Nat} {b G : Nat → Bool} (h1 : 1 ≤ t) (h2 : t ≤ 12) (hp : p < 8 * tN t) (hn : n0 + 8 ≤ 8 * tN t) (hG : ∀ o, o < 8 → v.testBit (7 - o) = G (n0 + o)) : ∀ (w i : Nat) (T : rz_S), 8 < w + i → i ≤ 8 → LM b t p (n0 + i) G T → hF t T0 T → rz mM_lays 3 [(0, .ref 116), (1, .int (nI t)), (2, .int (nI v)), (3, .int (7 - nI i))] [] T (rz_v (fun T1 => LM b t p (n0 + 8) G T1 ∧ hF t T0 T1)) := by
  have hN := tN_b h2
  intro w
  induction w with
  | zero => intro i T c1 c2; omega
  | succ w ih =>
    intro i T c1 c2 hL hFr
    have hlt := nxp_lt (N := 8 * tN t) (p := p) (n := n0 + i) hp (by omega)
    by_cases e8 : i = 8
    · subst e8
      refine p_M_lays_3 ⟨fun _ => ⟨hL, hFr⟩, fun z => absurd (by decide) z⟩
    · have e7 : (7 : Int32) - nI i = nI (7 - i) := pk_sub (a := 7) (by omega)
      rw [e7]
      refine p_M_lays_3 ⟨fun z => absurd z (nI_pos (by omega)), fun _ => ?_⟩
      rw [bit_one (by omega), b_nI (by omega), hL.2, hG i (by omega)]
      refine rz_useV (c_M_setBit h1 h2 hL.1 hlt) (fun T1 q => ?_)
      have hst : pw (pw b (8 * tN t) p (n0 + i) G) (8 * tN t) (nxp (8 * tN t) p (n0 + i)) 1 (fun _ => G (n0 + i)) = pw b (8 * tN t) p (n0 + i + 1) G := pw_st hp (by omega) (fun o ho => by rw [show o = 0 by omega]; rfl)
      rw [hst] at q
      have k20 : T1.2 116 20 = nI (nxp (8 * tN t) p (n0 + i)) := by
        obtain ⟨f, rfl, _⟩ := q
        exact hL.2
      refine rz_toI (c_M_bytes h1 h2) ?_
      have hnx := nxp_nxp (N := 8 * tN t) (p := p) (n := n0 + i) (m := 1) hp (by omega)
      have e1 : nI (7 - i) + (-1) = 7 - nI (i + 1) := (show ∀ i, i < 8 → nI (7 - i) + (-1) = 7 - nI (i + 1) by decide +kernel) i (by omega)
      rw [k20, show (8 : Int32) = nI 8 from rfl, pk_mul, nI_1, e1]
      refine ⟨fun z => ?_, fun z => ?_⟩
      · have z2 : nxp (8 * tN t) p (n0 + i) + 1 = 8 * tN t := (nI_eq (by omega) (by omega)).mp z
        rw [if_neg (by omega)] at hnx
        refine ih (i + 1) _ (by omega) (by omega) ⟨fun j hj => ?_, ?_⟩ (hF_t hFr (hF_t (hF_p q) ⟨fun _ _ => rfl, fun _ _ => rfl, fun u z h => rz_uI_n h⟩))
        · exact RfPut_H q j hj
        · rw [rz_uI_s, show n0 + (i + 1) = n0 + i + 1 by omega, ← hnx, show nxp (8 * tN t) p (n0 + i) + 1 - 8 * tN t = 0 by omega]
          rfl
      · have z2 : ¬ nxp (8 * tN t) p (n0 + i) + 1 = 8 * tN t := fun q => z (by rw [q])
        rw [if_pos (by omega)] at hnx
        refine ih (i + 1) _ (by omega) (by omega) ⟨fun j hj => ?_, ?_⟩ (hF_t hFr (hF_t (hF_p q) ⟨fun _ _ => rfl, fun _ _ => rfl, fun u z h => rz_uI_n h⟩))
        · exact RfPut_H q j hj
        · rw [rz_uI_s, show n0 + (i + 1) = n0 + i + 1 by omega, ← hnx]
theorem c_M_lays {T : rz_S} {t p n0 v : Nat} {b G : Nat → Bool} (h1 : 1 ≤ t) (h2 : t ≤ 12) (hp : p < 8 * tN t) (hn : n0 + 8 ≤ 8 * tN t) (hG : ∀ o, o < 8 → v.testBit (7 - o) = G (n0 + o)) (hL : LM b t p n0 G T) : rz_ev mM_lays [.ref 116, .int (nI t), .int (nI v)] T (rz_v (fun T1 => LM b t p (n0 + 8) G T1 ∧ hF t T T1)) := by
  show rz _ 0 [(0, .ref 116), (1, .int (nI t)), (2, .int (nI v))] [] _ _
  refine p_M_lays_0 ?_
  exact lp_M_lays h1 h2 hp hn hG 9 0 T (by omega) (by omega) hL (hF_r t T)
