/-! the reference along a ring: goes, comes -/
theorem uI_get {S : rz_S} {k j u z : Nat} {x : Int32} : (rz_uI S k j x).2 u z = if u = k ∧ z = j then x else S.2 u z := rfl
def Jb (b : Nat → Bool) (S : rz_S) (t q m : Nat) (f : Bool) : Prop := S.2 116 6 = nI t ∧ S.2 116 7 = nI (8 * tN t) ∧ S.2 116 8 = nI (q % (8 * tN t)) ∧ S.2 116 9 = nI (rn b (8 * tN t) q) ∧ S.2 116 10 = nI (if rn b (8 * tN t) q = 10 then 1 else 2) ∧ S.2 116 11 = nI m ∧ S.2 116 12 = nI (vl b (q - m) m) ∧ S.2 116 13 = nI f.toNat
def JbF (S S1 : rz_S) : Prop := S1.1 = S.1 ∧ ∀ u z, ¬ (u = 116 ∧ 6 ≤ z ∧ z ≤ 15) → S1.2 u z = S.2 u z
theorem JbF_r (S : rz_S) : JbF S S := ⟨rfl, fun _ _ _ => rfl⟩
theorem JbF_t {S S1 S2 : rz_S} (h1 : JbF S S1) (h2 : JbF S1 S2) : JbF S S2 := ⟨h2.1.trans h1.1, fun u z h => (h2.2 u z h).trans (h1.2 u z h)⟩
theorem JbF_u {S S1 : rz_S} {j : Nat} {x : Int32} (h1 : JbF S S1) (hj : 6 ≤ j ∧ j ≤ 15) : JbF S (rz_uI S1 116 j x) := ⟨h1.1, fun u z h => by
  rw [rz_uI_n (fun e => h ⟨e.1, by omega, by omega⟩)]
  exact h1.2 u z h⟩
theorem JbF_H {S S1 : rz_S} {t : Nat} {b : Nat → Bool} (h : RfH S t b) (hf : JbF S S1) : RfH S1 t b := by
  intro j hj
  rw [hf.1]
  exact h j hj
theorem c_M_goes {S : rz_S} {t q m : Nat} {f : Bool} {b : Nat → Bool} (h1 : 1 ≤ t) (h2 : t ≤ 12) (hb : rgb b (8 * tN t)) (h : RfH S t b) (hJ : Jb b S t q m f) (hm : m < 8) (hmq : m ≤ q) (h10 : rn b (8 * tN t) q = 10 → m = 0) : rz_ev mM_goes [.ref 116] S (rz_i (fun x S1 => JbF S S1 ∧
    (((if rn b (8 * tN t) (q + 1) = 10 then 0 else m + 1) = 8 ∧ x = 1 ∧ S1.2 116 14 = by8 b (q + 1 - 8) ∧ S1.2 116 15 = nI (f || (!(b q) && decide (rn b (8 * tN t) q = 10))).toNat ∧ Jb b S1 t (q + 1) 0 false) ∨
     (¬ (if rn b (8 * tN t) (q + 1) = 10 then 0 else m + 1) = 8 ∧ x = 0 ∧ Jb b S1 t (q + 1) (if rn b (8 * tN t) (q + 1) = 10 then 0 else m + 1) (f || (!(b q) && decide (rn b (8 * tN t) q = 10))))))) := by
  have hN := tN_b h2
  have hN11 : 11 ≤ 8 * tN t := by omega
  obtain ⟨j6, j7, j8, j9, j10, j11, j12, j13⟩ := hJ
  have hz : q % (8 * tN t) < 8 * tN t := Nat.mod_lt _ (by omega)
  have hbz : b (q % (8 * tN t)) = b q := (hb q).symm
  have hs := rn_s (p := q) hb hN11
  have hle := rn_le b (8 * tN t) q
  -- the last stretch: in mode 2
  have last : ∀ (T : rz_S) (m0 : Nat) (f0 : Bool), JbF S T → m0 < 8 → m0 ≤ q → ¬ rn b (8 * tN t) (q + 1) = 10 → m0 = m → f0 = (f || (!(b q) && decide (rn b (8 * tN t) q = 10))) → T.2 116 6 = nI t → T.2 116 7 = nI (8 * tN t) → T.2 116 8 = nI ((q + 1) % (8 * tN t)) → T.2 116 9 = nI (rn b (8 * tN t) (q + 1)) → T.2 116 10 = 2 → T.2 116 11 = nI m0 → T.2 116 12 = nI (vl b (q - m0) m0) → T.2 116 13 = nI f0.toNat → rz mM_goes 123 [(0, .ref 116), (1, .int (nI (b q).toNat))] [] T (rz_i (fun x S1 => JbF S S1 ∧
    (((if rn b (8 * tN t) (q + 1) = 10 then 0 else m + 1) = 8 ∧ x = 1 ∧ S1.2 116 14 = by8 b (q + 1 - 8) ∧ S1.2 116 15 = nI (f || (!(b q) && decide (rn b (8 * tN t) q = 10))).toNat ∧ Jb b S1 t (q + 1) 0 false) ∨
     (¬ (if rn b (8 * tN t) (q + 1) = 10 then 0 else m + 1) = 8 ∧ x = 0 ∧ Jb b S1 t (q + 1) (if rn b (8 * tN t) (q + 1) = 10 then 0 else m + 1) (f || (!(b q) && decide (rn b (8 * tN t) q = 10))))))) := by
    intro T m0 f0 hF hm0 hmq0 hr em ef k6 k7 k8 k9 k10 k11 k12 k13
    subst em
    have hv : (nI (vl b (q - m0) m0) <<< ((1 : Int32) &&& 31)) ||| nI (b q).toNat = nI (vl b (q - m0) (m0 + 1)) := by
      rw [← vl_1, show q - m0 + m0 = q by omega]
    rw [if_neg hr, ← ef]
    refine p_M_goes_123 ?_
    rw [k10, k11, k12, k13, hv, nI_1]
    refine ⟨fun _ => ⟨fun c => ?_, fun c => ?_⟩, fun c => absurd rfl c⟩
    · have c8 : 8 ≤ m0 + 1 := (nI_leI (a := 8) (by omega) (by omega)).mp c
      have e8 : m0 + 1 = 8 := by omega
      refine ⟨by cases f0 <;> simp <;> decide, ?_, Or.inl ⟨e8, rfl, ?_, ?_, ?_⟩⟩
      · exact JbF_u (JbF_u (JbF_u (JbF_u (JbF_u (JbF_u (JbF_u hF (by omega)) (by omega)) (by omega)) (by omega)) (by omega)) (by omega)) (by omega)
      · simp only [uI_get]
        simp only [Nat.reduceEqDiff, and_false, and_true, if_false, if_true, true_and, reduceIte]
        unfold by8
        rw [e8, show q + 1 - 8 = q - m0 by omega]
      · simp only [uI_get]
        simp only [Nat.reduceEqDiff, and_false, and_true, if_false, if_true, true_and, reduceIte]
      · refine ⟨?_, ?_, ?_, ?_, ?_, ?_, ?_, ?_⟩ <;> simp only [uI_get] <;> simp only [Nat.reduceEqDiff, and_false, and_true, if_false, if_true, true_and, reduceIte, hr, k6, k7, k8, k9, k10]
        · rfl
        · rfl
        · rfl
        · rfl
    · have c8 : ¬ m0 + 1 = 8 := fun z => c (nI_le (a := 8) (by omega) (by omega))
      refine ⟨JbF_u (JbF_u hF (by omega)) (by omega), Or.inr ⟨c8, rfl, ?_⟩⟩
      refine ⟨?_, ?_, ?_, ?_, ?_, ?_, ?_, ?_⟩ <;> simp only [uI_get] <;> simp only [Nat.reduceEqDiff, and_false, and_true, if_false, if_true, true_and, reduceIte, hr, k6, k7, k8, k9, k10, k13]
      · rfl
      · rw [show q + 1 - (m0 + 1) = q - m0 by omega]
  have mid : rz mM_goes 37 [(0, .ref 116), (1, .int (nI (b q).toNat))] [.int (nI ((q + 1) % (8 * tN t))), .ref 116] S (rz_i (fun x S1 => JbF S S1 ∧
    (((if rn b (8 * tN t) (q + 1) = 10 then 0 else m + 1) = 8 ∧ x = 1 ∧ S1.2 116 14 = by8 b (q + 1 - 8) ∧ S1.2 116 15 = nI (f || (!(b q) && decide (rn b (8 * tN t) q = 10))).toNat ∧ Jb b S1 t (q + 1) 0 false) ∨
     (¬ (if rn b (8 * tN t) (q + 1) = 10 then 0 else m + 1) = 8 ∧ x = 0 ∧ Jb b S1 t (q + 1) (if rn b (8 * tN t) (q + 1) = 10 then 0 else m + 1) (f || (!(b q) && decide (rn b (8 * tN t) q = 10))))))) := by
    refine p_M_goes_37 ?_
    rw [j9, j10]
    -- a 1: into the MARK, or on
    have one : b q = true → ∀ T : rz_S, JbF S T → T.2 116 6 = nI t → T.2 116 7 = nI (8 * tN t) → T.2 116 8 = nI ((q + 1) % (8 * tN t)) → T.2 116 9 = nI (rn b (8 * tN t) (q + 1)) → T.2 116 10 = S.2 116 10 → T.2 116 11 = S.2 116 11 → T.2 116 12 = S.2 116 12 → T.2 116 13 = S.2 116 13 → rz mM_goes 64 [(0, .ref 116), (1, .int (nI (b q).toNat))] [] T (rz_i (fun x S1 => JbF S S1 ∧
    (((if rn b (8 * tN t) (q + 1) = 10 then 0 else m + 1) = 8 ∧ x = 1 ∧ S1.2 116 14 = by8 b (q + 1 - 8) ∧ S1.2 116 15 = nI (f || (!(b q) && decide (rn b (8 * tN t) q = 10))).toNat ∧ Jb b S1 t (q + 1) 0 false) ∨
     (¬ (if rn b (8 * tN t) (q + 1) = 10 then 0 else m + 1) = 8 ∧ x = 0 ∧ Jb b S1 t (q + 1) (if rn b (8 * tN t) (q + 1) = 10 then 0 else m + 1) (f || (!(b q) && decide (rn b (8 * tN t) q = 10))))))) := by
      intro cb T hF k6 k7 k8 k9 k10 k11 k12 k13
      have ef : (f || (!(b q) && decide (rn b (8 * tN t) q = 10))) = f := by rw [cb]; simp
      have hle2 := rn_le b (8 * tN t) (q + 1)
      refine p_M_goes_64 ?_
      rw [k9]
      refine ⟨fun c => ?_, fun c => ?_⟩
      · have c10 : rn b (8 * tN t) (q + 1) = 10 := (nI_eq (b := 10) (by omega) (by omega)).mp c
        refine ⟨JbF_u (JbF_u (JbF_u hF (by omega)) (by omega)) (by omega), Or.inr ?_⟩
        rw [if_pos c10, ef]
        refine ⟨by omega, rfl, ?_⟩
        refine ⟨?_, ?_, ?_, ?_, ?_, ?_, ?_, ?_⟩ <;> simp only [uI_get] <;> simp only [Nat.reduceEqDiff, and_false, and_true, if_false, if_true, true_and, reduceIte, c10, k6, k7, k8, k9, k13, j13]
        · rfl
        · rfl
        · rfl
      · have c10 : ¬ rn b (8 * tN t) (q + 1) = 10 := fun z => c (by rw [z]; rfl)
        have q10 : ¬ rn b (8 * tN t) q = 10 := fun z => c10 (by rw [hs, if_pos cb, z]; rfl)
        refine last T m f hF hm hmq c10 rfl ef.symm k6 k7 k8 k9 (k10.trans (j10.trans ?_)) (k11.trans j11) (k12.trans j12) (k13.trans j13)
        rw [if_neg q10]; rfl
    refine ⟨fun c => ⟨fun d => ?_, fun d => ?_⟩, fun c => ⟨fun d => ?_, fun d => ?_⟩⟩
    · have cb := (nI_b1 _).mp c
      have : 10 ≤ rn b (8 * tN t) q := (nI_leI (a := 10) (by omega) (by omega)).mp d
      refine one cb _ (JbF_u (JbF_r S) (by omega)) ?_ ?_ ?_ ?_ ?_ ?_ ?_ ?_ <;> simp only [uI_get] <;> simp only [Nat.reduceEqDiff, and_false, and_true, if_false, if_true, true_and, reduceIte, j6, j7, j9]
      rw [hs, if_pos cb, show min 10 (rn b (8 * tN t) q + 1) = rn b (8 * tN t) q by omega]
    · have cb := (nI_b1 _).mp c
      have : ¬ 10 ≤ rn b (8 * tN t) q := fun z => d (nI_le (a := 10) z (by omega))
      rw [nI_1]
      refine one cb _ (JbF_u (JbF_u (JbF_r S) (by omega)) (by omega)) ?_ ?_ ?_ ?_ ?_ ?_ ?_ ?_ <;> simp only [uI_get] <;> simp only [Nat.reduceEqDiff, and_false, and_true, if_false, if_true, true_and, reduceIte, j6, j7]
      rw [hs, if_pos cb, show min 10 (rn b (8 * tN t) q + 1) = rn b (8 * tN t) q + 1 by omega]
    · have cb : b q = false := Bool.eq_false_iff.mpr fun z => c ((nI_b1 _).mpr z)
      rw [cb] at hs
      rw [if_neg (by decide)] at hs
      have q10 : rn b (8 * tN t) q = 10 := by
        by_cases z : rn b (8 * tN t) q = 10
        · exact z
        · rw [if_neg z] at d; exact absurd d (by decide)
      have em := h10 q10
      subst em
      refine last _ 0 true (JbF_u (JbF_u (JbF_u (JbF_u (JbF_u (JbF_u (JbF_r S) (by omega)) (by omega)) (by omega)) (by omega)) (by omega)) (by omega)) (by omega) (by omega) (by omega) rfl (by rw [cb, q10]; simp) ?_ ?_ ?_ ?_ ?_ ?_ ?_ ?_ <;> simp only [uI_get] <;> simp only [Nat.reduceEqDiff, and_false, and_true, if_false, if_true, true_and, reduceIte, j6, j7, hs]
      · rfl
      · rfl
      · rfl
      · rfl
    · have cb : b q = false := Bool.eq_false_iff.mpr fun z => c ((nI_b1 _).mpr z)
      rw [cb] at hs
      rw [if_neg (by decide)] at hs
      have q10 : ¬ rn b (8 * tN t) q = 10 := fun z => d (by rw [if_pos z]; rfl)
      refine last _ m f (JbF_u (JbF_u (JbF_r S) (by omega)) (by omega)) hm hmq (by omega) rfl (by rw [decide_eq_false q10]; simp) ?_ ?_ ?_ ?_ ?_ ?_ ?_ ?_ <;> simp only [uI_get] <;> simp only [Nat.reduceEqDiff, and_false, and_true, if_false, if_true, true_and, reduceIte, j6, j7, hs, j10, j11, j12, j13, q10]
      · rfl
      · rfl
  show rz _ 0 [(0, .ref 116)] [] _ _
  refine p_M_goes_0 ?_
  rw [j6, j8]
  refine rz_toI (c_M_bit h1 h2 h hz) ?_
  rw [hbz, j8, j7, nI_1]
  have hmd := md1 (N := 8 * tN t) (q := q) (by omega)
  refine ⟨fun c => ?_, fun c => ?_⟩
  · have : q % (8 * tN t) + 1 = 8 * tN t := (nI_eq (by omega) (by omega)).mp c
    rw [if_neg (by omega)] at hmd
    rw [hmd] at mid
    exact mid
  · have : ¬ q % (8 * tN t) + 1 = 8 * tN t := fun z => c (by rw [z])
    rw [if_pos (by omega)] at hmd
    rw [hmd] at mid
    exact mid
theorem lp_M_comes {S : rz_S} {t : Nat} {b : Nat → Bool} (h1 : 1 ≤ t) (h2 : t ≤ 12) (hb : rgb b (8 * tN t)) (h : RfH S t b) : ∀ (n q m : Nat) (f : Bool) (T : rz_S) (q' : Nat) (f' : Bool), nx b (8 * tN t) n q m f = some (q', f') → m < 8 → m ≤ q → (rn b (8 * tN t) q = 10 → m = 0) → JbF S T → Jb b T t q m f → rz mM_comes 2 [(0, .ref 116), (1, .int 0)] [] T (rz_i (fun x S1 => x = by8 b (q' - 8) ∧ 8 ≤ q' ∧ JbF S S1 ∧ Jb b S1 t q' 0 false ∧ S1.2 116 15 = nI f'.toNat ∧ S1.2 116 14 = x)) := by
  intro n
  induction n with
  | zero => intro q m f T q' f' e; cases e
  | succ n ih =>
    intro q m f T q' f' e hm hmq h10 hF hJ
    rw [nx, if_neg (by omega)] at e
    refine p_M_comes_2 ⟨fun _ => ?_, fun z => absurd rfl z⟩
    refine rz_useI (c_M_goes h1 h2 hb (JbF_H h hF) hJ hm hmq h10) (fun x S1 q1 => ?_)
    obtain ⟨hF1, ⟨c, rfl, k14, k15, kJ⟩ | ⟨c, rfl, kJ⟩⟩ := q1
    · rw [c] at e
      cases n with
      | zero => cases e
      | succ n =>
        rw [nx, if_pos rfl] at e
        obtain ⟨rfl, rfl⟩ := Prod.mk.inj (Option.some.inj e)
        refine p_M_comes_2 ⟨fun z => absurd z (by decide), fun _ => ?_⟩
        refine ⟨k14, ?_, JbF_t hF hF1, kJ, k15, rfl⟩
        by_cases z : rn b (8 * tN t) (q + 1) = 10
        · rw [if_pos z] at c; omega
        · rw [if_neg z] at c; omega
    · refine ih (q + 1) _ _ S1 q' f' e ?_ ?_ ?_ (JbF_t hF hF1) kJ
      · split at c <;> split <;> omega
      · split <;> omega
      · intro z; rw [if_pos z]
theorem c_M_comes {S : rz_S} {t n q q' : Nat} {f' : Bool} {b : Nat → Bool} (h1 : 1 ≤ t) (h2 : t ≤ 12) (hb : rgb b (8 * tN t)) (h : RfH S t b) (hJ : Jb b S t q 0 false) (hx : nx b (8 * tN t) n q 0 false = some (q', f')) : rz_ev mM_comes [.ref 116] S (rz_i (fun x S1 => x = by8 b (q' - 8) ∧ 8 ≤ q' ∧ JbF S S1 ∧ Jb b S1 t q' 0 false ∧ S1.2 116 15 = nI f'.toNat ∧ S1.2 116 14 = x)) := by
  show rz _ 0 [(0, .ref 116)] [] _ _
  exact p_M_comes_0 (lp_M_comes h1 h2 hb h n q 0 false S q' f' hx (by omega) (by omega) (fun _ => rfl) (JbF_r S) hJ)
