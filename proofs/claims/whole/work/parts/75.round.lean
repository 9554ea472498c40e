/-! the reference's ROUND -/
def Jr (b : Nat → Bool) (S : rz_S) (t q : Nat) : Prop := S.2 116 6 = nI t ∧ S.2 116 7 = nI (8 * tN t) ∧ S.2 116 8 = nI (q % (8 * tN t)) ∧ S.2 116 9 = nI (rn b (8 * tN t) q) ∧ (∃ md, md ≤ 2 ∧ S.2 116 10 = nI md ∧ (md = 1 ↔ rn b (8 * tN t) q = 10)) ∧ (∃ m, m < 8 ∧ S.2 116 11 = nI m) ∧ (S.2 116 13 = 0 ∨ S.2 116 13 = 1)
theorem c_M_goesR {S : rz_S} {t q : Nat} {b : Nat → Bool} (h1 : 1 ≤ t) (h2 : t ≤ 12) (hb : rgb b (8 * tN t)) (h : RfH S t b) (hJ : Jr b S t q) : rz_ev mM_goes [.ref 116] S (rz_i (fun x S1 => JbF S S1 ∧ Jr b S1 t (q + 1) ∧ ((S.2 116 10 = 1 ∧ S1.2 116 10 = 2) ↔ isF b (8 * tN t) q))) := by
  have hN := tN_b h2
  have hN11 : 11 ≤ 8 * tN t := by omega
  obtain ⟨j6, j7, j8, j9, ⟨md, hmd, j10, hmode⟩, ⟨m, hm, j11⟩, j13⟩ := hJ
  have hz : q % (8 * tN t) < 8 * tN t := Nat.mod_lt _ (by omega)
  have hbz : b (q % (8 * tN t)) = b q := (hb q).symm
  have hs := rn_s (p := q) hb hN11
  have hle := rn_le b (8 * tN t) q
  have hle2 := rn_le b (8 * tN t) (q + 1)
  -- the last stretch
  have last : ∀ (T : rz_S) (md2 m0 : Nat), JbF S T → m0 < 8 → ¬ rn b (8 * tN t) (q + 1) = 10 → md2 = 0 ∨ md2 = 2 → ((S.2 116 10 = 1 ∧ nI md2 = 2) ↔ isF b (8 * tN t) q) → T.2 116 6 = nI t → T.2 116 7 = nI (8 * tN t) → T.2 116 8 = nI ((q + 1) % (8 * tN t)) → T.2 116 9 = nI (rn b (8 * tN t) (q + 1)) → T.2 116 10 = nI md2 → T.2 116 11 = nI m0 → T.2 116 13 = 0 ∨ T.2 116 13 = 1 → rz mM_goes 123 [(0, .ref 116), (1, .int (nI (b q).toNat))] [] T (rz_i (fun x S1 => JbF S S1 ∧ Jr b S1 t (q + 1) ∧ ((S.2 116 10 = 1 ∧ S1.2 116 10 = 2) ↔ isF b (8 * tN t) q))) := by
    intro T md2 m0 hF hm0 hr hmd2 hiff k6 k7 k8 k9 k10 k11 k13
    refine p_M_goes_123 ?_
    rw [k10, k11, nI_1]
    have mdok : md2 ≤ 2 ∧ (md2 = 1 ↔ rn b (8 * tN t) (q + 1) = 10) := by
      refine ⟨by omega, fun z => by omega, fun z => absurd z hr⟩
    refine ⟨fun _ => ⟨fun c => ⟨k13, ?_⟩, fun c => ?_⟩, fun c => ?_⟩
    · refine ⟨JbF_u (JbF_u (JbF_u (JbF_u (JbF_u (JbF_u (JbF_u hF (by omega)) (by omega)) (by omega)) (by omega)) (by omega)) (by omega)) (by omega), ⟨?_, ?_, ?_, ?_, ⟨md2, mdok.1, ?_, mdok.2⟩, ⟨0, by omega, ?_⟩, Or.inl ?_⟩, ?_⟩ <;> simp only [uI_get] <;> simp only [Nat.reduceEqDiff, and_false, and_true, if_false, if_true, true_and, reduceIte, k6, k7, k8, k9, k10]
      · rfl
      · exact hiff
    · have : m0 + 1 < 8 := Nat.lt_of_not_le fun z => c (nI_le (a := 8) z (by omega))
      refine ⟨JbF_u (JbF_u hF (by omega)) (by omega), ⟨?_, ?_, ?_, ?_, ⟨md2, mdok.1, ?_, mdok.2⟩, ⟨m0 + 1, by omega, ?_⟩, ?_⟩, ?_⟩ <;> simp only [uI_get] <;> simp only [Nat.reduceEqDiff, and_false, and_true, if_false, if_true, true_and, reduceIte, k6, k7, k8, k9, k10]
      · exact k13
      · exact hiff
    · refine ⟨hF, ⟨k6, k7, k8, k9, ⟨md2, mdok.1, k10, mdok.2⟩, ⟨m0, hm0, k11⟩, k13⟩, ?_⟩
      exact hiff
  have mid : rz mM_goes 37 [(0, .ref 116), (1, .int (nI (b q).toNat))] [.int (nI ((q + 1) % (8 * tN t))), .ref 116] S (rz_i (fun x S1 => JbF S S1 ∧ Jr b S1 t (q + 1) ∧ ((S.2 116 10 = 1 ∧ S1.2 116 10 = 2) ↔ isF b (8 * tN t) q))) := by
    refine p_M_goes_37 ?_
    rw [j9]
    have one : b q = true → ∀ T : rz_S, JbF S T → T.2 116 6 = nI t → T.2 116 7 = nI (8 * tN t) → T.2 116 8 = nI ((q + 1) % (8 * tN t)) → T.2 116 9 = nI (rn b (8 * tN t) (q + 1)) → T.2 116 10 = S.2 116 10 → T.2 116 11 = S.2 116 11 → T.2 116 13 = S.2 116 13 → rz mM_goes 64 [(0, .ref 116), (1, .int (nI (b q).toNat))] [] T (rz_i (fun x S1 => JbF S S1 ∧ Jr b S1 t (q + 1) ∧ ((S.2 116 10 = 1 ∧ S1.2 116 10 = 2) ↔ isF b (8 * tN t) q))) := by
      intro cb T hF k6 k7 k8 k9 k10 k11 k13
      have nF : ¬ isF b (8 * tN t) q := fun z => by
        have := z.1
        rw [cb] at this
        cases this
      refine p_M_goes_64 ?_
      rw [k9]
      refine ⟨fun c => ?_, fun c => ?_⟩
      · have c10 : rn b (8 * tN t) (q + 1) = 10 := (nI_eq (b := 10) (by omega) (by omega)).mp c
        refine ⟨JbF_u (JbF_u (JbF_u hF (by omega)) (by omega)) (by omega), ⟨?_, ?_, ?_, ?_, ⟨1, by omega, ?_, by simp [c10]⟩, ⟨0, by omega, ?_⟩, ?_⟩, ?_⟩ <;> simp only [uI_get] <;> simp only [Nat.reduceEqDiff, and_false, and_true, if_false, if_true, true_and, reduceIte, k6, k7, k8, k9, k13]
        · rfl
        · rfl
        · exact j13
        · exact ⟨fun z => absurd z.2 (by decide), fun z => absurd z nF⟩
      · have c10 : ¬ rn b (8 * tN t) (q + 1) = 10 := fun z => c (by rw [z]; rfl)
        have q10 : ¬ rn b (8 * tN t) q = 10 := fun z => c10 (by rw [hs, if_pos cb, z]; rfl)
        have md1 : md ≠ 1 := fun z => q10 (hmode.mp z)
        refine last T md m hF hm c10 (by omega) ⟨fun z => ?_, fun z => absurd z nF⟩ k6 k7 k8 k9 (k10.trans j10) (k11.trans j11) (k13 ▸ j13)
        exact absurd ((nI_eq (b := 1) (by omega) (by omega)).mp (j10.symm.trans z.1)) md1
    refine ⟨fun c => ⟨fun d => ?_, fun d => ?_⟩, fun c => ⟨fun d => ?_, fun d => ?_⟩⟩
    · have cb := (nI_b1 _).mp c
      have : 10 ≤ rn b (8 * tN t) q := (nI_leI (a := 10) (by omega) (by omega)).mp d
      refine one cb _ (JbF_u (JbF_r S) (by omega)) ?_ ?_ ?_ ?_ ?_ ?_ ?_ <;> simp only [uI_get] <;> simp only [Nat.reduceEqDiff, and_false, and_true, if_false, if_true, true_and, reduceIte, j6, j7, j9]
      rw [hs, if_pos cb, show min 10 (rn b (8 * tN t) q + 1) = rn b (8 * tN t) q by omega]
    · have cb := (nI_b1 _).mp c
      have : ¬ 10 ≤ rn b (8 * tN t) q := fun z => d (nI_le (a := 10) z (by omega))
      rw [nI_1]
      refine one cb _ (JbF_u (JbF_u (JbF_r S) (by omega)) (by omega)) ?_ ?_ ?_ ?_ ?_ ?_ ?_ <;> simp only [uI_get] <;> simp only [Nat.reduceEqDiff, and_false, and_true, if_false, if_true, true_and, reduceIte, j6, j7]
      rw [hs, if_pos cb, show min 10 (rn b (8 * tN t) q + 1) = rn b (8 * tN t) q + 1 by omega]
    · have cb : b q = false := Bool.eq_false_iff.mpr fun z => c ((nI_b1 _).mpr z)
      rw [cb, if_neg (by decide)] at hs
      have md1 : md = 1 := (nI_eq (b := 1) (by omega) (by omega)).mp (j10.symm.trans d)
      have yF : isF b (8 * tN t) q := ⟨cb, hmode.mp md1⟩
      refine last _ 2 0 (JbF_u (JbF_u (JbF_u (JbF_u (JbF_u (JbF_u (JbF_r S) (by omega)) (by omega)) (by omega)) (by omega)) (by omega)) (by omega)) (by omega) (by omega) (Or.inr rfl) ⟨fun _ => yF, fun _ => ⟨d, rfl⟩⟩ ?_ ?_ ?_ ?_ ?_ ?_ (Or.inr ?_) <;> simp only [uI_get] <;> simp only [Nat.reduceEqDiff, and_false, and_true, if_false, if_true, true_and, reduceIte, j6, j7, hs]
      · rfl
      · rfl
      · rfl
    · have cb : b q = false := Bool.eq_false_iff.mpr fun z => c ((nI_b1 _).mpr z)
      rw [cb, if_neg (by decide)] at hs
      have md1 : md ≠ 1 := fun z => d (by rw [j10, z]; rfl)
      have nF : ¬ isF b (8 * tN t) q := fun z => md1 (hmode.mpr z.2)
      refine last _ md m (JbF_u (JbF_u (JbF_r S) (by omega)) (by omega)) hm (by omega) (by omega) ⟨fun z => absurd z.1 d, fun z => absurd z nF⟩ ?_ ?_ ?_ ?_ ?_ ?_ ?_ <;> simp only [uI_get] <;> simp only [Nat.reduceEqDiff, and_false, and_true, if_false, if_true, true_and, reduceIte, j6, j7, hs, j10, j11]
      · rfl
      · exact j13
  show rz _ 0 [(0, .ref 116)] [] _ _
  refine p_M_goes_0 ?_
  rw [j6, j8]
  refine rz_toI (c_M_bit h1 h2 h hz) ?_
  rw [hbz, j8, j7, nI_1]
  have hmd := md1 (N := 8 * tN t) (q := q) (by omega)
  refine ⟨fun c => ?_, fun c => ?_⟩
  · have : q % (8 * tN t) + 1 = 8 * tN t := (nI_eq (by omega) (by omega)).mp c
    rw [if_neg (by omega)] at hmd
    rw [hmd] at mid
    exact mid
  · have : ¬ q % (8 * tN t) + 1 = 8 * tN t := fun z => c (by rw [z])
    rw [if_pos (by omega)] at hmd
    rw [hmd] at mid
    exact mid
theorem c_M_along {S : rz_S} {t p r : Nat} (h1 : 1 ≤ t) (h2 : t ≤ 12) (hr : r ≤ 10) : rz_ev mM_along [.ref 116, .int (nI t), .int (nI p), .int (nI r)] S (rz_v (fun S1 => JbF S S1 ∧ S1.2 116 6 = nI t ∧ S1.2 116 7 = nI (8 * tN t) ∧ S1.2 116 8 = nI p ∧ S1.2 116 9 = nI r ∧ S1.2 116 10 = nI (if r < 10 then 0 else 1) ∧ S1.2 116 11 = 0 ∧ S1.2 116 12 = 0 ∧ S1.2 116 13 = 0)) := by
  show rz _ 0 [(0, .ref 116), (1, .int (nI t)), (2, .int (nI p)), (3, .int (nI r))] [] _ _
  refine p_M_along_0 (rz_toI (c_M_bytes h1 h2) ?_)
  rw [show (8 : Int32) = nI 8 from rfl, pk_mul]
  have fin : ∀ x : Int32, x = nI (if r < 10 then 0 else 1) → rz mM_along 38 [(0, .ref 116)] [.int x, .ref 116] (rz_uI (rz_uI (rz_uI (rz_uI S 116 6 (nI t)) 116 7 (nI (8 * tN t))) 116 8 (nI p)) 116 9 (nI r)) (rz_v (fun S1 => JbF S S1 ∧ S1.2 116 6 = nI t ∧ S1.2 116 7 = nI (8 * tN t) ∧ S1.2 116 8 = nI p ∧ S1.2 116 9 = nI r ∧ S1.2 116 10 = nI (if r < 10 then 0 else 1) ∧ S1.2 116 11 = 0 ∧ S1.2 116 12 = 0 ∧ S1.2 116 13 = 0)) := by
    intro x hx
    refine p_M_along_38 ⟨JbF_u (JbF_u (JbF_u (JbF_u (JbF_u (JbF_u (JbF_u (JbF_u (JbF_r S) (by omega)) (by omega)) (by omega)) (by omega)) (by omega)) (by omega)) (by omega)) (by omega), ?_, ?_, ?_, ?_, ?_, ?_, ?_, ?_⟩ <;> simp only [uI_get] <;> simp only [Nat.reduceEqDiff, and_false, and_true, if_false, if_true, true_and, reduceIte]
    exact hx
  refine ⟨fun c => fin _ ?_, fun c => fin _ ?_⟩
  · have : r < 10 := (nI_ltI (b := 10) (by omega) (by omega)).mp c
    rw [if_pos this]; rfl
  · have : ¬ r < 10 := fun z => c (nI_lt (b := 10) z (by omega))
    rw [if_neg this]; rfl
/-- the n places in f are the FIRST bytes ahead of P, in their order -/
def FL (b : Nat → Bool) (N : Nat) (f : Nat → Int32) (n P : Nat) : Prop := ∃ g : Nat → Nat, (∀ i, i < n → f i = nI (g i) ∧ g i < P ∧ isF b N (g i) ∧ 11 * i ≤ g i) ∧ (∀ i j, i < j → j < n → g i < g j) ∧ (∀ p, p < P → isF b N p → ∃ i, i < n ∧ g i = p)
theorem isF_gap {b : Nat → Bool} {N p p' : Nat} (hb : rgb b N) (h1 : isF b N p) (h2 : isF b N p') (h : p < p') : p + 11 ≤ p' := by
  refine Nat.le_of_not_lt fun z => ?_
  have hR := rn_RN b N p'
  rw [h2.2] at hR
  have := hR.2.1 (p' - 1 - p) (by omega)
  rw [show p' + N - 1 - (p' - 1 - p) = p + N by omega, rgb_w hb, h1.1] at this
  cases this
/-- only the places of the job, and the row of FIRST bytes, have changed -/
def RoF (S S1 : rz_S) : Prop := (∀ q, q ≠ 118 → S1.1 q = S.1 q) ∧ ∀ u z, ¬ (u = 116 ∧ 6 ≤ z ∧ z ≤ 15) → S1.2 u z = S.2 u z
theorem RoF_r (S : rz_S) : RoF S S := ⟨fun _ _ => rfl, fun _ _ _ => rfl⟩
theorem RoF_t {S S1 S2 : rz_S} (h1 : RoF S S1) (h2 : RoF S1 S2) : RoF S S2 := ⟨fun q h => (h2.1 q h).trans (h1.1 q h), fun u z h => (h2.2 u z h).trans (h1.2 u z h)⟩
theorem RoF_j {S S1 : rz_S} (h1 : JbF S S1) : RoF S S1 := ⟨fun q _ => by rw [h1.1], h1.2⟩
theorem RoF_H {S S1 : rz_S} {t : Nat} {b : Nat → Bool} (h : RfH S t b) (hf : RoF S S1) : RfH S1 t b := by
  intro j hj
  rw [hf.1 117 (by omega)]
  exact h j hj
theorem lp_M_round {S : rz_S} {t : Nat} {b : Nat → Bool} (h1 : 1 ≤ t) (h2 : t ≤ 12) (hb : rgb b (8 * tN t)) (h : RfH S t b) : ∀ (m p n : Nat) (T : rz_S), 8 * tN t < m + p → p ≤ 8 * tN t → RoF S T → Jr b T t p → FL b (8 * tN t) (T.1 118) n p → rz mM_round 50 [(0, .ref 116), (2, .int (nI (8 * tN t))), (4, .int (nI n)), (5, .int (nI p))] [] T (rz_i (fun x S1 => ∃ n, n ≤ 800 ∧ x = nI n ∧ RoF S S1 ∧ FL b (8 * tN t) (S1.1 118) n (8 * tN t))) := by
  have hN := tN_b h2
  have hN11 : 11 ≤ 8 * tN t := by omega
  intro m
  induction m with
  | zero => intro p n T c1 c2; omega
  | succ m ih =>
    intro p n T c1 c2 hF hJ hL
    have hn : n ≤ 728 := by
      obtain ⟨g, g1, _, _⟩ := hL
      refine Nat.le_of_not_lt fun z => ?_
      have := g1 (n - 1) (by omega)
      omega
    refine p_M_round_50 ⟨fun c => ?_, fun c => ?_⟩
    · have : 8 * tN t ≤ p := (nI_leI (by omega) (by omega)).mp c
      have e : p = 8 * tN t := by omega
      rw [e] at hL
      exact ⟨n, by omega, rfl, hF, hL⟩
    · have hp : p < 8 * tN t := Nat.lt_of_not_le fun z => c (nI_le z (by omega))
      refine rz_useI (c_M_goesR h1 h2 hb (RoF_H h hF) hJ) (fun x T1 q1 => ?_)
      obtain ⟨f1, J1, hiff⟩ := q1
      have hL1 : FL b (8 * tN t) (T1.1 118) n p := by rw [f1.1]; exact hL
      have skip : ¬ isF b (8 * tN t) p → rz mM_round 50 [(0, .ref 116), (2, .int (nI (8 * tN t))), (4, .int (nI n)), (5, .int (nI p + 1))] [] T1 (rz_i (fun x S1 => ∃ n, n ≤ 800 ∧ x = nI n ∧ RoF S S1 ∧ FL b (8 * tN t) (S1.1 118) n (8 * tN t))) := by
        intro nF
        rw [nI_1]
        refine ih (p + 1) n T1 (by omega) (by omega) (RoF_t hF (RoF_j f1)) J1 ?_
        obtain ⟨g, g1, g2, g3⟩ := hL1
        refine ⟨g, fun i hi => ⟨(g1 i hi).1, by have := (g1 i hi).2.1; omega, (g1 i hi).2.2⟩, g2, fun p' q1 q2 => ?_⟩
        by_cases e : p' = p
        · subst e; exact absurd q2 nF
        · exact g3 p' (by omega) q2
      refine ⟨fun d => ⟨fun d2 => ⟨rin (by omega) (by omega), ?_⟩, fun d2 => skip fun z => d2 (hiff.mpr z).2⟩, fun d => skip fun z => d (hiff.mpr z).1⟩
      have yF := hiff.mp ⟨d, d2⟩
      rw [nI_1, nI_1, nI_clamp (by omega)]
      refine ih (p + 1) (n + 1) _ (by omega) (by omega) (RoF_t (RoF_t hF (RoF_j f1)) ⟨fun q hq => rz_fA_n hq, fun _ _ _ => rfl⟩) J1 ?_
      obtain ⟨g, g1, g2, g3⟩ := hL1
      rw [rz_fA_s]
      refine ⟨fun i => if i = n then p else g i, fun i hi => ?_, fun i j hij hj => ?_, fun p' q1 q2 => ?_⟩
      · by_cases e : i = n
        · subst e
          simp only [if_true]
          refine ⟨pk_us, by omega, yF, ?_⟩
          cases i with
          | zero => omega
          | succ i =>
            have a := g1 i (by omega)
            have := isF_gap hb a.2.2.1 yF a.2.1
            omega
        · simp only [if_neg e]
          have a := g1 i (by omega)
          exact ⟨(pk_un e).trans a.1, by omega, a.2.2⟩
      · by_cases e : j = n
        · subst e
          simp only [if_true]
          rw [if_neg (by omega)]
          exact (g1 i (by omega)).2.1
        · simp only [if_neg e]
          rw [if_neg (by omega)]
          exact g2 i j hij (by omega)
      · by_cases e : p' = p
        · exact ⟨n, by omega, by simp only [if_true]; exact e.symm⟩
        · obtain ⟨i, hi, he⟩ := g3 p' (by omega) q2
          exact ⟨i, by omega, by show (if i = n then p else g i) = p'; rw [if_neg (by omega)]; exact he⟩
theorem lp_M_round10 {S : rz_S} {t : Nat} {b : Nat → Bool} (h1 : 1 ≤ t) (h2 : t ≤ 12) (hb : rgb b (8 * tN t)) (h : RfH S t b) : ∀ (m c : Nat), 10 < m + c → c ≤ 10 → (∀ i, i < c → b (0 + 8 * tN t - 1 - i) = true) → rz mM_round 10 [(0, .ref 116), (1, .int (nI t)), (2, .int (nI (8 * tN t))), (3, .int (nI c))] [] S (rz_i (fun x S1 => ∃ n, n ≤ 800 ∧ x = nI n ∧ RoF S S1 ∧ FL b (8 * tN t) (S1.1 118) n (8 * tN t))) := by
  have hN := tN_b h2
  have hN11 : 11 ≤ 8 * tN t := by omega
  have go : rz mM_round 37 [(0, .ref 116), (1, .int (nI t)), (2, .int (nI (8 * tN t))), (3, .int (nI (rn b (8 * tN t) 0)))] [] S (rz_i (fun x S1 => ∃ n, n ≤ 800 ∧ x = nI n ∧ RoF S S1 ∧ FL b (8 * tN t) (S1.1 118) n (8 * tN t))) := by
    have hle := rn_le b (8 * tN t) 0
    refine p_M_round_37 (rz_useV (c_M_along (p := 0) h1 h2 hle) (fun S1 q => ?_))
    obtain ⟨f, k6, k7, k8, k9, k10, k11, k12, k13⟩ := q
    refine lp_M_round h1 h2 hb h (8 * tN t + 1) 0 0 S1 (by omega) (by omega) (RoF_j f) ⟨k6, k7, ?_, k9, ⟨_, ?_, k10, ?_⟩, ⟨0, by omega, k11⟩, Or.inl k13⟩ ⟨fun _ => 0, fun i hi => by omega, fun i j hij hj => by omega, fun p q1 q2 => by omega⟩
    · rw [k8, Nat.zero_mod]
    · split <;> omega
    · split <;> omega
  intro m
  induction m with
  | zero => intro c d1 d2; omega
  | succ m ih =>
    intro c d1 d2 d3
    refine p_M_round_10 ⟨fun d => ?_, fun d => ?_⟩
    · have : 10 ≤ c := (nI_leI (a := 10) (by omega) (by omega)).mp d
      have e : c = rn b (8 * tN t) 0 := RN_u ⟨by omega, d3, Or.inl (by omega)⟩ (rn_RN b _ 0)
      rw [e]
      exact go
    · have hc : ¬ 10 ≤ c := fun z => d (nI_le (a := 10) z (by omega))
      rw [show (1 : Int32) = nI 1 from rfl, pk_sub (by omega), pk_sub (by omega)]
      refine rz_toI (c_M_bit h1 h2 h (by omega)) ?_
      have e0 : 8 * tN t - 1 - c = 0 + 8 * tN t - 1 - c := by omega
      rw [e0]
      refine ⟨fun z => ?_, fun z => ?_⟩
      · have e := (nI_b1 _).mp z
        rw [nI_add]
        refine ih (c + 1) (by omega) (by omega) (fun i hi => ?_)
        by_cases e2 : i = c
        · subst e2; exact e
        · exact d3 i (by omega)
      · have e : c = rn b (8 * tN t) 0 := RN_u ⟨by omega, d3, Or.inr (Bool.eq_false_iff.mpr fun e => z ((nI_b1 _).mpr e))⟩ (rn_RN b _ 0)
        rw [e]
        exact go
theorem c_M_round {S : rz_S} {t : Nat} {b : Nat → Bool} (h1 : 1 ≤ t) (h2 : t ≤ 12) (hb : rgb b (8 * tN t)) (h : RfH S t b) : rz_ev mM_round [.ref 116, .int (nI t)] S (rz_i (fun x S1 => ∃ n, n ≤ 800 ∧ x = nI n ∧ RoF S S1 ∧ FL b (8 * tN t) (S1.1 118) n (8 * tN t))) := by
  show rz _ 0 [(0, .ref 116), (1, .int (nI t))] [] _ _
  refine p_M_round_0 (rz_toI (c_M_bytes h1 h2) ?_)
  rw [show (8 : Int32) = nI 8 from rfl, pk_mul]
  exact lp_M_round10 h1 h2 hb h 11 0 (by omega) (by omega) (fun i hi => by omega)
