/-! SEEK of the reference -/
section SKM
variable {S : rz_S} {t : Nat} {b h : Nat → Bool} {K : Int32 → rz_S → Prop}
/-- within a header that is held there is no MARK -/
theorem mt_nomark {N p i j : Nat} (hb : rgb b N) (hN : 11 ≤ N) (hF : isF b N p) (hm : mt b h p) (hq : ∀ s, s + 10 ≤ 80 → ∃ u, u < 10 ∧ h (s + u) = false) (hi : 1 ≤ i) (hi9 : i ≤ 9) (hj : j ≤ 8) : ¬ rn b N (p + 8 * i + j) = 10 := by
  intro z
  have hR := rn_RN b N (p + 8 * i + j)
  rw [z] at hR
  have far : 10 < 8 * i + j := by
    refine Nat.lt_of_not_le fun c => ?_
    have := hR.2.1 (8 * i + j - 1) (by omega)
    rw [show p + 8 * i + j + N - 1 - (8 * i + j - 1) = p + N by omega, rgb_w hb, hF.1] at this
    cases this
  obtain ⟨u, hu, e⟩ := hq (8 * i + j - 10) (by omega)
  have e1 := mt_bit hm (8 * i + j - 10 + u) (by omega)
  have e2 := hR.2.1 (9 - u) (by omega)
  rw [show p + 8 * i + j + N - 1 - (9 - u) = p + (8 * i + j - 10 + u) + N by omega, rgb_w hb, e1, e] at e2
  cases e2
theorem lp_seek56 {p : Nat} {a3 a4 : Int32} (h1 : 1 ≤ t) (h2 : t ≤ 12) (hb : rgb b (8 * tN t)) (hR : RfH S t b) (hp : p < 8 * tN t) (hF : isF b (8 * tN t) p) (hq : ∀ s, s + 10 ≤ 80 → ∃ u, u < 10 ∧ h (s + u) = false) (hcod : ∀ u, u < 10 → S.1 120 u = by8 h (8 * u)) (kyes : mt b h p → ∀ T, JbF S T → Jb b T t (p + 80) 0 false → K 0 T) (kno : ¬ mt b h p → ∀ T, JbF S T → rz mM_seek 30 [(0, .ref 116), (1, .int (nI t)), (3, .int a3), (4, .int (a4 + 1))] [] T (rz_i K)) : ∀ (w i : Nat) (T : rz_S), 10 < w + i → i ≤ 10 → JbF S T → Jb b T t (p + 8 * i) 0 false → (∀ u, u < i → by8 b (p + 8 * u) = by8 h (8 * u)) → rz mM_seek 56 [(0, .ref 116), (1, .int (nI t)), (3, .int a3), (4, .int a4), (5, .int 1), (6, .int (nI i))] [] T (rz_i K) := by
  have hN := tN_b h2
  have hN11 : 11 ≤ 8 * tN t := by omega
  -- it is not that header
  have no : ∀ (i : Nat) (T : rz_S), ¬ mt b h p → JbF S T → i ≤ 10 → rz mM_seek 56 [(0, .ref 116), (1, .int (nI t)), (3, .int a3), (4, .int a4), (5, .int 0), (6, .int (nI i))] [] T (rz_i K) := by
    intro i T nm hT hi
    have go : rz mM_seek 107 [(0, .ref 116), (1, .int (nI t)), (3, .int a3), (4, .int a4), (5, .int 0)] [] T (rz_i K) := p_M_seek_107 ⟨fun _ => kno nm T hT, fun z => absurd rfl z⟩
    exact p_M_seek_56 ⟨fun _ => go, fun _ => ⟨fun _ => go, fun z => absurd rfl z⟩⟩
  intro w
  induction w with
  | zero => intro i T c1 c2; omega
  | succ w ih =>
    intro i T c1 c2 hT hJ hpre
    refine p_M_seek_56 ⟨fun c => ?_, fun c => ⟨fun z => absurd z (by decide), fun _ => ?_⟩⟩
    · have : 10 ≤ i := (nI_leI (a := 10) (by omega) (by omega)).mp c
      have e : i = 10 := by omega
      subst e
      exact p_M_seek_107 ⟨fun z => absurd z (by decide), fun _ => kyes hpre T hT hJ⟩
    · have hi : ¬ 10 ≤ i := fun z => c (nI_le (a := 10) z (by omega))
      refine rz_useI (c_comes h1 h2 hb (JbF_H hR hT) hJ hp hF.1) (fun x T1 r => ⟨rin (by omega) (by omega), ?_⟩)
      obtain ⟨rfl, r2, r3, r4, _⟩ := r
      have hT1 := JbF_t hT r2
      rw [nI_clamp (by omega), hT1.1, hcod i (by omega), nI_1, r4]
      by_cases i0 : i = 0
      · -- the FIRST byte itself
        subst i0
        have e : nxf b (8 * tN t) p = (p + 8, true) := by
          rcases nxf_cases hb hN11 hp hF.1 p with ⟨q1, _, _⟩ | ⟨z, q1, q2, q3, q4, q5, q6, q7, _⟩
          · exact absurd hF.2 (q1 0 (by omega))
          · have : z = p := by
              refine Nat.le_antisymm (Nat.le_of_not_lt fun c => ?_) q1
              have := q5 p (Nat.le_refl _) c
              rw [hF.1] at this
              cases this
            rw [q7, this]
        have e1 : eN b (8 * tN t) (p + 8 * 0) = p + 8 := by unfold eN; rw [show p + 8 * 0 = p from rfl, e]
        rw [e1] at r3 ⊢
        rw [show p + 8 - 8 = p + 8 * 0 by omega]
        refine ⟨fun z => ⟨fun _ => ?_, fun z2 => absurd rfl z2⟩, fun z => ?_⟩
        · refine ih (0 + 1) T1 (by omega) (by omega) hT1 r3 (fun u hu => ?_)
          have : u = 0 := by omega
          subst this
          exact z
        · exact no _ T1 (fun m => z (m 0 (by omega))) hT1 (by omega)
      · have i1 : ¬ nI i = 0 := fun z => i0 ((nI_eq (b := 0) (by omega) (by omega)).mp z)
        rcases nxf_cases hb hN11 hp hF.1 (p + 8 * i) with ⟨q1, q2, _⟩ | ⟨z, q1, q2, q3, q4, q5, ⟨j, hj, q6⟩, q7, _⟩
        · have e1 : eN b (8 * tN t) (p + 8 * i) = p + 8 * i + 8 := by unfold eN; rw [q2]
          have e2 : fN b (8 * tN t) (p + 8 * i) = false := by unfold fN; rw [q2]
          rw [e1] at r3 ⊢
          rw [e2, show p + 8 * i + 8 - 8 = p + 8 * i by omega]
          refine ⟨fun z => ⟨fun z2 => absurd z2 i1, fun _ => ⟨fun _ => ?_, fun z2 => absurd rfl z2⟩⟩, fun z => ?_⟩
          · refine ih (i + 1) T1 (by omega) (by omega) hT1 r3 (fun u hu => ?_)
            by_cases e : u = i
            · subst e; exact z
            · exact hpre u (by omega)
          · exact no _ T1 (fun m => z (m i (by omega))) hT1 (by omega)
        · have nm : ¬ mt b h p := fun m => mt_nomark hb hN11 hF m hq (by omega) (by omega) hj q6
          have e2 : fN b (8 * tN t) (p + 8 * i) = true := by unfold fN; rw [q7]
          rw [e2]
          exact ⟨fun _ => ⟨fun z2 => absurd z2 i1, fun _ => ⟨fun z3 => absurd z3 (by decide), fun _ => no _ T1 nm hT1 (by omega)⟩⟩, fun _ => no _ T1 nm hT1 (by omega)⟩
theorem lp_seek30 {n : Nat} {g : Nat → Nat} (h1 : 1 ≤ t) (h2 : t ≤ 12) (hb : rgb b (8 * tN t)) (hR : RfH S t b) (hq : ∀ s, s + 10 ≤ 80 → ∃ u, u < 10 ∧ h (s + u) = false) (hn : n ≤ 800) (hn0 : n ≠ 0) (g1 : ∀ i, i < n → S.1 118 i = nI (g i) ∧ g i < 8 * tN t ∧ isF b (8 * tN t) (g i)) (g2 : ∀ i j, i < j → j < n → g i < g j) (g3 : ∀ p, p < 8 * tN t → isF b (8 * tN t) p → ∃ i, i < n ∧ g i = p) (hcod : ∀ u, u < 10 → S.1 120 u = by8 h (8 * u)) : ∀ (w k : Nat) (T : rz_S), n < w + k → k ≤ n → JbF S T → (∀ i, i < k → ¬ mt b h (g i)) → rz mM_seek 30 [(0, .ref 116), (1, .int (nI t)), (3, .int (nI n)), (4, .int (nI k))] [] T (rz_i (fun x S1 => JbF S S1 ∧ SkP b h (8 * tN t) (fun q => Jb b S1 t q 0 false) x)) := by
  intro w
  induction w with
  | zero => intro k T c1 c2; omega
  | succ w ih =>
    intro k T c1 c2 hT hno
    refine p_M_seek_30 ⟨fun c => ?_, fun c => ⟨rin ?_ (by omega), ?_⟩⟩
    · have : n ≤ k := (nI_leI (by omega) (by omega)).mp c
      have ⟨a1, a2, a3⟩ := g1 0 (by omega)
      refine ⟨hT, Or.inr (Or.inl ⟨⟨g 0, a2, a3⟩, fun p p1 p2 => ?_, rfl⟩)⟩
      obtain ⟨i, hi, rfl⟩ := g3 p p1 p2
      exact hno i (by omega)
    · have : ¬ n ≤ k := fun z => c (nI_le z (by omega))
      omega
    · have hk : ¬ n ≤ k := fun z => c (nI_le z (by omega))
      obtain ⟨a1, a2, a3⟩ := g1 k (by omega)
      rw [nI_clamp (by omega), hT.1, a1]
      refine rz_useV (c_M_along (r := 10) h1 h2 (by omega)) (fun T1 r => ?_)
      obtain ⟨f, k6, k7, k8, k9, k10, k11, k12, k13⟩ := r
      have hT1 := JbF_t hT f
      have hT1c : ∀ u, u < 10 → T1.1 120 u = by8 h (8 * u) := fun u hu => by rw [hT1.1]; exact hcod u hu
      have hJ : Jb b T1 t (g k) 0 false := ⟨k6, k7, by rw [k8, Nat.mod_eq_of_lt a2], by rw [k9, a3.2], by rw [k10, a3.2]; rfl, k11, k12, k13⟩
      refine lp_seek56 (S := T1) h1 h2 hb (JbF_H hR hT1) a2 a3 hq hT1c (fun m T2 f2 J2 => ?_) (fun nm T2 f2 => ?_) 11 0 T1 (by omega) (by omega) (JbF_r T1) hJ (fun u hu => by omega)
      · refine ⟨JbF_t hT1 f2, Or.inr (Or.inr ⟨g k, a2, a3, m, fun p' q1 q2 => ?_, rfl, J2⟩)⟩
        obtain ⟨i, hi, rfl⟩ := g3 p' (by omega) q2
        refine hno i (Nat.lt_of_not_le fun z => ?_)
        rcases Nat.lt_or_ge k i with e | e
        · have := g2 k i e hi; omega
        · have : i = k := by omega
          subst this
          omega
      · rw [nI_1]
        refine ih (k + 1) T2 (by omega) (by omega) (JbF_t hT1 f2) (fun i hi => ?_)
        by_cases e : i = k
        · subst e; exact nm
        · exact hno i (by omega)
end SKM
theorem c_M_seek {S : rz_S} {t s i j : Nat} {b : Nat → Bool} (h1 : 1 ≤ t) (h2 : t ≤ 12) (hb : rgb b (8 * tN t)) (hR : RfH S t b) (hs : s < 256) (hi : i < 256) (hj : j < 256) (e1 : S.2 116 2 = nI i) (e2 : S.2 116 3 = nI j) : rz_ev mM_seek [.ref 116, .int (nI t), .int (nI s)] S (rz_i (fun x S1 => mF S S1 ∧ SkP b (gb (hpl t s i j)) (8 * tN t) (fun q => Jb b S1 t q 0 false) x)) := by
  show rz _ 0 [(0, .ref 116), (1, .int (nI t)), (2, .int (nI s))] [] _ _
  refine p_M_seek_0 (rz_useI (c_M_round h1 h2 hb hR) (fun x T r => ?_))
  obtain ⟨n, hn, rfl, rF, g, g1, g2, g3⟩ := r
  refine ⟨fun z => ?_, fun z => ?_⟩
  · have n0 : n = 0 := (nI_eq (b := 0) (by omega) (by omega)).mp z
    subst n0
    refine ⟨mF_o rF, Or.inl ⟨fun p hp hF => ?_, rfl⟩⟩
    obtain ⟨i, hi, _⟩ := g3 p hp hF
    omega
  · have n0 : n ≠ 0 := fun e => z (by rw [e]; rfl)
    rw [rF.2 116 2 (by omega), rF.2 116 3 (by omega), e1, e2]
    refine rz_useV (c_M_header (by omega) hs hi hj) (fun T1 r1 => ?_)
    obtain ⟨f, c, rfl, hc⟩ := r1
    have hpl256 := hpl_lt (t := t) (s := s) (i := i) (j := j) (by omega) hs hi hj
    have fr : mF T (rz_fA (rz_fA T 119 f) 120 c) := mF_t (mF_a (by omega)) (mF_a (by omega))
    refine rz_weak (lp_seek30 (S := rz_fA (rz_fA T 119 f) 120 c) (h := gb (hpl t s i j)) (n := n) (g := g) h1 h2 hb (mF_H (RoF_H hR rF) fr) (fun s hs => gb_quiet (n := 8) (fun j _ => hpl256 j) hs) hn n0 (fun i hi => ⟨?_, (g1 i hi).2.1, (g1 i hi).2.2.1⟩) g2 g3 (fun u hu => ?_) (n + 1) 0 _ (by omega) (by omega) (JbF_r _) (fun i hi => by omega)) (fun r S1 q => ?_)
    · rw [rz_fA_n (by omega), rz_fA_n (by omega)]
      exact (g1 i hi).1
    · rw [rz_fA_s]
      exact hc u hu
    · obtain ⟨y, rfl, q1, q2⟩ := q
      exact ⟨y, rfl, mF_t (mF_o rF) (mF_t fr (mF_j q1)), q2⟩
