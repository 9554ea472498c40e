/-! the ID is taken: the reference -/
def kF (S S1 : rz_S) : Prop := (∀ q, ¬ (118 ≤ q ∧ q ≤ 121) → S1.1 q = S.1 q) ∧ ∀ u z, ¬ (u = 116 ∧ (2 ≤ z ∧ z ≤ 15 ∨ z = 20)) → S1.2 u z = S.2 u z
theorem kF_r (S : rz_S) : kF S S := ⟨fun _ _ => rfl, fun _ _ _ => rfl⟩
theorem kF_t {S S1 S2 : rz_S} (h1 : kF S S1) (h2 : kF S1 S2) : kF S S2 := ⟨fun q h => (h2.1 q h).trans (h1.1 q h), fun u z h => (h2.2 u z h).trans (h1.2 u z h)⟩
theorem kF_m {S S1 : rz_S} (h : mF S S1) : kF S S1 := ⟨h.1, fun u z hz => h.2 u z fun e => hz ⟨e.1, by omega⟩⟩
theorem kF_u {S : rz_S} {j : Nat} {x : Int32} (hj : 2 ≤ j ∧ j ≤ 15 ∨ j = 20) : kF S (rz_uI S 116 j x) := ⟨fun _ _ => rfl, fun u z h => rz_uI_n fun e => h ⟨e.1, by omega⟩⟩
theorem kF_H {S S1 : rz_S} {t : Nat} {b : Nat → Bool} (h : RfH S t b) (hf : kF S S1) : RfH S1 t b := by
  intro j hj
  rw [hf.1 117 (by omega)]
  exact h j hj
theorem mF_id {S S1 : rz_S} {id : Option (Nat × Nat)} (h : IDm S id) (hf : mF S S1) : IDm S1 id := by
  cases id with
  | none => exact ⟨(hf.2 116 2 (by omega)).trans h.1, (hf.2 116 3 (by omega)).trans h.2⟩
  | some q =>
    obtain ⟨i, j⟩ := q
    exact ⟨(hf.2 116 2 (by omega)).trans h.1, (hf.2 116 3 (by omega)).trans h.2.1, h.2.2⟩
def tiM (b : Nat → Bool) (N : Nat) (S : rz_S) (x : Int32) (S1 : rz_S) : Prop := kF S S1 ∧ ∃ id, TI b N id ∧ IDm S1 id ∧ ((id ≠ none ∧ x = 0) ∨ (id = none ∧ x = 74 ∧ S1.2 116 4 = 7 ∧ S1.2 116 5 = 0))
theorem c_fault {S : rz_S} (n t s : Int32) : rz_ev mM_fault [.ref 116, .int n, .int t, .int s] S (rz_i (fun x S1 => x = n ∧ S1 = rz_uI (rz_uI S 116 4 t) 116 5 s)) := c_M_fault n t s
section TIM
variable {S : rz_S} {b : Nat → Bool}
theorem c_M_takeId155 {T : rz_S} {N : Nat} (hTI : TI b N none) (hid : IDm T none) (hf : kF S T) : rz mM_takeId 155 [(0, .ref 116)] [] T (rz_i (tiM b N S)) := by
  refine p_M_takeId_155 (rz_toI (c_fault 74 7 0) ?_)
  refine ⟨kF_t hf (kF_t (kF_u (by omega)) (kF_u (by omega))), none, hTI, ⟨((rz_uI_n (by omega)).trans (rz_uI_n (by omega))).trans hid.1, ((rz_uI_n (by omega)).trans (rz_uI_n (by omega))).trans hid.2⟩, Or.inr ⟨rfl, rfl, (rz_uI_n (by omega)).trans rz_uI_s, rz_uI_s⟩⟩
theorem lp_M_takeId46 {K : Int32 → rz_S → Prop} {p : Nat} {a1 a2 : Int32} (hb : rgb b (8 * tN 7)) (hR : RfH S 7 b) (hp : p < 8 * tN 7) (hF : isF b (8 * tN 7) p) (hid : IDm S none)
    (kyes : GH (hdc b (8 * tN 7) p) → ∀ T, kF S T → IDm T (some (dec (hdc b (8 * tN 7) p) 5, dec (hdc b (8 * tN 7) p) 4)) → K 0 T)
    (kno : ¬ GH (hdc b (8 * tN 7) p) → ∀ T, mF S T → T.1 118 = S.1 118 → rz mM_takeId 19 [(0, .ref 116), (1, .int a1), (2, .int (a2 + 1))] [] T (rz_i K)) : ∀ (w i : Nat) (T : rz_S), 10 < w + i → i ≤ 10 → mF S T → T.1 118 = S.1 118 → Jb b T 7 (sq b (8 * tN 7) p i) 0 false → (∀ j, j < i → T.1 120 j = by8 (hdc b (8 * tN 7) p) (8 * j)) → rz mM_takeId 46 [(0, .ref 116), (1, .int a1), (2, .int a2), (3, .int (nI i))] [] T (rz_i K) := by
  intro w
  induction w with
  | zero => intro i T c1 c2; omega
  | succ w ih =>
    intro i T c1 c2 hT h118 hJ hj
    refine p_M_takeId_46 ⟨fun c => ?_, fun c => ?_⟩
    · have : 10 ≤ i := (nI_leI (a := 10) (by omega) (by omega)).mp c
      refine rz_useI (c_M_reads (n := 8) (m := 10) (cb := hdc b (8 * tN 7) p) (by omega) (by omega) (fun j hj2 => hj j (by omega))) (fun x T1 r => ?_)
      rcases r with ⟨v, rfl, f, rfl, hf⟩ | ⟨v, rfl, f, rfl⟩
      · have hT1 : mF S (rz_fA T 119 f) := mF_t hT (mF_a (by omega))
        have h118' : (rz_fA T 119 f).1 118 = S.1 118 := by rw [rz_fA_n (by omega)]; exact h118
        have g : ∀ j, j < 8 → (rz_fA T 119 f).1 119 j = nI (dec (hdc b (8 * tN 7) p) j) := fun j hj2 => by rw [rz_fA_s]; exact hf j hj2
        have lt : ∀ j, j < 8 → dec (hdc b (8 * tN 7) p) j < 256 := fun j hj2 => dec_lt v (by omega)
        generalize hd : dec (hdc b (8 * tN 7) p) = d at g lt
        have lx : ((d 2 ^^^ d 3) ^^^ d 4) ^^^ d 5 < 256 := xor_256 (xor_256 (xor_256 (lt 2 (by omega)) (lt 3 (by omega))) (lt 4 (by omega))) (lt 5 (by omega))
        have l0 := lt 0 (by omega)
        have l1 := lt 1 (by omega)
        refine ⟨fun z => absurd z (by decide), fun _ => ?_⟩
        rw [g 0 (by omega), g 1 (by omega), g 2 (by omega), g 3 (by omega), g 4 (by omega), g 5 (by omega), nx_xor, nx_xor, nx_xor]
        refine ⟨fun z => ⟨fun z2 => ?_, fun z2 => ?_⟩, fun z => ?_⟩
        · have e0 : d 0 = 8 := (nI_eq (b := 8) (by omega) (by omega)).mp z
          have e1 := (nI_eq (by omega) (by omega)).mp z2
          refine kyes ⟨v, by rw [hd]; exact e0, by rw [hd]; exact e1⟩ _ (kF_t (kF_m hT1) (kF_t (kF_u (by omega)) (kF_u (by omega)))) ?_
          rw [hd]
          exact ⟨(rz_uI_n (by omega)).trans rz_uI_s, rz_uI_s, lt 5 (by omega), lt 4 (by omega)⟩
        · exact kno (fun q => z2 (by rw [← hd, q.2.2])) _ hT1 h118'
        · exact kno (fun q => z (by rw [← hd, q.2.1]; rfl)) _ hT1 h118'
      · have hT1 : mF S (rz_fA T 119 f) := mF_t hT (mF_a (by omega))
        exact ⟨fun _ => kno (fun z => v z.1) _ hT1 (by rw [rz_fA_n (by omega)]; exact h118), fun z => absurd rfl z⟩
    · have hi : ¬ 10 ≤ i := fun z => c (nI_le (a := 10) z (by omega))
      refine rz_useI (c_comes (by omega) (by omega) hb (mF_H hR hT) hJ hp hF.1) (fun x T1 r => ⟨rin (by omega) (by omega), ?_⟩)
      obtain ⟨rfl, r2, r3, _⟩ := r
      rw [nI_clamp (by omega), nI_1]
      refine ih (i + 1) _ (by omega) (by omega) (mF_t hT (mF_t (mF_j r2) (mF_a (by omega)))) ?_ r3 (fun j hj2 => ?_)
      · rw [rz_fA_n (by omega), r2.1]; exact h118
      · rw [rz_fA_s]
        by_cases e : j = i
        · subst e
          rw [pk_us]
          unfold hdc
          rw [cbf_by, ← sq_s]
          rfl
        · rw [pk_un e, r2.1]
          exact hj j (by omega)
theorem FL_cnt {N n : Nat} {g : Nat → Nat} (g1 : ∀ i, i < n → g i < N ∧ isF b N (g i)) (g2 : ∀ i j, i < j → j < n → g i < g j) (g3 : ∀ p, p < N → isF b N p → ∃ i, i < n ∧ g i = p) : ∀ k, k < n → cntF b N (g k) = k := by
  intro k
  induction k with
  | zero =>
    intro hk
    refine cntF_0 (fun p' q hF => ?_)
    obtain ⟨i, hi, rfl⟩ := g3 p' (by have := (g1 0 hk).1; omega) hF
    rcases Nat.eq_zero_or_pos i with e | e
    · subst e; omega
    · have := g2 0 i e hi; omega
  | succ k ih =>
    intro hk
    rw [cntF_next (g1 k (by omega)).2 (g2 k (k + 1) (by omega) hk) (fun p' q1 q2 hF => ?_), ih (by omega)]
    obtain ⟨i, hi, rfl⟩ := g3 p' (by have := (g1 (k + 1) hk).1; omega) hF
    rcases Nat.lt_or_ge k i with e | e
    · rcases Nat.lt_or_ge (k + 1) i with e2 | e2
      · have := g2 (k + 1) i e2 hi; omega
      · have : i = k + 1 := by omega
        subst this; omega
    · rcases Nat.lt_or_ge i k with e2 | e2
      · have := g2 i k e2 (by omega); omega
      · have : i = k := by omega
        subst this; omega
theorem lp_M_takeId19 {n : Nat} {g : Nat → Nat} (hb : rgb b (8 * tN 7)) (hR : RfH S 7 b) (hid : IDm S none) (hn : n ≤ 800) (g1 : ∀ i, i < n → S.1 118 i = nI (g i) ∧ g i < 8 * tN 7 ∧ isF b (8 * tN 7) (g i)) (g2 : ∀ i j, i < j → j < n → g i < g j) (g3 : ∀ p, p < 8 * tN 7 → isF b (8 * tN 7) p → ∃ i, i < n ∧ g i = p) : ∀ (w k : Nat) (T : rz_S), n < w + k → k ≤ n → mF S T → T.1 118 = S.1 118 → (∀ i, i < k → ¬ GH (hdc b (8 * tN 7) (g i))) → rz mM_takeId 19 [(0, .ref 116), (1, .int (nI n)), (2, .int (nI k))] [] T (rz_i (tiM b (8 * tN 7) S)) := by
  have hcnt := FL_cnt (b := b) (N := 8 * tN 7) (n := n) (g := g) (fun i hi => (g1 i hi).2) g2 g3
  intro w
  induction w with
  | zero => intro k T c1 c2; omega
  | succ w ih =>
    intro k T c1 c2 hT h118 hno
    have no1 : (n ≤ k ∨ 32 ≤ k) → TI b (8 * tN 7) none := fun h => by
      refine Or.inr ⟨fun p q1 q2 q3 => ?_, rfl⟩
      obtain ⟨i, hi, rfl⟩ := g3 p q1 q2
      rw [hcnt i hi] at q3
      exact hno i (by omega)
    refine p_M_takeId_19 ⟨fun c => ?_, fun c => ⟨fun d => ?_, fun d => ⟨rin ?_ (by omega), ?_⟩⟩⟩
    · exact c_M_takeId155 (no1 (Or.inl ((nI_leI (by omega) (by omega)).mp c))) (mF_id hid hT) (kF_m hT)
    · exact c_M_takeId155 (no1 (Or.inr ((nI_leI (a := 32) (by omega) (by omega)).mp d))) (mF_id hid hT) (kF_m hT)
    · have : ¬ n ≤ k := fun z => c (nI_le z (by omega))
      omega
    · have hk : ¬ n ≤ k := fun z => c (nI_le z (by omega))
      have hk32 : ¬ 32 ≤ k := fun z => d (nI_le (a := 32) z (by omega))
      obtain ⟨a1, a2, a3⟩ := g1 k (by omega)
      rw [nI_clamp (by omega), h118, a1]
      refine rz_useV (c_M_along (t := 7) (r := 10) (by omega) (by omega) (by omega)) (fun T1 r => ?_)
      obtain ⟨f, k6, k7, k8, k9, k10, k11, k12, k13⟩ := r
      have hT1 := mF_t hT (mF_j f)
      have hJ : Jb b T1 7 (g k) 0 false := ⟨k6, k7, by rw [k8, Nat.mod_eq_of_lt a2], by rw [k9, a3.2], by rw [k10, a3.2]; rfl, k11, k12, k13⟩
      refine lp_M_takeId46 (S := T1) hb (mF_H hR hT1) a2 a3 (mF_id hid hT1) (fun gh T2 f2 id2 => ?_) (fun gh T2 f2 e2 => ?_) 11 0 T1 (by omega) (by omega) (mF_r T1) rfl hJ (fun j hj => by omega)
      · refine ⟨kF_t (kF_m hT1) f2, _, Or.inl ⟨g k, a2, a3, gh, by rw [hcnt k (by omega)]; omega, fun p' q1 q2 => ?_, rfl⟩, id2, Or.inl ⟨fun z => (by cases z), rfl⟩⟩
        obtain ⟨i, hi, rfl⟩ := g3 p' (by omega) q2
        refine hno i (Nat.lt_of_not_le fun z => ?_)
        rcases Nat.lt_or_ge k i with e | e
        · have := g2 k i e hi; omega
        · have : i = k := by omega
          subst this
          omega
      · rw [nI_1]
        refine ih (k + 1) T2 (by omega) (by omega) (mF_t hT1 f2) (by rw [e2, f.1]; exact h118) (fun i hi => ?_)
        by_cases e : i = k
        · subst e; exact gh
        · exact hno i (by omega)
theorem c_M_takeId (hb : rgb b (8 * tN 7)) (hR : RfH S 7 b) : rz_ev mM_takeId [.ref 116] S (rz_i (tiM b (8 * tN 7) S)) := by
  show rz _ 0 [(0, .ref 116)] [] _ _
  refine p_M_takeId_0 (rz_useI (c_M_round (t := 7) (by omega) (by omega) hb hR) (fun x T r => ?_))
  obtain ⟨n, hn, rfl, rF, g, g1, g2, g3⟩ := r
  have f1 : kF S (rz_uI (rz_uI T 116 2 (-1)) 116 3 (-1)) := kF_t (kF_m (mF_o rF)) (kF_t (kF_u (by omega)) (kF_u (by omega)))
  have hid : IDm (rz_uI (rz_uI T 116 2 (-1)) 116 3 (-1)) none := ⟨(rz_uI_n (by omega)).trans rz_uI_s, rz_uI_s⟩
  have h118 : (rz_uI (rz_uI T 116 2 (-1)) 116 3 (-1)).1 118 = T.1 118 := rfl
  generalize rz_uI (rz_uI T 116 2 (-1)) 116 3 (-1) = U at f1 hid h118
  refine rz_weak (lp_M_takeId19 (S := U) (n := n) (g := g) hb (kF_H hR f1) hid hn (fun i hi => ⟨by rw [h118]; exact (g1 i hi).1, (g1 i hi).2.1, (g1 i hi).2.2.1⟩) g2 g3 (n + 1) 0 U (by omega) (by omega) (mF_r U) rfl (fun i hi => by omega)) (fun r S1 q => ?_)
  obtain ⟨y, rfl, q1, q2⟩ := q
  exact ⟨y, rfl, kF_t f1 q1, q2⟩
end TIM
