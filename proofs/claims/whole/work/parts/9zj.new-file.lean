/-! a new FILE is begun: both sides -/
def snR (c f m st : Nat) (W : rz_S) (Q : Int32 → rz_S → Prop) : Prop := rz_ev mM_loads [.ref 116] W (rz_i (fun xq3 Sq3 => ((xq3 = 0 → rz_ev mM_takesOne [.ref 116] Sq3 (rz_i (fun xq5 Sq5 => ((xq5 = 0 → rz_ev mM_stores [.ref 116] Sq5 (rz_i (fun xq7 Sq7 => ((xq7 = 0 → rz_ev mM_readBlock [.ref 116, .int (Sq7.2 116 27), .int (Sq7.2 116 28), .ref 125, .int 0] Sq7 (rz_i (fun xq9 Sq9 => ((xq9 = 0 → rx_in ((16 * (Sq9.2 116 29)) + 2) 64 = true ∧ rx_in ((16 * (Sq9.2 116 29)) + 3) 64 = true ∧ rx_in ((16 * (Sq9.2 116 29)) + 4) 64 = true ∧ rz mM_opensNew 233 [(0, .ref 116), (1, .int (nI c)), (2, .int (nI f)), (3, .int (nI m)), (7, .int (16 * (Sq9.2 116 29))), (8, .int 0)] [] (rz_fA (rz_fA (rz_fA Sq9 125 (upd (Sq9.1 125) (((16 * (Sq9.2 116 29)) + 2).toNatClampNeg) (nI st))) 125 (upd (upd (Sq9.1 125) (((16 * (Sq9.2 116 29)) + 2).toNatClampNeg) (nI st)) (((16 * (Sq9.2 116 29)) + 3).toNatClampNeg) (Sq9.2 116 25))) 125 (upd (upd (upd (Sq9.1 125) (((16 * (Sq9.2 116 29)) + 2).toNatClampNeg) (nI st)) (((16 * (Sq9.2 116 29)) + 3).toNatClampNeg) (Sq9.2 116 25)) (((16 * (Sq9.2 116 29)) + 4).toNatClampNeg) (Sq9.2 116 26))) (rz_i Q)) ∧ (¬ xq9 = 0 → Q xq9 Sq9))))) ∧ (¬ xq7 = 0 → Q xq7 Sq7))))) ∧ (¬ xq5 = 0 → Q xq5 Sq5))))) ∧ (¬ xq3 = 0 → Q xq3 Sq3))))
theorem r233 {S : rz_S} {c f m e : Nat} {K : Int32 → rz_S → Prop} (hm : m ≤ 10) (hf : f + m ≤ 401) (he : e < 4) (h : rz mM_opensNew 233 [(0, .ref 116), (1, .int (nI c)), (2, .int (nI f)), (3, .int (nI m)), (7, .int (nI (16 * e))), (8, .int (nI 10))] [] (rz_fA S 125 (nmR (S.1 125) (fun i => S.1 151 (f + i)) m (16 * e + 5))) (rz_i K)) : ∀ (w i : Nat) (T : rz_S), w + i = 10 → T = rz_fA S 125 (fun j => if 16 * e + 5 ≤ j ∧ j < 16 * e + 5 + i then pd (fun i => S.1 151 (f + i)) m (j - (16 * e + 5)) else S.1 125 j) → rz mM_opensNew 233 [(0, .ref 116), (1, .int (nI c)), (2, .int (nI f)), (3, .int (nI m)), (7, .int (nI (16 * e))), (8, .int (nI i))] [] T (rz_i K) := by
  intro w
  induction w with
  | zero =>
    intro i T hi hT
    have ei : i = 10 := by omega
    subst ei
    rw [hT]
    exact h
  | succ w ih =>
    intro i T hi hT
    have t151 : T.1 151 = S.1 151 := by rw [hT]; simp (disch := omega) only [uI1, fA2, rz_fA_n, rz_uI_n, rz_fA_s, rz_uI_s, pk_us]
    have t125 : T.1 125 = fun j => if 16 * e + 5 ≤ j ∧ j < 16 * e + 5 + i then pd (fun i => S.1 151 (f + i)) m (j - (16 * e + 5)) else S.1 125 j := by rw [hT]; simp (disch := omega) only [uI1, fA2, rz_fA_n, rz_uI_n, rz_fA_s, rz_uI_s, pk_us]
    have nx : ∀ v : Int32, v = pd (fun i => S.1 151 (f + i)) m i → rz mM_opensNew 233 [(0, .ref 116), (1, .int (nI c)), (2, .int (nI f)), (3, .int (nI m)), (7, .int (nI (16 * e))), (8, .int (nI (i + 1)))] [] (rz_fA T 125 (upd (T.1 125) (16 * e + 5 + i) v)) (rz_i K) := fun v hv => by
      refine ih (i + 1) _ (by omega) ?_
      rw [t125, hT, rz_fAA]
      congr 1
      funext j
      by_cases z : j = 16 * e + 5 + i
      · subst z
        rw [pk_us, if_pos ⟨by omega, by omega⟩, hv, show 16 * e + 5 + i - (16 * e + 5) = i by omega]
      · rw [pk_un z]
        by_cases q : 16 * e + 5 ≤ j ∧ j < 16 * e + 5 + i
        · rw [if_pos q, if_pos ⟨q.1, by omega⟩]
        · rw [if_neg q, if_neg (by omega)]
    refine p_M_opensNew_233 ⟨fun d => ?_, fun _ => ⟨fun d => ?_, fun d => ?_⟩⟩
    · have := (nI_leI (a := 10) (by omega) (by omega)).mp d
      omega
    · have him : m ≤ i := (nI_leI (by omega) (by omega)).mp d
      rw [show (nI (16 * e) + 5 : Int32) = nI (16 * e + 5) from nI_add _ 5, nI_add, nI_clamp (by omega), nI_1]
      refine ⟨rin (by omega) (by omega), nx 160 ?_⟩
      unfold pd; rw [if_neg (by omega)]
    · have him : i < m := Decidable.byContradiction fun z => d (nI_le (by omega) (by omega))
      rw [show (nI (16 * e) + 5 : Int32) = nI (16 * e + 5) from nI_add _ 5, nI_add, nI_add, nI_clamp (by omega), nI_clamp (by omega), nI_1, t151]
      refine ⟨rin (by omega) (by omega), rin (by omega) (by omega), nx _ ?_⟩
      unfold pd; rw [if_pos him]
theorem c_clears {S : rz_S} {c : Nat} (hc : c < 15) : rz_ev mM_clears [.ref 116, .int (nI c)] S (rz_v (fun S1 => S1 = rz_fA (rz_fA S 127 (fun i => if 64 * c ≤ i ∧ i < 64 * c + 64 then 0 else S.1 127 i)) 129 (upd (S.1 129) c 0))) := by
  have ecl : (nI c).toNatClampNeg = c := nI_clamp (by omega)
  have e64 : (64 * nI c : Int32) = nI (64 * c) := pk_mul 64 c
  have lp : ∀ (w j : Nat) (T : rz_S), w + j = 64 → T = rz_fA S 127 (fun i => if 64 * c ≤ i ∧ i < 64 * c + j then 0 else S.1 127 i) → rz mM_clears 2 [(0, .ref 116), (1, .int (nI c)), (2, .int (nI j))] [] T (rz_v (fun S1 => S1 = rz_fA (rz_fA S 127 (fun i => if 64 * c ≤ i ∧ i < 64 * c + 64 then 0 else S.1 127 i)) 129 (upd (S.1 129) c 0))) := by
    intro w
    induction w with
    | zero =>
      intro j T hj hT
      have ej : j = 64 := by omega
      subst ej
      refine p_M_clears_2 ⟨fun _ => ⟨rin hc (by omega), ?_⟩, fun d => absurd (by decide) d⟩
      rw [ecl]
      have : T.1 129 = S.1 129 := by rw [hT]; simp (disch := omega) only [uI1, fA2, rz_fA_n, rz_uI_n, rz_fA_s, rz_uI_s, pk_us]
      rw [this, hT]
    | succ w ih =>
      intro j T hj hT
      refine p_M_clears_2 ⟨fun d => ?_, fun _ => ?_⟩
      · have := (nI_leI (a := 64) (by omega) (by omega)).mp d
        omega
      rw [e64, nI_add, nI_clamp (by omega), nI_1]
      refine ⟨rin (by omega) (by omega), ih (j + 1) _ (by omega) ?_⟩
      rw [hT, rz_fA_s, rz_fAA]
      congr 1
      funext i
      by_cases z : i = 64 * c + j
      · subst z; rw [pk_us, if_pos ⟨by omega, by omega⟩]
      · rw [pk_un z]
        by_cases q : 64 * c ≤ i ∧ i < 64 * c + j
        · rw [if_pos q, if_pos ⟨q.1, by omega⟩]
        · rw [if_neg q, if_neg (by omega)]
  show rz _ 0 [(0, .ref 116), (1, .int (nI c))] [] _ _
  refine p_M_clears_0 (lp 64 0 S (by omega) ?_)
  have : (fun i => if 64 * c ≤ i ∧ i < 64 * c + 0 then (0 : Int32) else S.1 127 i) = S.1 127 := by
    funext i
    rw [if_neg (by omega)]
  rw [this, rz_fA_self]
theorem c_beginBlock {S : rz_S} {c : Nat} {t s : Int32} (hc : c < 15) : rz_ev mChannel_beginBlock [.ref (48 + 4 * c), .int t, .int s] S (rz_v (fun S1 => S1 = rz_uI (rz_uI (rz_uI (rz_fA S (49 + 4 * c) (fun i => if i < 64 then 0 else S.1 (49 + 4 * c) i)) (48 + 4 * c) 2 2) (48 + 4 * c) 5 t) (48 + 4 * c) 6 s)) := by
  have hch : chP (48 + 4 * c) := ⟨by omega, by omega, by omega⟩
  have e49 : 48 + 4 * c + 1 = 49 + 4 * c := by omega
  show rz _ 0 [(0, .ref (48 + 4 * c)), (1, .int t), (2, .int s)] [] _ _
  refine p_Channel_beginBlock_0 hch ?_
  rw [e49]
  exact rz_toV (c_Arr_fill (e49 ▸ chR hch) (by omega) 0) rfl
theorem nmR_c {F G nm nm' : Nat → Int32} {n at0 : Nat} (h : ∀ j, j < 64 → F j = G j ∧ byt (F j)) (hn : ∀ i, i < n → nm i = nm' i ∧ byt (nm i)) : ∀ j, j < 64 → nmR F nm n at0 j = nmR G nm' n at0 j ∧ byt (nmR F nm n at0 j) := by
  intro j hj
  unfold nmR
  by_cases z : at0 ≤ j ∧ j < at0 + 10
  · rw [if_pos z, if_pos z]
    unfold pd
    by_cases q : j - at0 < n
    · rw [if_pos q, if_pos q]; exact hn _ q
    · rw [if_neg q, if_neg q]; exact ⟨rfl, 160, by omega, rfl⟩
  · rw [if_neg z, if_neg z]; exact h j hj
