/-! open: a channel, both sides -/
theorem op_to {c M : Nat} {pr : Bool} {Sx Sm V W V' W' : rz_S} {x y : Int32} (gx : GX c Sx V) (gm : GM c Sm W) (h3 : ∀ z, V.2 3 z = Sx.2 3 z) (h : opE c M pr V W x V' y W') : opE c M pr Sx Sm x V' y W' := by
  obtain ⟨a, b, d, e, f, g⟩ := h
  exact ⟨a, GX_t gx b, GM_t gm d, e, ans_t h3 f, g⟩
theorem oc_rest {c n M : Nat} {pr : Bool} {Sx Sm V W : rz_S} {B : Nat → Nat → Bool} {id : Option (Nat × Nat)} {K : Int32 → rz_S → Prop} {R : (Int32 → rz_S → Prop) → Prop} (hc : c < 15) (gx : GX c Sx V) (gm : GM c Sm W) (h3 : ∀ z, V.2 3 z = Sx.2 3 z) (hD : Dk B pr id V W) (hT : Txt n V W) (m1 : V.2 (48 + 4 * c) 0 = 0) (m2 : W.1 126 c = 0) (hall : ∀ d, d < 15 → V.2 (48 + 4 * d) 0 = W.1 126 d) (hK : ∀ x V1, R (opE c M pr Sx Sm x V1) → K x V1) (hR : ∀ Q : Int32 → rz_S → Prop, rz mM_opens 21 [(0, .ref 116), (1, .int (nI c)), (2, .int (nI n))] [] W (rz_i Q) → R Q) : rz_ev mDos_countOpen [.ref 39] V (rz_i (fun xq6 Sq6 => ((xq6 < 3 → rz_ev mTape_byteAt [.ref 1, .int 0] Sq6 (rz_i (fun xq8 Sq8 => ((xq8 = 35 → rz_ev mDos_openBuffer [.ref 39, .ref (48 + 4 * (nI c).toNatClampNeg)] Sq8 (rz_i (fun xq19 Sq19 => K xq19 Sq19))) ∧ (¬ xq8 = 35 → rz_ev mTape_byteAt [.ref 1, .int 0] Sq8 (rz_i (fun xq10 Sq10 => ((xq10 = 36 → rz_ev mDos_openList [.ref 39, .ref (48 + 4 * (nI c).toNatClampNeg)] Sq10 (rz_i (fun xq18 Sq18 => K xq18 Sq18))) ∧ (¬ xq10 = 36 → rz_ev mDos_parseFile [.ref 39, .int (nI c)] Sq10 (rz_i (fun xq12 Sq12 => ((xq12 = 0 → ((Sq12.2 39 11 = 82 → rz_ev mDos_openToRead [.ref 39, .ref (48 + 4 * (nI c).toNatClampNeg)] Sq12 (rz_i (fun xq16 Sq16 => K xq16 Sq16))) ∧ (¬ Sq12.2 39 11 = 82 → rz_ev mDos_openToWrite [.ref 39, .ref (48 + 4 * (nI c).toNatClampNeg)] Sq12 (rz_i (fun xq15 Sq15 => K xq15 Sq15))))) ∧ (¬ xq12 = 0 → rz_ev mStatus_set [.ref 3, .int xq12, .int 0, .int 0] Sq12 (rz_i (fun xq17 Sq17 => K xq17 Sq17))))))))))))))) ∧ (¬ xq6 < 3 → rz_ev mStatus_set [.ref 3, .int 70, .int 0, .int 0] Sq6 (rz_i (fun xq20 Sq20 => K xq20 Sq20)))))) := by
  have ecl : (nI c).toNatClampNeg = c := nI_clamp (by omega)
  have hC : Chn M c V W := Chn_0 m1 m2
  have ecn : cn_of (fun d => V.2 (48 + 4 * d) 0) 15 = cn_of (W.1 126) 15 := cn_ext (fun d hd => hall d hd)
  refine rz_toI (c_Dos_countOpen (S := V)) ?_
  show (cn_of (fun d => V.2 (48 + 4 * d) 0) 15 < 3 → _) ∧ (¬ cn_of (fun d => V.2 (48 + 4 * d) 0) 15 < 3 → _)
  rw [ecn, ecl]
  have hR21 : ∀ Q : Int32 → rz_S → Prop, ((cn_of (W.1 126) 15 < 3 → ((nI n ≤ 0 → rz mM_opens 109 [(0, .ref 116), (1, .int (nI c)), (2, .int (nI n))] [] W (rz_i Q)) ∧ (¬ nI n ≤ 0 → ((W.1 151 0 = 35 → ((nI n ≤ 1 → rz mM_opens 69 [(0, .ref 116), (1, .int (nI c)), (3, .int 0)] [] W (rz_i Q)) ∧ (¬ nI n ≤ 1 → rz_ev mM_fault [.ref 116, .int 30, .int 0, .int 0] W (rz_i (fun xq6 Sq6 => Q xq6 Sq6))))) ∧ (¬ W.1 151 0 = 35 → rz mM_opens 109 [(0, .ref 116), (1, .int (nI c)), (2, .int (nI n))] [] W (rz_i Q)))))) ∧ (¬ cn_of (W.1 126) 15 < 3 → rz_ev mM_fault [.ref 116, .int 70, .int 0, .int 0] W (rz_i (fun xq7 Sq7 => Q xq7 Sq7)))) → R Q := fun Q h => hR Q (p_M_opens_21 (rz_toI (c_M_openMany (S := W)) h))
  refine ⟨fun hcn => ?_, fun hcn => rz_toI (c_Status_set _ _ _) (hK _ _ (hR21 _ ⟨fun z => absurd z hcn, fun _ => rz_toI (c_M_fault _ _ _) (op_flt 70 0 0 (by omega) (by omega) gx gm h3 hD hC)⟩))⟩
  have hT2 := hT
  obtain ⟨hn, hl, htx, hend⟩ := hT2
  -- a FILE
  have file : (∀ Q : Int32 → rz_S → Prop, rz_ev mM_opensFile [.ref 116, .int (nI c), .int (nI n)] W (rz_i Q) → R Q) → rz_ev mDos_parseFile [.ref 39, .int (nI c)] V (rz_i (fun xq12 Sq12 => ((xq12 = 0 → ((Sq12.2 39 11 = 82 → rz_ev mDos_openToRead [.ref 39, .ref (48 + 4 * c)] Sq12 (rz_i (fun xq16 Sq16 => K xq16 Sq16))) ∧ (¬ Sq12.2 39 11 = 82 → rz_ev mDos_openToWrite [.ref 39, .ref (48 + 4 * c)] Sq12 (rz_i (fun xq15 Sq15 => K xq15 Sq15))))) ∧ (¬ xq12 = 0 → rz_ev mStatus_set [.ref 3, .int xq12, .int 0, .int 0] Sq12 (rz_i (fun xq17 Sq17 => K xq17 Sq17)))))) := fun hF => by
    obtain ⟨x, S1, e1, hp, hO⟩ := pf_pair (c := c) hc hT
    have g1 : GX c Sx S1 := GX_t gx (GX_pr hp)
    have s1 : ∀ z, S1.2 3 z = Sx.2 3 z := fun z => (hp.2 3 z (by omega) (by omega)).trans (h3 z)
    have D1 : Dk B pr id S1 W := Dk_x hD (fun q p r => hp.1 q (by omega)) (fun u z hu => hp.2 u z (by omega) (by omega))
    have k1 : S1.2 (48 + 4 * c) 0 = 0 := (hp.2 _ 0 (by omega) (by omega)).trans m1
    refine rzx_I e1 ?_
    rcases hO with ⟨xc, hx, rfl, hR⟩ | ⟨f, m, st, r, q1, q2, q3, q4, q5, l1, nm, s10, s9, hO⟩
    · have xne : ¬ nI xc = 0 := nI_ne0 (by omega) (by omega)
      exact ⟨fun z => absurd z xne, fun _ => rz_toI (c_Status_set _ _ _) (hK _ _ (hF _ (hR _ (op_flt xc 0 0 (by omega) (by omega) g1 gm s1 D1 (Chn_0 k1 m2)))))⟩
    · have nb : ∀ i, i < m → S1.1 43 i = W.1 151 (f + i) ∧ byt (S1.1 43 i) := fun i hi => ⟨nm i hi, by
        obtain ⟨v, hv, ev⟩ := (htx (f + i) (by omega)).2
        exact ⟨v, hv, (nm i hi).trans ((htx (f + i) (by omega)).1.symm.trans ev)⟩⟩
      rcases hO with ⟨h11, rfl, hR⟩ | ⟨h11, hs1, hx, hR⟩
      · refine ⟨fun _ => ⟨fun _ => ?_, fun z => absurd h11 z⟩, fun z => absurd rfl z⟩
        obtain ⟨x, V2, y, W2, c1, c2, hE⟩ := or_pair (M := M) (st := st) hc D1 k1 m2 q2 (by omega) l1 nm q4 s10
        exact rzx_I c1 (hK _ _ (hF _ (hR _ (rzx_I c2 (op_to g1 gm s1 hE)))))
      · cases hw : wlF (fun i => W.1 151 (f + i)) m 0 with
        | true =>
          rw [hw, if_pos rfl] at hx
          subst hx
          refine ⟨fun z => absurd z (by decide), fun _ => rz_toI (c_Status_set _ _ _) (hK _ _ (hF _ (hR _ ?_)))⟩
          show rz _ 0 [(0, .ref 116), (1, .int (nI c)), (2, .int (nI f)), (3, .int (nI m)), (4, .int (nI st)), (5, .int (nI r))] [] _ _
          have hiw := c_M_isWild (S := W) (n := m) (q := f) (by omega)
          rw [hw] at hiw
          exact p_M_opensNew_0 (rz_toI hiw ⟨fun z => absurd z (by decide), fun _ => rz_toI (c_M_fault _ _ _) (op_flt 33 0 0 (by omega) (by omega) g1 gm s1 D1 (Chn_0 k1 m2))⟩)
        | false =>
          rw [hw, if_neg (by decide)] at hx
          subst hx
          refine ⟨fun _ => ⟨fun z => absurd (h11.symm.trans z) (by decide), fun _ => ?_⟩, fun z => absurd rfl z⟩
          obtain ⟨x, V2, y, W2, c1, c2, hE⟩ := ow_pair (M := M) (st := st) (r := r) hc D1 k1 m2 q2 (by omega) l1 nb q4 s10 q5 s9 hw
          exact rzx_I c1 (hK _ _ (hF _ (hR _ (rzx_I c2 (op_to g1 gm s1 hE)))))
  refine rz_toI (c_byteAt (i := 0) hn hl (by omega)) ?_
  by_cases h0 : 0 < n
  · have nle : ¬ nI n ≤ 0 := fun d => by
      have := (nI_leI (a := n) (b := 0) (by omega) (by omega)).mp d
      omega
    rw [if_pos h0, (htx 0 h0).1]
    refine ⟨fun d => ?_, fun d => rz_toI (c_byteAt (i := 0) hn hl (by omega)) ?_⟩
    · obtain ⟨x, V2, y, W2, c1, hE, c2⟩ := ob_pair (M := M) hc hT hD hC
      exact rzx_I c1 (hK _ _ (hR21 _ ⟨fun _ => ⟨fun z => absurd z nle, fun _ => ⟨fun _ => c2 _ (op_to gx gm h3 hE), fun z => absurd d z⟩⟩, fun z => absurd hcn z⟩))
    · rw [if_pos h0, (htx 0 h0).1]
      refine ⟨fun d2 => ?_, fun d2 => file (fun Q h => hR21 Q ⟨fun _ => ⟨fun z => absurd z nle, fun _ => ⟨fun z => absurd z d, fun _ => p_M_opens_109 ⟨fun z => absurd z nle, fun _ => ⟨fun z => absurd z d2, fun _ => p_M_opens_131 h⟩⟩⟩⟩, fun z => absurd hcn z⟩)⟩
      obtain ⟨x, V2, y, W2, c1, c2, hE⟩ := ol_pair (M := M) hc hT hD hC
      exact rzx_I c1 (hK _ _ (hR21 _ ⟨fun _ => ⟨fun z => absurd z nle, fun _ => ⟨fun z => absurd z d, fun _ => p_M_opens_109 ⟨fun z => absurd z nle, fun _ => ⟨fun _ => rzx_I c2 (op_to gx gm h3 hE), fun z => absurd d2 z⟩⟩⟩⟩, fun z => absurd hcn z⟩))
  · have n0 : n = 0 := by omega
    have le : nI n ≤ 0 := by rw [n0]; decide
    rw [if_neg h0]
    refine ⟨fun d => absurd d (by decide), fun _ => rz_toI (c_byteAt (i := 0) hn hl (by omega)) ?_⟩
    rw [if_neg h0]
    exact ⟨fun d => absurd d (by decide), fun _ => file (fun Q h => hR21 Q ⟨fun _ => ⟨fun _ => p_M_opens_109 ⟨fun _ => p_M_opens_131 h, fun z => absurd le z⟩, fun z => absurd le z⟩, fun z => absurd hcn z⟩)⟩
