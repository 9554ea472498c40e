/-! open: a LIST; a FILE that is there -/
theorem pt42 : ptP 42 := ⟨rfl, rfl⟩
theorem ol_pair {c n M : Nat} {pr : Bool} {Sx Sm : rz_S} {B : Nat → Nat → Bool} {id : Option (Nat × Nat)} (hc : c < 15) (hT : Txt n Sx Sm) (hD : Dk B pr id Sx Sm) (hC : Chn M c Sx Sm) : PCi mDos_openList mM_opensList [.ref 39, .ref (48 + 4 * c)] [.ref 116, .int (nI c), .int (nI n)] Sx Sm (opE c M pr Sx Sm) := by
  have hch : chP (48 + 4 * c) := ⟨by omega, by omega, by omega⟩
  have hp : ptP (48 + 4 * c + 2) := chPt hch
  obtain ⟨hn, hl, htx, hend⟩ := hT
  have flt30 : opE c M pr Sx Sm (nI 30) (st_set Sx (nI 30) (nI 0) (nI 0)) (nI 30) (rz_uI (rz_uI Sm 116 4 (nI 0)) 116 5 (nI 0)) := op_flt 30 0 0 (by omega) (by omega) (GX_r _ _) (GM_r _ _) (fun _ => rfl) hD hC
  refine PCi_of (fun K hK => ?_)
  have hK2 : ∀ x V, rz mM_opensList 0 [(0, .ref 116), (1, .int (nI c)), (2, .int (nI n))] [] Sm (rz_i (opE c M pr Sx Sm x V)) → K x V := hK
  show rz _ 0 [(0, .ref 39), (1, .ref (48 + 4 * c))] [] _ _
  have no : rz mM_opensList 22 [(0, .ref 116)] [] Sm (rz_i (opE c M pr Sx Sm (nI 30) (st_set Sx (nI 30) (nI 0) (nI 0)))) := p_M_opensList_22 (rz_toI (c_M_fault _ _ _) flt30)
  have left56 : (rz mM_opensList 0 [(0, .ref 116), (1, .int (nI c)), (2, .int (nI n))] [] Sm (rz_i (opE c M pr Sx Sm (nI 30) (st_set Sx (nI 30) (nI 0) (nI 0))))) → rz mDos_openList 56 [(0, .ref 39)] [] Sx (rz_i K) := fun h => p_Dos_openList_56 (rz_toI (c_Status_set _ _ _) (hK2 _ _ h))
  -- what comes when the TEXT is as it should be
  have left34 : (∀ Q : Int32 → rz_S → Prop, rz mM_opensList 16 [(0, .ref 116), (1, .int (nI c)), (2, .int (nI n))] [] Sm (rz_i Q) → rz mM_opensList 0 [(0, .ref 116), (1, .int (nI c)), (2, .int (nI n))] [] Sm (rz_i Q)) → rz mDos_openList 34 [(0, .ref 39), (1, .ref (48 + 4 * c))] [] Sx (rz_i K) := by
    intro h0
    refine p_Dos_openList_34 hch ?_
    rw [hl]
    refine rz_useI (c_take (p := 42) (n := n) (f := 2) (t := n) pt42 (by omega) hn hl (by omega) (by omega)) (fun x S1 q => ?_)
    rcases q with ⟨rfl, rfl, h12⟩ | ⟨rfl, h12, g, rfl, hg⟩
    · exact ⟨fun _ => left56 (h0 _ (p_M_opensList_16 ⟨fun d => by
        have := (nI_leI (b := 12) (by omega) (by omega)).mp d
        omega, fun _ => no⟩)), fun d => absurd rfl d⟩
    · refine ⟨fun d => absurd d (by decide), fun _ => ?_⟩
      -- the name that both have now
      have nm : ∃ S2 L', (1 ≤ L' ∧ L' ≤ 10 ∧ L' = (if n - 2 = 0 then 1 else n - 2)) ∧ GX c Sx S2 ∧ (∀ q, q ≠ 43 → S2.1 q = Sx.1 q) ∧ (∀ u z, u ≠ 42 → S2.2 u z = Sx.2 u z) ∧ S2.2 42 1 = nI L' ∧ (∀ i, i < L' → S2.1 43 i = (if n - 2 = 0 then 42 else Sm.1 151 (2 + i))) ∧ (rz mDos_openList 85 [(0, .ref 39), (1, .ref (48 + 4 * c))] [] S2 (rz_i K) → rz_ev mPattern_isEmpty [.ref 42] (rz_fA (rz_uI Sx 42 1 (nI (n - 2))) (42 + 1) g) (rz_i (fun xq3 Sq3 => ((xq3 = 0 → rz mDos_openList 85 [(0, .ref 39), (1, .ref (48 + 4 * c))] [] Sq3 (rz_i K)) ∧ (¬ xq3 = 0 → rz_ev mPattern_fitAll [.ref 42] Sq3 (rz_v (fun Sq5 => rz mDos_openList 85 [(0, .ref 39), (1, .ref (48 + 4 * c))] [] Sq5 (rz_i K)))))))) := by
        have e42 : (rz_fA (rz_uI Sx 42 1 (nI (n - 2))) (42 + 1) g).2 42 1 = nI (n - 2) := by simp (disch := omega) only [uI1, fA2, rz_fA_n, rz_uI_n, rz_fA_s, rz_uI_s, pk_us]
        by_cases hz : n - 2 = 0
        · refine ⟨rz_uI (rz_fA (rz_fA (rz_uI Sx 42 1 (nI (n - 2))) 43 g) 43 (upd g 0 42)) 42 1 1, 1, ⟨by omega, by omega, by rw [if_pos hz]⟩, GX_t (GX_u2 (by omega)) (GX_t (GX_f2 (by omega)) (GX_t (GX_f2 (by omega)) (GX_u2 (by omega)))), fun q hq => by simp (disch := omega) only [uI1, fA2, rz_fA_n, rz_uI_n, rz_fA_s, rz_uI_s, pk_us], fun u z hu => by simp (disch := omega) only [uI1, fA2, rz_fA_n, rz_uI_n, rz_fA_s, rz_uI_s, pk_us], by simp (disch := omega) only [uI1, fA2, rz_fA_n, rz_uI_n, rz_fA_s, rz_uI_s, pk_us]; rfl, fun i hi => ?_, fun h => ?_⟩
          · have i0 : i = 0 := by omega
            subst i0
            rw [if_pos hz]; simp (disch := omega) only [uI1, fA2, rz_fA_n, rz_uI_n, rz_fA_s, rz_uI_s, pk_us]
          · show rz _ 0 [(0, .ref 42)] [] _ _
            refine p_Pattern_isEmpty_0 pt42 ⟨fun _ => ⟨fun d => absurd d (by decide), fun _ => ?_⟩, fun d => absurd (e42.trans (by rw [hz]; rfl)) d⟩
            show rz _ 0 [(0, .ref 42)] [] _ _
            refine p_Pattern_fitAll_0 pt42 ?_
            rw [rz_fA_s]
            exact h
        · refine ⟨rz_fA (rz_uI Sx 42 1 (nI (n - 2))) 43 g, n - 2, ⟨by omega, by omega, by rw [if_neg hz]⟩, GX_t (GX_u2 (by omega)) (GX_f2 (by omega)), fun q hq => by simp (disch := omega) only [uI1, fA2, rz_fA_n, rz_uI_n, rz_fA_s, rz_uI_s, pk_us], fun u z hu => by simp (disch := omega) only [uI1, fA2, rz_fA_n, rz_uI_n, rz_fA_s, rz_uI_s, pk_us], by simp (disch := omega) only [uI1, fA2, rz_fA_n, rz_uI_n, rz_fA_s, rz_uI_s, pk_us], fun i hi => ?_, fun h => ?_⟩
          · rw [if_neg hz]; simp (disch := omega) only [uI1, fA2, rz_fA_n, rz_uI_n, rz_fA_s, rz_uI_s, pk_us]
            rw [hg i hi, if_pos (by omega)]
            exact (htx (2 + i) (by omega)).1
          · show rz _ 0 [(0, .ref 42)] [] _ _
            refine p_Pattern_isEmpty_0 pt42 ⟨fun d => absurd ((nI_eq (b := 0) (by omega) (by omega)).mp (e42.symm.trans d)) hz, fun _ => ⟨fun _ => h, fun d => absurd rfl d⟩⟩
      obtain ⟨S2, L', ⟨l1, l10, lL⟩, gx2, a2, u2, len2, row2, go⟩ := nm
      refine go (p_Dos_openList_85 hch ?_)
      obtain ⟨_, V1, e1, rfl, gx, va, vu, vr, v0, v2, v3, v4, v15⟩ := rzx_ev (c_begin (S := S2) (m := 3) hc)
      refine rzx_V e1 ?_
      show rz _ 0 [(0, .ref (48 + 4 * c + 2)), (1, .ref 42)] [] _ _
      refine p_Pattern_copyFrom_0 hp pt42 ?_
      rw [show 48 + 4 * c + 2 + 1 = 51 + 4 * c by omega, show 48 + 4 * c + 2 = 50 + 4 * c by omega, va 43 (by omega), vu 42 1 (by omega), len2]
      generalize hV : rz_uI (rz_fA V1 (51 + 4 * c) (va_cpy (S2.1 43) (V1.1 (51 + 4 * c)) 0 0 10)) (50 + 4 * c) 1 (nI L') = V
      have gV : GX c Sx V := by rw [← hV]; exact GX_t gx2 (GX_t gx (GX_t (GX_f3 hc) GX_u3))
      have vk : ∀ z, V.2 (48 + 4 * c) z = V1.2 (48 + 4 * c) z := fun z => by rw [← hV]; simp (disch := omega) only [uI1, fA2, rz_fA_n, rz_uI_n, rz_fA_s, rz_uI_s, pk_us]
      have vs : ∀ u z, u < 48 → u ≠ 42 → V.2 u z = Sx.2 u z := fun u z p q => by
        have : V.2 u z = V1.2 u z := by rw [← hV]; simp (disch := omega) only [uI1, fA2, rz_fA_n, rz_uI_n, rz_fA_s, rz_uI_s, pk_us]
        rw [this, vu u z (by omega)]; exact u2 u z q
      have vrow : ∀ q, q < 43 → V.1 q = Sx.1 q := fun q p => by
        have : V.1 q = V1.1 q := by rw [← hV]; simp (disch := omega) only [uI1, fA2, rz_fA_n, rz_uI_n, rz_fA_s, rz_uI_s, pk_us]
        rw [this, va q (by omega)]; exact a2 q (by omega)
      refine hK2 0 V (h0 _ (p_M_opensList_16 ⟨fun _ => ?_, fun d => absurd (nI_le (b := 12) (by omega) (by omega)) d⟩))
      have fin : ∀ L, L = n - 2 → rz mM_opensList 47 [(0, .ref 116), (1, .int (nI c)), (3, .int (nI L)), (4, .int 0)] [] Sm (rz_i (opE c M pr Sx Sm 0 V)) := fun L eL => by
        refine lp_olist hc (by omega) L 0 Sm (by omega) (fun f f1 f2 => ?_)
        generalize hF : (if L = 0 then upd f (10 * c) 42 else f) = F
        have F1 : ∀ i, i < L' → F (10 * c + i) = (if n - 2 = 0 then 42 else Sm.1 151 (2 + i)) := fun i hi => by
          rw [← hF]
          by_cases z : L = 0
          · have i0 : i = 0 := by rw [lL, if_pos (by omega)] at hi; omega
            subst i0
            rw [if_pos z, if_pos (by omega), Nat.add_zero, pk_us]
          · rw [if_neg z, if_neg (by omega), f1 _ (by omega) (by rw [lL, if_neg (by omega)] at hi; omega), show 10 * c + i - 10 * c = i by omega]
        have F2 : ∀ j, ¬ (10 * c ≤ j ∧ j < 10 * c + 10) → F j = Sm.1 147 j := fun j hj => by
          rw [← hF]
          by_cases z : L = 0
          · rw [if_pos z, pk_un (by omega)]; exact f2 j (by omega)
          · rw [if_neg z]; exact f2 j (by omega)
        have eL' : nI (if L = 0 then 1 else L) = nI L' := by rw [lL, eL]
        rw [eL']
        refine ⟨rfl, gV, GM_t (GM_p F2) (GM_t (GM_g (q := 144) (by omega) (fun d hd => by simp (disch := omega) only [uI1, fA2, rz_fA_n, rz_uI_n, rz_fA_s, rz_uI_s, pk_us, pk_un])) (GM_t (GM_g (q := 139) (by omega) (fun d hd => by simp (disch := omega) only [uI1, fA2, rz_fA_n, rz_uI_n, rz_fA_s, rz_uI_s, pk_us, pk_un])) (GM_t (GM_g (q := 145) (by omega) (fun d hd => by simp (disch := omega) only [uI1, fA2, rz_fA_n, rz_uI_n, rz_fA_s, rz_uI_s, pk_us, pk_un])) (GM_t (GM_g (q := 146) (by omega) (fun d hd => by simp (disch := omega) only [uI1, fA2, rz_fA_n, rz_uI_n, rz_fA_s, rz_uI_s, pk_us, pk_un])) (GM_g (q := 126) (by omega) (fun d hd => by simp (disch := omega) only [uI1, fA2, rz_fA_n, rz_uI_n, rz_fA_s, rz_uI_s, pk_us, pk_un])))))), ⟨B, id, Dk_mf (Dk_mf (Dk_mf (Dk_mf (Dk_mf (Dk_mf (Dk_x hD (fun q p r => vrow q (by omega)) (fun u z hu => vs u z (by omega) (by omega))) (by omega)) (by omega)) (by omega)) (by omega)) (by omega)) (by omega)⟩, Or.inl ⟨rfl, fun z => vs 3 z (by omega) (by omega)⟩, ?_, Or.inr (Or.inr (Or.inr (Or.inl ⟨by simp (disch := omega) only [uI1, fA2, rz_fA_n, rz_uI_n, rz_fA_s, rz_uI_s, pk_us], ⟨L', l1, l10, ?_, ?_, fun j hj => ?_⟩, ⟨0, 0, by omega, by omega, (vk 2).trans v2, ?_, (vk 3).trans v3, ?_, fun j hj => by omega⟩, Or.inl ⟨(vk 15).trans v15, (vk 4).trans v4, ?_⟩⟩)))⟩
        · rw [vk 0, v0]; simp (disch := omega) only [uI1, fA2, rz_fA_n, rz_uI_n, rz_fA_s, rz_uI_s, pk_us]
        · rw [← hV]; simp (disch := omega) only [uI1, fA2, rz_fA_n, rz_uI_n, rz_fA_s, rz_uI_s, pk_us]
        · simp (disch := omega) only [uI1, fA2, rz_fA_n, rz_uI_n, rz_fA_s, rz_uI_s, pk_us]
        · rw [← hV]; simp (disch := omega) only [uI1, fA2, rz_fA_n, rz_uI_n, rz_fA_s, rz_uI_s, pk_us]
          rw [pk_cpy_in (by omega) (by omega), Nat.zero_add, Nat.sub_zero, row2 j hj, F1 j hj]
        · simp (disch := omega) only [uI1, fA2, rz_fA_n, rz_uI_n, rz_fA_s, rz_uI_s, pk_us]; rfl
        · simp (disch := omega) only [uI1, fA2, rz_fA_n, rz_uI_n, rz_fA_s, rz_uI_s, pk_us]; rfl
        · simp (disch := omega) only [uI1, fA2, rz_fA_n, rz_uI_n, rz_fA_s, rz_uI_s, pk_us]
      refine ⟨fun d => ?_, fun d => ?_⟩
      · have := (nI_leI (b := 2) (by omega) (by omega)).mp d
        exact fin 0 (by omega)
      · have n2 : ¬ n ≤ 2 := fun z => d (nI_le (b := 2) z (by omega))
        rw [show (nI n - 2 : Int32) = nI (n - 2) from pk_sub (b := 2) (by omega)]
        exact fin (n - 2) rfl
  refine p_Dos_openList_0 hch ?_
  rw [hl]
  refine ⟨fun d => p_Dos_openList_16 hch ⟨fun _ => left34 (fun Q h => p_M_opensList_0 ⟨fun _ => h, fun z => absurd d z⟩), fun z => absurd rfl z⟩, fun d => p_Dos_openList_16 hch ⟨fun z => absurd z (by decide), fun _ => ?_⟩⟩
  have n2 : ¬ n ≤ 1 := fun z => d (nI_le (b := 1) z (by omega))
  refine rz_toI (c_byteAt (i := 1) hn hl (by omega)) ?_
  rw [if_pos (by omega), (htx 1 (by omega)).1]
  exact ⟨fun z => left34 (fun Q h => p_M_opensList_0 ⟨fun q => absurd q d, fun _ => ⟨fun _ => h, fun q => absurd z q⟩⟩), fun z => left56 (p_M_opensList_0 ⟨fun q => absurd q d, fun _ => ⟨fun q => absurd q z, fun _ => no⟩⟩)⟩
