/-! READ of a LIST: the loop -/
theorem ChL_4 {c : Nat} {V W : rz_S} (h : ChL c V W) : (V.2 (48 + 4 * c) 4 = 0 ∧ ¬ W.1 139 c = 3) ∨ (V.2 (48 + 4 * c) 4 = 1 ∧ W.1 139 c = 3) := by
  obtain ⟨_, _, hst⟩ := h
  rcases hst with ⟨_, a, b⟩ | ⟨_, a, b, _⟩ | ⟨a, b⟩
  · exact Or.inl ⟨a, fun z => absurd (b.symm.trans z) (by decide)⟩
  · exact Or.inl ⟨a, fun z => absurd (b.symm.trans z) (by decide)⟩
  · exact Or.inr ⟨a, b⟩
/-- a byte is taken off the line -/
theorem ChL_on {c pl e : Nat} {V W V1 W1 : rz_S} (h : ChL c V W) (hpe : pl + 1 ≤ e) (hp : V.2 (48 + 4 * c) 2 = nI pl) (he : V.2 (48 + 4 * c) 3 = nI e) (h40 : e ≤ 40) (p40 : pl < 64) (v2 : V1.2 (48 + 4 * c) 2 = nI (pl + 1)) (vz : ∀ z, z ≠ 2 → V1.2 (48 + 4 * c) z = V.2 (48 + 4 * c) z) (vp : ∀ z, V1.2 (50 + 4 * c) z = V.2 (50 + 4 * c) z) (vr : V1.1 (49 + 4 * c) = V.1 (49 + 4 * c)) (vq : V1.1 (51 + 4 * c) = V.1 (51 + 4 * c)) (w6 : W1.1 146 c = nI (pl + 1)) (wq : ∀ q, 139 ≤ q → q ≤ 148 → q ≠ 146 → W1.1 q = W.1 q) : ChL c V1 W1 := by
  obtain ⟨⟨pn, p1, p2, p3, p4, p5⟩, ⟨pl', e', b1, b2, b3, b4, b5, b6, b7⟩, hst⟩ := h
  have ee : e' = e := (nI_eq (by omega) (by omega)).mp (b5.symm.trans he)
  subst ee
  refine ⟨⟨pn, p1, p2, (vp 1).trans p3, by rw [wq 144 (by omega) (by omega) (by omega)]; exact p4, fun j hj => by rw [vq, wq 147 (by omega) (by omega) (by omega)]; exact p5 j hj⟩, ⟨pl + 1, e', hpe, b2, v2, w6, (vz 3 (by omega)).trans b5, by rw [wq 145 (by omega) (by omega) (by omega)]; exact b6, fun j hj => by rw [vr, wq 148 (by omega) (by omega) (by omega)]; exact b7 j hj⟩, ?_⟩
  rw [vz 15 (by omega), vz 4 (by omega), vz 10 (by omega), vz 11 (by omega), vz 12 (by omega), vz 13 (by omega), wq 139 (by omega) (by omega) (by omega), wq 140 (by omega) (by omega) (by omega), wq 141 (by omega) (by omega) (by omega), wq 142 (by omega) (by omega) (by omega), wq 143 (by omega) (by omega) (by omega)]
  exact hst
theorem ls_loop {Sx Sm : rz_S} {c n M : Nat} {pr : Bool} (hc : c < 15) (h300 : n ≤ 300) : ∀ (w i : Nat) (V W : rz_S) (a5 : Int32), n = i + w → ¬ a5 = -1 → rcI c i pr Sx Sm V W → V.2 (48 + 4 * c) 0 = 3 → W.1 126 c = 3 → ChL c V W → ∀ K : Int32 → rz_S → Prop, (∀ x V1, rz mM_readsList 2 [(0, .ref 116), (1, .int (nI c)), (2, .int (nI n)), (3, .int 1)] [] W (rz_i (fun y W1 => rcE c M pr Sx Sm x V1 y W1)) → K x V1) → rz mDos_receive 60 [(0, .ref 39), (1, .int (nI c)), (2, .int (nI n)), (3, .ref 115), (4, .int (nI i)), (5, .int a5)] [] V (rz_i K) := by
  have hch : chP (48 + 4 * c) := ⟨by omega, by omega, by omega⟩
  have ecl : (nI c).toNatClampNeg = c := nI_clamp (by omega)
  have e64 : (64 * nI c : Int32) = nI (64 * c) := pk_mul 64 c
  have e49 : 48 + 4 * c + 1 = 49 + 4 * c := by omega
  have chn : ∀ {V W : rz_S}, V.2 (48 + 4 * c) 0 = 3 → W.1 126 c = 3 → ChL c V W → Chn M c V W := fun a b d => ⟨a.trans b.symm, Or.inr (Or.inr (Or.inr (Or.inl ⟨b, d⟩)))⟩
  intro w
  induction w with
  | zero =>
    intro i V W a5 e h5 hI m1 m2 hB K hK
    have en : n = i := e
    subst en
    refine p_Dos_receive_60 (na3 := 300) rfl ⟨fun _ => hK _ _ ?_, fun d => absurd (nI_le (a := n) (b := n) (by omega) (by omega)) d⟩
    refine p_M_readsList_2 ⟨fun d => absurd d (by decide), fun _ => ⟨fun _ => rc_end hI (by omega) (chn m1 m2 hB), fun d => ?_⟩⟩
    rw [hI.2.2.2.2.2.2.2.1] at d
    exact absurd (nI_le (a := n) (b := n) (by omega) (by omega)) d
  | succ w ih =>
    intro i V W a5 e h5 hI m1 m2 hB K hK
    have nle : ¬ nI n ≤ nI i := fun d => by
      have := (nI_leI (a := n) (b := i) (by omega) (by omega)).mp d
      omega
    have n300 : ¬ (Int32.ofNat 300) ≤ nI i := fun d => by
      have := (nI_leI (a := 300) (b := i) (by omega) (by omega)).mp d
      omega
    refine p_Dos_receive_60 (na3 := 300) rfl ⟨fun d => absurd d nle, fun _ => ⟨fun d => absurd d n300, fun _ => ⟨fun _ => ⟨fun d => absurd d h5, fun _ => ⟨rin hc (by omega), ?_⟩⟩, fun d => absurd hI.2.2.2.2.2.1 d⟩⟩⟩
    rw [ecl]
    show rz _ 0 [(0, .ref 39), (1, .ref (48 + 4 * c))] [] _ _
    have stop : ∀ (V1 : rz_S) (i1 : Nat) (v : Int32), ((v = -1 ∧ i1 = i) ∨ ¬ V1.2 39 6 = 0) → K (nI i1) V1 → rz mDos_receive 60 [(0, .ref 39), (1, .int (nI c)), (2, .int (nI n)), (3, .ref 115), (4, .int (nI i1)), (5, .int v)] [] V1 (rz_i K) := fun V1 i1 v hv hk => p_Dos_receive_60 (na3 := 300) rfl ⟨fun _ => hk, fun _ => ⟨fun _ => hk, fun _ => ⟨fun d => ⟨fun _ => hk, fun d2 => by
      rcases hv with ⟨q, _⟩ | q
      · exact absurd q d2
      · exact absurd d q⟩, fun _ => hk⟩⟩⟩
    generalize hKK : (fun xq6 Sq6 => ((xq6 = (-1) → rz mDos_receive 60 [(0, .ref 39), (1, .int (nI c)), (2, .int (nI n)), (3, .ref 115), (4, .int (nI i)), (5, .int xq6)] [] Sq6 (rz_i K)) ∧ (¬ xq6 = (-1) → rx_in (nI i) 300 = true ∧ rz mDos_receive 60 [(0, .ref 39), (1, .int (nI c)), (2, .int (nI n)), (3, .ref 115), (4, .int (nI i + 1)), (5, .int xq6)] [] (rz_fA Sq6 115 (upd (Sq6.1 115) (nI i).toNatClampNeg xq6)) (rz_i K)))) = KK
    have kno : ∀ V1, K (nI i) V1 → KK (-1) V1 := fun V1 h => by
      rw [← hKK]
      exact ⟨fun _ => stop V1 i (-1) (Or.inl ⟨rfl, rfl⟩) h, fun d => absurd rfl d⟩
    have kyes : ∀ x V1, ¬ x = -1 → rz mDos_receive 60 [(0, .ref 39), (1, .int (nI c)), (2, .int (nI n)), (3, .ref 115), (4, .int (nI (i + 1))), (5, .int x)] [] (rz_fA V1 115 (upd (V1.1 115) i x)) (rz_i K) → KK x V1 := fun x V1 hx h => by
      rw [← hKK]
      refine ⟨fun d => absurd d hx, fun _ => ⟨rin (by omega) (by omega), ?_⟩⟩
      rw [nI_clamp (by omega), nI_1]
      exact h
    clear hKK
    have give : ∀ V W : rz_S, rcI c i pr Sx Sm V W → V.2 (48 + 4 * c) 0 = 3 → W.1 126 c = 3 → ChL c V W → (¬ V.2 (48 + 4 * c) 2 < V.2 (48 + 4 * c) 3 → ¬ V.2 (48 + 4 * c) 4 = 0) → (∀ x V1, rz mM_readsList 2 [(0, .ref 116), (1, .int (nI c)), (2, .int (nI n)), (3, .int 1)] [] W (rz_i (fun y W1 => rcE c M pr Sx Sm x V1 y W1)) → K x V1) → rz mDos_nextByte 105 [(0, .ref 39), (1, .ref (48 + 4 * c))] [] V (rz_i KK) := by
      intro V W hI m1 m2 hB hlast hK
      obtain ⟨_, ⟨pl, e, p1, p2, p4, p5, p6, p7, p8⟩, _⟩ := id hB
      have p9 := ChL_4 hB
      obtain ⟨a1, a2, ⟨B, id, a3⟩, a4, a5', a6, a7, a8, a9⟩ := id hI
      have hna : ¬ nI n ≤ W.2 116 67 := by rw [a8]; exact nle
      by_cases hpe : pl < e
      · have hv : ¬ V.1 (49 + 4 * c) pl = -1 := fun d => by
          obtain ⟨k, hk, ek⟩ := (p8 pl hpe).2
          rw [ek] at d
          exact nI_m1 (by omega) d
        have hrw : W.1 148 (64 * c + pl) = V.1 (49 + 4 * c) pl := (p8 pl hpe).1.symm
        have right : ∀ Q : Int32 → rz_S → Prop, ((V.2 (48 + 4 * c) 4 = 0 ∨ pl + 1 < e) → rz mM_readsList 2 [(0, .ref 116), (1, .int (nI c)), (2, .int (nI n)), (3, .int 1)] [] (rz_fA (rz_uI (rz_fA W 152 (upd (W.1 152) i (V.1 (49 + 4 * c) pl))) 116 67 (nI (i + 1))) 146 (upd (W.1 146) c (nI (pl + 1)))) (rz_i Q)) → (¬ (V.2 (48 + 4 * c) 4 = 0 ∨ pl + 1 < e) → Q 0 (rz_uI (rz_fA (rz_uI (rz_fA W 152 (upd (W.1 152) i (V.1 (49 + 4 * c) pl))) 116 67 (nI (i + 1))) 146 (upd (W.1 146) c (nI (pl + 1)))) 116 68 1)) → rz mM_readsList 2 [(0, .ref 116), (1, .int (nI c)), (2, .int (nI n)), (3, .int 1)] [] W (rz_i Q) := by
          intro Q hA hB2
          refine p_M_readsList_2 ⟨fun d => absurd d (by decide), fun _ => ⟨fun d => absurd d hna, fun _ => ⟨rin hc (by omega), ?_⟩⟩⟩
          rw [ecl, p5, p7, e64, nI_add, nI_clamp (show 64 * c + pl < 2 ^ 31 by omega), hrw]
          refine ⟨fun d => absurd ((nI_leI (by omega) (by omega)).mp d) (by omega), fun _ => ⟨rin (by omega) (by omega), rz_toV (c_gives (by omega) a8) ?_⟩⟩
          have g145 : (rz_uI (rz_fA W 152 (upd (W.1 152) i (V.1 (49 + 4 * c) pl))) 116 67 (nI (i + 1))).1 145 = W.1 145 := by simp (disch := omega) only [uI1, fA2, rz_fA_n, rz_uI_n, rz_fA_s, rz_uI_s, pk_us]
          have g146 : (rz_uI (rz_fA W 152 (upd (W.1 152) i (V.1 (49 + 4 * c) pl))) 116 67 (nI (i + 1))).1 146 = W.1 146 := by simp (disch := omega) only [uI1, fA2, rz_fA_n, rz_uI_n, rz_fA_s, rz_uI_s, pk_us]
          have g139 : (rz_uI (rz_fA W 152 (upd (W.1 152) i (V.1 (49 + 4 * c) pl))) 116 67 (nI (i + 1))).1 139 = W.1 139 := by simp (disch := omega) only [uI1, fA2, rz_fA_n, rz_uI_n, rz_fA_s, rz_uI_s, pk_us]
          rw [g145, g146, g139, p5, p7, nI_1, pk_us]
          refine ⟨fun d => ?_, fun d => hA (Or.inr ?_)⟩
          · have ed : pl + 1 = e := (nI_eq (by omega) (by omega)).mp d
            rcases p9 with ⟨q1, q2⟩ | ⟨q1, q2⟩
            · exact ⟨fun d => absurd d q2, fun _ => hA (Or.inl q1)⟩
            · have hn : ¬ (V.2 (48 + 4 * c) 4 = 0 ∨ pl + 1 < e) := fun z => by
                rcases z with z | z
                · rw [q1] at z; exact absurd z (by decide)
                · omega
              exact ⟨fun _ => p_M_readsList_2 ⟨fun _ => hB2 hn, fun d => absurd rfl d⟩, fun d => absurd q2 d⟩
          · have : pl + 1 ≠ e := fun z => d (by rw [z])
            omega
        refine p_Dos_nextByte_105 hch ?_
        rw [p4, p6, e49, nI_1, nI_clamp (by omega)]
        have npe : ¬ nI e ≤ nI pl := fun d => by
          have := (nI_leI (a := e) (b := pl) (by omega) (by omega)).mp d
          omega
        generalize hU : V.1 (49 + 4 * c) pl = v at hv right
        have on : (V.2 (48 + 4 * c) 4 = 0 ∨ pl + 1 < e) → KK v (rz_uI (rz_uI V (48 + 4 * c) 2 (nI (pl + 1))) 39 6 0) := by
          intro hgo
          refine kyes _ _ hv ?_
          show rz mDos_receive 60 _ [] (rz_fA (rz_uI (rz_uI V (48 + 4 * c) 2 (nI (pl + 1))) 39 6 0) 115 (upd (V.1 115) i v)) _
          generalize hV1 : rz_fA (rz_uI (rz_uI V (48 + 4 * c) 2 (nI (pl + 1))) 39 6 0) 115 (upd (V.1 115) i v) = V1
          generalize hW1 : rz_fA (rz_uI (rz_fA W 152 (upd (W.1 152) i v)) 116 67 (nI (i + 1))) 146 (upd (W.1 146) c (nI (pl + 1))) = W1 at right
          have fx : FX c V V1 := by rw [← hV1]; exact FX_t FX_u (FX_t (FX_u2 (by omega)) (FX_f2 (by omega)))
          have fm : FM c W W1 := by
            rw [← hW1]
            exact FM_t (FM_f2 (q := 152) (by omega)) (FM_t (FM_u (k := 67) (by omega)) (FM_g (q := 146) (by omega) (fun d hd => by simp (disch := omega) only [uI1, fA2, rz_fA_n, rz_uI_n, rz_fA_s, rz_uI_s, pk_us, pk_un])))
          have hI1 : rcI c (i + 1) pr Sx Sm V1 W1 := rc_on (x := v) hI fx fm (fun B id hd => by
            rw [← hV1, ← hW1]
            exact Dk_mf (Dk_mu (Dk_mf (Dk_xf (Dk_xu (Dk_xu hd (by omega)) (by omega)) (by omega)) (by omega)) (by omega)) (by omega)) (fun z => by rw [← hV1]; simp (disch := omega) only [uI1, fA2, rz_fA_n, rz_uI_n, rz_fA_s, rz_uI_s, pk_us]) (fun z a b => by rw [← hW1]; simp (disch := omega) only [uI1, fA2, rz_fA_n, rz_uI_n, rz_fA_s, rz_uI_s, pk_us]) (by rw [← hV1]; simp (disch := omega) only [uI1, fA2, rz_fA_n, rz_uI_n, rz_fA_s, rz_uI_s, pk_us]) (by rw [← hW1]; simp (disch := omega) only [uI1, fA2, rz_fA_n, rz_uI_n, rz_fA_s, rz_uI_s, pk_us]; exact a7) (by rw [← hW1]; simp (disch := omega) only [uI1, fA2, rz_fA_n, rz_uI_n, rz_fA_s, rz_uI_s, pk_us]) (by rw [← hV1]; simp (disch := omega) only [uI1, fA2, rz_fA_n, rz_uI_n, rz_fA_s, rz_uI_s, pk_us]) (by rw [← hW1]; simp (disch := omega) only [uI1, fA2, rz_fA_n, rz_uI_n, rz_fA_s, rz_uI_s, pk_us])
          have kz : ∀ z, z ≠ 2 → V1.2 (48 + 4 * c) z = V.2 (48 + 4 * c) z := fun z hz => by rw [← hV1]; simp (disch := omega) only [uI1, fA2, rz_fA_n, rz_uI_n, rz_fA_s, rz_uI_s, pk_us]
          have wz : ∀ q, q ≠ 152 → q ≠ 146 → W1.1 q = W.1 q := fun q a b => by rw [← hW1]; simp (disch := omega) only [uI1, fA2, rz_fA_n, rz_uI_n, rz_fA_s, rz_uI_s, pk_us]
          exact ih (i + 1) V1 W1 _ (by omega) hv hI1 ((kz 0 (by omega)).trans m1) (by rw [wz 126 (by omega) (by omega)]; exact m2) (ChL_on hB (by omega) p4 p6 p2 (by omega) (by rw [← hV1]; simp (disch := omega) only [uI1, fA2, rz_fA_n, rz_uI_n, rz_fA_s, rz_uI_s, pk_us]) kz (fun z => by rw [← hV1]; simp (disch := omega) only [uI1, fA2, rz_fA_n, rz_uI_n, rz_fA_s, rz_uI_s, pk_us]) (by rw [← hV1]; simp (disch := omega) only [uI1, fA2, rz_fA_n, rz_uI_n, rz_fA_s, rz_uI_s, pk_us]) (by rw [← hV1]; simp (disch := omega) only [uI1, fA2, rz_fA_n, rz_uI_n, rz_fA_s, rz_uI_s, pk_us]) (by rw [← hW1]; simp (disch := omega) only [uI1, fA2, rz_fA_n, rz_uI_n, rz_fA_s, rz_uI_s, pk_us]) (fun q _ _ hq => wz q (by omega) hq)) K (fun x V2 h => hK x V2 (right _ (fun _ => h) (fun z => absurd hgo z)))
        refine ⟨fun d => absurd d npe, fun _ => ⟨fun _ => ⟨rin (by omega) (by omega), fun d => on (Or.inl d), fun d => ⟨fun d2 => on (Or.inr ((nI_ltI (by omega) (by omega)).mp d2)), fun d2 => ?_⟩⟩, fun d => absurd (nI_lt (b := 64) (by omega) (by omega)) d⟩⟩
        have hstop : ¬ (V.2 (48 + 4 * c) 4 = 0 ∨ pl + 1 < e) := fun z => by
          rcases z with z | z
          · exact d z
          · exact d2 (nI_lt z (by omega))
        refine kyes _ _ hv ?_
        show rz mDos_receive 60 _ [] (rz_fA (rz_uI (rz_uI V (48 + 4 * c) 2 (nI (pl + 1))) 39 6 1) 115 (upd (V.1 115) i v)) _
        generalize hV1 : rz_fA (rz_uI (rz_uI V (48 + 4 * c) 2 (nI (pl + 1))) 39 6 1) 115 (upd (V.1 115) i v) = V1
        generalize hW1 : rz_uI (rz_fA (rz_uI (rz_fA W 152 (upd (W.1 152) i v)) 116 67 (nI (i + 1))) 146 (upd (W.1 146) c (nI (pl + 1)))) 116 68 1 = W1 at right
        have v6 : V1.2 39 6 = 1 := by rw [← hV1]; simp (disch := omega) only [uI1, fA2, rz_fA_n, rz_uI_n, rz_fA_s, rz_uI_s, pk_us]
        have kz : ∀ z, z ≠ 2 → V1.2 (48 + 4 * c) z = V.2 (48 + 4 * c) z := fun z hz => by rw [← hV1]; simp (disch := omega) only [uI1, fA2, rz_fA_n, rz_uI_n, rz_fA_s, rz_uI_s, pk_us]
        have wz : ∀ q, q ≠ 152 → q ≠ 146 → W1.1 q = W.1 q := fun q a b => by rw [← hW1]; simp (disch := omega) only [uI1, fA2, rz_fA_n, rz_uI_n, rz_fA_s, rz_uI_s, pk_us]
        refine stop V1 (i + 1) v (Or.inr (by rw [v6]; decide)) (hK _ _ (right _ (fun z => absurd z hstop) (fun _ => ?_)))
        refine ⟨i + 1, by omega, rfl, FX_t a1 (by rw [← hV1]; exact FX_t FX_u (FX_t (FX_u2 (by omega)) (FX_f2 (by omega)))), FM_t a2 (by
          rw [← hW1]
          exact FM_t (FM_f2 (q := 152) (by omega)) (FM_t (FM_u (k := 67) (by omega)) (FM_t (FM_g (q := 146) (by omega) (fun d hd => by simp (disch := omega) only [uI1, fA2, rz_fA_n, rz_uI_n, rz_fA_s, rz_uI_s, pk_us, pk_un])) (FM_u (k := 68) (by omega))))), ⟨B, id, ?_⟩, Or.inl ⟨rfl, fun z => ?_⟩, fun z b d => ?_, ?_, fun j hj => ?_, ?_, Or.inr v6, chn ((kz 0 (by omega)).trans m1) (by rw [wz 126 (by omega) (by omega)]; exact m2) (ChL_on hB (by omega) p4 p6 p2 (by omega) (by rw [← hV1]; simp (disch := omega) only [uI1, fA2, rz_fA_n, rz_uI_n, rz_fA_s, rz_uI_s, pk_us]) kz (fun z => by rw [← hV1]; simp (disch := omega) only [uI1, fA2, rz_fA_n, rz_uI_n, rz_fA_s, rz_uI_s, pk_us]) (by rw [← hV1]; simp (disch := omega) only [uI1, fA2, rz_fA_n, rz_uI_n, rz_fA_s, rz_uI_s, pk_us]) (by rw [← hV1]; simp (disch := omega) only [uI1, fA2, rz_fA_n, rz_uI_n, rz_fA_s, rz_uI_s, pk_us]) (by rw [← hW1]; simp (disch := omega) only [uI1, fA2, rz_fA_n, rz_uI_n, rz_fA_s, rz_uI_s, pk_us]) (fun q _ _ hq => wz q (by omega) hq))⟩
        · rw [← hV1, ← hW1]
          exact Dk_mu (Dk_mf (Dk_mu (Dk_mf (Dk_xf (Dk_xu (Dk_xu a3 (by omega)) (by omega)) (by omega)) (by omega)) (by omega)) (by omega)) (by omega)
        · rw [← hV1]; simp (disch := omega) only [uI1, fA2, rz_fA_n, rz_uI_n, rz_fA_s, rz_uI_s, pk_us]; exact a4 z
        · rw [← hW1]; simp (disch := omega) only [uI1, fA2, rz_fA_n, rz_uI_n, rz_fA_s, rz_uI_s, pk_us]; exact a5' z b d
        · rw [← hW1]; simp (disch := omega) only [uI1, fA2, rz_fA_n, rz_uI_n, rz_fA_s, rz_uI_s, pk_us]
        · have o1 : V1.1 115 = upd (V.1 115) i v := by rw [← hV1]; simp (disch := omega) only [uI1, fA2, rz_fA_n, rz_uI_n, rz_fA_s, rz_uI_s, pk_us]
          have o2 : W1.1 152 = upd (W.1 152) i v := by rw [← hW1]; simp (disch := omega) only [uI1, fA2, rz_fA_n, rz_uI_n, rz_fA_s, rz_uI_s, pk_us]
          rw [o1, o2]
          by_cases e : j = i
          · subst e; rw [pk_us, pk_us]
          · rw [pk_un e, pk_un e]; exact a9 j (by omega)
        · rw [v6, ← hW1]; simp (disch := omega) only [uI1, fA2, rz_fA_n, rz_uI_n, rz_fA_s, rz_uI_s, pk_us]
      · refine p_Dos_nextByte_105 hch ?_
        rw [p4, p6]
        have lpe : nI e ≤ nI pl := nI_le (by omega) (by omega)
        refine ⟨fun _ => kno V (hK _ _ ?_), fun d => absurd lpe d⟩
        have hl3 : W.1 139 c = 3 := by
          rcases p9 with ⟨q1, _⟩ | ⟨_, q2⟩
          · exact absurd q1 (hlast (by rw [p4, p6]; exact nI_nlt (by omega) (by omega)))
          · exact q2
        refine p_M_readsList_2 ⟨fun d => absurd d (by decide), fun _ => ⟨fun d => absurd d hna, fun _ => ⟨rin hc (by omega), ?_⟩⟩⟩
        rw [ecl, p5, p7, hl3]
        exact ⟨fun _ => ⟨fun _ => p_M_readsList_2 ⟨fun _ => rc_end hI (by omega) (chn m1 m2 hB), fun d => absurd rfl d⟩, fun d => absurd rfl d⟩, fun d => absurd lpe d⟩
    refine p_Dos_nextByte_0 hch ⟨fun d => absurd (m1.symm.trans d) (by decide), fun _ => ⟨fun d => give V W hI m1 m2 hB (fun z => absurd d z) hK, fun d => ⟨fun d4 => ⟨fun _ => ?_, fun d3 => absurd m1 d3⟩, fun d4 => give V W hI m1 m2 hB (fun _ => d4) hK⟩⟩⟩
    obtain ⟨x, V1, r1, r2⟩ := ml_pair (M := M) hc h300 (by omega) hI m1 m2 hB d4 d
    refine rzx_I r1 (p_Dos_nextByte_93 hch ⟨fun x0 => ?_, fun x0 => ?_⟩)
    · rcases r2 with ⟨_, W1, s1, s2, s3, s4, s5, s6⟩ | ⟨z, _⟩
      · exact give V1 W1 s2 s3 s4 s5 (fun z => absurd s6 z) (fun x V2 h => hK x V2 (s1 _ h))
      · exact absurd x0 z
    · rcases r2 with ⟨z, _⟩ | ⟨_, W1, s1, s2⟩
      · exact absurd z x0
      · exact kno _ (hK _ _ (s1 _ s2))
