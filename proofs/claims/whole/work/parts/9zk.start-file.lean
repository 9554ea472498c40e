/-! startFile against the rest of opensNew -/
theorem x72 : (72 : Int32) = nI 72 := rfl
theorem sf_pair {B : Nat → Nat → Bool} {pr : Bool} {id : Option (Nat × Nat)} {Sx Sm : rz_S} {c f m st t s e M : Nat} (hc : c < 15) (hD : Dk B pr id Sx Sm) (hm : m ≤ 10) (hfm : f + m ≤ 401) (hln : Sx.2 42 1 = nI m) (hnm : ∀ i, i < m → Sx.1 43 i = Sm.1 151 (f + i) ∧ byt (Sx.1 43 i)) (hst : st ≤ 3) (h10 : Sx.2 39 10 = nI st) (t1 : 1 ≤ t) (t2 : t ≤ 12) (s1 : s < sct t) (he : e < 4) (z1 : Sx.2 46 1 = nI t) (z2 : Sx.2 46 2 = nI s) (z4 : Sx.2 46 4 = nI e) (y1 : Sm.2 116 27 = nI t) (y2 : Sm.2 116 28 = nI s) (y4 : Sm.2 116 29 = nI e) (m1 : Sx.2 (48 + 4 * c) 0 = 0) (m2 : Sm.1 126 c = 0) : ∃ x V y W, rzx mDos_startFile [.ref 39, .ref (48 + 4 * c)] Sx (some (.int x)) V ∧ opE c M pr Sx Sm x V y W ∧ ∀ Q : Int32 → rz_S → Prop, Q y W → snR c f m st Sm Q := by
  have hch : chP (48 + 4 * c) := ⟨by omega, by omega, by omega⟩
  have ecl : (nI c).toNatClampNeg = c := nI_clamp (by omega)
  have hsb := sct_b t1 t2
  -- a fault: both answer x
  have out : ∀ (x : Int32) (V W : rz_S), rz_ev mDos_startFile [.ref 39, .ref (48 + 4 * c)] Sx (rz_i (fun x' V' => x' = x ∧ V' = V)) → bgX Sx V → bgM Sm W → (∃ B id, Dk B pr id V W) → ans Sx x V W → (∀ Q : Int32 → rz_S → Prop, Q x W → snR c f m st Sm Q) → ∃ x V y W, rzx mDos_startFile [.ref 39, .ref (48 + 4 * c)] Sx (some (.int x)) V ∧ opE c M pr Sx Sm x V y W ∧ ∀ Q : Int32 → rz_S → Prop, Q y W → snR c f m st Sm Q := fun x V W hL gx gm d a h => by
    obtain ⟨_, V', el, x', rfl, hx', hV'⟩ := rzx_ev hL
    rw [hx', hV'] at el
    exact ⟨x, V, x, W, el, ⟨rfl, GX_b gx, GM_b gm, d, a, Chn_0 ((gx.2 _ 0 (by omega) (by omega) (by omega) (by omega) (by omega)).trans m1) (by rw [gm.1 126 (by omega) (by omega)]; exact m2)⟩, h⟩
  obtain ⟨x, V1, y, W1, a1, a2, rfl, cx, cm, ⟨id1, D1⟩, an1, mp⟩ := PR_load hD
  have left0 : ∀ K : Int32 → rz_S → Prop, ((x = 0 → rz_ev mBlockMap_pick [.ref 44] V1 (rz_i (fun xq3 Sq3 => ((xq3 = 0 → rz_ev mStatus_set [.ref 3, .int 72, .int 0, .int 0] Sq3 (rz_i (fun xq5 Sq5 => K xq5 Sq5))) ∧ (¬ xq3 = 0 → rz mDos_startFile 34 [(0, .ref 39), (1, .ref (48 + 4 * c)), (2, .int x)] [] Sq3 (rz_i K)))))) ∧ (¬ x = 0 → rz mDos_startFile 34 [(0, .ref 39), (1, .ref (48 + 4 * c)), (2, .int x)] [] V1 (rz_i K))) → rz_ev mDos_startFile [.ref 39, .ref (48 + 4 * c)] Sx (rz_i K) := fun K h => by
    show rz _ 0 [(0, .ref 39), (1, .ref (48 + 4 * c))] [] _ _
    exact p_Dos_startFile_0 hch (rzx_I a1 h)
  have skip : ∀ (K : Int32 → rz_S → Prop) (x : Int32) (S : rz_S), ¬ x = 0 → K x S → rz mDos_startFile 46 [(0, .ref 39), (1, .ref (48 + 4 * c)), (2, .int x)] [] S (rz_i K) := fun K x S hx h => p_Dos_startFile_46 hch ⟨fun z => absurd z hx, fun _ => p_Dos_startFile_70 hch ⟨fun z => absurd z hx, fun _ => h⟩⟩
  have g1x := bgX_ch cx
  have g1m := bgM_ch cm
  by_cases x0 : x = 0
  · subst x0
    have hmp := mp rfl
    have st1 : ∀ z, V1.2 3 z = Sx.2 3 z := by
      rcases an1 with ⟨_, q⟩ | ⟨xc, q1, q2, q3', _⟩
      · exact q
      · exact absurd ((nI_eq (a := 0) (by omega) (by omega)).mp q3').symm q1
    have epk : pkA (V1.1 45) 11 0 = pkA (W1.1 123) 11 0 := pkA_c (fun k hk => (hmp k hk).1) 11 0 rfl
    have hpx := c_BlockMap_pick (S := V1)
    have hpm := c_M_takesOne (S := W1)
    rw [← epk] at hpm
    cases hz : pkA (V1.1 45) 11 0 with
    | none =>
      rw [hz] at hpx hpm
      refine out (nI 72) (st_set V1 (nI 72) (nI 0) (nI 0)) (rz_uI (rz_uI W1 116 4 (nI 0)) 116 5 (nI 0)) (left0 _ ⟨fun _ => rz_useI hpx (fun xp S2 q => ?_), fun z => absurd rfl z⟩) (bgX_t g1x bgX_s) (bgM_t g1m (bgM_t (bgM_u (by omega)) (bgM_u (by omega)))) ⟨B, id1, Dk_mu (Dk_mu (st_set_dk D1) (by omega)) (by omega)⟩ (Or.inr ⟨72, by omega, by omega, rfl, ⟨0, 0, st_set_is, by simp (disch := omega) only [uI1, fA2, rz_fA_n, rz_uI_n, rz_fA_s, rz_uI_s, pk_us], by simp (disch := omega) only [uI1, fA2, rz_fA_n, rz_uI_n, rz_fA_s, rz_uI_s, pk_us]⟩, (show (st_set V1 (nI 72) (nI 0) (nI 0)).2 3 3 = V1.2 3 3 from rfl).trans (st1 3)⟩) (fun Q h => ?_)
      · obtain ⟨rfl, rfl⟩ := q
        exact ⟨fun _ => rz_toI (c_Status_set _ _ _) ⟨rfl, rfl⟩, fun z => absurd rfl z⟩
      · unfold snR
        refine rzx_I a2 ⟨fun _ => rz_useI hpm (fun xp S2 q => ?_), fun z => absurd rfl z⟩
        obtain ⟨rfl, rfl⟩ := q
        exact ⟨fun z => absurd z (by decide), fun _ => h⟩
    | some p =>
      obtain ⟨pt, ps⟩ := p
      rw [hz] at hpx hpm
      obtain ⟨p1, p2, p3, _⟩ := pkA_lt 11 0 rfl hz
      have hpb := sct_b p1 p2
      have hmp2 : Mp (xpk V1 pt ps) (mpk W1 pt ps) := fun k hk => by
        have := tkR_c (t := pt) (s := ps) p2 hmp k hk
        unfold xpk mpk
        simp (disch := omega) only [uI1, fA2, rz_fA_n, rz_uI_n, rz_fA_s, rz_uI_s, pk_us]
        exact this
      have D2 : Dk B pr id1 (xpk V1 pt ps) (mpk W1 pt ps) := Dk_mu (Dk_mu (Dk_mf (Dk_xu (Dk_xu (Dk_xf D1 (by omega)) (by omega)) (by omega)) (by omega)) (by omega)) (by omega)
      have g2x : bgX Sx (xpk V1 pt ps) := bgX_t g1x (bgX_t (bgX_f (by omega)) (bgX_t (bgX_u (by omega)) (bgX_u (by omega))))
      have g2m : bgM Sm (mpk W1 pt ps) := bgM_t g1m (bgM_t (bgM_f (by omega)) (bgM_t (bgM_u (by omega)) (bgM_u (by omega))))
      obtain ⟨x3, V3, y3, W3, b1, b2, rfl, f3x, f3m, ⟨B3, id3, D3⟩, an3⟩ := PR_store D2 hmp2
      have g3x : bgX Sx V3 := bgX_t g2x (bgX_rF (by omega) f3x)
      have g3m : bgM Sm W3 := bgM_t g2m (bgM_wM f3m)
      have st2 : ∀ z, (xpk V1 pt ps).2 3 z = Sx.2 3 z := fun z => by unfold xpk; simp (disch := omega) only [uI1, fA2, rz_fA_n, rz_uI_n, rz_fA_s, rz_uI_s, pk_us]; exact st1 z
      have left1 : ∀ K : Int32 → rz_S → Prop, rz mDos_startFile 46 [(0, .ref 39), (1, .ref (48 + 4 * c)), (2, .int x3)] [] V3 (rz_i K) → rz_ev mDos_startFile [.ref 39, .ref (48 + 4 * c)] Sx (rz_i K) := fun K h => left0 K ⟨fun _ => rz_useI hpx (fun xp S2 q => by
        obtain ⟨rfl, rfl⟩ := q
        exact ⟨fun z => absurd z (by decide), fun _ => p_Dos_startFile_34 hch ⟨fun _ => rzx_I b1 h, fun z => absurd rfl z⟩⟩), fun z => absurd rfl z⟩
      by_cases x30 : x3 = 0
      · subst x30
        have st3 : ∀ z, V3.2 3 z = Sx.2 3 z := fun z => by
          rcases an3 with ⟨_, q⟩ | ⟨xc, q1, q2, q3', _⟩
          · exact (q z).trans (st2 z)
          · exact absurd ((nI_eq (a := 0) (by omega) (by omega)).mp q3').symm q1
        have v46 : ∀ z, V3.2 46 z = Sx.2 46 z := fun z => (f3x.2 46 z (by omega) (by omega) (by omega)).trans (by unfold xpk; simp (disch := omega) only [uI1, fA2, rz_fA_n, rz_uI_n, rz_fA_s, rz_uI_s, pk_us]; exact cx.2 46 z (by omega) (by omega) (by omega))
        have v42 : ∀ z, V3.2 42 z = Sx.2 42 z := fun z => g3x.2 42 z (by omega) (by omega) (by omega) (by omega) (by omega)
        have v43 : V3.1 43 = Sx.1 43 := g3x.1 43 (by omega) (by omega) (by omega) (by omega)
        have v39 : V3.2 39 10 = nI st := (g3x.2 39 10 (by omega) (by omega) (by omega) (by omega) (by omega)).trans h10
        have v441 : V3.2 44 1 = nI pt := (f3x.2 44 1 (by omega) (by omega) (by omega)).trans (by unfold xpk; simp (disch := omega) only [uI1, fA2, rz_fA_n, rz_uI_n, rz_fA_s, rz_uI_s, pk_us])
        have v442 : V3.2 44 2 = nI ps := (f3x.2 44 2 (by omega) (by omega) (by omega)).trans (by unfold xpk; simp (disch := omega) only [uI1, fA2, rz_fA_n, rz_uI_n, rz_fA_s, rz_uI_s, pk_us])
        have wz : ∀ z, 27 ≤ z → z ≤ 29 → W3.2 116 z = Sm.2 116 z := fun z p q => (f3m.2.2 116 z (by omega)).trans (by unfold mpk; simp (disch := omega) only [uI1, fA2, rz_fA_n, rz_uI_n, rz_fA_s, rz_uI_s, pk_us]; exact cm.2 116 z (by omega))
        have w25 : W3.2 116 25 = nI pt := (f3m.2.2 116 25 (by omega)).trans (by unfold mpk; simp (disch := omega) only [uI1, fA2, rz_fA_n, rz_uI_n, rz_fA_s, rz_uI_s, pk_us])
        have w26 : W3.2 116 26 = nI ps := (f3m.2.2 116 26 (by omega)).trans (by unfold mpk; simp (disch := omega) only [uI1, fA2, rz_fA_n, rz_uI_n, rz_fA_s, rz_uI_s, pk_us])
        have w151 : W3.1 151 = Sm.1 151 := g3m.1 151 (by omega) (by omega)
        obtain ⟨x4, V4, y4', W4, c1, c2, rfl, xc4, id4, ex4, hx4, D4, r4, k4, o4, n4⟩ := PR_read (s := s) (a := 47) (a' := 125) (at0 := 0) (na := 64) D3 t1 t2 (by omega) rfl (by omega) rfl (by omega) (by omega) (by omega)
        have g4x : bgX Sx V4 := bgX_t g3x (bgX_rF (by omega) r4)
        have g4m : bgM Sm W4 := bgM_t g3m (bgM_kFa (by omega) k4)
        have u4 : ∀ u z, (u = 44 ∨ u = 46 ∨ u = 42 ∨ u = 39) → V4.2 u z = V3.2 u z := fun u z hu => r4.2 u z (by omega) (by omega) (by omega)
        have q4 : ∀ z, 25 ≤ z → W4.2 116 z = W3.2 116 z := fun z hz => k4.2.2 116 z (by omega)
        have right4 : ∀ Q : Int32 → rz_S → Prop, ((x4 = 0 → rx_in ((16 * (W4.2 116 29)) + 2) 64 = true ∧ rx_in ((16 * (W4.2 116 29)) + 3) 64 = true ∧ rx_in ((16 * (W4.2 116 29)) + 4) 64 = true ∧ rz mM_opensNew 233 [(0, .ref 116), (1, .int (nI c)), (2, .int (nI f)), (3, .int (nI m)), (7, .int (16 * (W4.2 116 29))), (8, .int 0)] [] (rz_fA (rz_fA (rz_fA W4 125 (upd (W4.1 125) (((16 * (W4.2 116 29)) + 2).toNatClampNeg) (nI st))) 125 (upd (upd (W4.1 125) (((16 * (W4.2 116 29)) + 2).toNatClampNeg) (nI st)) (((16 * (W4.2 116 29)) + 3).toNatClampNeg) (W4.2 116 25))) 125 (upd (upd (upd (W4.1 125) (((16 * (W4.2 116 29)) + 2).toNatClampNeg) (nI st)) (((16 * (W4.2 116 29)) + 3).toNatClampNeg) (W4.2 116 25)) (((16 * (W4.2 116 29)) + 4).toNatClampNeg) (W4.2 116 26))) (rz_i Q)) ∧ (¬ x4 = 0 → Q x4 W4)) → snR c f m st Sm Q := fun Q h => by
          unfold snR
          refine rzx_I a2 ⟨fun _ => rz_useI hpm (fun xp S2 q => ?_), fun z => absurd rfl z⟩
          obtain ⟨rfl, rfl⟩ := q
          refine ⟨fun _ => rzx_I b2 ⟨fun _ => ?_, fun z => absurd rfl z⟩, fun z => absurd rfl z⟩
          rw [wz 27 (by omega) (by omega), wz 28 (by omega) (by omega), y1, y2]
          exact rzx_I (show rzx mM_readBlock [.ref 116, .int (nI t), .int (nI s), .ref 125, .int 0] W3 (some (.int x4)) W4 from c2) h
        by_cases z40 : xc4 = 0
        · subst z40
          subst ex4
          obtain ⟨⟨dd, hd⟩, h3⟩ := o4 rfl
          have c43 : V4.1 43 = Sx.1 43 := (r4.1 43 (by omega) (by omega)).trans v43
          have w4151 : W4.1 151 = Sm.1 151 := (k4.1 151 (by omega) (by omega)).trans w151
          have i16 : (16 * nI e : Int32) = nI (16 * e) := pk_mul 16 e
          have i2 : (nI (16 * e) + 2 : Int32) = nI (16 * e + 2) := nI_add _ 2
          have i3 : (nI (16 * e) + 3 : Int32) = nI (16 * e + 3) := nI_add _ 3
          have i4 : (nI (16 * e) + 4 : Int32) = nI (16 * e + 4) := nI_add _ 4
          have i31 : (nI (16 * e + 3) + 1 : Int32) = nI (16 * e + 4) := nI_1 _
          have i5 : (nI (16 * e) + 5 : Int32) = nI (16 * e + 5) := nI_add _ 5
          have i15 : (nI (16 * e) + 15 : Int32) = nI (16 * e + 15) := nI_add _ 15
          have n2 : (nI (16 * e + 2)).toNatClampNeg = 16 * e + 2 := nI_clamp (by omega)
          have n3 : (nI (16 * e + 3)).toNatClampNeg = 16 * e + 3 := nI_clamp (by omega)
          have n4' : (nI (16 * e + 4)).toNatClampNeg = 16 * e + 4 := nI_clamp (by omega)
          have n15 : (nI (16 * e + 15)).toNatClampNeg = 16 * e + 15 := nI_clamp (by omega)
          have e44 : V4.2 46 4 = nI e := (u4 46 4 (by omega)).trans ((v46 4).trans z4)
          have q29 : W4.2 116 29 = nI e := (q4 29 (by omega)).trans ((wz 29 (by omega) (by omega)).trans y4)
          have q27 : W4.2 116 27 = nI t := (q4 27 (by omega)).trans ((wz 27 (by omega) (by omega)).trans y1)
          have q28 : W4.2 116 28 = nI s := (q4 28 (by omega)).trans ((wz 28 (by omega) (by omega)).trans y2)
          have q25 : W4.2 116 25 = nI pt := (q4 25 (by omega)).trans w25
          have q26 : W4.2 116 26 = nI ps := (q4 26 (by omega)).trans w26
          have d441 : V4.2 44 1 = nI pt := (u4 44 1 (by omega)).trans v441
          have d442 : V4.2 44 2 = nI ps := (u4 44 2 (by omega)).trans v442
          have base : ∀ F : Nat → Int32, rz_ev mDirectory_base [.ref 46] (rz_fA V4 47 F) (rz_i (fun x S1 => x = nI (16 * e) ∧ S1 = rz_fA V4 47 F)) := fun F => c_Directory_base he e44
          have rowL : ∀ k, k < 64 → upd (nmR (upd (upd (upd (V4.1 47) (16 * e + 2) (nI st)) (16 * e + 3) (nI pt)) (16 * e + 4) (nI ps)) (Sx.1 43) m (16 * e + 5)) (16 * e + 15) 0 k = upd (nmR (upd (upd (upd (W4.1 125) (16 * e + 2) (nI st)) (16 * e + 3) (nI pt)) (16 * e + 4) (nI ps)) (fun i => Sm.1 151 (f + i)) m (16 * e + 5)) (16 * e + 15) 0 k ∧ byt (upd (nmR (upd (upd (upd (V4.1 47) (16 * e + 2) (nI st)) (16 * e + 3) (nI pt)) (16 * e + 4) (nI ps)) (Sx.1 43) m (16 * e + 5)) (16 * e + 15) 0 k) := eqb_upd (nmR_c (eqb_upd (eqb_upd (eqb_upd (fun j hj => ⟨by
            have := hd j hj
            rw [Nat.zero_add] at this
            exact this.1.trans this.2.1.symm, ⟨dd j, (hd j hj).2.2, (hd j hj).1⟩⟩) rfl ⟨st, by omega, rfl⟩) rfl ⟨pt, by omega, rfl⟩) rfl ⟨ps, by omega, rfl⟩) hnm) rfl ⟨0, by omega, rfl⟩
          generalize hL5 : upd (nmR (upd (upd (upd (V4.1 47) (16 * e + 2) (nI st)) (16 * e + 3) (nI pt)) (16 * e + 4) (nI ps)) (Sx.1 43) m (16 * e + 5)) (16 * e + 15) 0 = L5 at rowL
          generalize hR5 : upd (nmR (upd (upd (upd (W4.1 125) (16 * e + 2) (nI st)) (16 * e + 3) (nI pt)) (16 * e + 4) (nI ps)) (fun i => Sm.1 151 (f + i)) m (16 * e + 5)) (16 * e + 15) 0 = R5 at rowL
          have rowA : ∀ k, k < 64 → (rz_fA V4 47 L5).1 47 k = (rz_fA W4 125 R5).1 125 k ∧ byt ((rz_fA V4 47 L5).1 47 k) := fun k hk => by rw [rz_fA_s, rz_fA_s]; exact rowL k hk
          obtain ⟨rr, hrr⟩ := row_nat rowA
          obtain ⟨x5, V5, y5, W5, e1, e2, rfl, xc5, id5, B5, ex5, hx5, D5, r5, w5, o5, n5⟩ := PR_write (s := s) (a := 47) (a' := 125) (at0 := 0) (na := 64) (Dk_mf (Dk_xf D4 (by omega)) (by omega)) t1 t2 (by omega) rfl (by omega) rfl (by omega) (by omega) (by omega) hrr
          have g5x : bgX Sx V5 := bgX_t g4x (bgX_t (bgX_f (by omega)) (bgX_rF (by omega) r5))
          have g5m : bgM Sm W5 := bgM_t g4m (bgM_t (bgM_f (by omega)) (bgM_wM w5))
          have left5 : ∀ K : Int32 → rz_S → Prop, rz mDos_startFile 70 [(0, .ref 39), (1, .ref (48 + 4 * c)), (2, .int x5)] [] V5 (rz_i K) → rz_ev mDos_startFile [.ref 39, .ref (48 + 4 * c)] Sx (rz_i K) := fun K h => left1 K (p_Dos_startFile_46 hch ⟨fun _ => by
            show rz _ 0 [(0, .ref 46), (1, .int (V3.2 39 10)), (2, .ref 44), (3, .ref 42)] [] _ _
            refine p_Directory_changeToNew_0 pt42 ?_
            rw [v46, v46, z1, z2, v39]
            refine rzx_I c1 ⟨fun _ => rz_toI (c_Directory_base he e44) ?_, fun z => absurd rfl z⟩
            rw [i2, n2]
            refine ⟨rin (by omega) (by omega), rz_toI (base _) ?_⟩
            rw [i3, n3, rz_fA_s, rz_fAA, show (rz_fA V4 47 (upd (V4.1 47) (16 * e + 2) (nI st))).2 44 1 = nI pt from d441]
            refine ⟨rin (by omega) (by omega), rz_toI (base _) ?_⟩
            rw [i3, i31, n4', rz_fA_s, rz_fAA, show (rz_fA V4 47 (upd (upd (V4.1 47) (16 * e + 2) (nI st)) (16 * e + 3) (nI pt))).2 44 2 = nI ps from d442]
            refine ⟨rin (by omega) (by omega), rz_toI (base _) ?_⟩
            rw [i5]
            refine rz_toV (c_Pattern_putInto (n := m) pt42 rfl (by omega) hm ((u4 42 1 (by omega)).trans ((v42 1).trans hln)) (by omega)) ?_
            rw [rz_fA_s, rz_fAA, show (rz_fA V4 47 (upd (upd (upd (V4.1 47) (16 * e + 2) (nI st)) (16 * e + 3) (nI pt)) (16 * e + 4) (nI ps))).1 (42 + 1) = Sx.1 43 from by rw [rz_fA_n (by omega)]; exact c43]
            refine rz_toI (base _) ?_
            rw [i15, n15, rz_fA_s, rz_fAA, hL5]
            refine ⟨rin (by omega) (by omega), ?_⟩
            show rz_ev mDisk_writeBlock [.ref 6, .int (V4.2 46 1), .int (V4.2 46 2), .ref 47] (rz_fA V4 47 L5) _
            rw [u4 46 1 (by omega), u4 46 2 (by omega), v46, v46, z1, z2]
            exact rzx_I e1 h, fun z => absurd rfl z⟩)
          have right5 : ∀ Q : Int32 → rz_S → Prop, ((x5 = 0 → rx_in (nI c) 15 = true ∧ rz_ev mM_clears [.ref 116, .int (nI c)] (rz_fA (rz_fA (rz_fA (rz_fA (rz_fA (rz_fA (rz_fA (rz_fA W5 131 (upd (W5.1 131) c (W5.2 116 25))) 132 (upd (W5.1 132) c (W5.2 116 26))) 133 (upd (W5.1 133) c (W5.2 116 25))) 134 (upd (W5.1 134) c (W5.2 116 26))) 135 (upd (W5.1 135) c 1)) 136 (upd (W5.1 136) c (W5.2 116 27))) 137 (upd (W5.1 137) c (W5.2 116 28))) 138 (upd (W5.1 138) c (W5.2 116 29))) (rz_v (fun Sq4 => Q 0 (rz_fA Sq4 126 (upd (Sq4.1 126) c 2))))) ∧ (¬ x5 = 0 → Q x5 W5)) → snR c f m st Sm Q := fun Q h => right4 Q ⟨fun _ => by
            rw [q29, q25, q26, i16, i2, i3, i4, n2, n3, n4', rz_fAA, rz_fAA]
            refine ⟨rin (by omega) (by omega), rin (by omega) (by omega), rin (by omega) (by omega), ?_⟩
            generalize hS : rz_fA W4 125 (upd (upd (upd (W4.1 125) (16 * e + 2) (nI st)) (16 * e + 3) (nI pt)) (16 * e + 4) (nI ps)) = S
            have s151 : (fun i => S.1 151 (f + i)) = fun i => Sm.1 151 (f + i) := by rw [← hS, rz_fA_n (by omega), w4151]
            refine r233 (S := S) hm hfm he (p_M_opensNew_233 ⟨fun _ => ?_, fun z => absurd (by decide) z⟩) 10 0 S (by omega) ?_
            · rw [i15, n15, rz_fA_s, rz_fAA, s151]
              have er : rz_fA S 125 (upd (nmR (S.1 125) (fun i => Sm.1 151 (f + i)) m (16 * e + 5)) (16 * e + 15) 0) = rz_fA W4 125 R5 := by
                rw [← hS, rz_fA_s, rz_fAA, hR5]
              rw [er, ecl]
              have s27 : (rz_fA S 125 (nmR (S.1 125) (fun i => Sm.1 151 (f + i)) m (16 * e + 5))).2 116 27 = nI t := by rw [← hS]; exact q27
              have s28 : (rz_fA S 125 (nmR (S.1 125) (fun i => Sm.1 151 (f + i)) m (16 * e + 5))).2 116 28 = nI s := by rw [← hS]; exact q28
              rw [s27, s28]
              exact ⟨rin (by omega) (by omega), rzx_I (show rzx mM_writeBlock [.ref 116, .int (nI t), .int (nI s), .ref 125, .int 0] (rz_fA W4 125 R5) (some (.int x5)) W5 from e2) h⟩
            · have : (fun j => if 16 * e + 5 ≤ j ∧ j < 16 * e + 5 + 0 then pd (fun i => S.1 151 (f + i)) m (j - (16 * e + 5)) else S.1 125 j) = S.1 125 := by
                funext j
                rw [if_neg (by omega)]
              rw [this, rz_fA_self], fun z => absurd rfl z⟩
          have s5 : ∀ z, (rz_fA V4 47 L5).2 3 z = Sx.2 3 z := fun z => (h3 z).trans (st3 z)
          by_cases z50 : xc5 = 0
          · subst z50
            subst ex5
            have p25 : ∀ z, 25 ≤ z → W5.2 116 z = W4.2 116 z := fun z hz => w5.2.2 116 z (by omega)
            rw [p25 25 (by omega), p25 26 (by omega), p25 27 (by omega), p25 28 (by omega), p25 29 (by omega), q25, q26, q27, q28, q29] at right5
            generalize hWB : rz_fA (rz_fA (rz_fA (rz_fA (rz_fA (rz_fA (rz_fA (rz_fA W5 131 (upd (W5.1 131) c (nI pt))) 132 (upd (W5.1 132) c (nI ps))) 133 (upd (W5.1 133) c (nI pt))) 134 (upd (W5.1 134) c (nI ps))) 135 (upd (W5.1 135) c 1)) 136 (upd (W5.1 136) c (nI t))) 137 (upd (W5.1 137) c (nI s))) 138 (upd (W5.1 138) c (nI e)) = WB at right5
            obtain ⟨_, WC, kc, rfl, hWC⟩ := rzx_ev (c_clears (S := WB) hc)
            obtain ⟨_, V6, l6, rfl, b0, b1', b2', b3, b4, b5, b6, b7, b8⟩ := rzx_ev (c_begin (S := V5) (m := 2) hc)
            obtain ⟨_, V7, l7, rfl, hV7⟩ := rzx_ev (c_beginBlock (S := V6) (t := V6.2 44 1) (s := V6.2 44 2) hc)
            obtain ⟨_, V8, l8, rfl, hV8⟩ := rzx_ev (c_keepEntry (S := rz_uI (rz_uI (rz_uI V7 (48 + 4 * c) 7 (V7.2 44 1)) (48 + 4 * c) 8 (V7.2 44 2)) (48 + 4 * c) 9 1) hc)
            have hLeft : rz_ev mDos_startFile [.ref 39, .ref (48 + 4 * c)] Sx (rz_i (fun x' V' => x' = 0 ∧ V' = V8)) := left5 _ (p_Dos_startFile_70 hch ⟨fun _ => rzx_V l6 (rzx_V l7 (rzx_V l8 ⟨rfl, rfl⟩)), fun z => absurd rfl z⟩)
            obtain ⟨_, V', el, x', rfl, hx', hV'⟩ := rzx_ev hLeft
            rw [hx', hV'] at el
            have v5u : ∀ u z, (u = 44 ∨ u = 46) → V5.2 u z = V4.2 u z := fun u z hu => r5.2 u z (by omega) (by omega) (by omega)
            have v7u : ∀ u z, u ≠ 48 + 4 * c → V7.2 u z = V6.2 u z := fun u z hu => by rw [hV7]; simp (disch := omega) only [uI1, fA2, rz_fA_n, rz_uI_n, rz_fA_s, rz_uI_s, pk_us]
            have v7k : ∀ z, z ≠ 2 → z ≠ 5 → z ≠ 6 → V7.2 (48 + 4 * c) z = V6.2 (48 + 4 * c) z := fun z p q r => by rw [hV7]; simp (disch := omega) only [uI1, fA2, rz_fA_n, rz_uI_n, rz_fA_s, rz_uI_s, pk_us]
            have v7a : ∀ q, q ≠ 49 + 4 * c → V7.1 q = V6.1 q := fun q hq => by rw [hV7]; simp (disch := omega) only [uI1, fA2, rz_fA_n, rz_uI_n, rz_fA_s, rz_uI_s, pk_us]
            have v7r : ∀ k, k < 64 → V7.1 (49 + 4 * c) k = 0 := fun k hk => by rw [hV7]; simp (disch := omega) only [uI1, fA2, rz_fA_n, rz_uI_n, rz_fA_s, rz_uI_s, pk_us]; rw [if_pos hk]
            have t44 : ∀ z, V7.2 44 z = V4.2 44 z := fun z => (v7u 44 z (by omega)).trans ((b2' 44 z (by omega)).trans (v5u 44 z (by omega)))
            have t46 : ∀ z, V7.2 46 z = V4.2 46 z := fun z => (v7u 46 z (by omega)).trans ((b2' 46 z (by omega)).trans (v5u 46 z (by omega)))
            have s441 : V6.2 44 1 = nI pt := (b2' 44 1 (by omega)).trans ((v5u 44 1 (by omega)).trans d441)
            have s442 : V6.2 44 2 = nI ps := (b2' 44 2 (by omega)).trans ((v5u 44 2 (by omega)).trans d442)
            have v8u : ∀ u z, u ≠ 48 + 4 * c → V8.2 u z = V7.2 u z := fun u z hu => by rw [hV8]; simp (disch := omega) only [uI1, fA2, rz_fA_n, rz_uI_n, rz_fA_s, rz_uI_s, pk_us]
            have v8k : ∀ z, ¬ (7 ≤ z ∧ z ≤ 13) → V8.2 (48 + 4 * c) z = V7.2 (48 + 4 * c) z := fun z hz => by rw [hV8]; simp (disch := omega) only [uI1, fA2, rz_fA_n, rz_uI_n, rz_fA_s, rz_uI_s, pk_us]
            have v8a : V8.1 = V7.1 := by rw [hV8]; rfl
            have k7 : V8.2 (48 + 4 * c) 7 = nI pt := by rw [hV8]; simp (disch := omega) only [uI1, fA2, rz_fA_n, rz_uI_n, rz_fA_s, rz_uI_s, pk_us]; exact (t44 1).trans d441
            have k8 : V8.2 (48 + 4 * c) 8 = nI ps := by rw [hV8]; simp (disch := omega) only [uI1, fA2, rz_fA_n, rz_uI_n, rz_fA_s, rz_uI_s, pk_us]; exact (t44 2).trans d442
            have k9 : V8.2 (48 + 4 * c) 9 = nI 1 := by rw [hV8]; simp (disch := omega) only [uI1, fA2, rz_fA_n, rz_uI_n, rz_fA_s, rz_uI_s, pk_us]; rfl
            have k10 : V8.2 (48 + 4 * c) 10 = nI t := by rw [hV8]; simp (disch := omega) only [uI1, fA2, rz_fA_n, rz_uI_n, rz_fA_s, rz_uI_s, pk_us]; exact (t46 1).trans ((u4 46 1 (by omega)).trans ((v46 1).trans z1))
            have k11 : V8.2 (48 + 4 * c) 11 = nI s := by rw [hV8]; simp (disch := omega) only [uI1, fA2, rz_fA_n, rz_uI_n, rz_fA_s, rz_uI_s, pk_us]; exact (t46 2).trans ((u4 46 2 (by omega)).trans ((v46 2).trans z2))
            have k13 : V8.2 (48 + 4 * c) 13 = nI e := by rw [hV8]; simp (disch := omega) only [uI1, fA2, rz_fA_n, rz_uI_n, rz_fA_s, rz_uI_s, pk_us]; exact (t46 4).trans e44
            have k0 : V8.2 (48 + 4 * c) 0 = 2 := (v8k 0 (by omega)).trans ((v7k 0 (by omega) (by omega) (by omega)).trans b4)
            have k2 : V8.2 (48 + 4 * c) 2 = nI 2 := (v8k 2 (by omega)).trans (by rw [hV7]; simp (disch := omega) only [uI1, fA2, rz_fA_n, rz_uI_n, rz_fA_s, rz_uI_s, pk_us]; rfl)
            have k5 : V8.2 (48 + 4 * c) 5 = nI pt := (v8k 5 (by omega)).trans (by rw [hV7]; simp (disch := omega) only [uI1, fA2, rz_fA_n, rz_uI_n, rz_fA_s, rz_uI_s, pk_us]; exact s441)
            have k6 : V8.2 (48 + 4 * c) 6 = nI ps := (v8k 6 (by omega)).trans (by rw [hV7]; simp (disch := omega) only [uI1, fA2, rz_fA_n, rz_uI_n, rz_fA_s, rz_uI_s, pk_us]; exact s442)
            have gWB : GM c W5 WB := by
              rw [← hWB]
              exact GM_t (GM_g (q := 131) (by omega) (fun d hd => by simp (disch := omega) only [uI1, fA2, rz_fA_n, rz_uI_n, rz_fA_s, rz_uI_s, pk_us, pk_un])) (GM_t (GM_g (q := 132) (by omega) (fun d hd => by simp (disch := omega) only [uI1, fA2, rz_fA_n, rz_uI_n, rz_fA_s, rz_uI_s, pk_us, pk_un])) (GM_t (GM_g (q := 133) (by omega) (fun d hd => by simp (disch := omega) only [uI1, fA2, rz_fA_n, rz_uI_n, rz_fA_s, rz_uI_s, pk_us, pk_un])) (GM_t (GM_g (q := 134) (by omega) (fun d hd => by simp (disch := omega) only [uI1, fA2, rz_fA_n, rz_uI_n, rz_fA_s, rz_uI_s, pk_us, pk_un])) (GM_t (GM_g (q := 135) (by omega) (fun d hd => by simp (disch := omega) only [uI1, fA2, rz_fA_n, rz_uI_n, rz_fA_s, rz_uI_s, pk_us, pk_un])) (GM_t (GM_g (q := 136) (by omega) (fun d hd => by simp (disch := omega) only [uI1, fA2, rz_fA_n, rz_uI_n, rz_fA_s, rz_uI_s, pk_us, pk_un])) (GM_t (GM_g (q := 137) (by omega) (fun d hd => by simp (disch := omega) only [uI1, fA2, rz_fA_n, rz_uI_n, rz_fA_s, rz_uI_s, pk_us, pk_un])) (GM_g (q := 138) (by omega) (fun d hd => by simp (disch := omega) only [uI1, fA2, rz_fA_n, rz_uI_n, rz_fA_s, rz_uI_s, pk_us, pk_un]))))))))
            have gWC : GM c WB WC := by
              rw [hWC]
              exact GM_t (GM_h (fun j hj => if_neg hj)) (GM_g (q := 129) (by omega) (fun d hd => by simp (disch := omega) only [uI1, fA2, rz_fA_n, rz_uI_n, rz_fA_s, rz_uI_s, pk_us, pk_un]))
            have dB : ∀ q, 117 ≤ q → q ≤ 122 → (rz_fA WC 126 (upd (WC.1 126) c 2)).1 q = W5.1 q := fun q p r => by rw [hWC, ← hWB]; simp (disch := omega) only [uI1, fA2, rz_fA_n, rz_uI_n, rz_fA_s, rz_uI_s, pk_us]
            have dB2 : (rz_fA WC 126 (upd (WC.1 126) c 2)).2 = W5.2 := by rw [hWC, ← hWB]; rfl
            have wB : ∀ q, 131 ≤ q → q ≤ 138 → (rz_fA WC 126 (upd (WC.1 126) c 2)).1 q = WB.1 q := fun q p r => by rw [hWC]; simp (disch := omega) only [uI1, fA2, rz_fA_n, rz_uI_n, rz_fA_s, rz_uI_s, pk_us]
            have g67 : GX c V6 V7 := by rw [hV7]; exact GX_t (GX_f hc) (GX_t GX_u (GX_t GX_u GX_u))
            have g78 : GX c V7 V8 := by rw [hV8]; exact GX_t GX_u (GX_t GX_u (GX_t GX_u (GX_t GX_u (GX_t GX_u (GX_t GX_u GX_u)))))
            have v5m : GX c Sx V8 := GX_t (GX_b g5x) (GX_t b0 (GX_t g67 g78))
            have v3z : ∀ u z, u ≠ 48 + 4 * c → V8.2 u z = V5.2 u z := fun u z hu => (v8u u z hu).trans ((v7u u z hu).trans (b2' u z hu))
            refine ⟨0, V8, 0, rz_fA WC 126 (upd (WC.1 126) c 2), el, ⟨rfl, v5m, GM_t (GM_b g5m) (GM_t gWB (GM_t gWC (GM_g (q := 126) (by omega) (fun d hd => by simp (disch := omega) only [uI1, fA2, rz_fA_n, rz_uI_n, rz_fA_s, rz_uI_s, pk_us, pk_un])))), ⟨B5, id5, Dk_m (Dk_x D5 (fun q p r => by rw [v8a, v7a q (by omega), b1' q (by omega)]) (fun u z hu => v3z u z (by omega))) (fun q p r => dB q p r) (fun z _ => by rw [dB2])⟩, Or.inl ⟨rfl, fun z => (v3z 3 z (by omega)).trans ((o5 rfl z).trans (s5 z))⟩, ?_⟩, fun Q h => right5 Q ⟨fun _ => ⟨rin hc (by omega), rzx_V kc h⟩, fun z => absurd rfl z⟩⟩
            refine ⟨k0.trans (by simp (disch := omega) only [uI1, fA2, rz_fA_n, rz_uI_n, rz_fA_s, rz_uI_s, pk_us]), Or.inr (Or.inr (Or.inl ⟨by simp (disch := omega) only [uI1, fA2, rz_fA_n, rz_uI_n, rz_fA_s, rz_uI_s, pk_us], ⟨pt, ps, t, s, e, 1, 2, ⟨p1, p2, p3⟩, ⟨t1, t2, s1⟩, he, by omega, by omega, ⟨k5, k6, k9, k10, k11, k13, k2⟩, ⟨?_, ?_, ?_, ?_, ?_, ?_, ?_⟩, fun k k2 k64 => ⟨?_, ?_⟩⟩, ⟨pt, ps, p1, p2, p3, k7, k8, ?_, ?_⟩, 1, 2, by omega, by omega, by omega, k9, k2, by omega⟩))⟩
            · rw [wB 133 (by omega) (by omega), ← hWB]; simp (disch := omega) only [uI1, fA2, rz_fA_n, rz_uI_n, rz_fA_s, rz_uI_s, pk_us]
            · rw [wB 134 (by omega) (by omega), ← hWB]; simp (disch := omega) only [uI1, fA2, rz_fA_n, rz_uI_n, rz_fA_s, rz_uI_s, pk_us]
            · rw [wB 135 (by omega) (by omega), ← hWB]; simp (disch := omega) only [uI1, fA2, rz_fA_n, rz_uI_n, rz_fA_s, rz_uI_s, pk_us]; rfl
            · rw [wB 136 (by omega) (by omega), ← hWB]; simp (disch := omega) only [uI1, fA2, rz_fA_n, rz_uI_n, rz_fA_s, rz_uI_s, pk_us]
            · rw [wB 137 (by omega) (by omega), ← hWB]; simp (disch := omega) only [uI1, fA2, rz_fA_n, rz_uI_n, rz_fA_s, rz_uI_s, pk_us]
            · rw [wB 138 (by omega) (by omega), ← hWB]; simp (disch := omega) only [uI1, fA2, rz_fA_n, rz_uI_n, rz_fA_s, rz_uI_s, pk_us]
            · rw [hWC]; simp (disch := omega) only [uI1, fA2, rz_fA_n, rz_uI_n, rz_fA_s, rz_uI_s, pk_us]; rfl
            · rw [v8a, v7r k k64, hWC]; simp (disch := omega) only [uI1, fA2, rz_fA_n, rz_uI_n, rz_fA_s, rz_uI_s, pk_us]
              rw [if_pos ⟨by omega, by omega⟩]
            · rw [v8a, v7r k k64]; exact ⟨0, by omega, rfl⟩
            · rw [wB 131 (by omega) (by omega), ← hWB]; simp (disch := omega) only [uI1, fA2, rz_fA_n, rz_uI_n, rz_fA_s, rz_uI_s, pk_us]
            · rw [wB 132 (by omega) (by omega), ← hWB]; simp (disch := omega) only [uI1, fA2, rz_fA_n, rz_uI_n, rz_fA_s, rz_uI_s, pk_us]
          · obtain ⟨hf5, h33⟩ := n5 z50
            have xne : ¬ x5 = 0 := by rw [ex5]; exact nI_ne0 (by omega) (by omega)
            exact out x5 V5 W5 (left5 _ (p_Dos_startFile_70 hch ⟨fun z => absurd z xne, fun _ => ⟨rfl, rfl⟩⟩)) g5x g5m ⟨B5, id5, D5⟩ (Or.inr ⟨xc5, z50, hx5, ex5, hf5, h33.trans (s5 3)⟩) (fun Q h => right5 Q ⟨fun z => absurd z xne, fun _ => h⟩)
        · obtain ⟨_, _, hf4, h33⟩ := n4 z40
          have xne : ¬ x4 = 0 := by rw [ex4]; exact nI_ne0 (by omega) (by omega)
          refine out x4 V4 W4 (left1 _ (p_Dos_startFile_46 hch ⟨fun _ => ?_, fun z => absurd rfl z⟩)) g4x g4m ⟨B3, id4, D4⟩ (Or.inr ⟨xc4, z40, hx4, ex4, hf4, h33.trans (st3 3)⟩) (fun Q h => right4 Q ⟨fun z => absurd z xne, fun _ => h⟩)
          show rz _ 0 [(0, .ref 46), (1, .int (V3.2 39 10)), (2, .ref 44), (3, .ref 42)] [] _ _
          refine p_Directory_changeToNew_0 pt42 ?_
          rw [v46, v46, z1, z2]
          exact rzx_I c1 ⟨fun z => absurd z xne, fun _ => p_Dos_startFile_70 hch ⟨fun z => absurd z xne, fun _ => ⟨rfl, rfl⟩⟩⟩
      · refine out x3 V3 W3 (left1 _ (skip _ x3 V3 x30 ⟨rfl, rfl⟩)) g3x g3m ⟨B3, id3, D3⟩ (ans_t st2 an3) (fun Q h => ?_)
        unfold snR
        refine rzx_I a2 ⟨fun _ => rz_useI hpm (fun xp S2 q => ?_), fun z => absurd rfl z⟩
        obtain ⟨rfl, rfl⟩ := q
        exact ⟨fun _ => rzx_I b2 ⟨fun z => absurd z x30, fun _ => h⟩, fun z => absurd rfl z⟩
  · refine out x V1 W1 (left0 _ ⟨fun z => absurd z x0, fun _ => p_Dos_startFile_34 hch ⟨fun z => absurd z x0, fun _ => skip _ x V1 x0 ⟨rfl, rfl⟩⟩⟩) g1x g1m ⟨B, id1, D1⟩ an1 (fun Q h => ?_)
    unfold snR
    exact rzx_I a2 ⟨fun z => absurd z x0, fun _ => h⟩
