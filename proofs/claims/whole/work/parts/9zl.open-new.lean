/-! open: a new FILE -/
theorem ans_z {Sx V W : rz_S} {x : Int32} (h : ans Sx x V W) (x0 : x = 0) : ∀ z, V.2 3 z = Sx.2 3 z := by
  rcases h with ⟨_, q⟩ | ⟨xc, q1, q2, q3, _⟩
  · exact q
  · rw [x0] at q3
    exact absurd ((nI_eq (a := 0) (by omega) (by omega)).mp q3).symm q1
theorem ow_pair {c f m st r M : Nat} {pr : Bool} {Sx Sm : rz_S} {B : Nat → Nat → Bool} {id : Option (Nat × Nat)} (hc : c < 15) (hD : Dk B pr id Sx Sm) (m1 : Sx.2 (48 + 4 * c) 0 = 0) (m2 : Sm.1 126 c = 0) (hm : m ≤ 10) (hfm : f + m ≤ 401) (hln : Sx.2 42 1 = nI m) (hnm : ∀ i, i < m → Sx.1 43 i = Sm.1 151 (f + i) ∧ byt (Sx.1 43 i)) (hst : st ≤ 3) (h10 : Sx.2 39 10 = nI st) (hr : r ≤ 1) (h9 : Sx.2 39 9 = nI r) (hw : wlF (fun i => Sm.1 151 (f + i)) m 0 = false) : PCi mDos_openToWrite mM_opensNew [.ref 39, .ref (48 + 4 * c)] [.ref 116, .int (nI c), .int (nI f), .int (nI m), .int (nI st), .int (nI r)] Sx Sm (opE c M pr Sx Sm) := by
  have hch : chP (48 + 4 * c) := ⟨by omega, by omega, by omega⟩
  refine PCi_of (fun K hK => ?_)
  have hK2 : ∀ x V, rz mM_opensNew 0 [(0, .ref 116), (1, .int (nI c)), (2, .int (nI f)), (3, .int (nI m)), (4, .int (nI st)), (5, .int (nI r))] [] Sm (rz_i (opE c M pr Sx Sm x V)) → K x V := hK
  show rz _ 0 [(0, .ref 39), (1, .ref (48 + 4 * c))] [] _ _
  refine p_Dos_openToWrite_0 hch (rz_toV c_rewind ?_)
  generalize hS : rz_uI (rz_uI (rz_uI (rz_uI (rz_uI Sx 46 1 7) 46 2 1) 46 3 1) 46 4 (-1)) 46 6 0 = S
  have sr : ∀ u z, u ≠ 46 → S.2 u z = Sx.2 u z := fun u z hu => by rw [← hS]; simp (disch := omega) only [uI1, fA2, rz_fA_n, rz_uI_n, rz_fA_s, rz_uI_s, pk_us]
  have sa : S.1 = Sx.1 := by rw [← hS]; rfl
  have gS : bgX Sx S := by rw [← hS]; exact bgX_t (bgX_u (by omega)) (bgX_t (bgX_u (by omega)) (bgX_t (bgX_u (by omega)) (bgX_t (bgX_u (by omega)) (bgX_u (by omega)))))
  have DS : Dk B pr id S Sm := Dk_x hD (fun q _ _ => by rw [sa]) (fun u z hu => sr u z (by omega))
  have hP : fdP S Sm 1 42 m 151 401 f := ⟨by omega, pt42, hm, (sr 42 1 (by omega)).trans hln, rfl, by omega, fun _ => hfm, fun _ i hi => by rw [sa]; exact (hnm i hi).1, ⟨by omega, by omega⟩, ⟨by omega, by omega⟩⟩
  obtain ⟨x, V, y, W, e1, e2, fx, fm, ⟨id1, D1⟩, hO⟩ := PR_find hP DS (by rw [← hS]; simp (disch := omega) only [uI1, fA2, rz_fA_n, rz_uI_n, rz_fA_s, rz_uI_s, pk_us]) (by rw [← hS]; simp (disch := omega) only [uI1, fA2, rz_fA_n, rz_uI_n, rz_fA_s, rz_uI_s, pk_us]) (by rw [← hS]; simp (disch := omega) only [uI1, fA2, rz_fA_n, rz_uI_n, rz_fA_s, rz_uI_s, pk_us]) (by rw [← hS]; simp (disch := omega) only [uI1, fA2, rz_fA_n, rz_uI_n, rz_fA_s, rz_uI_s, pk_us]) (by rw [← hS]; simp (disch := omega) only [uI1, fA2, rz_fA_n, rz_uI_n, rz_fA_s, rz_uI_s, pk_us])
  have gV : bgX Sx V := bgX_t gS (bgX_fd fx)
  have gW : bgM Sm W := bgM_fd fm
  have s3 : ∀ z, S.2 3 z = Sx.2 3 z := fun z => sr 3 z (by omega)
  have ch0 : ∀ V' W', bgX Sx V' → bgM Sm W' → Chn M c V' W' := fun V' W' gx gm => Chn_0 ((gx.2 _ 0 (by omega) (by omega) (by omega) (by omega) (by omega)).trans m1) (by rw [gm.1 126 (by omega) (by omega)]; exact m2)
  refine rzx_I (show rzx mDirectory_find [.ref 46, .int 1, .ref 42] S (some (.int x)) V from e1) ?_
  have hiw := c_M_isWild (S := Sm) (n := m) (q := f) hfm
  rw [hw] at hiw
  have hR : ∀ Q : Int32 → rz_S → Prop, ((y ≤ 0 → ((y = 0 → ((nI r = 0 → rz_ev mM_fault [.ref 116, .int 63, .int 0, .int 0] W (rz_i (fun xq11 Sq11 => Q xq11 Sq11))) ∧ (¬ nI r = 0 → rx_in ((16 * (W.2 116 29)) + 2) 64 = true ∧ ((128 ≤ W.1 124 (((16 * (W.2 116 29)) + 2).toNatClampNeg) → rz_ev mM_scratches [.ref 116] W (rz_i (fun xq8 Sq8 => ((xq8 = 0 → rz mM_opensNew 101 [(0, .ref 116), (1, .int (nI c)), (2, .int (nI f)), (3, .int (nI m)), (4, .int (nI st))] [] Sq8 (rz_i Q)) ∧ (¬ xq8 = 0 → Q xq8 Sq8))))) ∧ (¬ 128 ≤ W.1 124 (((16 * (W.2 116 29)) + 2).toNatClampNeg) → rz_ev mM_fault [.ref 116, .int 60, .int 0, .int 0] W (rz_i (fun xq10 Sq10 => Q xq10 Sq10))))))) ∧ (¬ y = 0 → rz mM_opensNew 101 [(0, .ref 116), (1, .int (nI c)), (2, .int (nI f)), (3, .int (nI m)), (4, .int (nI st))] [] W (rz_i Q)))) ∧ (¬ y ≤ 0 → Q y W)) → rz mM_opensNew 0 [(0, .ref 116), (1, .int (nI c)), (2, .int (nI f)), (3, .int (nI m)), (4, .int (nI st)), (5, .int (nI r))] [] Sm (rz_i Q) := fun Q h => p_M_opensNew_0 (rz_toI hiw ⟨fun _ => rzx_I (show rzx mM_finds [.ref 116, .int 1, .ref 151, .int (nI f), .int (nI m)] Sm (some (.int y)) W from e2) h, fun z => absurd rfl z⟩)
  -- what both do once no ENTRY of that NAME is there
  have tail : ∀ (V' W' : rz_S) (B' : Nat → Nat → Bool) (id' : Option (Nat × Nat)), bgX Sx V' → bgM Sm W' → Dk B' pr id' V' W' → (∀ z, V'.2 3 z = Sx.2 3 z) → (∀ Q : Int32 → rz_S → Prop, rz mM_opensNew 101 [(0, .ref 116), (1, .int (nI c)), (2, .int (nI f)), (3, .int (nI m)), (4, .int (nI st))] [] W' (rz_i Q) → rz mM_opensNew 0 [(0, .ref 116), (1, .int (nI c)), (2, .int (nI f)), (3, .int (nI m)), (4, .int (nI st)), (5, .int (nI r))] [] Sm (rz_i Q)) → rz mDos_openToWrite 80 [(0, .ref 39), (1, .ref (48 + 4 * c)), (2, .int 0)] [] V' (rz_i K) := by
    intro V' W' B' id' gx gm d h3 h101
    obtain ⟨x, V2, y, W2, c1, c2, rfl, g2x, g2m, ⟨B2, id2, D2⟩, an, hat⟩ := fr_pair (m := m) d hm ((gx.2 42 1 (by omega) (by omega) (by omega) (by omega) (by omega)).trans hln)
    have G2x := bgX_t gx g2x
    have G2m := bgM_t gm g2m
    refine p_Dos_openToWrite_80 hch ⟨fun _ => rzx_I c1 (p_Dos_openToWrite_89 hch ⟨fun x0 => ?_, fun x0 => hK2 _ _ (h101 _ (p_M_opensNew_101 (rzx_I c2 ⟨fun z => absurd z x0, fun _ => ?_⟩)))⟩), fun z => absurd rfl z⟩
    · obtain ⟨t, s, e, t1, t2, s1, he, z1, z2, z4, y1, y2, y4⟩ := hat x0
      have st2 : ∀ z, V2.2 3 z = Sx.2 3 z := fun z => (ans_z an x0 z).trans (h3 z)
      obtain ⟨x5, V5, y5, W5, k1, ⟨rfl, g5x, g5m, d5, an5, ch5⟩, k2⟩ := sf_pair (M := M) (st := st) (f := f) hc D2 hm hfm ((G2x.2 42 1 (by omega) (by omega) (by omega) (by omega) (by omega)).trans hln) (fun i hi => by rw [G2x.1 43 (by omega) (by omega) (by omega) (by omega), G2m.1 151 (by omega) (by omega)]; exact hnm i hi) hst ((G2x.2 39 10 (by omega) (by omega) (by omega) (by omega) (by omega)).trans h10) t1 t2 s1 he z1 z2 z4 y1 y2 y4 ((G2x.2 _ 0 (by omega) (by omega) (by omega) (by omega) (by omega)).trans m1) (by rw [G2m.1 126 (by omega) (by omega)]; exact m2)
      refine rzx_I k1 (hK2 _ _ (h101 _ (p_M_opensNew_101 (rzx_I c2 ⟨fun _ => k2 _ ?_, fun z => absurd x0 z⟩))))
      exact ⟨rfl, GX_t (GX_b G2x) g5x, GM_t (GM_b G2m) g5m, d5, ans_t st2 an5, ch5⟩
    · exact ⟨rfl, GX_b G2x, GM_b G2m, ⟨B2, id2, D2⟩, ans_t h3 an, ch0 _ _ G2x G2m⟩
  rcases hO with ⟨xc, x0, hx, rfl, rfl, hf, h5, h33⟩ | ⟨hs, rfl, hDr, t, s, k, t1, t2, s1, k1, k6, z1, z2, z3, y1, y2, y3, hE⟩
  · have xne : ¬ nI xc = 0 := nI_ne0 (by omega) (by omega)
    have xle : ¬ nI xc ≤ 0 := fun d => by
      have := (nI_leI (b := 0) (by omega) (by omega)).mp d
      omega
    refine ⟨fun d => absurd d xne, fun _ => p_Dos_openToWrite_80 hch ⟨fun d => absurd d xne, fun _ => p_Dos_openToWrite_89 hch ⟨fun d => absurd d xne, fun _ => hK2 _ _ (hR _ ⟨fun d => absurd d xle, fun _ => ?_⟩)⟩⟩⟩
    exact ⟨rfl, GX_b gV, GM_b gW, ⟨B, id1, D1⟩, Or.inr ⟨xc, x0, hx, rfl, hf, h33.trans (s3 3)⟩, ch0 _ _ gV gW⟩
  · have hs3 : ∀ z, V.2 3 z = Sx.2 3 z := fun z => (hs z).trans (s3 z)
    refine ⟨fun _ => ?_, fun d => absurd rfl d⟩
    rcases hE with ⟨rfl, f5, y27, y28, e, e4, z4, y29⟩ | ⟨rfl, f5, _⟩
    · refine ⟨fun d => absurd (f5.symm.trans d) (by decide), fun _ => ?_⟩
      rw [gV.2 39 9 (by omega) (by omega) (by omega) (by omega) (by omega), h9]
      have le0 : (0 : Int32) ≤ 0 := by decide
      obtain ⟨ty, bty, ety⟩ := (hDr (16 * e + 2) (by omega)).2
      have ety2 : W.1 124 (16 * e + 2) = nI ty := (hDr (16 * e + 2) (by omega)).1.symm.trans ety
      have i16 : (16 * nI e : Int32) = nI (16 * e) := pk_mul 16 e
      rw [y29, i16, show (nI (16 * e) + 2 : Int32) = nI (16 * e + 2) from nI_add _ 2, nI_clamp (show 16 * e + 2 < 2 ^ 31 by omega), ety2] at hR
      refine ⟨fun d => rz_toI (c_Status_set _ _ _) (hK2 _ _ (hR _ ⟨fun _ => ⟨fun _ => ⟨fun _ => rz_toI (c_M_fault _ _ _) ?_, fun z => absurd d z⟩, fun z => absurd rfl z⟩, fun z => absurd le0 z⟩)), fun d => rz_toI (c_isClosed e4 z4 ety) ?_⟩
      · exact op_flt 63 0 0 (by omega) (by omega) (GX_b gV) (GM_b gW) hs3 D1 (ch0 _ _ gV gW)
      · by_cases hcl : nI ty < 128
        · rw [if_pos hcl]
          refine ⟨fun _ => rz_toI (c_Status_set _ _ _) (hK2 _ _ (hR _ ⟨fun _ => ⟨fun _ => ⟨fun z => absurd z d, fun _ => ⟨rin (by omega) (by omega), fun z => absurd hcl (Int32.not_lt.mpr z), fun _ => rz_toI (c_M_fault _ _ _) ?_⟩⟩, fun z => absurd rfl z⟩, fun z => absurd le0 z⟩)), fun z => absurd rfl z⟩
          exact op_flt 60 0 0 (by omega) (by omega) (GX_b gV) (GM_b gW) hs3 D1 (ch0 _ _ gV gW)
        · rw [if_neg hcl]
          have hcl2 : 128 ≤ nI ty := Int32.not_lt.mp hcl
          obtain ⟨x2, V2, y2', W2, c1, c2, rfl, g2x, g2m, ⟨B2, id2, D2⟩, an⟩ := PR_scratchFound D1 hDr t1 t2 s1 e4 z1 z2 z4 y27 y28 y29
          have G2x := bgX_t gV g2x
          have G2m := bgM_t gW g2m
          have hR2 : ∀ Q : Int32 → rz_S → Prop, ((x2 = 0 → rz mM_opensNew 101 [(0, .ref 116), (1, .int (nI c)), (2, .int (nI f)), (3, .int (nI m)), (4, .int (nI st))] [] W2 (rz_i Q)) ∧ (¬ x2 = 0 → Q x2 W2)) → rz mM_opensNew 0 [(0, .ref 116), (1, .int (nI c)), (2, .int (nI f)), (3, .int (nI m)), (4, .int (nI st)), (5, .int (nI r))] [] Sm (rz_i Q) := fun Q h => hR Q ⟨fun _ => ⟨fun _ => ⟨fun z => absurd z d, fun _ => ⟨rin (by omega) (by omega), fun _ => rzx_I c2 h, fun z => absurd hcl2 z⟩⟩, fun z => absurd rfl z⟩, fun z => absurd le0 z⟩
          refine ⟨fun z => absurd z (by decide), fun _ => rzx_I c1 ?_⟩
          by_cases x0 : x2 = 0
          · subst x0
            exact tail V2 W2 B2 id2 G2x G2m D2 (fun z => (ans_z an rfl z).trans (hs3 z)) (fun Q h => hR2 Q ⟨fun _ => h, fun z => absurd rfl z⟩)
          · refine p_Dos_openToWrite_80 hch ⟨fun z => absurd z x0, fun _ => p_Dos_openToWrite_89 hch ⟨fun z => absurd z x0, fun _ => hK2 _ _ (hR2 _ ⟨fun z => absurd z x0, fun _ => ?_⟩)⟩⟩
            exact ⟨rfl, GX_b G2x, GM_b G2m, ⟨B2, id2, D2⟩, ans_t hs3 an, ch0 _ _ G2x G2m⟩
    · exact ⟨fun _ => tail V W B id1 gV gW D1 hs3 (fun Q h => hR Q ⟨fun _ => ⟨fun z => absurd z (by decide), fun _ => h⟩, fun z => absurd (by decide) z⟩), fun d => absurd f5 d⟩
