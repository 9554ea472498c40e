/-! open: a FILE that is there -/
theorem c_isClosed {S : rz_S} {e ty : Nat} (he : e < 4) (h : S.2 46 4 = nI e) (ht : S.1 47 (16 * e + 2) = nI ty) : rz_ev mDirectory_isClosed [.ref 46] S (rz_i (fun x S1 => x = (if nI ty < 128 then 0 else 1) ∧ S1 = S)) := by
  show rz _ 0 [(0, .ref 46)] [] _ _
  refine p_Directory_isClosed_0 (rz_toI (c_Directory_type he h) ?_)
  rw [ht]
  exact ⟨fun d => ⟨by rw [if_pos d], rfl⟩, fun d => ⟨by rw [if_neg d], rfl⟩⟩
theorem Chn_0 {M c : Nat} {V W : rz_S} (a : V.2 (48 + 4 * c) 0 = 0) (b : W.1 126 c = 0) : Chn M c V W := ⟨a.trans b.symm, Or.inl b⟩
theorem or_pair {c f m st M : Nat} {pr : Bool} {Sx Sm : rz_S} {B : Nat → Nat → Bool} {id : Option (Nat × Nat)} (hc : c < 15) (hD : Dk B pr id Sx Sm) (m1 : Sx.2 (48 + 4 * c) 0 = 0) (m2 : Sm.1 126 c = 0) (hm : m ≤ 10) (hfm : f + m ≤ 401) (hln : Sx.2 42 1 = nI m) (hnm : ∀ i, i < m → Sx.1 43 i = Sm.1 151 (f + i)) (hst : st ≤ 3) (h10 : Sx.2 39 10 = nI st) : PCi mDos_openToRead mM_opensOld [.ref 39, .ref (48 + 4 * c)] [.ref 116, .int (nI c), .int (nI f), .int (nI m), .int (nI st)] Sx Sm (opE c M pr Sx Sm) := by
  have hch : chP (48 + 4 * c) := ⟨by omega, by omega, by omega⟩
  have ecl : (nI c).toNatClampNeg = c := nI_clamp (by omega)
  have e64 : (64 * nI c : Int32) = nI (64 * c) := pk_mul 64 c
  have e49 : 48 + 4 * c + 1 = 49 + 4 * c := by omega
  refine PCi_of (fun K hK => ?_)
  have hK2 : ∀ x V, rz mM_opensOld 0 [(0, .ref 116), (1, .int (nI c)), (2, .int (nI f)), (3, .int (nI m)), (4, .int (nI st))] [] Sm (rz_i (opE c M pr Sx Sm x V)) → K x V := hK
  show rz _ 0 [(0, .ref 39), (1, .ref (48 + 4 * c))] [] _ _
  refine p_Dos_openToRead_0 hch (rz_toV c_rewind ?_)
  generalize hS : rz_uI (rz_uI (rz_uI (rz_uI (rz_uI Sx 46 1 7) 46 2 1) 46 3 1) 46 4 (-1)) 46 6 0 = S
  have sr : ∀ u z, u ≠ 46 → S.2 u z = Sx.2 u z := fun u z hu => by rw [← hS]; simp (disch := omega) only [uI1, fA2, rz_fA_n, rz_uI_n, rz_fA_s, rz_uI_s, pk_us]
  have sa : S.1 = Sx.1 := by rw [← hS]; rfl
  have gS : GX c Sx S := by rw [← hS]; exact GX_t (GX_u2 (by omega)) (GX_t (GX_u2 (by omega)) (GX_t (GX_u2 (by omega)) (GX_t (GX_u2 (by omega)) (GX_u2 (by omega)))))
  have DS : Dk B pr id S Sm := Dk_x hD (fun q _ _ => by rw [sa]) (fun u z hu => sr u z (by omega))
  have hP : fdP S Sm 0 42 m 151 401 f := ⟨by omega, pt42, hm, (sr 42 1 (by omega)).trans hln, rfl, by omega, fun _ => hfm, fun _ i hi => by rw [sa]; exact hnm i hi, ⟨by omega, by omega⟩, ⟨by omega, by omega⟩⟩
  obtain ⟨x, V, y, W, e1, e2, fx, fm, ⟨id1, D1⟩, hO⟩ := PR_find hP DS (by rw [← hS]; simp (disch := omega) only [uI1, fA2, rz_fA_n, rz_uI_n, rz_fA_s, rz_uI_s, pk_us]) (by rw [← hS]; simp (disch := omega) only [uI1, fA2, rz_fA_n, rz_uI_n, rz_fA_s, rz_uI_s, pk_us]) (by rw [← hS]; simp (disch := omega) only [uI1, fA2, rz_fA_n, rz_uI_n, rz_fA_s, rz_uI_s, pk_us]) (by rw [← hS]; simp (disch := omega) only [uI1, fA2, rz_fA_n, rz_uI_n, rz_fA_s, rz_uI_s, pk_us]) (by rw [← hS]; simp (disch := omega) only [uI1, fA2, rz_fA_n, rz_uI_n, rz_fA_s, rz_uI_s, pk_us])
  have gV : GX c Sx V := GX_t gS (GX_fd fx)
  have gW : GM c Sm W := GM_fd fm
  have v0 : V.2 (48 + 4 * c) 0 = 0 := (fx.2 _ 0 (by omega) (by omega) (by omega) (by omega)).trans ((sr _ 0 (by omega)).trans m1)
  have w0 : W.1 126 c = 0 := by rw [fm.1 126 (by omega) (by omega)]; exact m2
  have v10 : V.2 39 10 = nI st := (fx.2 39 10 (by omega) (by omega) (by omega) (by omega)).trans ((sr 39 10 (by omega)).trans h10)
  have s3 : ∀ z, S.2 3 z = Sx.2 3 z := fun z => sr 3 z (by omega)
  refine rzx_I (show rzx mDirectory_find [.ref 46, .int 0, .ref 42] S (some (.int x)) V from e1) ?_
  have hR : ∀ Q : Int32 → rz_S → Prop, ((y = (-1) → rz_ev mM_fault [.ref 116, .int 62, .int 0, .int 0] W (rz_i (fun xq9 Sq9 => Q xq9 Sq9))) ∧ (¬ y = (-1) → ((y = 0 → rx_in ((16 * (W.2 116 29)) + 2) 64 = true ∧ ((128 ≤ W.1 124 (((16 * (W.2 116 29)) + 2).toNatClampNeg) → ((nI st = 0 → rz mM_opensOld 99 [(0, .ref 116), (1, .int (nI c)), (6, .int (16 * (W.2 116 29)))] [] W (rz_i Q)) ∧ (¬ nI st = 0 → (((W.1 124 (((16 * (W.2 116 29)) + 2).toNatClampNeg)) &&& 3 = nI st → rz mM_opensOld 99 [(0, .ref 116), (1, .int (nI c)), (6, .int (16 * (W.2 116 29)))] [] W (rz_i Q)) ∧ (¬ (W.1 124 (((16 * (W.2 116 29)) + 2).toNatClampNeg)) &&& 3 = nI st → rz_ev mM_fault [.ref 116, .int 64, .int 0, .int 0] W (rz_i (fun xq7 Sq7 => Q xq7 Sq7))))))) ∧ (¬ 128 ≤ W.1 124 (((16 * (W.2 116 29)) + 2).toNatClampNeg) → rz_ev mM_fault [.ref 116, .int 60, .int 0, .int 0] W (rz_i (fun xq8 Sq8 => Q xq8 Sq8))))) ∧ (¬ y = 0 → Q y W)))) → rz mM_opensOld 0 [(0, .ref 116), (1, .int (nI c)), (2, .int (nI f)), (3, .int (nI m)), (4, .int (nI st))] [] Sm (rz_i Q) := fun Q h => p_M_opensOld_0 (rzx_I (show rzx mM_finds [.ref 116, .int 0, .ref 151, .int (nI f), .int (nI m)] Sm (some (.int y)) W from e2) h)
  rcases hO with ⟨xc, x0, hx, rfl, rfl, hf, h5, h33⟩ | ⟨hs, rfl, hDr, t, s, k, t1, t2, s1, k1, k6, z1, z2, z3, y1, y2, y3, hE⟩
  · have xne : ¬ nI xc = 0 := nI_ne0 (by omega) (by omega)
    refine ⟨fun d => absurd d xne, fun _ => hK2 _ _ (hR _ ⟨fun d => absurd d (nI_m1 (by omega)), fun _ => ⟨fun d => absurd d xne, fun _ => ?_⟩⟩)⟩
    exact ⟨rfl, gV, gW, ⟨B, id1, D1⟩, Or.inr ⟨xc, x0, hx, rfl, hf, h33.trans (s3 3)⟩, Chn_0 v0 w0⟩
  · have hs3 : ∀ z, V.2 3 z = Sx.2 3 z := fun z => (hs z).trans (s3 z)
    refine ⟨fun _ => ?_, fun d => absurd rfl d⟩
    rcases hE with ⟨rfl, f5, _, _, e, e4, z4, y29⟩ | ⟨rfl, f5, _⟩
    · refine ⟨fun d => absurd (f5.symm.trans d) (by decide), fun _ => ?_⟩
      obtain ⟨ty, bty, ety⟩ := (hDr (16 * e + 2) (by omega)).2
      have ety2 : W.1 124 (16 * e + 2) = nI ty := (hDr (16 * e + 2) (by omega)).1.symm.trans ety
      obtain ⟨ft, bft, eft⟩ := (hDr (16 * e + 3) (by omega)).2
      have eft2 : W.1 124 (16 * e + 3) = nI ft := (hDr (16 * e + 3) (by omega)).1.symm.trans eft
      obtain ⟨fs, bfs, efs⟩ := (hDr (16 * e + 4) (by omega)).2
      have efs2 : W.1 124 (16 * e + 4) = nI fs := (hDr (16 * e + 4) (by omega)).1.symm.trans efs
      have a3 : (nI ty &&& 3 : Int32) = nI (ty % 4) := pk_andN (n := ty) (by omega) 2 (by decide)
      have i16 : (16 * nI e : Int32) = nI (16 * e) := pk_mul 16 e
      rw [y29, i16, show (nI (16 * e) + 2 : Int32) = nI (16 * e + 2) from nI_add _ 2, nI_clamp (show 16 * e + 2 < 2 ^ 31 by omega), ety2, a3] at hR
      refine rz_toI (c_isClosed e4 z4 ety) ?_
      by_cases hcl : nI ty < 128
      · rw [if_pos hcl]
        refine ⟨fun _ => rz_toI (c_Status_set _ _ _) (hK2 _ _ (hR _ ⟨fun d => absurd d (by decide), fun _ => ⟨fun _ => ⟨rin (by omega) (by omega), fun d => absurd hcl (Int32.not_lt.mpr d), fun _ => rz_toI (c_M_fault _ _ _) ?_⟩, fun d => absurd rfl d⟩⟩)), fun d => absurd rfl d⟩
        exact op_flt 60 0 0 (by omega) (by omega) gV gW hs3 D1 (Chn_0 v0 w0)
      · rw [if_neg hcl]
        have hcl2 : 128 ≤ nI ty := Int32.not_lt.mp hcl
        -- past the TYPE
        have go : (∀ Q : Int32 → rz_S → Prop, rz mM_opensOld 99 [(0, .ref 116), (1, .int (nI c)), (6, .int (nI (16 * e)))] [] W (rz_i Q) → rz mM_opensOld 0 [(0, .ref 116), (1, .int (nI c)), (2, .int (nI f)), (3, .int (nI m)), (4, .int (nI st))] [] Sm (rz_i Q)) → rz mDos_openToRead 105 [(0, .ref 39), (1, .ref (48 + 4 * c))] [] V (rz_i K) := by
          intro h99
          refine p_Dos_openToRead_105 hch (rz_toI (c_firstTrack e4 z4) (rz_toI (c_firstSector e4 z4) ?_))
          rw [eft, efs]
          have h99b : ∀ Q : Int32 → rz_S → Prop, (rz_ev mM_isLegal [.int (nI ft), .int (nI fs)] W (rz_i (fun xq1 Sq1 => ((xq1 = 0 → rz_ev mM_fault [.ref 116, .int 66, .int (nI ft), .int (nI fs)] Sq1 (rz_i (fun xq6 Sq6 => Q xq6 Sq6))) ∧ (¬ xq1 = 0 → rz_ev mM_readBlock [.ref 116, .int (nI ft), .int (nI fs), .ref 127, .int (nI (64 * c))] Sq1 (rz_i (fun xq3 Sq3 => ((xq3 = 0 → rz_ev mM_begun [.ref 116, .int (nI c)] Sq3 (rz_v (fun Sq5 => rx_in (nI c) 15 = true ∧ Q 0 (rz_fA Sq5 126 (upd (Sq5.1 126) c 1))))) ∧ (¬ xq3 = 0 → Q xq3 Sq3)))))))))  → rz mM_opensOld 0 [(0, .ref 116), (1, .int (nI c)), (2, .int (nI f)), (3, .int (nI m)), (4, .int (nI st))] [] Sm (rz_i Q) := fun Q h => h99 Q (p_M_opensOld_99 (by
            rw [show (nI (16 * e) + 3 : Int32) = nI (16 * e + 3) from nI_add _ 3, show (nI (16 * e) + 4 : Int32) = nI (16 * e + 4) from nI_add _ 4, nI_clamp (show 16 * e + 3 < 2 ^ 31 by omega), nI_clamp (show 16 * e + 4 < 2 ^ 31 by omega), eft2, efs2, e64, ecl]
            exact ⟨rin (by omega) (by omega), rin (by omega) (by omega), h⟩))
          refine rz_toI (c_Disk_legal _ _) ⟨fun d => rz_toI (c_Status_set _ _ _) (hK2 _ _ (h99b _ (rz_toI (c_M_legal _ _) ⟨fun _ => rz_toI (c_M_fault _ _ _) ?_, fun z => absurd d z⟩))), fun d => ?_⟩
          · exact op_flt 66 ft fs (by omega) (by omega) gV gW hs3 D1 (Chn_0 v0 w0)
          · obtain ⟨u, v, u1, u2, v1, eu, ev⟩ := lgI_1 d
            have q0 : ft = u := (nI_eq (by omega) (by omega)).mp eu
            have q1 : fs = v := (nI_eq (by omega) (by have := (sct_b u1 u2).1; omega)).mp ev
            subst q0
            subst q1
            obtain ⟨x, V1, y, W1, x1, x2, rfl, xc, id2, rfl, hx, D2, rx, rm, hz, hnz⟩ := PR_read (a := 49 + 4 * c) (a' := 127) (at0 := 64 * c) (na := 960) D1 u1 u2 bfs (e49 ▸ chR hch) (by omega) rfl (by omega) (by omega) (by omega)
            rw [e49]
            refine rzx_I x1 ⟨fun x0 => ?_, fun x0 => ?_⟩
            · have xc0 : xc = 0 := (nI_eq (b := 0) (by omega) (by omega)).mp x0
              subst xc0
              obtain ⟨⟨dd, hd⟩, h3⟩ := hz rfl
              obtain ⟨_, V2, l1, rfl, l2, l3, l4, l5, l6, l7⟩ := rzx_ev (c_unfold (S := rz_uI V1 (48 + 4 * c) 0 1) hc (hd 0 (by omega)).1 (hd 1 (by omega)).1 (hd 0 (by omega)).2.2 (hd 1 (by omega)).2.2)
              obtain ⟨_, W2, k1, rfl, k2, k3, k4, k5, k6⟩ := rzx_ev (c_begun (S := W1) hc (hd 0 (by omega)).2.1 (hd 1 (by omega)).2.1 (hd 0 (by omega)).2.2 (hd 1 (by omega)).2.2)
              refine rzx_V l1 (hK2 _ _ (h99b _ (rz_toI (c_M_legal _ _) ⟨fun z => absurd z d, fun _ => rzx_I x2 ⟨fun _ => rzx_V k1 ⟨rin hc (by omega), ?_⟩, fun z => absurd rfl z⟩⟩)))
              have l3' : V2.1 = V1.1 := l3.trans rfl
              have l4' : ∀ u z, u ≠ 48 + 4 * c → V2.2 u z = V1.2 u z := fun u z hu => (l4 u z hu).trans (rz_uI_n (by omega))
              refine ⟨rfl, GX_t gV (GX_t (GX_rc hc rx) (GX_t GX_u ⟨l2, by rw [l3], fun z => l4 0 z (by omega)⟩)), GM_t gW (GM_t (GM_k rm) (GM_t ⟨k2, k4 152 (by omega) (by omega) (by omega), fun z _ => by rw [k3]⟩ (GM_g (q := 126) (by omega) (fun d hd => by simp (disch := omega) only [uI1, fA2, rz_fA_n, rz_uI_n, rz_fA_s, rz_uI_s, pk_us, pk_un])))), ⟨B, id2, Dk_mf (Dk_m (Dk_x D2 (fun q _ _ => by rw [l3']) (fun u z hu => l4' u z (by omega))) (fun q _ _ => k4 q (by omega) (by omega) (by omega)) (fun z _ => by rw [k3])) (by omega)⟩, Or.inl ⟨rfl, fun z => (l4' 3 z (by omega)).trans ((h3 z).trans (hs3 z))⟩, ?_, Or.inr (Or.inl ⟨by simp (disch := omega) only [uI1, fA2, rz_fA_n, rz_uI_n, rz_fA_s, rz_uI_s, pk_us], fun k hk => ?_, ?_⟩)⟩
              · rw [l5]; simp (disch := omega) only [uI1, fA2, rz_fA_n, rz_uI_n, rz_fA_s, rz_uI_s, pk_us]
              · simp (disch := omega) only [uI1, fA2, rz_fA_n, rz_uI_n, rz_fA_s, rz_uI_s, pk_us]; rw [l3', k4 127 (by omega) (by omega) (by omega)]
                exact ⟨(hd k hk).1.trans (hd k hk).2.1.symm, dd k, (hd k hk).2.2, (hd k hk).1⟩
              · simp (disch := omega) only [uI1, fA2, rz_fA_n, rz_uI_n, rz_fA_s, rz_uI_s, pk_us]
                rcases l7 with ⟨p1, p2, p3⟩ | ⟨p1, p2, p3⟩
                · rcases k6 with ⟨_, q2, q3⟩ | ⟨q1, _, _⟩
                  · exact ⟨2, min 63 (dd 1) + 1, max 1 (min 63 (dd 1)), by omega, by omega, by omega, l6, k5, p3, q3, by omega, Or.inr ⟨p2, q2⟩⟩
                  · exact absurd p1 q1
                · rcases k6 with ⟨q1, _, _⟩ | ⟨_, q2, q3⟩
                  · exact absurd q1 p1
                  · exact ⟨2, 64, 63, by omega, by omega, by omega, l6, k5, p3, q3, by omega, Or.inl ⟨p2, q2, rfl⟩⟩
            · have xc0 : xc ≠ 0 := fun z => x0 (by rw [z]; rfl)
              obtain ⟨o1, o2, o3, o4⟩ := hnz xc0
              refine hK2 _ _ (h99b _ (rz_toI (c_M_legal _ _) ⟨fun z => absurd z d, fun _ => rzx_I x2 ⟨fun z => absurd z x0, fun _ => ?_⟩⟩))
              exact ⟨rfl, GX_t gV (GX_rc hc rx), GM_t gW (GM_k rm), ⟨B, id2, D2⟩, Or.inr ⟨xc, xc0, hx, rfl, o3, o4.trans (hs3 3)⟩, Chn_0 ((rx.2 _ 0 (by omega) (by omega) (by omega)).trans v0) (by rw [rm.1 126 (by omega) (by omega)]; exact w0)⟩
        refine ⟨fun d => absurd d (by decide), fun _ => ?_⟩
        rw [v10]
        refine ⟨fun d => go (fun Q h => hR Q ⟨fun z => absurd z (by decide), fun _ => ⟨fun _ => ⟨rin (by omega) (by omega), fun _ => ⟨fun _ => h, fun z => absurd d z⟩, fun z => absurd hcl2 z⟩, fun z => absurd rfl z⟩⟩), fun d => rz_toI (c_Directory_type e4 z4) ?_⟩
        rw [ety, a3]
        refine ⟨fun q => go (fun Q h => hR Q ⟨fun z => absurd z (by decide), fun _ => ⟨fun _ => ⟨rin (by omega) (by omega), fun _ => ⟨fun z => absurd z d, fun _ => ⟨fun _ => h, fun z => absurd q.symm z⟩⟩, fun z => absurd hcl2 z⟩, fun z => absurd rfl z⟩⟩), fun q => rz_toI (c_Status_set _ _ _) (hK2 _ _ (hR _ ⟨fun z => absurd z (by decide), fun _ => ⟨fun _ => ⟨rin (by omega) (by omega), fun _ => ⟨fun z => absurd z d, fun _ => ⟨fun z => absurd z.symm q, fun _ => rz_toI (c_M_fault _ _ _) ?_⟩⟩, fun z => absurd hcl2 z⟩, fun z => absurd rfl z⟩⟩))⟩
        exact op_flt 64 0 0 (by omega) (by omega) gV gW hs3 D1 (Chn_0 v0 w0)
    · refine ⟨fun _ => rz_toI (c_Status_set _ _ _) (hK2 _ _ (hR _ ⟨fun _ => rz_toI (c_M_fault _ _ _) ?_, fun d => absurd rfl d⟩)), fun d => absurd f5 d⟩
      exact op_flt 62 0 0 (by omega) (by omega) gV gW hs3 D1 (Chn_0 v0 w0)
