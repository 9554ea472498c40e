/-! makeLine against title and next -/
def mlO (c i n M : Nat) (pr : Bool) (Sx Sm W : rz_S) (x : Int32) (V1 : rz_S) : Prop := (x = 0 ∧ ∃ W1, (∀ Q : Int32 → rz_S → Prop, rz mM_readsList 2 [(0, .ref 116), (1, .int (nI c)), (2, .int (nI n)), (3, .int 1)] [] W1 (rz_i Q) → rz mM_readsList 2 [(0, .ref 116), (1, .int (nI c)), (2, .int (nI n)), (3, .int 1)] [] W (rz_i Q)) ∧ rcI c i pr Sx Sm V1 W1 ∧ V1.2 (48 + 4 * c) 0 = 3 ∧ W1.1 126 c = 3 ∧ ChL c V1 W1 ∧ V1.2 (48 + 4 * c) 2 < V1.2 (48 + 4 * c) 3) ∨
     (¬ x = 0 ∧ ∃ W1, (∀ Q : Int32 → rz_S → Prop, Q x W1 → rz mM_readsList 2 [(0, .ref 116), (1, .int (nI c)), (2, .int (nI n)), (3, .int 1)] [] W (rz_i Q)) ∧ rcE c M pr Sx Sm (nI i) (rz_uI V1 (48 + 4 * c) 0 0) x W1)
theorem c_startLine {S : rz_S} {c : Nat} (hc : c < 15) : rz_ev mChannel_startLine [.ref (48 + 4 * c)] S (rz_v (fun S1 => S1 = rz_uI (rz_uI S (48 + 4 * c) 2 0) (48 + 4 * c) 3 0)) := by
  show rz _ 0 [(0, .ref (48 + 4 * c))] [] _ _
  exact p_Channel_startLine_0 ⟨by omega, by omega, by omega⟩ rfl
theorem ml_pair {Sx Sm V W : rz_S} {c i n M : Nat} {pr : Bool} (hc : c < 15) (hn : n ≤ 300) (hin : i < n) (hI : rcI c i pr Sx Sm V W) (m1 : V.2 (48 + 4 * c) 0 = 3) (m2 : W.1 126 c = 3) (hL : ChL c V W) (h4 : V.2 (48 + 4 * c) 4 = 0) (hpe : ¬ V.2 (48 + 4 * c) 2 < V.2 (48 + 4 * c) 3) : ∃ x V1, rzx mDos_makeLine [.ref 39, .ref (48 + 4 * c)] V (some (.int x)) V1 ∧ mlO c i n M pr Sx Sm W x V1 := by
  have hch : chP (48 + 4 * c) := ⟨by omega, by omega, by omega⟩
  have ecl : (nI c).toNatClampNeg = c := nI_clamp (by omega)
  obtain ⟨hpat, ⟨pl, e, b1, b2, b3, b4, b5, b6, b7⟩, hst⟩ := id hL
  obtain ⟨a1, a2, ⟨B, id, a3⟩, a4, a5, a6, a7, a8, a9⟩ := id hI
  have hpl : pl = e := by
    rw [b3, b5] at hpe
    have : ¬ pl < e := fun z => hpe (nI_lt z (by omega))
    omega
  subst hpl
  have nle : ¬ nI n ≤ W.2 116 67 := fun d => by
    rw [a8] at d
    have := (nI_leI (a := n) (b := i) (by omega) (by omega)).mp d
    omega
  generalize hV0 : rz_uI (rz_uI V (48 + 4 * c) 2 0) (48 + 4 * c) 3 0 = V0
  generalize hW0 : rz_uI W 116 70 0 = W0
  have gx0 : mlX c V V0 := by rw [← hV0]; exact mlX_t (mlX_u (by omega)) (mlX_u (by omega))
  have gm0 : mlM c W W0 := by rw [← hW0]; exact mlM_u rfl
  have D0 : Dk B pr id V0 W0 := by rw [← hV0, ← hW0]; exact Dk_mu (Dk_xu (Dk_xu a3 (by omega)) (by omega)) (by omega)
  have v0z : ∀ z, z ≠ 2 → z ≠ 3 → V0.2 (48 + 4 * c) z = V.2 (48 + 4 * c) z := fun z x y => by rw [← hV0]; simp (disch := omega) only [uI1, fA2, rz_fA_n, rz_uI_n, rz_fA_s, rz_uI_s, pk_us]
  have v02 : V0.2 (48 + 4 * c) 2 = 0 := by rw [← hV0]; simp (disch := omega) only [uI1, fA2, rz_fA_n, rz_uI_n, rz_fA_s, rz_uI_s, pk_us]
  have v03 : V0.2 (48 + 4 * c) 3 = 0 := by rw [← hV0]; simp (disch := omega) only [uI1, fA2, rz_fA_n, rz_uI_n, rz_fA_s, rz_uI_s, pk_us]
  have v0s : ∀ z, V0.2 3 z = V.2 3 z := fun z => by rw [← hV0]; simp (disch := omega) only [uI1, fA2, rz_fA_n, rz_uI_n, rz_fA_s, rz_uI_s, pk_us]
  have v0r : ∀ u z, u ≠ 48 + 4 * c → V0.2 u z = V.2 u z := fun u z hu => by rw [← hV0]; simp (disch := omega) only [uI1, fA2, rz_fA_n, rz_uI_n, rz_fA_s, rz_uI_s, pk_us]
  have v0a : V0.1 = V.1 := by rw [← hV0]; rfl
  have w0a : W0.1 = W.1 := by rw [← hW0]; rfl
  have w070 : W0.2 116 70 = 0 := by rw [← hW0]; simp (disch := omega) only [uI1, fA2, rz_fA_n, rz_uI_n, rz_fA_s, rz_uI_s, pk_us]
  have start : rz_ev mChannel_startLine [.ref (48 + 4 * c)] V (rz_v (fun S1 => S1 = V0)) := by rw [← hV0]; exact c_startLine hc
  have right : ∀ Q : Int32 → rz_S → Prop, ((W.1 139 c = 0 → rz_ev mM_title [.ref 116, .int (nI c)] W0 (rz_i (fun x S => rz mM_readsList 140 [(0, .ref 116), (1, .int (nI c)), (2, .int (nI n)), (3, .int 1)] [.int x] S (rz_i Q)))) ∧ (W.1 139 c = 1 → rz_ev mM_next [.ref 116, .int (nI c)] W0 (rz_i (fun x S => rz mM_readsList 140 [(0, .ref 116), (1, .int (nI c)), (2, .int (nI n)), (3, .int 1)] [.int x] S (rz_i Q))))) → (W.1 139 c = 0 ∨ W.1 139 c = 1) → rz mM_readsList 2 [(0, .ref 116), (1, .int (nI c)), (2, .int (nI n)), (3, .int 1)] [] W (rz_i Q) := fun Q h h01 => by
    refine p_M_readsList_2 ⟨fun d => absurd d (by decide), fun _ => ⟨fun d => absurd d nle, fun _ => ⟨rin hc (by omega), ?_⟩⟩⟩
    rw [ecl, b4, b6, hW0]
    refine ⟨fun _ => ⟨fun d => ?_, fun _ => ⟨fun d => h.1 d, fun d => h.2 ?_⟩⟩, fun d => absurd (nI_le (a := pl) (b := pl) (by omega) (by omega)) d⟩
    · rcases h01 with q | q
      · exact absurd (q.symm.trans d) (by decide)
      · exact absurd (q.symm.trans d) (by decide)
    · rcases h01 with q | q
      · exact absurd q d
      · exact q
  rcases hst with ⟨s15, _, s139⟩ | ⟨s15, _, s139, t, s, b, e, t1, t2, t3, t4, t5, t6, x10, x11, x12, x13, y0, y1, y2, y3⟩ | ⟨z, _⟩
  · -- the title
    obtain ⟨x, V2, y, W2, e1, e2, rfl, cx, cm, ⟨id2, D2⟩, an, mp⟩ := PR_load D0
    have lb2 : LB c V2 [] := ⟨(cx.2 _ 3 (by omega) (by omega) (by omega)).trans v03, fun j hj => by simp at hj⟩
    obtain ⟨_, V3, l3, rfl, q3, g3⟩ := rzx_ev (c_addTitle hc lb2)
    generalize hV4 : rz_uI (rz_uI (rz_uI (rz_uI (rz_uI V3 46 1 7) 46 2 1) 46 3 1) 46 4 (-1)) 46 6 0 = V4
    have v41 : V4.2 46 1 = 7 := by rw [← hV4]; simp (disch := omega) only [uI1, fA2, rz_fA_n, rz_uI_n, rz_fA_s, rz_uI_s, pk_us]
    have v42 : V4.2 46 2 = 1 := by rw [← hV4]; simp (disch := omega) only [uI1, fA2, rz_fA_n, rz_uI_n, rz_fA_s, rz_uI_s, pk_us]
    have v43 : V4.2 46 3 = 1 := by rw [← hV4]; simp (disch := omega) only [uI1, fA2, rz_fA_n, rz_uI_n, rz_fA_s, rz_uI_s, pk_us]
    have v44 : V4.2 46 4 = -1 := by rw [← hV4]; simp (disch := omega) only [uI1, fA2, rz_fA_n, rz_uI_n, rz_fA_s, rz_uI_s, pk_us]
    have v4r : ∀ u z, u ≠ 46 → V4.2 u z = V3.2 u z := fun u z hu => by rw [← hV4]; simp (disch := omega) only [uI1, fA2, rz_fA_n, rz_uI_n, rz_fA_s, rz_uI_s, pk_us]
    have v4a : V4.1 = V3.1 := by rw [← hV4]; rfl
    have gx4 : mlX c V3 V4 := by rw [← hV4]; exact mlX_t mlX_v (mlX_t mlX_v (mlX_t mlX_v (mlX_t mlX_v mlX_v)))
    generalize hV5 : rz_uI (rz_uI (rz_uI (rz_uI (rz_uI V4 (48 + 4 * c) 10 7) (48 + 4 * c) 11 1) (48 + 4 * c) 12 1) (48 + 4 * c) 13 (-1)) (48 + 4 * c) 15 1 = V5
    have gx5 : mlX c V4 V5 := by rw [← hV5]; exact mlX_t (mlX_u (by omega)) (mlX_t (mlX_u (by omega)) (mlX_t (mlX_u (by omega)) (mlX_t (mlX_u (by omega)) (mlX_u (by omega)))))
    have v5r : ∀ u z, u ≠ 48 + 4 * c → V5.2 u z = V4.2 u z := fun u z hu => by rw [← hV5]; simp (disch := omega) only [uI1, fA2, rz_fA_n, rz_uI_n, rz_fA_s, rz_uI_s, pk_us]
    have v5k : ∀ z, z < 10 → V5.2 (48 + 4 * c) z = V4.2 (48 + 4 * c) z := fun z hz => by rw [← hV5]; simp (disch := omega) only [uI1, fA2, rz_fA_n, rz_uI_n, rz_fA_s, rz_uI_s, pk_us]
    have v5a : V5.1 = V4.1 := by rw [← hV5]; rfl
    have hLeft : rz_ev mDos_makeLine [.ref 39, .ref (48 + 4 * c)] V (rz_i (fun x' S1 => x' = x ∧ S1 = V5)) := by
      show rz _ 0 [(0, .ref 39), (1, .ref (48 + 4 * c))] [] _ _
      refine p_Dos_makeLine_0 hch (rz_toV start ⟨fun _ => rzx_I e1 (rzx_V l3 (rz_toV c_rewind ?_)), fun d => absurd ((v0z 15 (by omega) (by omega)).trans s15) d⟩)
      rw [hV4]
      refine rz_toV (c_keepEntry hc) ?_
      rw [v41, v42, v43, v44, hV5]
      exact ⟨rfl, rfl⟩
    obtain ⟨_, V5, el, x, rfl, rfl, rfl⟩ := rzx_ev hLeft
    refine ⟨_, _, el, ?_⟩
    have gX : mlX c V V5 := mlX_t gx0 (mlX_t (mlX_ch cx) (mlX_t (mlX_ln g3) (mlX_t gx4 gx5)))
    have gM : mlM c W W2 := mlM_t gm0 (mlM_ch cm)
    have s53 : ∀ z, V5.2 3 z = V2.2 3 z := fun z => (v5r 3 z (by omega)).trans ((v4r 3 z (by omega)).trans (g3.2 3 z (by omega)))
    have D5 : Dk B pr id2 V5 W2 := Dk_x D2 (fun q p1 p2 => by rw [v5a, v4a, g3.1 q (by omega)]) (fun u z hu => (v5r u z (by omega)).trans ((v4r u z (by omega)).trans (g3.2 u z (by omega))))
    by_cases x0 : x = 0
    · subst x0
      have hmp := mp rfl
      have hst2 : ∀ z, V2.2 3 z = V0.2 3 z := by
        rcases an with ⟨_, q⟩ | ⟨xc, q1, q2, q3', _⟩
        · exact q
        · exact absurd ((nI_eq (a := 0) (by omega) (by omega)).mp q3').symm q1
      have wb2 : WB W2 [] := ⟨(cm.2 116 70 (by omega)).trans w070, fun j hj => by simp at hj⟩
      have hRt : rz_ev mM_title [.ref 116, .int (nI c)] W0 (rz_i (fun y S1 => y = 0 ∧ ∃ S2, WB S2 (ttl (W2.1 123)) ∧ wbM W2 S2 ∧ S1 = rz_fA (rz_fA (rz_fA (rz_fA (rz_fA S2 139 (upd (S2.1 139) c 1)) 140 (upd (S2.1 140) c 7)) 141 (upd (S2.1 141) c 1)) 142 (upd (S2.1 142) c 1)) 143 (upd (S2.1 143) c 0))) := by
        show rz _ 0 [(0, .ref 116), (1, .int (nI c))] [] _ _
        refine p_M_title_0 (rzx_I e2 ⟨fun _ => rz_useV (d_says wb2 (by simp) _) (fun S1 q => ?_), fun d => absurd rfl d⟩)
        exact lp_mtitle (G := W2.1 123) hc 10 0 S1 _ (by omega) (q.2.1 123 (by omega)) q.1 (by simp) (fun S2 h2 f2 => ⟨rfl, S2, wb_c h2 (by rw [ttl]; simp), wbM_t q.2 f2, rfl⟩)
      obtain ⟨_, W3, er, _, rfl, rfl, S2, wS, fS, hW3⟩ := rzx_ev hRt
      have et : ttl (V2.1 45) = ttl (W2.1 123) := ttl_c (fun j hj => (hmp j hj).1)
      have gW3 : mlM c S2 W3 := by
        rw [hW3]
        exact mlM_t (mlM_g (q := 139) (by omega) (fun d hd => by simp (disch := omega) only [uI1, fA2, rz_fA_n, rz_uI_n, rz_fA_s, rz_uI_s, pk_us, pk_un])) (mlM_t (mlM_g (q := 140) (by omega) (fun d hd => by simp (disch := omega) only [uI1, fA2, rz_fA_n, rz_uI_n, rz_fA_s, rz_uI_s, pk_us, pk_un])) (mlM_t (mlM_g (q := 141) (by omega) (fun d hd => by simp (disch := omega) only [uI1, fA2, rz_fA_n, rz_uI_n, rz_fA_s, rz_uI_s, pk_us, pk_un])) (mlM_t (mlM_g (q := 142) (by omega) (fun d hd => by simp (disch := omega) only [uI1, fA2, rz_fA_n, rz_uI_n, rz_fA_s, rz_uI_s, pk_us, pk_un])) (mlM_g (q := 143) (by omega) (fun d hd => by simp (disch := omega) only [uI1, fA2, rz_fA_n, rz_uI_n, rz_fA_s, rz_uI_s, pk_us, pk_un])))))
      have w3q : ∀ q, ¬ (139 ≤ q ∧ q ≤ 143) → W3.1 q = S2.1 q := fun q hq => by rw [hW3]; simp (disch := omega) only [uI1, fA2, rz_fA_n, rz_uI_n, rz_fA_s, rz_uI_s, pk_us]
      have w32 : W3.2 = S2.2 := by rw [hW3]; rfl
      obtain ⟨W1, r1, r2⟩ := ml_ok (n := n) (l := ttl (V2.1 45)) (W2 := W3) hc hI m1 m2 hL gX (mlM_t gM (mlM_t (mlM_wb fS) gW3)) ⟨B, id2, Dk_m D5 (fun q p1 p2 => by rw [w3q q (by omega), fS.1 q (by omega)]) (fun z hz => by rw [w32]; exact fS.2 116 z (by omega))⟩ (fun z => (s53 z).trans ((hst2 z).trans (v0s z))) ((v5k 2 (by omega)).trans ((v4r _ 2 (by omega)).trans ((g3.2 _ 2 (by omega)).trans ((cx.2 _ 2 (by omega) (by omega) (by omega)).trans v02)))) ⟨(v5k 3 (by omega)).trans ((v4r _ 3 (by omega)).trans q3.1), by rw [v5a, v4a]; exact q3.2⟩ ⟨by rw [w32, et]; exact wS.1, by rw [w3q 153 (by omega), et]; exact wS.2⟩ (by rw [ttl]; simp [tlr_l]) (bl_ttl (fun k hk => (hmp k hk).2)) (Or.inl ⟨by rw [← hV5]; simp (disch := omega) only [uI1, fA2, rz_fA_n, rz_uI_n, rz_fA_s, rz_uI_s, pk_us], (v5k 4 (by omega)).trans ((v4r _ 4 (by omega)).trans ((g3.2 _ 4 (by omega)).trans ((cx.2 _ 4 (by omega) (by omega) (by omega)).trans ((v0z 4 (by omega) (by omega)).trans h4)))), by rw [hW3]; simp (disch := omega) only [uI1, fA2, rz_fA_n, rz_uI_n, rz_fA_s, rz_uI_s, pk_us], 7, 1, 1, 0, by omega, by omega, by decide, by omega, by omega, by omega, by rw [← hV5]; simp (disch := omega) only [uI1, fA2, rz_fA_n, rz_uI_n, rz_fA_s, rz_uI_s, pk_us]; rfl, by rw [← hV5]; simp (disch := omega) only [uI1, fA2, rz_fA_n, rz_uI_n, rz_fA_s, rz_uI_s, pk_us]; rfl, by rw [← hV5]; simp (disch := omega) only [uI1, fA2, rz_fA_n, rz_uI_n, rz_fA_s, rz_uI_s, pk_us]; rfl, by rw [← hV5]; simp (disch := omega) only [uI1, fA2, rz_fA_n, rz_uI_n, rz_fA_s, rz_uI_s, pk_us]; rfl, by rw [hW3]; simp (disch := omega) only [uI1, fA2, rz_fA_n, rz_uI_n, rz_fA_s, rz_uI_s, pk_us]; rfl, by rw [hW3]; simp (disch := omega) only [uI1, fA2, rz_fA_n, rz_uI_n, rz_fA_s, rz_uI_s, pk_us]; rfl, by rw [hW3]; simp (disch := omega) only [uI1, fA2, rz_fA_n, rz_uI_n, rz_fA_s, rz_uI_s, pk_us]; rfl, by rw [hW3]; simp (disch := omega) only [uI1, fA2, rz_fA_n, rz_uI_n, rz_fA_s, rz_uI_s, pk_us]; rfl⟩)
      exact Or.inl ⟨rfl, W1, fun Q h => right Q ⟨fun _ => rzx_I er (r1 Q h), fun d => absurd (s139.symm.trans d) (by decide)⟩ (Or.inl s139), r2⟩
    · obtain ⟨W1, r1, r2⟩ := ml_no (n := n) (M := M) (W2 := W2) (V1 := V5) hc (by omega) x0 hI gX gM ⟨B, id2, D5⟩ (ans_f (ans_t v0s an) s53 (fun _ => rfl))
      refine Or.inr ⟨x0, W1, fun Q h => right Q ⟨fun _ => ?_, fun d => absurd (s139.symm.trans d) (by decide)⟩ (Or.inl s139), r2⟩
      show rz _ 0 [(0, .ref 116), (1, .int (nI c))] [] _ _
      exact p_M_title_0 (rzx_I e2 ⟨fun d => absurd d x0, fun _ => r1 Q h⟩)
  · -- an ENTRY, or the end
    obtain ⟨pn, p1, p2, p3, p4, p5⟩ := hpat
    have goto : rz_ev mDos_goToEntryOf [.ref 39, .ref (48 + 4 * c)] V0 (rz_v (fun S1 => S1 = rz_uI (rz_uI (rz_uI (rz_uI (rz_uI V0 46 1 (nI t)) 46 2 (nI s)) 46 3 (nI b)) 46 4 (nI e - 1)) 46 6 0)) := by
      show rz _ 0 [(0, .ref 39), (1, .ref (48 + 4 * c))] [] _ _
      refine p_Dos_goToEntryOf_0 hch ?_
      rw [v0z 10 (by omega) (by omega), v0z 11 (by omega) (by omega), v0z 12 (by omega) (by omega), v0z 13 (by omega) (by omega), x10, x11, x12, x13]
      exact rz_toV (c_goTo _ _ _ _) rfl
    generalize hV1 : rz_uI (rz_uI (rz_uI (rz_uI (rz_uI V0 46 1 (nI t)) 46 2 (nI s)) 46 3 (nI b)) 46 4 (nI e - 1)) 46 6 0 = V1 at goto
    have v1r : ∀ u z, u ≠ 46 → V1.2 u z = V0.2 u z := fun u z hu => by rw [← hV1]; simp (disch := omega) only [uI1, fA2, rz_fA_n, rz_uI_n, rz_fA_s, rz_uI_s, pk_us]
    have v1a : V1.1 = V0.1 := by rw [← hV1]; rfl
    have gx1 : mlX c V0 V1 := by rw [← hV1]; exact mlX_t mlX_v (mlX_t mlX_v (mlX_t mlX_v (mlX_t mlX_v mlX_v)))
    have D1 : Dk B pr id V1 W0 := Dk_x D0 (fun q _ _ => by rw [v1a]) (fun u z hu => v1r u z (by omega))
    obtain ⟨x, V2, e1, W2, fx, fm, ⟨id2, D2⟩, hO⟩ := PR_next (Sx := V1) (Sm := W0) (n := pn) (t := t) (s := s) (k := b) (e := e) hc p2 ((v1r _ 1 (by omega)).trans ((v0r _ 1 (by omega)).trans p3)) (by rw [w0a]; exact p4) (fun i hi => by rw [v1a, v0a, w0a]; exact p5 i hi) D1 t1 t2 t3 t4 t5 t6 (by rw [← hV1]; simp (disch := omega) only [uI1, fA2, rz_fA_n, rz_uI_n, rz_fA_s, rz_uI_s, pk_us]) (by rw [← hV1]; simp (disch := omega) only [uI1, fA2, rz_fA_n, rz_uI_n, rz_fA_s, rz_uI_s, pk_us]) (by rw [← hV1]; simp (disch := omega) only [uI1, fA2, rz_fA_n, rz_uI_n, rz_fA_s, rz_uI_s, pk_us]) (by rw [← hV1]; simp (disch := omega) only [uI1, fA2, rz_fA_n, rz_uI_n, rz_fA_s, rz_uI_s, pk_us]; rw [Int32.sub_add_cancel]) (by rw [← hV1]; simp (disch := omega) only [uI1, fA2, rz_fA_n, rz_uI_n, rz_fA_s, rz_uI_s, pk_us]) (by rw [w0a]; exact y0) (by rw [w0a]; exact y1) (by rw [w0a]; exact y2) (by rw [w0a]; exact y3)
    have g2 : mlX c V V2 := mlX_t gx0 (mlX_t gx1 (mlX_fd fx))
    have gM2 : mlM c W W2 := mlM_t gm0 (mlM_nx fm)
    have k2z : ∀ z, z ≠ 2 → z ≠ 3 → V2.2 (48 + 4 * c) z = V.2 (48 + 4 * c) z := fun z p q => (fx.2 _ z (by omega) (by omega) (by omega) (by omega)).trans ((v1r _ z (by omega)).trans (v0z z p q))
    have k22 : V2.2 (48 + 4 * c) 2 = 0 := (fx.2 _ 2 (by omega) (by omega) (by omega) (by omega)).trans ((v1r _ 2 (by omega)).trans v02)
    have k23 : V2.2 (48 + 4 * c) 3 = 0 := (fx.2 _ 3 (by omega) (by omega) (by omega) (by omega)).trans ((v1r _ 3 (by omega)).trans v03)
    have w270 : W2.2 116 70 = 0 := (fm.2.2 116 70 (by omega)).trans w070
    have st1 : ∀ z, V1.2 3 z = V.2 3 z := fun z => (v1r 3 z (by omega)).trans (v0s z)
    have begin_ : ∀ K : Int32 → rz_S → Prop, ((x = 0 → ((V2.2 46 5 = 0 → rz mDos_makeLine 94 [(0, .ref 39), (1, .ref (48 + 4 * c)), (2, .int x)] [] V2 (rz_i K)) ∧ (¬ V2.2 46 5 = 0 → rz_ev mChannel_keepEntry [.ref (48 + 4 * c), .ref 46] V2 (rz_v (fun Sq7 => rz_ev mDos_addEntry [.ref 39, .ref (48 + 4 * c)] Sq7 (rz_v (fun Sq8 => K x Sq8))))))) ∧ (¬ x = 0 → rz mDos_makeLine 94 [(0, .ref 39), (1, .ref (48 + 4 * c)), (2, .int x)] [] V2 (rz_i K))) → rz_ev mDos_makeLine [.ref 39, .ref (48 + 4 * c)] V (rz_i K) := fun K h => by
      show rz _ 0 [(0, .ref 39), (1, .ref (48 + 4 * c))] [] _ _
      refine p_Dos_makeLine_0 hch (rz_toV start ⟨fun d => ?_, fun _ => rz_toV goto ?_⟩)
      · rw [v0z 15 (by omega) (by omega), s15] at d
        exact absurd d (by decide)
      · rw [show 48 + 4 * c + 2 = 50 + 4 * c by omega]
        exact rzx_I e1 h
    rcases hO with ⟨xc, n0, hx, rfl, hf, h33, hR⟩ | ⟨hs, rfl, f5, hR⟩ | ⟨hs, rfl, f5, hDr, t', s', k', e', q1, q2, q3, q4, q5, q6, z1, z2, z3, z4, w1, w2, w3, w4, hR⟩
    · have xne : ¬ nI xc = 0 := nI_ne0 (by omega) (by omega)
      have hLeft : rz_ev mDos_makeLine [.ref 39, .ref (48 + 4 * c)] V (rz_i (fun x' S1 => x' = nI xc ∧ S1 = V2)) := begin_ _ ⟨fun d => absurd d xne, fun _ => p_Dos_makeLine_94 hch ⟨fun d => absurd d xne, fun _ => ⟨rfl, rfl⟩⟩⟩
      obtain ⟨_, V2, el, _, rfl, rfl, rfl⟩ := rzx_ev hLeft
      obtain ⟨W1, r1, r2⟩ := ml_no (n := n) (M := M) (W2 := W2) hc (by omega) xne hI g2 gM2 ⟨B, id2, D2⟩ (Or.inr ⟨xc, n0, hx, rfl, hf, h33.trans (st1 3)⟩)
      exact ⟨_, _, el, Or.inr ⟨xne, W1, fun Q h => right Q ⟨fun d => absurd (s139.symm.trans d) (by decide), fun _ => hR _ (r1 Q h)⟩ (Or.inr s139), r2⟩⟩
    · -- the end
      obtain ⟨x, V3, y, W3, e3, e4, rfl, cx, cm, ⟨id3, D3⟩, an, mp⟩ := PR_load D2
      have lb3 : LB c V3 [] := ⟨(cx.2 _ 3 (by omega) (by omega) (by omega)).trans k23, fun j hj => by simp at hj⟩
      have g3 : mlX c V V3 := mlX_t g2 (mlX_ch cx)
      have gM3 : mlM c W W3 := mlM_t gM2 (mlM_ch cm)
      by_cases x0 : x = 0
      · subst x0
        have hmp := mp rfl
        have hst3 : ∀ z, V3.2 3 z = V2.2 3 z := by
          rcases an with ⟨_, q⟩ | ⟨xc, q1, q2, q3', _⟩
          · exact q
          · exact absurd ((nI_eq (a := 0) (by omega) (by omega)).mp q3').symm q1
        have hF : ∀ k, k < 64 → W3.1 123 k = nI (W3.1 123 k).toNatClampNeg ∧ (W3.1 123 k).toNatClampNeg < 256 := fun k hk => by
          obtain ⟨m, hm, em⟩ := (hmp k hk).2
          rw [← (hmp k hk).1, em, nI_clamp (by omega)]
          exact ⟨rfl, hm⟩
        have hsm := sm_eq (F := fun k => (W3.1 123 k).toNatClampNeg) (fun k hk => (hF k hk).2)
        have hs11 : smI (V3.1 45) 11 = nI (smM (fun k => (W3.1 123 k).toNatClampNeg) 12) := by
          rw [smN_e (F := fun k => (W3.1 123 k).toNatClampNeg) (fun k hk => (hmp k hk).1.trans (hF k hk).1) 11 (by omega), hsm.1]
        have hv : smM (fun k => (W3.1 123 k).toNatClampNeg) 12 < 10000 := hsm.1 ▸ hsm.2
        obtain ⟨_, V4, l4, rfl, lb4, g4⟩ := rzx_ev (c_addFree hc hv hs11 lb3)
        have hLeft : rz_ev mDos_makeLine [.ref 39, .ref (48 + 4 * c)] V (rz_i (fun x' S1 => x' = 0 ∧ S1 = rz_uI V4 (48 + 4 * c) 4 1)) := begin_ _ ⟨fun _ => ⟨fun _ => p_Dos_makeLine_94 hch ⟨fun _ => rzx_I e3 (rzx_V l4 ⟨rfl, rfl⟩), fun d => absurd rfl d⟩, fun d => absurd f5 d⟩, fun d => absurd rfl d⟩
        obtain ⟨_, V5, el, _, rfl, rfl, hV5⟩ := rzx_ev hLeft
        have wb3 : WB W3 [] := ⟨(cm.2 116 70 (by omega)).trans w270, fun j hj => by simp at hj⟩
        have hRt : rz mM_next 162 [(0, .ref 116), (1, .int (nI c))] [] W2 (rz_i (fun y S1 => y = 0 ∧ ∃ S2, WB S2 (frl (smM (fun k => (W3.1 123 k).toNatClampNeg) 12)) ∧ wbM W3 S2 ∧ S1 = rz_fA S2 139 (upd (S2.1 139) c 3))) := by
          refine p_M_next_162 ?_
          show rz _ 0 [(0, .ref 116), (1, .int (nI c))] [] _ _
          refine p_M_total_0 (rzx_I e4 ⟨fun _ => ?_, fun d => absurd rfl d⟩)
          exact lp_total hc hF wb3 (K := fun y S1 => y = 0 ∧ ∃ S2, WB S2 (frl (smM (fun k => (W3.1 123 k).toNatClampNeg) 12)) ∧ wbM W3 S2 ∧ S1 = rz_fA S2 139 (upd (S2.1 139) c 3)) (fun S1 h1 f1 => ⟨rfl, S1, h1, f1, rfl⟩) hv 12 0 (by omega)
        obtain ⟨_, W4, er, _, rfl, rfl, S2, wS, fS, hW4⟩ := rzx_ev (hR _ hRt)
        have w4q : ∀ q, q ≠ 139 → W4.1 q = S2.1 q := fun q hq => by rw [hW4]; simp (disch := omega) only [uI1, fA2, rz_fA_n, rz_uI_n, rz_fA_s, rz_uI_s, pk_us]
        have w42 : W4.2 = S2.2 := by rw [hW4]; rfl
        have gW4 : mlM c S2 W4 := by rw [hW4]; exact mlM_g (q := 139) (by omega) (fun d hd => by simp (disch := omega) only [uI1, fA2, rz_fA_n, rz_uI_n, rz_fA_s, rz_uI_s, pk_us, pk_un])
        have hj := dgj_3 (smM (fun k => (W3.1 123 k).toNatClampNeg) 12)
        have gX5 : mlX c V4 V5 := by rw [hV5]; exact mlX_u (by omega)
        have v5k : ∀ z, z ≠ 4 → V5.2 (48 + 4 * c) z = V4.2 (48 + 4 * c) z := fun z hz => by rw [hV5]; simp (disch := omega) only [uI1, fA2, rz_fA_n, rz_uI_n, rz_fA_s, rz_uI_s, pk_us]
        have v5r : ∀ u z, u ≠ 48 + 4 * c → V5.2 u z = V4.2 u z := fun u z hz => by rw [hV5]; simp (disch := omega) only [uI1, fA2, rz_fA_n, rz_uI_n, rz_fA_s, rz_uI_s, pk_us]
        have v5a : V5.1 = V4.1 := by rw [hV5]; rfl
        obtain ⟨W1, r1, r2⟩ := ml_ok (n := n) (l := frl (smM (fun k => (W3.1 123 k).toNatClampNeg) 12)) (W2 := W4) (V1 := V5) hc hI m1 m2 hL (mlX_t g3 (mlX_t (mlX_ln g4) gX5)) (mlM_t gM3 (mlM_t (mlM_wb fS) gW4)) ⟨B, id3, Dk_m (Dk_x D3 (fun q a b => by rw [v5a, g4.1 q (by omega)]) (fun u z hu => (v5r u z (by omega)).trans (g4.2 u z (by omega)))) (fun q a b => by rw [w4q q (by omega), fS.1 q (by omega)]) (fun z hz => by rw [w42]; exact fS.2 116 z (by omega))⟩ (fun z => (v5r 3 z (by omega)).trans ((g4.2 3 z (by omega)).trans ((hst3 z).trans ((hs z).trans (st1 z))))) ((v5k 2 (by omega)).trans ((g4.2 _ 2 (by omega)).trans ((cx.2 _ 2 (by omega) (by omega) (by omega)).trans k22))) ⟨(v5k 3 (by omega)).trans lb4.1, by rw [v5a]; exact lb4.2⟩ ⟨by rw [w42]; exact wS.1, by rw [w4q 153 (by omega)]; exact wS.2⟩ (by rw [frl]; simp [dgs_l]; omega) (bl_frl _) (Or.inr ⟨by rw [hV5]; simp (disch := omega) only [uI1, fA2, rz_fA_n, rz_uI_n, rz_fA_s, rz_uI_s, pk_us], by rw [hW4]; simp (disch := omega) only [uI1, fA2, rz_fA_n, rz_uI_n, rz_fA_s, rz_uI_s, pk_us]⟩)
        exact ⟨_, _, el, Or.inl ⟨rfl, W1, fun Q h => right Q ⟨fun d => absurd (s139.symm.trans d) (by decide), fun _ => rzx_I er (r1 Q h)⟩ (Or.inr s139), r2⟩⟩
      · obtain ⟨_, V4, l4, rfl, g4⟩ := rzx_ev (c_addFreeAny hc lb3)
        have hLeft : rz_ev mDos_makeLine [.ref 39, .ref (48 + 4 * c)] V (rz_i (fun x' S1 => x' = x ∧ S1 = rz_uI V4 (48 + 4 * c) 4 1)) := begin_ _ ⟨fun _ => ⟨fun _ => p_Dos_makeLine_94 hch ⟨fun _ => rzx_I e3 (rzx_V l4 ⟨rfl, rfl⟩), fun d => absurd rfl d⟩, fun d => absurd f5 d⟩, fun d => absurd rfl d⟩
        obtain ⟨_, V5, el, x, rfl, rfl, hV5⟩ := rzx_ev hLeft
        have v5r : ∀ u z, u ≠ 48 + 4 * c → V5.2 u z = V4.2 u z := fun u z hz => by rw [hV5]; simp (disch := omega) only [uI1, fA2, rz_fA_n, rz_uI_n, rz_fA_s, rz_uI_s, pk_us]
        have v5a : V5.1 = V4.1 := by rw [hV5]; rfl
        have gX5 : mlX c V4 V5 := by rw [hV5]; exact mlX_u (by omega)
        obtain ⟨W1, r1, r2⟩ := ml_no (n := n) (M := M) (W2 := W3) (V1 := V5) hc (by omega) x0 hI (mlX_t g3 (mlX_t (mlX_ln g4) gX5)) gM3 ⟨B, id3, Dk_x D3 (fun q a b => by rw [v5a, g4.1 q (by omega)]) (fun u z hu => (v5r u z (by omega)).trans (g4.2 u z (by omega)))⟩ (ans_f (ans_t (fun z => (hs z).trans (st1 z)) an) (fun z => (v5r 3 z (by omega)).trans (g4.2 3 z (by omega))) (fun _ => rfl))
        refine ⟨_, _, el, Or.inr ⟨x0, W1, fun Q h => right Q ⟨fun d => absurd (s139.symm.trans d) (by decide), fun _ => hR _ ?_⟩ (Or.inr s139), r2⟩⟩
        refine p_M_next_162 ?_
        show rz _ 0 [(0, .ref 116), (1, .int (nI c))] [] _ _
        exact p_M_total_0 (rzx_I e4 ⟨fun d => absurd d x0, fun _ => r1 Q h⟩)
    · -- an ENTRY
      generalize hV3 : rz_uI (rz_uI (rz_uI (rz_uI V2 (48 + 4 * c) 10 (nI t')) (48 + 4 * c) 11 (nI s')) (48 + 4 * c) 12 (nI k')) (48 + 4 * c) 13 (nI e') = V3
      have v3r : ∀ u z, u ≠ 48 + 4 * c → V3.2 u z = V2.2 u z := fun u z hu => by rw [← hV3]; simp (disch := omega) only [uI1, fA2, rz_fA_n, rz_uI_n, rz_fA_s, rz_uI_s, pk_us]
      have v3k : ∀ z, ¬ (10 ≤ z ∧ z ≤ 13) → V3.2 (48 + 4 * c) z = V2.2 (48 + 4 * c) z := fun z hz => by rw [← hV3]; simp (disch := omega) only [uI1, fA2, rz_fA_n, rz_uI_n, rz_fA_s, rz_uI_s, pk_us]
      have v3a : V3.1 = V2.1 := by rw [← hV3]; rfl
      have gx3 : mlX c V2 V3 := by rw [← hV3]; exact mlX_t (mlX_u (by omega)) (mlX_t (mlX_u (by omega)) (mlX_t (mlX_u (by omega)) (mlX_u (by omega))))
      have lb3 : LB c V3 [] := ⟨(v3k 3 (by omega)).trans k23, fun j hj => by simp at hj⟩
      obtain ⟨_, V4, l4, rfl, lb4, g4⟩ := rzx_ev (c_addEntry (S := V3) hc q6 ((v3r 46 4 (by omega)).trans z4) (fun k hk => by rw [v3a]; exact (hDr k hk).2) lb3)
      have hLeft : rz_ev mDos_makeLine [.ref 39, .ref (48 + 4 * c)] V (rz_i (fun x' S1 => x' = 0 ∧ S1 = V4)) := begin_ _ ⟨fun _ => ⟨fun d => absurd (f5.symm.trans d) (by decide), fun _ => rz_toV (c_keepEntry hc) (by rw [z1, z2, z3, z4, hV3]; exact rzx_V l4 ⟨rfl, rfl⟩)⟩, fun d => absurd rfl d⟩
      obtain ⟨_, V4, el, _, rfl, rfl, rfl⟩ := rzx_ev hLeft
      have wb2 : WB W2 [] := ⟨w270, fun j hj => by simp at hj⟩
      obtain ⟨_, W3, er, rfl, wS, fS⟩ := rzx_ev (d_entry (S := W2) q6 (fun k hk => by obtain ⟨m, hm, em⟩ := (hDr k hk).2; exact ⟨m, hm, (hDr k hk).1.symm.trans em⟩) wb2)
      have el2 : etl (V3.1 47) e' = etl (W2.1 124) e' := etl_c q6 (fun j hj => by rw [v3a]; exact (hDr j hj).1)
      have kz : ∀ z, z ≠ 3 → V4.2 (48 + 4 * c) z = V3.2 (48 + 4 * c) z := fun z hz => g4.2 _ z (by omega)
      have hst4 : V4.2 (48 + 4 * c) 15 = 1 ∧ V4.2 (48 + 4 * c) 4 = 0 ∧ W3.1 139 c = 1 ∧ ∃ t s b e : Nat, 1 ≤ t ∧ t ≤ 12 ∧ s < sct t ∧ 1 ≤ b ∧ b ≤ 6 ∧ e ≤ 4 ∧ V4.2 (48 + 4 * c) 10 = nI t ∧ V4.2 (48 + 4 * c) 11 = nI s ∧ V4.2 (48 + 4 * c) 12 = nI b ∧ V4.2 (48 + 4 * c) 13 = nI e - 1 ∧ W3.1 140 c = nI t ∧ W3.1 141 c = nI s ∧ W3.1 142 c = nI b ∧ W3.1 143 c = nI e := by
        refine ⟨(kz 15 (by omega)).trans ((v3k 15 (by omega)).trans ((k2z 15 (by omega) (by omega)).trans s15)), (kz 4 (by omega)).trans ((v3k 4 (by omega)).trans ((k2z 4 (by omega) (by omega)).trans h4)), ?_, t', s', k', e' + 1, q1, q2, q3, q4, q5, by omega, ?_, ?_, ?_, ?_, ?_, ?_, ?_, ?_⟩
        · rw [fS.1 139 (by omega), fm.1 139 (by omega) (by omega) (by omega), w0a]; exact s139
        · rw [kz 10 (by omega), ← hV3]; simp (disch := omega) only [uI1, fA2, rz_fA_n, rz_uI_n, rz_fA_s, rz_uI_s, pk_us]
        · rw [kz 11 (by omega), ← hV3]; simp (disch := omega) only [uI1, fA2, rz_fA_n, rz_uI_n, rz_fA_s, rz_uI_s, pk_us]
        · rw [kz 12 (by omega), ← hV3]; simp (disch := omega) only [uI1, fA2, rz_fA_n, rz_uI_n, rz_fA_s, rz_uI_s, pk_us]
        · rw [kz 13 (by omega), ← hV3]; simp (disch := omega) only [uI1, fA2, rz_fA_n, rz_uI_n, rz_fA_s, rz_uI_s, pk_us]; rw [← nI_1, Int32.add_sub_cancel]
        · rw [fS.1 140 (by omega)]; exact w1
        · rw [fS.1 141 (by omega)]; exact w2
        · rw [fS.1 142 (by omega)]; exact w3
        · rw [fS.1 143 (by omega)]; exact w4
      obtain ⟨W1, r1, r2⟩ := ml_ok (n := n) (l := etl (V3.1 47) e') (W2 := W3) (V1 := V4) hc hI m1 m2 hL (mlX_t g2 (mlX_t gx3 (mlX_ln g4))) (mlM_t gM2 (mlM_wb fS)) ⟨B, id2, Dk_m (Dk_x D2 (fun q a b => by rw [g4.1 q (by omega), v3a]) (fun u z hu => (g4.2 u z (by omega)).trans (v3r u z (by omega)))) (fun q a b => fS.1 q (by omega)) (fun z hz => fS.2 116 z (by omega))⟩ (fun z => (g4.2 3 z (by omega)).trans ((v3r 3 z (by omega)).trans ((hs z).trans (st1 z)))) ((kz 2 (by omega)).trans ((v3k 2 (by omega)).trans k22)) lb4 (el2 ▸ wS) (by have := etl_l (F := V3.1 47) (e := e'); omega) (bl_etl q6 (fun k hk => by rw [v3a]; exact (hDr k hk).2)) (Or.inl hst4)
      exact ⟨_, _, el, Or.inl ⟨rfl, W1, fun Q h => right Q ⟨fun d => absurd (s139.symm.trans d) (by decide), fun _ => hR _ (rzx_V er (r1 Q h))⟩ (Or.inr s139), r2⟩⟩
  · rw [h4] at z; exact absurd z (by decide)
