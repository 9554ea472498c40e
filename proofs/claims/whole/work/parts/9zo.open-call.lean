/-! the call open of the channels 0 to 14 -/
theorem Chn_m151 {M d : Nat} {Sx Sm : rz_S} {f : Nat → Int32} (h : Chn M d Sx Sm) : Chn M d Sx (rz_fA Sm 151 f) := by
  unfold Chn ChR ChF ChL ChB ChW rowE at h ⊢
  simp (disch := omega) only [rz_fA_n]
  exact h
theorem c_sends {S : rz_S} {n : Nat} (hn : n ≤ 400) : ∃ S1 f, rzx mM_sends [.ref 116, .int (nI n)] S none S1 ∧ S1 = rz_uI (rz_fA S 151 f) 116 64 0 ∧ (∀ j, 0 ≤ j → j < n → f j = S.1 150 j &&& 255) ∧ f n = 0 := by
  have h : rz_ev mM_sends [.ref 116, .int (nI n)] S (rz_v (fun S1 => ∃ f, S1 = rz_uI (rz_fA S 151 f) 116 64 0 ∧ (∀ j, 0 ≤ j → j < n → f j = S.1 150 j &&& 255) ∧ f n = 0)) := by
    show rz _ 0 [(0, .ref 116), (1, .int (nI n))] [] _ _
    exact p_M_sends_0 (lp_sends hn n 0 S (by omega) (fun f f1 _ f3 => ⟨f, rfl, f1, f3⟩))
  obtain ⟨_, S1, e, rfl, f, q⟩ := rzx_ev h
  exact ⟨S1, f, e, q⟩
/-- what the call open ends with; T, U: both sides behind the sending and the begin -/
def opP (c M : Nat) (pr : Bool) (T U : rz_S) (x : Int32) (V : rz_S) (y : Int32) (W : rz_S) : Prop := x = y ∧ GX c T V ∧ FM c U W ∧ W.1 152 = U.1 152 ∧ W.2 116 67 = U.2 116 67 ∧ W.2 116 68 = U.2 116 68 ∧ (∃ B id, Dk B pr id V W) ∧ stT V W ∧ Chn M c V W
theorem PR_openC {B : Nat → Nat → Bool} {pr : Bool} {id : Option (Nat × Nat)} {Sx Sm : rz_S} {c n m M : Nat} (hc : c < 15) (hnm : n ≤ m) (hT : Tpe m Sx Sm) (hD : Dk B pr id Sx Sm) (hall : ∀ d, d < 15 → Chn M d Sx Sm) : ∃ f : Nat → Int32, Tpe 0 (st_begin (rz_uI (rz_uI Sx 1 2 (nI n)) 1 1 0)) (md_begins (rz_uI (rz_fA Sm 151 f) 116 64 0)) ∧ PCi mX_open mM_open [.ref 0, .int (nI c), .int (nI n)] [.ref 116, .int (nI c), .int (nI n)] Sx Sm (opP c M pr (st_begin (rz_uI (rz_uI Sx 1 2 (nI n)) 1 1 0)) (md_begins (rz_uI (rz_fA Sm 151 f) 116 64 0))) := by
  have hm4 := hT.1
  obtain ⟨Sm1, f, es, eS, f1, f2⟩ := c_sends (S := Sm) (n := n) (by omega)
  obtain ⟨hTx, hTp, _, _⟩ := sd_of hT hnm f1 f2
  have c0 : ¬ nI c < 0 := nI_pos (by omega)
  have c15 : ¬ nI c = 15 := fun z => by have := (nI_eq (b := 15) (by omega) (by omega)).mp z; omega
  have l15 : ¬ (15 : Int32) < nI c := nI_nlt (a := 15) (b := c) (by omega) (by omega)
  have n0 : ¬ nI n < 0 := nI_pos (by omega)
  have nm : nI n ≤ nI m := nI_le hnm (by omega)
  have D1 : Dk B pr id (rz_uI (rz_uI Sx 1 2 (nI n)) 1 1 0) (rz_uI (rz_fA Sm 151 f) 116 64 0) := Dk_mu (Dk_mf (Dk_xu (Dk_xu hD (by omega)) (by omega)) (by omega)) (by omega)
  have h1 : ∀ d, d < 15 → Chn M d (rz_uI (rz_uI Sx 1 2 (nI n)) 1 1 0) (rz_uI (rz_fA Sm 151 f) 116 64 0) := fun d hd => Chn_mu (Chn_m151 (Chn_u (by omega) (Chn_u (by omega) (hall d hd))))
  rw [← eS] at hTx hTp D1 h1
  refine ⟨f, ?_⟩
  rw [← eS]
  generalize hS1 : rz_uI (rz_uI Sx 1 2 (nI n)) 1 1 0 = S1 at hTx hTp D1 h1
  have DT := bg_dk D1
  have hallT : ∀ d, d < 15 → Chn M d (st_begin S1) (md_begins Sm1) := fun d hd => Chn_bg (h1 d hd)
  have T1 : ∀ z, (st_begin S1).2 1 z = S1.2 1 z := fun z => bg_3 (by omega)
  have TT : Txt n (st_begin S1) (md_begins Sm1) := ⟨hTx.1, (T1 2).trans hTx.2.1, hTx.2.2.1, hTx.2.2.2⟩
  refine ⟨⟨hTp.1, (T1 1).trans hTp.2.1, hTp.2.2.1, fun j hj => by omega⟩, ?_⟩
  have z0 : (st_begin S1).2 3 0 = 0 ∧ (st_begin S1).2 3 1 = 0 ∧ (st_begin S1).2 3 2 = 0 ∧ (st_begin S1).2 3 5 = 0 ∧ (st_begin S1).2 3 6 = 0 := ⟨rfl, rfl, rfl, rfl, rfl⟩
  have U5 : (md_begins Sm1).2 116 56 = 0 ∧ (md_begins Sm1).2 116 57 = 0 ∧ (md_begins Sm1).2 116 58 = 0 ∧ (md_begins Sm1).2 116 59 = 0 := ⟨rfl, rfl, rfl, rfl⟩
  generalize hTT : st_begin S1 = T at DT hallT TT z0 ⊢
  generalize hU : md_begins Sm1 = U at DT hallT TT U5 ⊢
  -- the end of both
  have fin : ∀ x V y W, opE c M pr T U x V y W → ∃ y1 W1, rzx mM_ends [.ref 116, .int y] W (some (.int y1)) W1 ∧ opP c M pr T U (V.2 3 0) V y1 W1 := by
    intro x V y W hE
    obtain ⟨rfl, gx, gm, ⟨B', id', d⟩, an, ch⟩ := hE
    obtain ⟨y1, W1, e1, y2, hst, en⟩ := s_fin (Sx := V) (Sm := W) z0 ⟨(gm.2.2 56 (by omega)).trans U5.1, (gm.2.2 57 (by omega)).trans U5.2.1, (gm.2.2 58 (by omega)).trans U5.2.2.1, (gm.2.2 59 (by omega)).trans U5.2.2.2⟩ an
    exact ⟨y1, W1, e1, y2, gx, FM_t gm.1 (FM_en en), by rw [en.1]; exact gm.2.1, (en.2 116 67 (by omega)).trans (gm.2.2 67 (by omega)), (en.2 116 68 (by omega)).trans (gm.2.2 68 (by omega)), ⟨B', id', en_dk d en⟩, hst, Chn_en en ch⟩
  refine PCi_of (fun K hK => ?_)
  have hK2 : ∀ x V, ((nI n ≤ 40 → rz_ev mM_opens [.ref 116, .int (nI c), .int (nI n)] U (rz_i (fun xq9 Sq9 => rz_ev mM_ends [.ref 116, .int xq9] Sq9 (rz_i (fun xq10 Sq10 => opP c M pr T U x V xq10 Sq10))))) ∧ (¬ nI n ≤ 40 → rz_ev mM_fault [.ref 116, .int 32, .int 0, .int 0] U (rz_i (fun xq11 Sq11 => rz_ev mM_ends [.ref 116, .int xq11] Sq11 (rz_i (fun xq12 Sq12 => opP c M pr T U x V xq12 Sq12)))))) → K x V := fun x V h => hK x V (by
    show rz _ 0 [(0, .ref 116), (1, .int (nI c)), (2, .int (nI n))] [] _ _
    refine p_M_open_0 ⟨fun z => absurd z c0, fun _ => ⟨fun z => absurd z l15, fun _ => ⟨fun z => absurd z n0, fun _ => ⟨fun _ => rzx_V es ⟨fun z => absurd z c15, fun _ => rz_toV c_M_begins ?_⟩, fun z => absurd (by rw [hT.2.2.1]; exact nm) z⟩⟩⟩⟩
    rw [hU]
    exact h)
  show rz _ 0 [(0, .ref 0), (1, .int (nI c)), (2, .int (nI n))] [] _ _
  refine p_X_open_0 (rz_useI (c_sendText (m := m) hm4 hT.2.1 _ _) (fun x S2 q => ?_))
  rcases q with ⟨_, _, bad⟩ | ⟨rfl, rfl, _⟩
  · rcases bad with (z | z) | z | z
    · exact absurd z c0
    · exact absurd z l15
    · exact absurd z n0
    · exact absurd nm (Int32.not_le.mpr z)
  · refine ⟨fun z => absurd z (by decide), fun _ => ⟨fun z => absurd z c15, fun _ => rz_toV c_Status_begin ?_⟩⟩
    rw [hS1, hTT]
    refine ⟨fun h40 => ?_, fun h40 => rz_toI (c_Status_set _ _ _) ?_⟩
    · obtain ⟨x, V, y, W, a1, a2, hE⟩ := oc_pair (M := M) hc DT TT hallT
      obtain ⟨y1, W1, b1, hP⟩ := fin x V y W hE
      exact rzx_I a1 (hK2 _ _ ⟨fun _ => rzx_I a2 (rzx_I b1 hP), fun z => absurd h40 z⟩)
    · obtain ⟨y1, W1, b1, hP⟩ := fin _ _ _ _ (op_flt (M := M) 32 0 0 (by omega) (by omega) (GX_r c T) (GM_r c U) (fun _ => rfl) DT (hallT c hc))
      exact hK2 (nI 32) (st_set T (nI 32) (nI 0) (nI 0)) ⟨fun z => absurd z h40, fun _ => rz_toI (c_M_fault _ _ _) (rzx_I b1 hP)⟩
