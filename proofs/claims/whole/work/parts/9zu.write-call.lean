/-! the call write of the channels 0 to 14; the refusals of open and write -/
theorem st_0 {V W : rz_S} (h : V.2 3 0 = 0 ∧ V.2 3 1 = 0 ∧ V.2 3 2 = 0 ∧ V.2 3 5 = 0 ∧ V.2 3 6 = 0) (g : W.2 116 56 = 0 ∧ W.2 116 57 = 0 ∧ W.2 116 58 = 0 ∧ W.2 116 59 = 0) : stT V W := ⟨0, Or.inl rfl, h.1, g.1, h.2.1.trans g.2.1.symm, h.2.2.1.trans g.2.2.1.symm, Or.inl ⟨h.2.2.2.1, h.2.2.2.2, g.2.2.2⟩⟩
theorem PR_writeC {B : Nat → Nat → Bool} {pr : Bool} {id : Option (Nat × Nat)} {Sx Sm : rz_S} {c n m M : Nat} (hc : c < 15) (n1 : 1 ≤ n) (hnm : n ≤ m) (hMn : M + n ≤ 12000) (hT : Tpe m Sx Sm) (hD : Dk B pr id Sx Sm) (hall : ∀ d, d < 15 → Chn M d Sx Sm) : ∃ f : Nat → Int32, Tpe 0 (st_begin (rz_uI (rz_uI Sx 1 2 (nI n)) 1 1 0)) (md_begins (rz_uI (rz_fA Sm 151 f) 116 64 0)) ∧ PCi mX_write mM_write [.ref 0, .int (nI c), .int (nI n)] [.ref 116, .int (nI c), .int (nI n)] Sx Sm (opP c (M + n) pr (st_begin (rz_uI (rz_uI Sx 1 2 (nI n)) 1 1 0)) (md_begins (rz_uI (rz_fA Sm 151 f) 116 64 0))) := by
  have ecl : (nI c).toNatClampNeg = c := nI_clamp (by omega)
  have hm4 := hT.1
  obtain ⟨Sm1, f, es, eS, f1, f2⟩ := c_sends (S := Sm) (n := n) (by omega)
  obtain ⟨hTx, hTp, _, _⟩ := sd_of hT hnm f1 f2
  have c0 : ¬ nI c < 0 := nI_pos (by omega)
  have c15 : ¬ nI c = 15 := fun z => by have := (nI_eq (b := 15) (by omega) (by omega)).mp z; omega
  have l15 : ¬ (15 : Int32) < nI c := nI_nlt (a := 15) (b := c) (by omega) (by omega)
  have m15 : ¬ (15 : Int32) ≤ nI c := fun z => by have := (nI_leI (a := 15) (b := c) (by omega) (by omega)).mp z; omega
  have n0 : ¬ nI n < 0 := nI_pos (by omega)
  have nz : ¬ nI n = 0 := nI_ne0 (by omega) (by omega)
  have nle : ¬ nI n ≤ 0 := fun z => by have := (nI_leI (a := n) (b := 0) (by omega) (by omega)).mp z; omega
  have nm : nI n ≤ nI m := nI_le hnm (by omega)
  have D1 : Dk B pr id (rz_uI (rz_uI Sx 1 2 (nI n)) 1 1 0) (rz_uI (rz_fA Sm 151 f) 116 64 0) := Dk_mu (Dk_mf (Dk_xu (Dk_xu hD (by omega)) (by omega)) (by omega)) (by omega)
  have h1 : ∀ d, d < 15 → Chn M d (rz_uI (rz_uI Sx 1 2 (nI n)) 1 1 0) (rz_uI (rz_fA Sm 151 f) 116 64 0) := fun d hd => Chn_mu (Chn_m151 (Chn_u (by omega) (Chn_u (by omega) (hall d hd))))
  rw [← eS] at hTx hTp D1 h1
  refine ⟨f, ?_⟩
  rw [← eS]
  generalize hS1 : rz_uI (rz_uI Sx 1 2 (nI n)) 1 1 0 = S1 at hTx hTp D1 h1
  have DT := bg_dk D1
  have hallT : ∀ d, d < 15 → Chn M d (st_begin S1) (md_begins Sm1) := fun d hd => Chn_bg (h1 d hd)
  have T1 : ∀ z, (st_begin S1).2 1 z = S1.2 1 z := fun z => bg_3 (by omega)
  have TT : Txt n (st_begin S1) (md_begins Sm1) := ⟨hTx.1, (T1 2).trans hTx.2.1, hTx.2.2.1, hTx.2.2.2⟩
  refine ⟨⟨hTp.1, (T1 1).trans hTp.2.1, hTp.2.2.1, fun j hj => by omega⟩, ?_⟩
  have z0 : (st_begin S1).2 3 0 = 0 ∧ (st_begin S1).2 3 1 = 0 ∧ (st_begin S1).2 3 2 = 0 ∧ (st_begin S1).2 3 5 = 0 ∧ (st_begin S1).2 3 6 = 0 := ⟨rfl, rfl, rfl, rfl, rfl⟩
  have U5 : (md_begins Sm1).2 116 56 = 0 ∧ (md_begins Sm1).2 116 57 = 0 ∧ (md_begins Sm1).2 116 58 = 0 ∧ (md_begins Sm1).2 116 59 = 0 := ⟨rfl, rfl, rfl, rfl⟩
  generalize hTT : st_begin S1 = T at DT hallT TT z0 ⊢
  generalize hU : md_begins Sm1 = U at DT hallT TT U5 ⊢
  have fin : ∀ x V y W, opE c (M + n) pr T U x V y W → ∃ y1 W1, rzx mM_ends [.ref 116, .int y] W (some (.int y1)) W1 ∧ opP c (M + n) pr T U (V.2 3 0) V y1 W1 := by
    intro x V y W hE
    obtain ⟨rfl, gx, gm, ⟨B', id', d⟩, an, ch⟩ := hE
    obtain ⟨y1, W1, e1, y2, hst, en⟩ := s_fin (Sx := V) (Sm := W) z0 ⟨(gm.2.2 56 (by omega)).trans U5.1, (gm.2.2 57 (by omega)).trans U5.2.1, (gm.2.2 58 (by omega)).trans U5.2.2.1, (gm.2.2 59 (by omega)).trans U5.2.2.2⟩ an
    exact ⟨y1, W1, e1, y2, gx, FM_t gm.1 (FM_en en), by rw [en.1]; exact gm.2.1, (en.2 116 67 (by omega)).trans (gm.2.2 67 (by omega)), (en.2 116 68 (by omega)).trans (gm.2.2 68 (by omega)), ⟨B', id', en_dk d en⟩, hst, Chn_en en ch⟩
  refine PCi_of (fun K hK => ?_)
  have hK2 : ∀ x V, ((U.1 126 c = 4 → rz mM_write 66 [(0, .ref 116), (1, .int (nI c)), (2, .int (nI n)), (3, .int 0)] [] U (rz_i (opP c (M + n) pr T U x V))) ∧ (¬ U.1 126 c = 4 → ((U.1 126 c = 2 → rz mM_write 149 [(0, .ref 116), (1, .int (nI c)), (2, .int (nI n)), (3, .int 0), (4, .int 0)] [] U (rz_i (opP c (M + n) pr T U x V))) ∧ (¬ U.1 126 c = 2 → rz_ev mM_fault [.ref 116, .int 61, .int 0, .int 0] U (rz_i (fun xq11 Sq11 => rz_ev mM_ends [.ref 116, .int xq11] Sq11 (rz_i (fun xq12 Sq12 => opP c (M + n) pr T U x V xq12 Sq12)))))))) → K x V := fun x V h => hK x V (by
    show rz _ 0 [(0, .ref 116), (1, .int (nI c)), (2, .int (nI n))] [] _ _
    refine p_M_write_0 ⟨fun z => absurd z c0, fun _ => ⟨fun z => absurd z l15, fun _ => ⟨fun z => absurd z n0, fun _ => ⟨fun _ => rzx_V es ⟨fun z => absurd z c15, fun _ => ⟨fun z => absurd z nz, fun _ => rz_toV c_M_begins ?_⟩⟩, fun z => absurd (by rw [hT.2.2.1]; exact nm) z⟩⟩⟩⟩
    rw [hU, ecl]
    exact ⟨rin hc (by omega), h⟩)
  show rz _ 0 [(0, .ref 0), (1, .int (nI c)), (2, .int (nI n))] [] _ _
  refine p_X_write_0 (rz_useI (c_sendText (m := m) hm4 hT.2.1 _ _) (fun x S2 q => ?_))
  rcases q with ⟨_, _, bad⟩ | ⟨rfl, rfl, _⟩
  · rcases bad with (z | z) | z | z
    · exact absurd z c0
    · exact absurd z l15
    · exact absurd z n0
    · exact absurd nm (Int32.not_le.mpr z)
  · refine ⟨fun z => absurd z (by decide), fun _ => ⟨fun z => absurd z c15, fun _ => ⟨fun z => absurd z nle, fun _ => rz_toV c_Status_begin ?_⟩⟩⟩
    rw [hS1, hTT]
    show rz _ 0 [(0, .ref 39), (1, .int (nI c))] [] _ _
    refine p_Dos_sendBytes_0 ⟨fun z => absurd z c0, fun _ => ⟨fun z => absurd z m15, fun _ => ⟨rin hc (by omega), ?_⟩⟩⟩
    rw [ecl]
    have hCn := hallT c hc
    obtain ⟨hm, hk⟩ := hCn
    have other : ¬ U.1 126 c = 4 → ¬ U.1 126 c = 2 → rz mDos_sendBytes 23 [(0, .ref 39), (1, .int (nI c))] [.int (T.2 (48 + 4 * c) 0)] T (rz_v (fun Sq6 => K (Sq6.2 3 0) Sq6)) := fun q4 q2 => by
      rw [hm]
      refine p_Dos_sendBytes_23 ⟨fun z => absurd z q4, fun _ => ⟨fun z => absurd z q2, fun _ => rz_toI (c_Status_set _ _ _) ?_⟩⟩
      obtain ⟨y1, W1, b1, hP⟩ := fin _ _ _ _ (op_flt (M := M + n) 61 0 0 (by omega) (by omega) (GX_r c T) (GM_r c U) (fun _ => rfl) DT (Chn_le (by omega) (hallT c hc)))
      exact hK2 _ _ ⟨fun z => absurd z q4, fun _ => ⟨fun z => absurd z q2, fun _ => rz_toI (c_M_fault _ _ _) (rzx_I b1 hP)⟩⟩
    rcases hk with h0 | ⟨h0, _⟩ | ⟨h0, hF⟩ | ⟨h0, _⟩ | ⟨h0, hB⟩
    · exact other (by rw [h0]; decide) (by rw [h0]; decide)
    · exact other (by rw [h0]; decide) (by rw [h0]; decide)
    · obtain ⟨y, V1, W1, hE, hl, hr⟩ := fw_loop (pr := pr) hc TT n 0 M T U (by omega) hMn (GX_r c T) (GM_r c U) ⟨B, id, DT⟩ (fun _ => rfl) (hm.trans h0) h0 hF
      obtain ⟨y1, W2, b1, hP⟩ := fin _ _ _ _ hE
      rw [hm]
      refine p_Dos_sendBytes_23 ⟨fun z => absurd (h0.symm.trans z) (by decide), fun _ => ⟨fun _ => hl _ (hK2 _ _ ⟨fun z => absurd (h0.symm.trans z) (by decide), fun _ => ⟨fun _ => hr _ (p_M_write_178 (rzx_I b1 hP)), fun z => absurd h0 z⟩⟩), fun z => absurd h0 z⟩⟩
    · exact other (by rw [h0]; decide) (by rw [h0]; decide)
    · rw [hm]
      refine p_Dos_sendBytes_23 ⟨fun _ => wb_loop (M := M + n) (pr := pr) hc TT n 0 T U (by omega) (GX_r c T) (GM_r c U) ⟨B, id, DT⟩ (fun _ => rfl) (hm.trans h0) h0 hB _ (fun V1 hR => hK2 _ _ ⟨fun _ => ?_, fun z => absurd h0 z⟩), fun z => absurd h0 z⟩
      refine rz_weak hR (fun r W1 q => ?_)
      obtain ⟨y, rfl, e1, _, gx, gm, dd, an, ch⟩ := q
      have a3 := ans_z an rfl
      have w5 : W1.2 116 56 = 0 ∧ W1.2 116 57 = 0 ∧ W1.2 116 58 = 0 ∧ W1.2 116 59 = 0 := ⟨(gm.2.2 56 (by omega)).trans U5.1, (gm.2.2 57 (by omega)).trans U5.2.1, (gm.2.2 58 (by omega)).trans U5.2.2.1, (gm.2.2 59 (by omega)).trans U5.2.2.2⟩
      exact ⟨y, rfl, ((a3 0).trans z0.1).trans (e1.trans w5.1).symm, gx, gm.1, gm.2.1, gm.2.2 67 (by omega), gm.2.2 68 (by omega), dd, st_0 ⟨(a3 0).trans z0.1, (a3 1).trans z0.2.1, (a3 2).trans z0.2.2.1, (a3 5).trans z0.2.2.2.1, (a3 6).trans z0.2.2.2.2⟩ w5, ch⟩
/-- write of nothing -/
theorem PR_write0 {Sx Sm : rz_S} {c m : Nat} (hc : c < 15) (hT : Tpe m Sx Sm) (hst : stT Sx Sm) : ∃ f : Nat → Int32, Tpe 0 (rz_uI (rz_uI Sx 1 2 0) 1 1 0) (rz_uI (rz_fA Sm 151 f) 116 64 0) ∧ PCi mX_write mM_write [.ref 0, .int (nI c), .int 0] [.ref 116, .int (nI c), .int 0] Sx Sm (fun x V y W => x = y ∧ V = rz_uI (rz_uI Sx 1 2 0) 1 1 0 ∧ W = rz_uI (rz_fA Sm 151 f) 116 64 0) := by
  have hm4 := hT.1
  obtain ⟨Sm1, f, es, eS, f1, f2⟩ := c_sends (S := Sm) (n := 0) (by omega)
  obtain ⟨hTx, hTp, _, _⟩ := sd_of (n := 0) hT (by omega) f1 f2
  have c0 : ¬ nI c < 0 := nI_pos (by omega)
  have c15 : ¬ nI c = 15 := fun z => by have := (nI_eq (b := 15) (by omega) (by omega)).mp z; omega
  have l15 : ¬ (15 : Int32) < nI c := nI_nlt (a := 15) (b := c) (by omega) (by omega)
  have nm : (0 : Int32) ≤ nI m := nI_le (a := 0) (by omega) (by omega)
  refine ⟨f, hTp, PCi_of (fun K hK => ?_)⟩
  show rz _ 0 [(0, .ref 0), (1, .int (nI c)), (2, .int 0)] [] _ _
  refine p_X_write_0 (rz_useI (c_sendText (m := m) hm4 hT.2.1 _ _) (fun x S2 q => ?_))
  rcases q with ⟨_, _, bad⟩ | ⟨rfl, rfl, _⟩
  · rcases bad with (z | z) | z | z
    · exact absurd z c0
    · exact absurd z l15
    · exact absurd z (by decide)
    · exact absurd nm (Int32.not_le.mpr z)
  · refine ⟨fun z => absurd z (by decide), fun _ => ⟨fun z => absurd z c15, fun _ => ⟨fun _ => hK _ _ ?_, fun z => absurd (by decide) z⟩⟩⟩
    show rz _ 0 [(0, .ref 116), (1, .int (nI c)), (2, .int 0)] [] _ _
    refine p_M_write_0 ⟨fun z => absurd z c0, fun _ => ⟨fun z => absurd z l15, fun _ => ⟨fun z => absurd z (by decide), fun _ => ⟨fun _ => rzx_V es ⟨fun z => absurd z c15, fun _ => ⟨fun _ => ⟨?_, rfl, eS⟩, fun z => absurd rfl z⟩⟩, fun z => absurd (by rw [hT.2.2.1]; exact nm) z⟩⟩⟩⟩
    obtain ⟨n, _, e1, e2, _⟩ := hst
    rw [eS]
    simp (disch := omega) only [uI1, fA2, rz_fA_n, rz_uI_n, rz_fA_s, rz_uI_s, pk_us]
    exact e1.trans e2.symm
def rfE (Sx Sm : rz_S) (x : Int32) (V : rz_S) (y : Int32) (W : rz_S) : Prop := x = y ∧ V = Sx ∧ W = Sm
theorem PR_refO {Sx Sm : rz_S} {m : Nat} {a b : Int32} (hT : Tpe m Sx Sm) (bad : (a < 0 ∨ 15 < a) ∨ b < 0 ∨ nI m < b) : PCi mX_open mM_open [.ref 0, .int a, .int b] [.ref 116, .int a, .int b] Sx Sm (rfE Sx Sm) := by
  refine PCi_of (fun K hK => ?_)
  show rz _ 0 [(0, .ref 0), (1, .int a), (2, .int b)] [] _ _
  have hR : rz_ev mM_open [.ref 116, .int a, .int b] Sm (rz_i (rfE Sx Sm (-1) Sx)) := by
    show rz _ 0 [(0, .ref 116), (1, .int a), (2, .int b)] [] _ _
    refine p_M_open_0 ⟨fun _ => ⟨rfl, rfl, rfl⟩, fun q1 => ⟨fun _ => ⟨rfl, rfl, rfl⟩, fun q2 => ⟨fun _ => ⟨rfl, rfl, rfl⟩, fun q3 => ⟨fun q4 => ?_, fun _ => ⟨rfl, rfl, rfl⟩⟩⟩⟩⟩
    rw [hT.2.2.1] at q4
    rcases bad with (z | z) | z | z
    · exact absurd z q1
    · exact absurd z q2
    · exact absurd z q3
    · exact absurd q4 (Int32.not_le.mpr z)
  refine p_X_open_0 (rz_useI (c_sendText (m := m) hT.1 hT.2.1 _ _) (fun x S2 q => ?_))
  rcases q with ⟨rfl, rfl, _⟩ | ⟨rfl, rfl, c, n, hc, hn, rfl, rfl⟩
  · exact ⟨fun _ => hK _ _ hR, fun z => absurd rfl z⟩
  · have hm4 := hT.1
    rcases bad with (z | z) | z | z
    · exact absurd z (nI_pos (by omega))
    · exact absurd z (nI_nlt (a := 15) (b := c) (by omega) (by omega))
    · exact absurd z (nI_pos (by omega))
    · exact absurd z (nI_nlt (a := m) (b := n) (by omega) (by omega))
theorem PR_refW {Sx Sm : rz_S} {m : Nat} {a b : Int32} (hT : Tpe m Sx Sm) (bad : (a < 0 ∨ 15 < a) ∨ b < 0 ∨ nI m < b) : PCi mX_write mM_write [.ref 0, .int a, .int b] [.ref 116, .int a, .int b] Sx Sm (rfE Sx Sm) := by
  refine PCi_of (fun K hK => ?_)
  show rz _ 0 [(0, .ref 0), (1, .int a), (2, .int b)] [] _ _
  have hR : rz_ev mM_write [.ref 116, .int a, .int b] Sm (rz_i (rfE Sx Sm (-1) Sx)) := by
    show rz _ 0 [(0, .ref 116), (1, .int a), (2, .int b)] [] _ _
    refine p_M_write_0 ⟨fun _ => ⟨rfl, rfl, rfl⟩, fun q1 => ⟨fun _ => ⟨rfl, rfl, rfl⟩, fun q2 => ⟨fun _ => ⟨rfl, rfl, rfl⟩, fun q3 => ⟨fun q4 => ?_, fun _ => ⟨rfl, rfl, rfl⟩⟩⟩⟩⟩
    rw [hT.2.2.1] at q4
    rcases bad with (z | z) | z | z
    · exact absurd z q1
    · exact absurd z q2
    · exact absurd z q3
    · exact absurd q4 (Int32.not_le.mpr z)
  refine p_X_write_0 (rz_useI (c_sendText (m := m) hT.1 hT.2.1 _ _) (fun x S2 q => ?_))
  rcases q with ⟨rfl, rfl, _⟩ | ⟨rfl, rfl, c, n, hc, hn, rfl, rfl⟩
  · exact ⟨fun _ => hK _ _ hR, fun z => absurd rfl z⟩
  · have hm4 := hT.1
    rcases bad with (z | z) | z | z
    · exact absurd z (nI_pos (by omega))
    · exact absurd z (nI_nlt (a := 15) (b := c) (by omega) (by omega))
    · exact absurd z (nI_pos (by omega))
    · exact absurd z (nI_nlt (a := m) (b := n) (by omega) (by omega))
