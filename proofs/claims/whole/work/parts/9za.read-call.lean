/-! the call read of the channels 0 to 14 -/
theorem Chn_u {M d k j : Nat} {Sx Sm : rz_S} {x : Int32} (hk : k < 48) (h : Chn M d Sx Sm) : Chn M d (rz_uI Sx k j x) Sm := by
  unfold Chn ChR ChF ChL ChB ChW rowE at h ⊢
  simp (disch := omega) only [uI1, rz_uI_n]
  exact h
theorem Chn_mu {M d j : Nat} {Sx Sm : rz_S} {x : Int32} (h : Chn M d Sx Sm) : Chn M d Sx (rz_uI Sm 116 j x) := h
theorem Chn_set {M d : Nat} {Sx Sm : rz_S} {n t s : Int32} (h : Chn M d Sx Sm) : Chn M d (st_set Sx n t s) Sm := Chn_u (by omega) (Chn_u (by omega) (Chn_u (by omega) (Chn_u (by omega) (Chn_u (by omega) h))))
theorem Chn_bg {M d : Nat} {Sx Sm : rz_S} (h : Chn M d Sx Sm) : Chn M d (st_begin Sx) (md_begins Sm) := Chn_u (by omega) (Chn_u (by omega) (Chn_set h))
theorem stT_e {Sx Sm : rz_S} {n : Nat} (hn : cdN n) (h : stE Sx Sm) (e : Sx.2 3 0 = nI n) : stT Sx Sm := by
  obtain ⟨a0, a1, a2, a5, a6, a9⟩ := h
  exact ⟨n, hn, e, a0.symm.trans e, a1, a2, Or.inl ⟨a5, a6, a9⟩⟩
theorem s_fin {S0 Sx Sm : rz_S} {x : Int32} (h0 : S0.2 3 0 = 0 ∧ S0.2 3 1 = 0 ∧ S0.2 3 2 = 0 ∧ S0.2 3 5 = 0 ∧ S0.2 3 6 = 0) (hm : Sm.2 116 56 = 0 ∧ Sm.2 116 57 = 0 ∧ Sm.2 116 58 = 0 ∧ Sm.2 116 59 = 0) (ha : ans S0 x Sx Sm) : ∃ y Sm1, rzx mM_ends [.ref 116, .int x] Sm (some (.int y)) Sm1 ∧ Sx.2 3 0 = y ∧ stT Sx Sm1 ∧ enM Sm Sm1 := by
  obtain ⟨_, Sm1, e, y, rfl, y1, y2, y3⟩ := rzx_ev (s_ends h0 hm ha)
  refine ⟨y, Sm1, e, y1, ?_, y3⟩
  rcases ha with ⟨x0, hs⟩ | ⟨xc, c1, c2, c3, ⟨ft, fs, ⟨p0, _⟩, q1, q2⟩, c5⟩
  · exact stT_e (n := 0) (Or.inl rfl) y2 ((hs 0).trans h0.1)
  · exact stT_e (n := xc) c2.2 y2 p0
theorem FM_en {c : Nat} {S S1 : rz_S} (h : enM S S1) : FM c S S1 := ⟨fun q _ => by rw [h.1], fun q _ _ _ d _ => by rw [h.1], fun j _ => ⟨by rw [h.1], by rw [h.1]⟩, fun j _ => by rw [h.1], fun z a => h.2 116 z (by omega)⟩
theorem Chn_en {M d : Nat} {Sx Sm Sm1 : rz_S} (he : enM Sm Sm1) (h : Chn M d Sx Sm) : Chn M d Sx Sm1 := by
  unfold Chn ChR ChF ChL ChB ChW rowE at h ⊢
  rw [he.1]
  exact h
theorem FM_bg67 {c : Nat} {S : rz_S} : FM c (md_begins S) (md_begins (rz_uI (rz_uI S 116 67 0) 116 68 0)) := ⟨fun _ _ => rfl, fun _ _ _ _ _ _ => rfl, fun _ _ => ⟨rfl, rfl⟩, fun _ _ => rfl, fun z a => by
  unfold md_begins md_sets
  by_cases z1 : z = 61
  · subst z1; simp (disch := omega) only [uI1, fA2, rz_fA_n, rz_uI_n, rz_fA_s, rz_uI_s, pk_us]
  · by_cases z2 : z = 62
    · subst z2; simp (disch := omega) only [uI1, fA2, rz_fA_n, rz_uI_n, rz_fA_s, rz_uI_s, pk_us]
    · simp (disch := omega) only [uI1, fA2, rz_fA_n, rz_uI_n, rz_fA_s, rz_uI_s, pk_us]⟩
def rdE (c M : Nat) (pr : Bool) (Sx Sm : rz_S) (x : Int32) (Sx1 : rz_S) (y : Int32) (Sm1 : rz_S) : Prop := x = y ∧ FX c (st_begin Sx) Sx1 ∧ FM c (md_begins Sm) Sm1 ∧ (∃ B id, Dk B pr id Sx1 Sm1) ∧ stT Sx1 Sm1 ∧ ouR Sx1 Sm1 ∧ Chn M c Sx1 Sm1
theorem PR_readC {B : Nat → Nat → Bool} {pr : Bool} {id : Option (Nat × Nat)} {Sx Sm : rz_S} {c n M : Nat} (hc : c < 15) (h1 : 1 ≤ n) (h300 : n ≤ 300) (hD : Dk B pr id Sx Sm) (hC : Chn M c Sx Sm) : PCi mX_read mM_read [.ref 0, .int (nI c), .int (nI n)] [.ref 116, .int (nI c), .int (nI n)] Sx Sm (rdE c M pr Sx Sm) := by
  have ecl : (nI c).toNatClampNeg = c := nI_clamp (by omega)
  have hn0 : ¬ nI n < 1 := nI_nlt (b := 1) (by omega) (by omega)
  have hn3 : nI n ≤ 300 := nI_le (b := 300) (by omega) (by omega)
  have c0 : ¬ nI c < 0 := nI_pos (by omega)
  have c15 : ¬ nI c = 15 := fun z => by have := (nI_eq (b := 15) (by omega) (by omega)).mp z; omega
  have l15 : ¬ (15 : Int32) < nI c := nI_nlt (a := 15) (b := c) (by omega) (by omega)
  have g15 : ¬ (15 : Int32) ≤ nI c := fun z => by have := (nI_leI (a := 15) (by omega) (by omega)).mp z; omega
  have e64 : (64 * nI c : Int32) = nI (64 * c) := pk_mul 64 c
  generalize hT : rz_uI (st_begin Sx) 39 6 0 = T
  generalize hU : md_begins (rz_uI (rz_uI Sm 116 67 0) 116 68 0) = U
  have fT : FX c (st_begin Sx) T := by rw [← hT]; exact FX_u2 (by omega)
  have fU : FM c (md_begins Sm) U := by rw [← hU]; exact FM_bg67
  have DT : Dk B pr id T U := by
    rw [← hT, ← hU]
    exact Dk_xu (bg_dk (Dk_mu (Dk_mu hD (by omega)) (by omega))) (by omega)
  have CT : Chn M c T U := by
    rw [← hT, ← hU]
    exact Chn_u (by omega) (Chn_bg hC)
  have T3 : ∀ z, T.2 3 z = (st_begin Sx).2 3 z := fun z => by rw [← hT]; simp (disch := omega) only [uI1, fA2, rz_fA_n, rz_uI_n, rz_fA_s, rz_uI_s, pk_us]
  have z0 : T.2 3 0 = 0 ∧ T.2 3 1 = 0 ∧ T.2 3 2 = 0 ∧ T.2 3 5 = 0 ∧ T.2 3 6 = 0 := by
    rw [T3, T3, T3, T3, T3]
    exact ⟨rfl, rfl, rfl, rfl, rfl⟩
  have T6 : T.2 39 6 = 0 := by rw [← hT]; simp (disch := omega) only [uI1, fA2, rz_fA_n, rz_uI_n, rz_fA_s, rz_uI_s, pk_us]
  have U5 : U.2 116 56 = 0 ∧ U.2 116 57 = 0 ∧ U.2 116 58 = 0 ∧ U.2 116 59 = 0 := by rw [← hU]; exact ⟨rfl, rfl, rfl, rfl⟩
  have U67 : U.2 116 67 = 0 := by rw [← hU]; rfl
  have U68 : U.2 116 68 = 0 := by rw [← hU]; rfl
  have hI : rcI c 0 pr T U T U := ⟨FX_r _ _, FM_r _ _, ⟨B, id, DT⟩, fun _ => rfl, fun _ _ _ => rfl, T6, U68, U67, fun j hj => by omega⟩
  have Tm : T.2 (48 + 4 * c) 0 = U.1 126 c := CT.1
  -- the end of both
  have fin : ∀ x V y W, rcE c M pr T U x V y W → (V.2 39 6 = 0 ∨ V.2 39 6 = 1) ∧ ∃ y1 W1, rzx mM_ends [.ref 116, .int y] W (some (.int y1)) W1 ∧ rdE c M pr Sx Sm x (rz_uI (rz_uI V 0 7 x) 0 8 (V.2 39 6)) (W1.2 116 67) W1 := by
    intro x V y W hE
    obtain ⟨i, i3, rfl, fx, fm, ⟨B', id', d⟩, an, wz, w67, ho, h68, h01, hCh⟩ := hE
    obtain ⟨y1, W1, e1, y2, hst, en⟩ := s_fin (Sx := V) (Sm := W) z0 ⟨(wz 56 (by omega) (by omega)).trans U5.1, (wz 57 (by omega) (by omega)).trans U5.2.1, (wz 58 (by omega) (by omega)).trans U5.2.2.1, (wz 59 (by omega) (by omega)).trans U5.2.2.2⟩ an
    have x67 : W1.2 116 67 = nI i := (en.2 116 67 (by omega)).trans w67
    refine ⟨h01, y1, W1, e1, x67.symm, FX_t fT (FX_t fx (FX_t (FX_u2 (by omega)) (FX_u2 (by omega)))), FM_t fU (FM_t fm (FM_en en)), ⟨B', id', en_dk (Dk_xu (Dk_xu d (by omega)) (by omega)) en⟩, stT_f hst rfl (fun z _ _ => by simp (disch := omega) only [uI1, fA2, rz_fA_n, rz_uI_n, rz_fA_s, rz_uI_s, pk_us]) (fun _ _ _ => rfl), ⟨⟨i, i3, by simp (disch := omega) only [uI1, fA2, rz_fA_n, rz_uI_n, rz_fA_s, rz_uI_s, pk_us], x67, fun j hj => ?_⟩, ?_, ?_⟩, Chn_en en (Chn_u (by omega) (Chn_u (by omega) hCh))⟩
    · rw [en.1]; exact ho j hj
    · simp (disch := omega) only [uI1, fA2, rz_fA_n, rz_uI_n, rz_fA_s, rz_uI_s, pk_us]; rw [h68]; exact (en.2 116 68 (by omega)).symm
    · simp (disch := omega) only [uI1, fA2, rz_fA_n, rz_uI_n, rz_fA_s, rz_uI_s, pk_us]; exact h01
  refine PCi_of (fun K hK => ?_)
  show rz _ 0 [(0, .ref 0), (1, .int (nI c)), (2, .int (nI n))] [] _ _
  have his : rz_ev mX_isChannel [.int (nI c)] Sx (rz_i (fun x S1 => x = 1 ∧ S1 = Sx)) := by
    show rz _ 0 [(0, .int (nI c))] [] _ _
    exact p_X_isChannel_0 ⟨fun z => absurd z c0, fun _ => ⟨fun z => absurd z l15, fun _ => ⟨rfl, rfl⟩⟩⟩
  have hK2 : ∀ x V, ((((U.1 126 c).toInt < 1 ∨ 4 < (U.1 126 c).toInt → rz_ev mM_fault [.ref 116, .int 61, .int 0, .int 0] U (rz_i (fun y W => rcE c M pr T U x V y W))) ∧ ((U.1 126 c) = 1 → rz_ev mM_readsFile [.ref 116, .int (nI c), .int (nI n)] U (rz_i (fun y W => rcE c M pr T U x V y W))) ∧ ((U.1 126 c) = 2 → rz_ev mM_fault [.ref 116, .int 61, .int 0, .int 0] U (rz_i (fun y W => rcE c M pr T U x V y W))) ∧ ((U.1 126 c) = 3 → rz_ev mM_readsList [.ref 116, .int (nI c), .int (nI n)] U (rz_i (fun y W => rcE c M pr T U x V y W))) ∧ ((U.1 126 c) = 4 → rz_ev mM_readsBuffer [.ref 116, .int (nI c), .int (nI n)] U (rz_i (fun y W => rcE c M pr T U x V y W))))) → K x (rz_uI (rz_uI V 0 7 x) 0 8 (V.2 39 6)) := fun x V h => hK _ _ (by
    show rz _ 0 [(0, .ref 116), (1, .int (nI c)), (2, .int (nI n))] [] _ _
    refine p_M_read_0 ⟨fun z => absurd z c0, fun _ => ⟨fun z => absurd z l15, fun _ => ⟨fun z => absurd z hn0, fun _ => ⟨fun _ => ⟨fun z => absurd z c15, fun _ => rz_toV c_M_begins ⟨rin hc (by omega), ?_⟩⟩, fun z => absurd hn3 z⟩⟩⟩⟩
    rw [hU, ecl]
    have go : ∀ y W, rcE c M pr T U x V y W → rz mM_read 143 [(0, .ref 116), (3, .int y)] [] W (rz_i (fun y1 W1 => rdE c M pr Sx Sm x (rz_uI (rz_uI V 0 7 x) 0 8 (V.2 39 6)) y1 W1)) := fun y W hE => by
      obtain ⟨_, y1, W1, e1, hr⟩ := fin x V y W hE
      exact p_M_read_143 (rzx_I e1 hr)
    exact ⟨fun z => rz_useI (h.1 z) go, fun z => rz_useI (h.2.1 z) go, fun z => rz_useI (h.2.2.1 z) go, fun z => rz_useI (h.2.2.2.1 z) go, fun z => rz_useI (h.2.2.2.2 z) go⟩)
  refine p_X_read_0 (rz_toI his ⟨fun z => absurd z (by decide), fun _ => ⟨fun z => absurd z hn0, fun _ => ⟨fun _ => ⟨fun z => absurd z c15, fun _ => rz_toV c_Status_begin ?_⟩, fun z => absurd hn3 z⟩⟩⟩)
  show rz _ 0 [(0, .ref 39), (1, .int (nI c)), (2, .int (nI n)), (3, .ref 115)] [] _ _
  -- a left run that ends with a state that the right run matches
  have hK3 : ∀ x V, ((((U.1 126 c).toInt < 1 ∨ 4 < (U.1 126 c).toInt → rz_ev mM_fault [.ref 116, .int 61, .int 0, .int 0] U (rz_i (fun y W => rcE c M pr T U x V y W))) ∧ ((U.1 126 c) = 1 → rz_ev mM_readsFile [.ref 116, .int (nI c), .int (nI n)] U (rz_i (fun y W => rcE c M pr T U x V y W))) ∧ ((U.1 126 c) = 2 → rz_ev mM_fault [.ref 116, .int 61, .int 0, .int 0] U (rz_i (fun y W => rcE c M pr T U x V y W))) ∧ ((U.1 126 c) = 3 → rz_ev mM_readsList [.ref 116, .int (nI c), .int (nI n)] U (rz_i (fun y W => rcE c M pr T U x V y W))) ∧ ((U.1 126 c) = 4 → rz_ev mM_readsBuffer [.ref 116, .int (nI c), .int (nI n)] U (rz_i (fun y W => rcE c M pr T U x V y W))))) → (∃ y W, rcE c M pr T U x V y W) → (V.2 39 6 = 0 ∨ V.2 39 6 = 1) ∧ K x (rz_uI (rz_uI V 0 7 x) 0 8 (V.2 39 6)) := fun x V h he => by
    obtain ⟨y, W, hE⟩ := he
    exact ⟨(fin x V y W hE).1, hK2 x V h⟩
  have some_ : ∀ {Z : rx_M} {as : List Value} {P : Int32 → rz_S → Prop}, rz_ev Z as U (rz_i P) → ∃ y W, P y W := fun h => by
    obtain ⟨_, W, _, y, rfl, h⟩ := rzx_ev h
    exact ⟨y, W, h⟩
  refine p_Dos_receive_0 (na3 := 300) rfl ?_
  rw [ecl, hT, show (st_begin Sx).2 (48 + 4 * c) 0 = T.2 (48 + 4 * c) 0 from by rw [← hT]; simp (disch := omega) only [uI1, fA2, rz_fA_n, rz_uI_n, rz_fA_s, rz_uI_s, pk_us], Tm]
  have hm61 : rcE c M pr T U 0 (st_set T 61 0 0) 61 (rz_uI (rz_uI U 116 4 0) 116 5 0) := ⟨0, by omega, rfl, FX_rc rF_s, FM_t (FM_u (by omega)) (FM_u (by omega)), ⟨B, id, Dk_mu (Dk_mu (st_set_dk DT) (by omega)) (by omega)⟩, Or.inr ⟨61, by omega, by omega, rfl, ⟨0, 0, ⟨rfl, rfl, rfl, rfl, rfl⟩, by simp (disch := omega) only [uI1, fA2, rz_fA_n, rz_uI_n, rz_fA_s, rz_uI_s, pk_us]; rfl, by simp (disch := omega) only [uI1, fA2, rz_fA_n, rz_uI_n, rz_fA_s, rz_uI_s, pk_us]; rfl⟩, rfl⟩, fun z a b => by simp (disch := omega) only [uI1, fA2, rz_fA_n, rz_uI_n, rz_fA_s, rz_uI_s, pk_us], by simp (disch := omega) only [uI1, fA2, rz_fA_n, rz_uI_n, rz_fA_s, rz_uI_s, pk_us]; exact U67, fun j hj => by omega, T6.trans (by simp (disch := omega) only [uI1, fA2, rz_fA_n, rz_uI_n, rz_fA_s, rz_uI_s, pk_us]; exact U68.symm), Or.inl T6, Chn_set CT⟩
  have h61 : ∀ x V, x = 0 → V = st_set T 61 0 0 → rz_ev mM_fault [.ref 116, .int 61, .int 0, .int 0] U (rz_i (fun y W => rcE c M pr T U x V y W)) := fun x V hx hV => by
    subst hx
    subst hV
    exact rz_toI (c_M_fault _ _ _) hm61
  refine ⟨fun z => absurd z c0, fun _ => ⟨fun z => absurd z g15, fun _ => ⟨rin hc (by omega), ?_⟩⟩⟩
  rcases CT.2 with m | ⟨m, r⟩ | ⟨m, r⟩ | ⟨m, r⟩ | ⟨m, r⟩ <;> rw [m] at hK3 ⊢
  · refine ⟨fun _ => p_Dos_receive_40 (rz_toI (c_Status_set _ _ _) (hK3 0 _ ⟨fun _ => h61 _ _ rfl rfl, fun z => absurd z (by decide), fun z => absurd z (by decide), fun z => absurd z (by decide), fun z => absurd z (by decide)⟩ ⟨_, _, hm61⟩)), fun z => absurd rfl z⟩
  · refine ⟨fun z => absurd z (by decide), fun _ => ⟨fun z => absurd z (by decide), fun _ => fl_loop (M := M) hc h300 n 0 T U 0 (by omega) (by decide) hI (Tm.trans m) m r _ (fun x V h => ?_)⟩⟩
    have hr : rz_ev mM_readsFile [.ref 116, .int (nI c), .int (nI n)] U (rz_i (fun y W => rcE c M pr T U x V y W)) := by
      show rz _ 0 [(0, .ref 116), (1, .int (nI c)), (2, .int (nI n))] [] _ _
      refine p_M_readsFile_0 ?_
      rw [e64]
      exact h
    exact hK3 x V ⟨fun z => absurd z (by decide), fun _ => hr, fun z => absurd z (by decide), fun z => absurd z (by decide), fun z => absurd z (by decide)⟩ (some_ hr)
  · refine ⟨fun z => absurd z (by decide), fun _ => ⟨fun _ => p_Dos_receive_40 (rz_toI (c_Status_set _ _ _) (hK3 0 _ ⟨fun z => absurd z (by decide), fun z => absurd z (by decide), fun _ => h61 _ _ rfl rfl, fun z => absurd z (by decide), fun z => absurd z (by decide)⟩ ⟨_, _, hm61⟩)), fun z => absurd rfl z⟩⟩
  · refine ⟨fun z => absurd z (by decide), fun _ => ⟨fun z => absurd z (by decide), fun _ => ls_loop (M := M) hc h300 n 0 T U 0 (by omega) (by decide) hI (Tm.trans m) m r _ (fun x V h => ?_)⟩⟩
    have hr : rz_ev mM_readsList [.ref 116, .int (nI c), .int (nI n)] U (rz_i (fun y W => rcE c M pr T U x V y W)) := by
      show rz _ 0 [(0, .ref 116), (1, .int (nI c)), (2, .int (nI n))] [] _ _
      exact p_M_readsList_0 h
    exact hK3 x V ⟨fun z => absurd z (by decide), fun z => absurd z (by decide), fun z => absurd z (by decide), fun _ => hr, fun z => absurd z (by decide)⟩ (some_ hr)
  · refine ⟨fun z => absurd z (by decide), fun _ => ⟨fun z => absurd z (by decide), fun _ => bf_loop (M := M) hc h300 n 0 T U 0 (by omega) (by decide) hI (Tm.trans m) m r _ (fun x V h => ?_)⟩⟩
    have hr : rz_ev mM_readsBuffer [.ref 116, .int (nI c), .int (nI n)] U (rz_i (fun y W => rcE c M pr T U x V y W)) := by
      show rz _ 0 [(0, .ref 116), (1, .int (nI c)), (2, .int (nI n))] [] _ _
      exact p_M_readsBuffer_0 h
    exact hK3 x V ⟨fun z => absurd z (by decide), fun z => absurd z (by decide), fun z => absurd z (by decide), fun z => absurd z (by decide), fun _ => hr⟩ (some_ hr)
