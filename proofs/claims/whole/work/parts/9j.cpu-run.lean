/-! a PROGRAM is done: both sides -/
def z6gM (S S1 : rz_S) : Prop := (∀ q, q ≠ 155 → S1.1 q = S.1 q) ∧ ∀ u z, ¬ (u = 116 ∧ (75 ≤ z ∧ z ≤ 83 ∨ z = 4 ∨ z = 5)) → S1.2 u z = S.2 u z
theorem z6gM_f {S S1 : rz_S} (h : z6fM S S1) : z6gM S S1 := ⟨h.1, fun u z a => h.2 u z fun e => a ⟨e.1, Or.inl e.2⟩⟩
theorem z6gM_u {S S1 : rz_S} {k : Nat} {v : Int32} (h : z6gM S S1) (hk : 75 ≤ k ∧ k ≤ 83 ∨ k = 4 ∨ k = 5) : z6gM S (rz_uI S1 116 k v) := ⟨h.1, fun u z a => (rz_uI_n fun e => a ⟨e.1, by omega⟩).trans (h.2 u z a)⟩
/-- what a PROGRAM ends with -/
def rnE (Sx Sm : rz_S) (x : Int32) (Sx1 : rz_S) (y : Int32) (Sm1 : rz_S) : Prop := ∃ (r : Nat → Int32) (G : Int32 → Int32), z6X Sx1 r G ∧ z6M Sm1 r G ∧ Sm1.2 116 82 = r 5 ∧ z6fX Sx Sx1 ∧ z6gM Sm Sm1 ∧ ((x = 0 ∧ y = 0) ∨ ∃ h : Nat, 1 ≤ h ∧ h ≤ 2 ∧ x = nI h ∧ y = 28 ∧ Sm1.2 116 4 = nI h ∧ Sm1.2 116 5 = 0)
theorem rn_loop {Sx Sm : rz_S} : ∀ (w cy i : Nat) (Tx Tm : rz_S) (r : Nat → Int32) (G : Int32 → Int32), 10000 ≤ w + cy → 2 * i ≤ cy → cy < 10010 → r 6 = nI cy → z6X Tx r G → z6M Tm r G → z6O r G → z6fX Sx Tx → z6fM Sm Tm → ∀ K : Int32 → rz_S → Prop, (∀ x Sx1, rz mM_runs 38 [(0, .ref 116)] [] Tm (rz_i (rnE Sx Sm x Sx1)) → K x Sx1) → rz mProcessor_run 7 [(0, .ref 37), (2, .int (nI i))] [] Tx (rz_i K) := by
  intro w
  induction w with
  | zero =>
    intro cy i Tx Tm r G hw hi hcy h6 hX hM hO fx fm K hK
    have e6 : Tx.2 37 6 = nI cy := (hX.1 6 (by omega)).trans h6
    have m6 : Tm.2 116 81 = nI cy := (show Tm.2 116 81 = r 6 from hM.1 6 (by omega)).trans h6
    have m5 : Tm.2 116 80 = r 5 := hM.1 5 (by omega)
    refine p_Processor_run_7 ⟨fun c => ?_, fun _ => ⟨fun _ => hK 2 Tx ?_, fun c => ?_⟩⟩
    · have := (nI_leI (a := 10000) (by omega) (by omega)).mp c
      omega
    · refine p_M_runs_38 ⟨fun _ => rz_toI (c_M_fault _ _ _) ?_, fun c => ?_⟩
      · rw [m5]
        exact ⟨r, G, hX, z6M_o (z6M_o (z6M_o hM (by omega)) (by omega)) (by omega), rfl, fx, z6gM_u (z6gM_u (z6gM_u (z6gM_f fm) (by omega)) (by omega)) (by omega), Or.inr ⟨2, by omega, by omega, rfl, rfl, rfl, rfl⟩⟩
      · rw [m6] at c
        exact absurd (nI_le (a := 10000) (by omega) (by omega)) c
    · rw [e6] at c
      exact absurd (nI_le (a := 10000) (by omega) (by omega)) c
  | succ w ih =>
    intro cy i Tx Tm r G hw hi hcy h6 hX hM hO fx fm K hK
    have e6 : Tx.2 37 6 = nI cy := (hX.1 6 (by omega)).trans h6
    have m6 : Tm.2 116 81 = nI cy := (show Tm.2 116 81 = r 6 from hM.1 6 (by omega)).trans h6
    have m5 : Tm.2 116 80 = r 5 := hM.1 5 (by omega)
    have e5 : Tx.2 37 5 = r 5 := hX.1 5 (by omega)
    by_cases hc : 10000 ≤ cy
    · refine p_Processor_run_7 ⟨fun c => ?_, fun _ => ⟨fun _ => hK 2 Tx ?_, fun c => ?_⟩⟩
      · have := (nI_leI (a := 10000) (by omega) (by omega)).mp c
        omega
      · refine p_M_runs_38 ⟨fun _ => rz_toI (c_M_fault _ _ _) ?_, fun c => ?_⟩
        · rw [m5]
          exact ⟨r, G, hX, z6M_o (z6M_o (z6M_o hM (by omega)) (by omega)) (by omega), rfl, fx, z6gM_u (z6gM_u (z6gM_u (z6gM_f fm) (by omega)) (by omega)) (by omega), Or.inr ⟨2, by omega, by omega, rfl, rfl, rfl, rfl⟩⟩
        · rw [m6] at c
          exact absurd (nI_le (a := 10000) (by omega) (by omega)) c
      · rw [e6] at c
        exact absurd (nI_le (a := 10000) (by omega) (by omega)) c
    obtain ⟨n, hn, en⟩ := hO.2.2 (r 5)
    have en8 : nI n &&& 255 = nI n := byt_8 ⟨n, hn, rfl⟩
    have ncl : (nI n).toNatClampNeg = n := nI_clamp (by omega)
    have hK2 : ∀ x Sx1, ((nI n = 0 → rnE Sx Sm x Sx1 0 (rz_uI (rz_uI Tm 116 81 (nI cy + 7)) 116 82 (r 5))) ∧ (¬ nI n = 0 → rz_ev mM_step [.ref 116, .int (nI n)] (rz_uI Tm 116 80 (z6n (r 5))) (rz_i (fun xq5 Sq5 => ((xq5 = 0 → rnE Sx Sm x Sx1 28 (rz_uI (rz_uI (rz_uI (rz_uI Sq5 116 80 (r 5)) 116 82 (r 5)) 116 4 1) 116 5 0)) ∧ (¬ xq5 = 0 → rz mM_runs 38 [(0, .ref 116)] [] (rz_uI Sq5 116 80 ((Sq5.2 116 80) &&& 2047)) (rz_i (rnE Sx Sm x Sx1)))))))) → K x Sx1 := fun x Sx1 h => hK x Sx1 (by
      refine p_M_runs_38 ⟨fun c => ?_, fun _ => ?_⟩
      · rw [m6] at c
        have := (nI_leI (a := 10000) (by omega) (by omega)).mp c
        omega
      · rw [m5]
        refine rz_toI (d6_get hM _) ?_
        rw [en, m6, m5]
        exact ⟨h.1, fun c => rz_useI (h.2 c) (fun x5 S5 q => ⟨fun c5 => rz_toI (c_M_fault _ _ _) (q.1 c5), q.2⟩)⟩)
    refine p_Processor_run_7 ⟨fun c => ?_, fun _ => ⟨fun c => ?_, fun _ => ?_⟩⟩
    · have := (nI_leI (a := 10000) (by omega) (by omega)).mp c
      omega
    · rw [e6] at c
      have := (nI_leI (a := 10000) (by omega) (by omega)).mp c
      omega
    rw [e5]
    refine rz_toI (c6_get hX _) ?_
    rw [en, en8, ncl, e6, e5]
    refine ⟨rin hn (by omega), ?_⟩
    rcases T6_all n hn with ⟨rfl, t1, t2⟩ | ⟨n0, t1, t2⟩ | ⟨n0, c, wy, T, t1, c0, c56, t2, t3, t4⟩
    · rw [t1, t2]
      refine ⟨fun _ => hK2 _ _ ⟨fun _ => ?_, fun z => absurd rfl z⟩, fun z => absurd rfl z⟩
      exact ⟨upd r 6 (nI cy + 7), G, z6X_u hX, z6M_o (z6M_u (k := 6) hM) (by omega), rfl, z6fX_u fx, z6gM_u (z6gM_u (z6gM_f fm) (by omega)) (by omega), Or.inl ⟨rfl, rfl⟩⟩
    · have nn : ¬ nI n = 0 := nI_ne0 (by omega) (by omega)
      rw [t1]
      refine ⟨fun z => absurd z (by decide), fun _ => ⟨fun _ => hK2 _ _ ⟨fun z => absurd z nn, fun _ => rz_toI (t2 _) ⟨fun _ => ?_, fun z => absurd rfl z⟩⟩, fun z => absurd rfl z⟩⟩
      rw [rz_uIU]
      refine ⟨r, G, hX, z6M_o (z6M_o (z6M_o (z6M_e (z6M_u (k := 5) (v := r 5) hM) (c7 rfl rfl rfl rfl rfl rfl rfl)) (by omega)) (by omega)) (by omega), rfl, fx, z6gM_u (z6gM_u (z6gM_u (z6gM_u (z6gM_f fm) (by omega)) (by omega)) (by omega)) (by omega), Or.inr ⟨1, by omega, by omega, rfl, rfl, rfl, rfl⟩⟩
    · have nn : ¬ nI n = 0 := nI_ne0 (by omega) (by omega)
      have c56' : ¬ nI c = 56 := fun z => by have := (nI_eq (b := 56) (by omega) (by omega)).mp z; omega
      have c0' : ¬ nI c = 0 := nI_ne0 (by omega) (by omega)
      rw [t1, t2, t3]
      refine ⟨fun z => absurd z c56', fun _ => ⟨fun z => absurd z c0', fun _ => ?_⟩⟩
      have hX1 : z6X (rz_uI (rz_uI Tx 37 5 (z6n (r 5))) 37 6 (nI cy + nI T)) (z6t T (upd r 5 (z6n (r 5)))) G := by
        have := z6X_u (k := 6) (v := r 6 + nI T) (z6X_u (k := 5) (v := z6n (r 5)) hX)
        rw [h6] at this
        refine z6X_e this (c7 rfl rfl rfl rfl rfl rfl ?_)
        show nI cy + nI T = r 6 + nI T
        rw [h6]
      have hO1 : z6O (upd r 5 (z6n (r 5))) G := ⟨hO.1, z6_pc _, hO.2.2⟩
      obtain ⟨S1, S2, Sm1, r', G', k, p1, p2, p3, p4, p5, p6, p7, p8, p9, p10⟩ := t4 _ (rz_uI Tm 116 80 (z6n (r 5))) _ _ hX1 (z6M_u (k := 5) hM) hO1
      have p7' : r' 6 = nI (cy + k) := by rw [p7]; show r 6 + nI k = _; rw [h6, nI_add]
      refine rzx_V p1 (rzx_V p2 ?_)
      rw [nI_1]
      refine ih (cy + k) (i + 1) S2 (rz_uI Sm1 116 80 (Sm1.2 116 80 &&& 2047)) r' G' (by omega) (by omega) (by omega) p7' p4 p5 p6 (z6fX_t (z6fX_u (z6fX_u fx)) p9) (z6fM_u (z6fM_t (z6fM_u fm (by omega)) p10) (by omega)) K (fun x Sx1 h => hK2 x Sx1 ⟨fun z => absurd z nn, fun _ => rzx_I p3 ⟨fun z => absurd z (by decide), fun _ => h⟩⟩)
theorem PR_run {Sx Sm : rz_S} (a : Int32) (hm : ∀ b : Int32, Sx.1 38 ((b &&& 2047).toNatClampNeg) = Sm.1 155 ((b &&& 2047).toNatClampNeg) &&& 255) : PCi mProcessor_run mM_runs [.ref 37, .int a] [.ref 116, .int (a &&& 2047)] Sx Sm (rnE Sx Sm) := by
  refine PCi_of (fun K hK => ?_)
  show rz _ 0 [(0, .ref 37), (1, .int a)] [] _ _
  have hb : rz_ev mProcessor_begin [.ref 37, .int a] Sx (rz_v (fun S1 => S1 = rz_uI (rz_uI (rz_uI (rz_uI (rz_uI (rz_uI (rz_uI Sx 37 0 0) 37 1 0) 37 2 0) 37 3 255) 37 4 36) 37 5 (a &&& 2047)) 37 6 0)) := by
    show rz _ 0 [(0, .ref 37), (1, .int a)] [] _ _
    exact p_Processor_begin_0 rfl
  refine p_Processor_run_0 (rz_toV hb ?_)
  let G : Int32 → Int32 := fun b => Sm.1 155 ((b &&& 2047).toNatClampNeg) &&& 255
  have hX0 : z6X Sx (Sx.2 37) G := ⟨fun _ _ => rfl, hm⟩
  have hM0 : z6M Sm (fun z => Sm.2 116 (75 + z)) G := ⟨fun _ _ => rfl, fun _ => rfl⟩
  let r0 : Nat → Int32 := fun z => if z = 3 then 255 else if z = 4 then 36 else if z = 5 then a &&& 2047 else 0
  have hX1 := z6X_e (r' := r0) (z6X_u (k := 6) (v := 0) (z6X_u (k := 5) (v := a &&& 2047) (z6X_u (k := 4) (v := 36) (z6X_u (k := 3) (v := 255) (z6X_u (k := 2) (v := 0) (z6X_u (k := 1) (v := 0) (z6X_u (k := 0) (v := 0) hX0))))))) (c7 rfl rfl rfl rfl rfl rfl rfl)
  have hM1 := z6M_e (r' := r0) (z6M_u (k := 5) (v := a &&& 2047) (z6M_u (k := 6) (v := 0) (z6M_u (k := 4) (v := 36) (z6M_u (k := 3) (v := 255) (z6M_u (k := 2) (v := 0) (z6M_u (k := 1) (v := 0) (z6M_u (k := 0) (v := 0) hM0))))))) (c7 rfl rfl rfl rfl rfl rfl rfl)
  have hO1 : z6O r0 G := ⟨⟨⟨0, by omega, rfl⟩, ⟨0, by omega, rfl⟩, ⟨0, by omega, rfl⟩, ⟨255, by omega, rfl⟩, ⟨36, by omega, rfl⟩⟩, z6_pc a, fun b => byt_255 _⟩
  refine rn_loop 10000 0 0 _ _ r0 G (by omega) (by omega) (by omega) rfl hX1 hM1 hO1 (z6fX_u (z6fX_u (z6fX_u (z6fX_u (z6fX_u (z6fX_u (z6fX_u (z6fX_r Sx)))))))) (z6fM_u (z6fM_u (z6fM_u (z6fM_u (z6fM_u (z6fM_u (z6fM_u (z6fM_r Sm) (by omega)) (by omega)) (by omega)) (by omega)) (by omega)) (by omega)) (by omega)) K (fun x Sx1 h => hK x Sx1 ?_)
  show rz _ 0 [(0, .ref 116), (1, .int (a &&& 2047))] [] _ _
  exact p_M_runs_0 h
