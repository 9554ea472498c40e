/-! what M-R has brought is read; the call read of channel 15 -/
theorem stT_f {Sx Sm Sx1 Sm1 : rz_S} (h : stT Sx Sm) (h4 : Sx1.1 4 = Sx.1 4) (hx : ∀ z, z ≤ 6 → z ≠ 3 → Sx1.2 3 z = Sx.2 3 z) (hm : ∀ z, 56 ≤ z → z ≤ 59 → Sm1.2 116 z = Sm.2 116 z) : stT Sx1 Sm1 := by
  obtain ⟨n, a1, a2, a3, a4, a5, a6⟩ := h
  have e0 := hx 0 (by omega) (by omega)
  have e1 := hx 1 (by omega) (by omega)
  have e2 := hx 2 (by omega) (by omega)
  refine ⟨n, a1, e0.trans a2, (hm 56 (by omega) (by omega)).trans a3, ?_, ?_, ?_⟩
  · rw [e1, hm 57 (by omega) (by omega)]; exact a4
  · rw [e2, hm 58 (by omega) (by omega)]; exact a5
  · rw [e0, e1, e2, hx 5 (by omega) (by omega), hx 6 (by omega) (by omega), hm 59 (by omega) (by omega)]
    rcases a6 with h | ⟨p, b1, b2, b3, b4⟩
    · exact Or.inl h
    · exact Or.inr ⟨p, b1, ⟨(hx 5 (by omega) (by omega)).trans b2.1, by rw [h4]; exact b2.2⟩, b3, b4⟩
theorem rp_loop {Sx Sm : rz_S} {m n : Nat} (hm : m ≤ 32) (h300 : n ≤ 300) : ∀ (w i p : Nat) (Tx Tm : rz_S), p + w = m → 0 < w → i ≤ n → rsX Sx Tx → rsM Sm Tm → stT Tx Tm → Tx.2 3 3 = 0 → Tm.2 116 68 = 0 → Tx.2 3 8 = nI m → Tx.2 3 9 = nI p → Tm.2 116 61 = nI m → Tm.2 116 62 = nI p → (∀ j, j < m → Tx.1 5 j = Tm.1 149 j) → Tm.2 116 67 = nI i → (∀ j, j < i → Tx.1 115 j = Tm.1 152 j) → ∀ K : Int32 → rz_S → Prop, (∀ x Sx1, rz mM_givesMore 0 [(0, .ref 116), (1, .int (nI n))] [] Tm (rz_v (rsP Sx Sm x Sx1)) → K x Sx1) → rz mStatus_receive 7 [(0, .ref 3), (1, .int (nI n)), (2, .ref 115), (3, .int (nI i))] [] Tx (rz_i K) := by
  intro w
  induction w with
  | zero => intro i p Tx Tm _ h; omega
  | succ w ih =>
    intro i p Tx Tm hpw _ hin fx fm hst h33 h68 x8 x9 m61 m62 hrow h67 hO K hK
    by_cases hi : n ≤ i
    · have ei : i = n := by omega
      subst ei
      refine p_Status_receive_7 (na2 := 300) rfl ⟨fun _ => hK _ _ ?_, fun c => absurd (nI_le (a := i) (b := i) (by omega) (by omega)) c⟩
      refine p_M_givesMore_0 ?_
      rw [h67]
      refine ⟨fun _ => p_M_givesMore_45 ?_, fun c => absurd (nI_le (a := i) (b := i) (by omega) (by omega)) c⟩
      rw [m61, m62]
      refine ⟨fun c => ?_, fun _ => ?_⟩
      · have := (nI_eq (a := p) (b := m) (by omega) (by omega)).mp c
        omega
      · exact ⟨i, by omega, rfl, h67, hO, by rw [h33, h68], Or.inl h33, hst, Or.inr ⟨m, p, by omega, hm, x8, x9, m61, m62, hrow⟩, fx, fm⟩
    · refine p_Status_receive_7 (na2 := 300) rfl ⟨fun c => absurd ((nI_leI (by omega) (by omega)).mp c) hi, fun _ => ⟨fun c => ?_, fun _ => ⟨fun _ => ⟨fun c => ?_, fun _ => ?_⟩, fun c => absurd h33 c⟩⟩⟩
      · have := (nI_leI (a := 300) (b := i) (by omega) (by omega)).mp c
        omega
      · rw [x8, x9] at c
        have := (nI_leI (a := m) (b := p) (by omega) (by omega)).mp c
        omega
      have key : ∀ e : Int32, (e = 0 ∧ p + 1 < m ∨ e = 1 ∧ p + 1 = m) → rx_in (nI i) 300 = true ∧ rz mStatus_receive 7 [(0, .ref 3), (1, .int (nI n)), (2, .ref 115), (3, .int (nI i + 1))] [] (rz_fA (rz_uI (rz_uI Tx 3 9 (nI (p + 1))) 3 3 e) 115 (upd ((rz_uI (rz_uI Tx 3 9 (nI (p + 1))) 3 3 e).1 115) (nI i).toNatClampNeg (Tx.1 5 p))) (rz_i K) := by
        intro e he
        refine ⟨rin (by omega) (by omega), ?_⟩
        rw [nI_clamp (by omega), nI_1]
        generalize hVx : rz_fA (rz_uI (rz_uI Tx 3 9 (nI (p + 1))) 3 3 e) 115 (upd ((rz_uI (rz_uI Tx 3 9 (nI (p + 1))) 3 3 e).1 115) i (Tx.1 5 p)) = Vx
        have gx : rsX Sx Vx := by rw [← hVx]; exact rsX_t fx (rsX_t (rsX_u (by omega)) (rsX_t (rsX_u (by omega)) rsX_f))
        have vx : ∀ z, z ≠ 9 → z ≠ 3 → Vx.2 3 z = Tx.2 3 z := fun z a b => by
          rw [← hVx]
          show (rz_uI (rz_uI Tx 3 9 (nI (p + 1))) 3 3 e).2 3 z = _
          rw [rz_uI_n (by omega), rz_uI_n (by omega)]
        have vx9 : Vx.2 3 9 = nI (p + 1) := by rw [← hVx]; rfl
        have vx3 : Vx.2 3 3 = e := by rw [← hVx]; rfl
        have vxa : ∀ q, q ≠ 115 → Vx.1 q = Tx.1 q := fun q hq => by rw [← hVx]; exact rz_fA_n hq
        have vxo : Vx.1 115 = upd (Tx.1 115) i (Tx.1 5 p) := by rw [← hVx]; exact rz_fA_s
        generalize hVm : rz_uI (rz_uI (rz_fA Tm 152 (upd (Tm.1 152) i (Tx.1 5 p))) 116 67 (nI (i + 1))) 116 62 (nI (p + 1)) = Vm
        have fm2 : rsM Sm Vm := by rw [← hVm]; exact rsM_t fm (rsM_t rsM_f (rsM_t (rsM_u (by omega)) (rsM_u (by omega))))
        have vm : ∀ z, z ≠ 67 → z ≠ 62 → Vm.2 116 z = Tm.2 116 z := fun z a b => by rw [← hVm, rz_uI_n (by omega), rz_uI_n (by omega)]; rfl
        have vm67 : Vm.2 116 67 = nI (i + 1) := by rw [← hVm, rz_uI_n (by omega), rz_uI_s]
        have vm62 : Vm.2 116 62 = nI (p + 1) := by rw [← hVm, rz_uI_s]
        have vmo : Vm.1 152 = upd (Tm.1 152) i (Tx.1 5 p) := by rw [← hVm]; exact (show (rz_fA Tm 152 (upd (Tm.1 152) i (Tx.1 5 p))).1 152 = _ from rz_fA_s)
        have vma : Vm.1 149 = Tm.1 149 := by rw [← hVm]; exact (show (rz_fA Tm 152 (upd (Tm.1 152) i (Tx.1 5 p))).1 149 = _ from rz_fA_n (by omega))
        have hK2 : ∀ x Sx1, rz mM_givesMore 0 [(0, .ref 116), (1, .int (nI n))] [] Vm (rz_v (rsP Sx Sm x Sx1)) → K x Sx1 := fun x Sx1 h => hK x Sx1 (by
          refine p_M_givesMore_0 ?_
          rw [h67, m61, m62]
          refine ⟨fun c => absurd ((nI_leI (by omega) (by omega)).mp c) hi, fun _ => ⟨fun c => ?_, fun _ => ⟨rin (by omega) (by omega), ?_⟩⟩⟩
          · have := (nI_leI (a := m) (b := p) (by omega) (by omega)).mp c
            omega
          rw [nI_clamp (by omega), ← hrow p (by omega)]
          refine rz_toV (d_gives (by omega) h67 _) ?_
          have e62 : (rz_uI (rz_fA Tm 152 (upd (Tm.1 152) i (Tx.1 5 p))) 116 67 (nI (i + 1))).2 116 62 = nI p := m62
          rw [e62, nI_1, hVm]
          exact h)
        have hO2 : ∀ j, j < i + 1 → Vx.1 115 j = Vm.1 152 j := fun j hj => by
          rw [vxo, vmo]
          exact ou_s hO j hj
        have hst2 : stT Vx Vm := stT_f hst (vxa 4 (by omega)) (fun z a b => vx z (by omega) b) (fun z a b => vm z (by omega) (by omega))
        rcases he with ⟨rfl, lt⟩ | ⟨rfl, eq⟩
        · exact ih (i + 1) (p + 1) Vx Vm (by omega) (by omega) (by omega) gx fm2 hst2 vx3 ((vm 68 (by omega) (by omega)).trans h68) ((vx 8 (by omega) (by omega)).trans x8) vx9 ((vm 61 (by omega) (by omega)).trans m61) vm62 (fun j hj => by rw [vxa 5 (by omega), vma]; exact hrow j hj) vm67 hO2 K hK2
        · have f45 : rz mM_givesMore 45 [(0, .ref 116)] [] Vm (rz_v (rsP Sx Sm (nI (i + 1)) Vx)) := by
            refine p_M_givesMore_45 ⟨fun _ => ?_, fun c => absurd (by rw [vm62, vm 61 (by omega) (by omega), m61, eq]) c⟩
            refine ⟨i + 1, by omega, rfl, vm67, hO2, vx3, Or.inr vx3, stT_f hst2 rfl (fun _ _ _ => rfl) (fun z a b => ?_), Or.inl ⟨rfl, rfl, ?_⟩, gx, rsM_t fm2 (rsM_t (rsM_u (by omega)) (rsM_t (rsM_u (by omega)) (rsM_u (by omega))))⟩
            · rw [rz_uI_n (by omega), rz_uI_n (by omega), rz_uI_n (by omega)]
            · rw [vx9, vx 8 (by omega) (by omega), x8, eq]
              exact nI_le (Nat.le_refl _) (by omega)
          have fin : rz mM_givesMore 0 [(0, .ref 116), (1, .int (nI n))] [] Vm (rz_v (rsP Sx Sm (nI (i + 1)) Vx)) := by
            refine p_M_givesMore_0 ⟨fun _ => f45, fun _ => ⟨fun _ => f45, fun c => absurd ?_ c⟩⟩
            rw [vm62, vm 61 (by omega) (by omega), m61, eq]
            exact nI_le (Nat.le_refl _) (by omega)
          exact p_Status_receive_7 (na2 := 300) rfl ⟨fun _ => hK2 _ _ fin, fun _ => ⟨fun _ => hK2 _ _ fin, fun _ => ⟨fun c => absurd (vx3.symm.trans c) (by decide), fun _ => hK2 _ _ fin⟩⟩⟩
      show rz_ev mStatus_replyByte [.ref 3] Tx _
      show rz _ 0 [(0, .ref 3)] [] _ _
      refine p_Status_replyByte_0 ?_
      rw [x9]
      refine ⟨fun c => ?_, fun _ => ⟨rin (by omega) (by omega), p_Status_replyByte_22 ?_⟩⟩
      · have := (nI_leI (a := 32) (b := p) (by omega) (by omega)).mp c
        omega
      rw [x9, x8, show nI p + 1 = nI (p + 1) from nI_1 p, show (nI p).toNatClampNeg = p from nI_clamp (by omega)]
      refine ⟨fun c => key 0 (Or.inl ⟨rfl, (nI_ltI (by omega) (by omega)).mp c⟩), fun c => key 1 (Or.inr ⟨rfl, ?_⟩)⟩
      have : ¬ p + 1 < m := fun z => c (nI_lt z (by omega))
      omega
theorem d_spellE {S : rz_S} {n k : Nat} (hk : cdN k) (h56 : S.2 116 56 = nI k) : ∃ S1, WB S1 (spl (S.2 116 56) (S.2 116 57) (S.2 116 58) (wds k)) ∧ wbM S S1 ∧ ∀ Q : rz_S → Prop, rz mM_givesStatus 61 [(0, .ref 116), (1, .int (nI n))] [] S1 (rz_v Q) → rz_ev mM_givesStatus [.ref 116, .int (nI n)] S (rz_v Q) := by
  have hw := wds_l hk
  have t0 : WB (rz_uI S 116 70 0) [] := ⟨rfl, fun j hj => absurd hj (Nat.not_lt_zero _)⟩
  have f0 : wbM S (rz_uI S 116 70 0) := ⟨fun _ _ => rfl, fun u z h => rz_uI_n h⟩
  obtain ⟨_, S1, h1, rfl, q1⟩ := rzx_ev (d_two t0 (by simp) (S.2 116 56))
  obtain ⟨_, S2, h2, rfl, q2⟩ := rzx_ev (d_says q1.1 (by simp [two]) 44)
  have f2 := wbM_t f0 (wbM_t q1.2 q2.2)
  obtain ⟨_, S3, h3, rfl, q3⟩ := rzx_ev (d_words hk q2.1 (by simp [two]))
  obtain ⟨_, S4, h4, rfl, q4⟩ := rzx_ev (d_says q3.1 (by simp [two]; omega) 44)
  have f4 := wbM_t f2 (wbM_t q3.2 q4.2)
  obtain ⟨_, S5, h5, rfl, q5⟩ := rzx_ev (d_two q4.1 (by simp [two]; omega) (S.2 116 57))
  obtain ⟨_, S6, h6, rfl, q6⟩ := rzx_ev (d_says q5.1 (by simp [two]; omega) 44)
  have f6 := wbM_t f4 (wbM_t q5.2 q6.2)
  obtain ⟨_, S7, h7, rfl, q7⟩ := rzx_ev (d_two q6.1 (by simp [two]; omega) (S.2 116 58))
  obtain ⟨_, S8, h8, rfl, q8⟩ := rzx_ev (d_says q7.1 (by simp [two]; omega) 13)
  refine ⟨S8, wb_c q8.1 (by unfold spl; rw [List.nil_append]), wbM_t f6 (wbM_t q7.2 q8.2), fun Q h => ?_⟩
  show rz _ 0 [(0, .ref 116), (1, .int (nI n))] [] _ _
  refine p_M_givesStatus_0 (rzx_V h1 (rzx_V h2 ?_))
  rw [f2.2 116 56 (by omega), h56]
  refine rzx_V h3 (rzx_V h4 ?_)
  rw [f4.2 116 57 (by omega)]
  refine rzx_V h5 (rzx_V h6 ?_)
  rw [f6.2 116 58 (by omega)]
  exact rzx_V h7 (rzx_V h8 h)
/-- what the call read of channel 15 ends with -/
def r5P (Sx Sm : rz_S) (x : Int32) (Sx1 : rz_S) (y : Int32) (Sm1 : rz_S) : Prop := x = y ∧ ouR Sx1 Sm1 ∧ stT Sx1 Sm1 ∧ rpR Sx1 Sm1 ∧ (∃ V, rsX Sx V ∧ V.1 = Sx1.1 ∧ ∀ u z, ¬ (u = 0 ∧ (z = 7 ∨ z = 8)) → Sx1.2 u z = V.2 u z) ∧ rsM Sm Sm1
theorem PR_read15 {Sx Sm : rz_S} {n : Nat} (h1 : 1 ≤ n) (h300 : n ≤ 300) (hst : stT Sx Sm) (hrp : rpR Sx Sm) : PCi mX_read mM_read [.ref 0, .int (nI 15), .int (nI n)] [.ref 116, .int (nI 15), .int (nI n)] Sx Sm (r5P Sx Sm) := by
  refine PCi_of (fun K hK => ?_)
  show rz _ 0 [(0, .ref 0), (1, .int (nI 15)), (2, .int (nI n))] [] _ _
  have hn0 : ¬ nI n < 1 := nI_nlt (b := 1) (by omega) (by omega)
  have hn3 : nI n ≤ 300 := nI_le (b := 300) (by omega) (by omega)
  have gm : rsM Sm (rz_uI (rz_uI Sm 116 67 0) 116 68 0) := rsM_t (rsM_u (by omega)) (rsM_u (by omega))
  have fin : ∀ x V Vm, rsP (rz_uI Sx 3 3 0) (rz_uI (rz_uI Sm 116 67 0) 116 68 0) x V Vm → (V.2 3 3 = 0 ∨ V.2 3 3 = 1) ∧ r5P Sx Sm x (rz_uI (rz_uI V 0 7 x) 0 8 (V.2 3 3)) (Vm.2 116 67) Vm := by
    intro x V Vm h
    obtain ⟨i, a1, a2, a3, a4, a5, a6, a7, a8, a9, a10⟩ := h
    refine ⟨a6, a2.trans a3.symm, ⟨⟨i, a1, a2, a3, a4⟩, a5, a6⟩, stT_f a7 rfl (fun z _ _ => ?_) (fun _ _ _ => rfl), ?_, ⟨V, rsX_t (rsX_u (by omega)) a9, rfl, fun u z hz => ?_⟩, rsM_t gm a10⟩
    · rw [rz_uI_n (by omega), rz_uI_n (by omega)]
    · rcases a8 with ⟨b1, b2, b3⟩ | ⟨m, p, b1, b2, b3, b4, b5, b6, b7⟩
      · exact Or.inl ⟨b1, b2, b3⟩
      · exact Or.inr ⟨m, p, b1, b2, b3, b4, b5, b6, b7⟩
    · rw [rz_uI_n (by omega), rz_uI_n (by omega)]
  refine p_X_read_0 (rz_toI (c_isChannel _) ⟨fun c => absurd c (by decide), fun _ => ⟨fun c => absurd c hn0, fun _ => ⟨fun _ => ⟨fun _ => ?_, fun c => absurd rfl c⟩, fun c => absurd hn3 c⟩⟩⟩)
  show rz _ 0 [(0, .ref 3), (1, .int (nI n)), (2, .ref 115)] [] _ _
  refine p_Status_receive_0 (na2 := 300) rfl ?_
  have hK2 : ∀ x Sx1, ((Sm.2 116 61 ≤ 0 → rz_ev mM_givesStatus [.ref 116, .int (nI n)] (rz_uI (rz_uI Sm 116 67 0) 116 68 0) (rz_v (fun Sq13 => r5P Sx Sm x Sx1 (Sq13.2 116 67) Sq13))) ∧ (¬ Sm.2 116 61 ≤ 0 → rz_ev mM_givesMore [.ref 116, .int (nI n)] (rz_uI (rz_uI Sm 116 67 0) 116 68 0) (rz_v (fun Sq14 => r5P Sx Sm x Sx1 (Sq14.2 116 67) Sq14)))) → K x Sx1 := fun x Sx1 h => hK x Sx1 (by
    show rz _ 0 [(0, .ref 116), (1, .int (nI 15)), (2, .int (nI n))] [] _ _
    exact p_M_read_0 ⟨fun c => absurd c (by decide), fun _ => ⟨fun c => absurd c (by decide), fun _ => ⟨fun c => absurd c hn0, fun _ => ⟨fun _ => ⟨fun _ => h, fun c => absurd rfl c⟩, fun c => absurd hn3 c⟩⟩⟩⟩)
  have hst1 : stT (rz_uI Sx 3 3 0) (rz_uI (rz_uI Sm 116 67 0) 116 68 0) := stT_f hst rfl (fun z _ b => rz_uI_n (by omega)) (fun z a b => by rw [rz_uI_n (by omega), rz_uI_n (by omega)])
  rcases hrp with ⟨b1, b2, b3⟩ | ⟨m, p, b1, b2, b3, b4, b5, b6, b7⟩
  · obtain ⟨k, a1, a2, a3, a4, a5, a6⟩ := hst1
    have hw := wds_l a1
    have hT : ∃ p, p < (spl ((rz_uI Sx 3 3 0).2 3 0) ((rz_uI Sx 3 3 0).2 3 1) ((rz_uI Sx 3 3 0).2 3 2) (wds k)).length ∧ (rz_uI Sx 3 3 0).2 3 6 = nI p ∧ Sm.2 116 59 = nI p ∧ ((rz_uI Sx 3 3 0).2 3 5 = 0 ∧ p = 0 ∨ TB (rz_uI Sx 3 3 0) (spl ((rz_uI Sx 3 3 0).2 3 0) ((rz_uI Sx 3 3 0).2 3 1) ((rz_uI Sx 3 3 0).2 3 2) (wds k))) := by
      rcases a6 with ⟨c1, c2, c3⟩ | ⟨p, c1, c2, c3, c4⟩
      · exact ⟨0, by rw [spl_l]; omega, c2, c3, Or.inl ⟨c1, rfl⟩⟩
      · exact ⟨p, c1, c3, c4, Or.inr c2⟩
    obtain ⟨p, p1, p2, p3, p4⟩ := hT
    have run : ∀ S1 Q, WB S1 (spl ((rz_uI (rz_uI Sm 116 67 0) 116 68 0).2 116 56) ((rz_uI (rz_uI Sm 116 67 0) 116 68 0).2 116 57) ((rz_uI (rz_uI Sm 116 67 0) 116 68 0).2 116 58) (wds k)) → wbM (rz_uI (rz_uI Sm 116 67 0) 116 68 0) S1 → (∀ x V, rz mM_givesStatus 61 [(0, .ref 116), (1, .int (nI n))] [] S1 (rz_v (rsP (rz_uI Sx 3 3 0) (rz_uI (rz_uI Sm 116 67 0) 116 68 0) x V)) → Q x V) → rz mStatus_receive 7 [(0, .ref 3), (1, .int (nI n)), (2, .ref 115), (3, .int 0)] [] (rz_uI Sx 3 3 0) (rz_i Q) := by
      intro S1 Q hW hf hq
      have fM : rsM (rz_uI (rz_uI Sm 116 67 0) 116 68 0) S1 := ⟨fun q a b => hf.1 q a, fun u z h => hf.2 u z fun e => h ⟨e.1, by omega⟩⟩
      have eT : spl ((rz_uI (rz_uI Sm 116 67 0) 116 68 0).2 116 56) ((rz_uI (rz_uI Sm 116 67 0) 116 68 0).2 116 57) ((rz_uI (rz_uI Sm 116 67 0) 116 68 0).2 116 58) (wds k) = spl ((rz_uI Sx 3 3 0).2 3 0) ((rz_uI Sx 3 3 0).2 3 1) ((rz_uI Sx 3 3 0).2 3 2) (wds k) := by
        rw [a3, a4, a5, a2]
      exact rs_loop (Sx := rz_uI Sx 3 3 0) (Sm := rz_uI (rz_uI Sm 116 67 0) 116 68 0) (k := k) a1 rfl h300 a2 a3 a4 a5 ⟨b1, b2, b3⟩ _ 0 p _ S1 (Nat.add_sub_cancel' (Nat.le_of_lt p1)) (by omega) (by omega) (Or.inl (by omega)) (rsX_r _) fM (fun _ _ => rfl) rfl rfl ((hf.2 116 68 (by omega)).trans rfl) (fun z a b => hf.2 116 z (by omega)) ((hf.2 116 61 (by omega)).trans b1) ((hf.2 116 62 (by omega)).trans b2) p2 p4 ((hf.2 116 67 (by omega)).trans rfl) ((hf.2 116 59 (by omega)).trans p3) (wb_c hW eT) (fun j hj => by omega) Q hq
    -- the right run first: its spelled state
    obtain ⟨S1, w1, w2, w3⟩ : ∃ S1, WB S1 (spl ((rz_uI (rz_uI Sm 116 67 0) 116 68 0).2 116 56) ((rz_uI (rz_uI Sm 116 67 0) 116 68 0).2 116 57) ((rz_uI (rz_uI Sm 116 67 0) 116 68 0).2 116 58) (wds k)) ∧ wbM (rz_uI (rz_uI Sm 116 67 0) 116 68 0) S1 ∧ ∀ Q : rz_S → Prop, rz mM_givesStatus 61 [(0, .ref 116), (1, .int (nI n))] [] S1 (rz_v Q) → rz_ev mM_givesStatus [.ref 116, .int (nI n)] (rz_uI (rz_uI Sm 116 67 0) 116 68 0) (rz_v Q) := d_spellE a1 a3
    refine run S1 _ w1 w2 (fun x V h => ?_)
    have h' := h
    obtain ⟨_, _, Vm, _, _, e2⟩ := h'
    exact ⟨(fin x V Vm e2).1, hK2 _ _ ⟨fun _ => w3 _ (rz_weak h (fun r S' q => ⟨q.1, (fin x V S' q.2).2⟩)), fun c => absurd (by rw [b1]; decide) c⟩⟩
  · refine rp_loop (Sx := rz_uI Sx 3 3 0) (Sm := rz_uI (rz_uI Sm 116 67 0) 116 68 0) (m := m) (n := n) b2 h300 (m - p) 0 p _ (rz_uI (rz_uI Sm 116 67 0) 116 68 0) (by omega) (by omega) (by omega) (rsX_r _) (rsM_r _) hst1 rfl rfl b3 b4 b5 b6 b7 rfl (fun j hj => by omega) _ (fun x V h => ?_)
    have h' := h
    obtain ⟨_, _, Vm, _, _, e2⟩ := h'
    refine ⟨(fin x V Vm e2).1, hK2 _ _ ⟨fun c => ?_, fun _ => rz_weak h (fun r S' q => ⟨q.1, (fin x V S' q.2).2⟩)⟩⟩
    rw [b5] at c
    have := (nI_leI (a := m) (b := 0) (by omega) (by omega)).mp c
    omega
