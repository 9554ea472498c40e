/-! the second processor: works; codes without an operand; branches; the stack: both sides -/
section WRK
variable {S : rz_S} {r : Nat → Int32} {G : Int32 → Int32}
theorem y6_wk {h w c : Nat} (hh : h ≤ 8) (hw : w = 0 ∧ c = 7 ∨ w = 1 ∧ c = 6 ∨ w = 2 ∧ c = 8 ∨ w = 3 ∧ c = 4 ∨ w = 5 ∧ c = 1 ∨ w = 6 ∧ c = 9 ∨ w = 7 ∧ c = 5) (hX : z6M S r G) (h4 : byt (r 4)) : rz mM_works 20 [(0, .ref 116), (2, .int (nI h)), (3, .int (nI w))] [] S (rz_i (z6Q S (z6rd h c (z6t (z6rt h) r) G) G)) := by
  refine p_M_works_20 (rz_useI (d6_address hh hX) (fun x S1 hA => ?_))
  obtain ⟨rfl, a2, a3, a4⟩ := hA
  have e6 : S1.2 116 81 = r 6 := a2.1 6 (by omega)
  have e4 : S1.2 116 79 = r 4 := a2.1 4 (by omega)
  have e0 : S1.2 116 75 = r 0 := a2.1 0 (by omega)
  refine ⟨fun d => ?_, fun _ => rz_toI (d6_readTime hh a3) ?_⟩
  · have := (nI_eq (b := 4) (by omega) (by omega)).mp d
    omega
  rw [e6, ← Int32.add_assoc]
  generalize hv6 : (r 6 + nI (z6rt h)) + z6al h r G = v6
  have hU := z6M_u (k := 6) (v := v6) a2
  have e4' : (rz_uI S1 116 81 v6).2 116 79 = r 4 := e4
  have e0' : (rz_uI S1 116 81 v6).2 116 75 = r 0 := e0
  have b4 : byt ((rz_uI S1 116 81 v6).2 116 79) := e4' ▸ h4
  refine rz_toI (d6_get hU _) ?_
  have f1 : ∀ S2, z6fM (rz_uI S1 116 81 v6) S2 → z6fM S S2 := fun S2 q => z6fM_t (z6fM_u a4 (by omega)) q
  have g2 : ∀ u v : Int32, z6fM S (rz_uI (rz_uI (rz_uI S1 116 81 v6) 116 79 u) 116 75 v) := fun u v => z6fM_u (z6fM_u (z6fM_u a4 (by omega)) (by omega)) (by omega)
  have eR : z6rd h c (z6t (z6rt h) r) G = z6uv c (upd (upd (z6t (z6rt h) r) 5 (z6an h r)) 6 v6) (G (z6ad h r G)) := by rw [← hv6]; rfl
  rw [eR]
  rcases hw with ⟨rfl, rfl⟩ | ⟨rfl, rfl⟩ | ⟨rfl, rfl⟩ | ⟨rfl, rfl⟩ | ⟨rfl, rfl⟩ | ⟨rfl, rfl⟩ | ⟨rfl, rfl⟩
  · refine ⟨fun c => absurd c (by decide), fun _ => rz_toI (d6_marks _) ?_, fun c => absurd c (by decide), fun c => absurd c (by decide), fun c => absurd c (by decide), fun c => absurd c (by decide), fun c => absurd c (by decide), fun c => absurd c (by decide)⟩
    rw [e4', e0']
    exact ⟨rfl, z6M_e (z6M_u (k := 0) (z6M_u (k := 4) hU)) (c7 rfl rfl rfl rfl rfl rfl rfl), g2 _ _⟩
  · refine ⟨fun c => absurd c (by decide), fun c => absurd c (by decide), fun _ => rz_toI (d6_marks _) ?_, fun c => absurd c (by decide), fun c => absurd c (by decide), fun c => absurd c (by decide), fun c => absurd c (by decide), fun c => absurd c (by decide)⟩
    rw [e4', e0']
    exact ⟨rfl, z6M_e (z6M_u (k := 0) (z6M_u (k := 4) hU)) (c7 rfl rfl rfl rfl rfl rfl rfl), g2 _ _⟩
  · refine ⟨fun c => absurd c (by decide), fun c => absurd c (by decide), fun c => absurd c (by decide), fun _ => rz_toI (d6_marks _) ?_, fun c => absurd c (by decide), fun c => absurd c (by decide), fun c => absurd c (by decide), fun c => absurd c (by decide)⟩
    rw [e4', e0']
    exact ⟨rfl, z6M_e (z6M_u (k := 0) (z6M_u (k := 4) hU)) (c7 rfl rfl rfl rfl rfl rfl rfl), g2 _ _⟩
  · refine ⟨fun c => absurd c (by decide), fun c => absurd c (by decide), fun c => absurd c (by decide), fun c => absurd c (by decide), fun _ => rz_toV (d6_adds _) ?_, fun c => absurd c (by decide), fun c => absurd c (by decide), fun c => absurd c (by decide)⟩
    rw [e4', e0']
    exact ⟨rfl, z6M_e (z6M_u (k := 0) (z6M_u (k := 4) hU)) (c7 rfl rfl rfl rfl rfl rfl rfl), g2 _ _⟩
  · refine ⟨fun c => absurd c (by decide), fun c => absurd c (by decide), fun c => absurd c (by decide), fun c => absurd c (by decide), fun c => absurd c (by decide), fun c => absurd c (by decide), fun _ => rz_toI (d6_marks _) ?_, fun c => absurd c (by decide)⟩
    rw [e4']
    exact ⟨rfl, z6M_e (z6M_u (k := 0) (z6M_u (k := 4) hU)) (c7 rfl rfl rfl rfl rfl rfl rfl), g2 _ _⟩
  · refine ⟨fun c => absurd c (by decide), fun c => absurd c (by decide), fun c => absurd c (by decide), fun c => absurd c (by decide), fun c => absurd c (by decide), fun c => absurd c (by decide), fun c => absurd c (by decide), fun _ => rz_toV (d6_compares _ _) ?_⟩
    rw [e4', e0']
    exact ⟨rfl, z6M_e (z6M_u (k := 4) hU) (c7 rfl rfl rfl rfl rfl rfl rfl), z6fM_u (z6fM_u a4 (by omega)) (by omega)⟩
  · refine ⟨fun _ => rz_toV (d6_takesOff _ b4) ?_, fun c => absurd c (by decide), fun c => absurd c (by decide), fun c => absurd c (by decide), fun c => absurd c (by decide), fun c => absurd c (by decide), fun c => absurd c (by decide), fun c => absurd c (by decide)⟩
    rw [e4', e0']
    exact ⟨rfl, z6M_e (z6M_u (k := 0) (z6M_u (k := 4) hU)) (c7 rfl rfl rfl rfl rfl rfl rfl), g2 _ _⟩
theorem y6_sta {h : Nat} (hh : h ≤ 8) (hX : z6M S r G) : rz mM_works 20 [(0, .ref 116), (2, .int (nI h)), (3, .int 4)] [] S (rz_i (z6Q S (upd (z6t (z6st h) r) 5 (z6an h r)) (z6s G (z6ad h r G) (r 0)))) := by
  refine p_M_works_20 (rz_useI (d6_address hh hX) (fun x S1 hA => ?_))
  obtain ⟨rfl, a2, a3, a4⟩ := hA
  have e6 : S1.2 116 81 = r 6 := a2.1 6 (by omega)
  have e0 : S1.2 116 75 = r 0 := a2.1 0 (by omega)
  refine ⟨fun _ => ?_, fun d => absurd rfl d⟩
  rw [e0]
  refine rz_toV (d6_put _ _) (rz_toI (d6_storeTime hh) ⟨rfl, z6M_e (z6M_u (k := 6) (z6M_s a2)) (c7 rfl rfl rfl rfl rfl rfl ?_), z6fM_u (z6fM_m a4) (by omega)⟩)
  show S1.2 116 81 + nI (z6st h) = r 6 + nI (z6st h)
  rw [e6]
theorem y6_works {n h w c : Nat} (hh : h ≤ 8) (hhow : rz_ev mM_howOf [.int (nI n)] S (rz_i (fun x S1 => x = nI h ∧ S1 = S))) (hwh : nI n >>> ((5 : Int32) &&& 31) = nI w) (hw : w = 0 ∧ c = 7 ∨ w = 1 ∧ c = 6 ∨ w = 2 ∧ c = 8 ∨ w = 3 ∧ c = 4 ∨ w = 5 ∧ c = 1 ∨ w = 6 ∧ c = 9 ∨ w = 7 ∧ c = 5) (h1 : nI n &&& 3 = 1) (hX : z6M S r G) (h4 : byt (r 4)) : rz_ev mM_step [.ref 116, .int (nI n)] S (rz_i (z6Q S (z6rd h c (z6t (z6rt h) r) G) G)) := by
  show rz _ 0 [(0, .ref 116), (1, .int (nI n))] [] _ _
  have hW : rz_ev mM_works [.ref 116, .int (nI n)] S (rz_i (z6Q S (z6rd h c (z6t (z6rt h) r) G) G)) := by
    show rz _ 0 [(0, .ref 116), (1, .int (nI n))] [] _ _
    refine p_M_works_0 (rz_toI hhow ?_)
    rw [hwh]
    refine ⟨fun d => ?_, fun _ => y6_wk hh hw hX h4⟩
    have := (nI_eq (b := 4) (by omega) (by omega)).mp d
    omega
  exact p_M_step_0 ⟨fun _ => rz_useI hW (fun x S1 q => ⟨Or.inr q.1, q⟩), fun d => absurd h1 d⟩
theorem y6_worksS {n h : Nat} (hh : h ≤ 8) (hh0 : ¬ h = 0) (hhow : rz_ev mM_howOf [.int (nI n)] S (rz_i (fun x S1 => x = nI h ∧ S1 = S))) (hwh : nI n >>> ((5 : Int32) &&& 31) = 4) (h1 : nI n &&& 3 = 1) (hX : z6M S r G) : rz_ev mM_step [.ref 116, .int (nI n)] S (rz_i (z6Q S (upd (z6t (z6st h) r) 5 (z6an h r)) (z6s G (z6ad h r G) (r 0)))) := by
  show rz _ 0 [(0, .ref 116), (1, .int (nI n))] [] _ _
  have hW : rz_ev mM_works [.ref 116, .int (nI n)] S (rz_i (z6Q S (upd (z6t (z6st h) r) 5 (z6an h r)) (z6s G (z6ad h r G) (r 0)))) := by
    show rz _ 0 [(0, .ref 116), (1, .int (nI n))] [] _ _
    refine p_M_works_0 (rz_toI hhow ?_)
    rw [hwh]
    refine ⟨fun _ => ⟨fun d => ?_, fun _ => y6_sta hh hX⟩, fun d => absurd rfl d⟩
    have := (nI_eq (b := 0) (by omega) (by omega)).mp d
    omega
  exact p_M_step_0 ⟨fun _ => rz_useI hW (fun x S1 q => ⟨Or.inr q.1, q⟩), fun d => absurd h1 d⟩
/-! the class: codes without an operand -/
theorem l6_imp {w : Nat} (hw : w ≤ 1) (hX : z6X S r G) : rz_ev mProcessor_locate [.ref 37, .int (nI w)] S (rz_v (fun S1 => z6X S1 r G ∧ z6fX S S1)) := by
  show rz _ 0 [(0, .ref 37), (1, .int (nI w))] [] _ _
  have hs : w = 0 ∨ w = 1 := by omega
  rcases hs with rfl | rfl
  · exact p_Processor_locate_0 ⟨fun _ => ⟨z6X_o hX (by omega), z6fX_u (z6fX_r S)⟩, fun c => absurd c (by decide), fun c => absurd c (by decide), fun c => absurd c (by decide), fun c => absurd c (by decide), fun c => absurd c (by decide), fun c => absurd c (by decide), fun c => absurd c (by decide), fun c => absurd c (by decide), fun c => absurd c (by decide), fun c => absurd c (by decide), fun c => absurd c (by decide)⟩
  · exact p_Processor_locate_0 ⟨fun _ => ⟨z6X_o hX (by omega), z6fX_u (z6fX_r S)⟩, fun c => absurd c (by decide), fun c => absurd c (by decide), fun c => absurd c (by decide), fun c => absurd c (by decide), fun c => absurd c (by decide), fun c => absurd c (by decide), fun c => absurd c (by decide), fun c => absurd c (by decide), fun c => absurd c (by decide), fun c => absurd c (by decide), fun c => absurd c (by decide)⟩
theorem x6_acc {c : Nat} (hc : 16 ≤ c ∧ c ≤ 21) (hX : z6X S r G) (h4 : byt (r 4)) : rz_ev mProcessor_locate [.ref 37, .int (nI 1)] S (rz_v (fun S1 => rz_ev mProcessor_perform [.ref 37, .int (nI c), .int (nI 1)] S1 (rz_v (fun S2 => z6X S2 (upd (upd r 4 (z6hp c (r 4) (r 0))) 0 (z6hv c (r 4) (r 0) &&& 255)) G ∧ z6fX S S2)))) := by
  refine rz_useV (l6_imp (w := 1) (by omega) hX) (fun S1 hL => ?_)
  obtain ⟨l1, l4⟩ := hL
  have e4 : S1.2 37 4 = r 4 := l1.1 4 (by omega)
  have e0 : S1.2 37 0 = r 0 := l1.1 0 (by omega)
  have b4 : byt (S1.2 37 4) := e4 ▸ h4
  show rz _ 0 [(0, .ref 37), (1, .int (nI c)), (2, .int (nI 1))] [] _ _
  refine p_Processor_perform_0 ⟨fun _ => ⟨fun _ => ⟨fun d => ?_, fun _ => ⟨fun _ => p_Processor_perform_108 (rz_toV (c6_changeA hc b4) ?_), fun d => absurd rfl d⟩⟩, fun d => ?_⟩, fun d => ?_⟩
  · have := (nI_ltI (a := 21) (by omega) (by omega)).mp d
    omega
  · rw [e4, e0]
    exact ⟨z6X_u (z6X_u l1), z6fX_u (z6fX_u l4)⟩
  · exact absurd (nI_lt (a := 15) (by omega) (by omega)) d
  · exact absurd (nI_lt (a := 12) (by omega) (by omega)) d
def z6mv (c : Nat) (r : Nat → Int32) : Nat → Int32 := match c with
  | 30 => upd (upd r 4 (z6k (r 4) (r 0))) 1 (r 0 &&& 255)
  | 31 => upd (upd r 4 (z6k (r 4) (r 0))) 2 (r 0 &&& 255)
  | 32 => upd (upd r 4 (z6k (r 4) (r 1))) 0 (r 1 &&& 255)
  | 33 => upd (upd r 4 (z6k (r 4) (r 2))) 0 (r 2 &&& 255)
  | 34 => upd (upd r 4 (z6k (r 4) (r 3))) 1 (r 3 &&& 255)
  | 35 => upd r 3 (r 1)
  | 36 => upd (upd r 4 (z6k (r 4) (r 1 + 1))) 1 ((r 1 + 1) &&& 255)
  | 37 => upd (upd r 4 (z6k (r 4) (r 2 + 1))) 2 ((r 2 + 1) &&& 255)
  | 38 => upd (upd r 4 (z6k (r 4) (r 1 - 1))) 1 ((r 1 - 1) &&& 255)
  | 39 => upd (upd r 4 (z6k (r 4) (r 2 - 1))) 2 ((r 2 - 1) &&& 255)
  | 40 => upd r 4 (z6f (r 4) 1 0)
  | 41 => upd r 4 (z6f (r 4) 1 1)
  | 42 => upd r 4 (z6f (r 4) 4 0)
  | 43 => upd r 4 (z6f (r 4) 4 1)
  | 44 => upd r 4 (z6f (r 4) 64 0)
  | 45 => upd r 4 (z6f (r 4) 8 0)
  | 46 => upd r 4 (z6f (r 4) 8 1)
  | _ => r
theorem x6_move {c : Nat} (hc : 30 ≤ c ∧ c ≤ 47) (hX : z6X S r G) (h4 : byt (r 4)) : rz_ev mProcessor_locate [.ref 37, .int (nI 0)] S (rz_v (fun S1 => rz_ev mProcessor_perform [.ref 37, .int (nI c), .int (nI 0)] S1 (rz_v (fun S2 => z6X S2 (z6mv c r) G ∧ z6fX S S2)))) := by
  refine rz_useV (l6_imp (w := 0) (by omega) hX) (fun S1 hL => ?_)
  obtain ⟨l1, l4⟩ := hL
  have e0 : S1.2 37 0 = r 0 := l1.1 0 (by omega)
  have e1 : S1.2 37 1 = r 1 := l1.1 1 (by omega)
  have e2 : S1.2 37 2 = r 2 := l1.1 2 (by omega)
  have e3 : S1.2 37 3 = r 3 := l1.1 3 (by omega)
  have e4 : S1.2 37 4 = r 4 := l1.1 4 (by omega)
  have b4 : byt (S1.2 37 4) := e4 ▸ h4
  have hs : c = 30 ∨ c = 31 ∨ c = 32 ∨ c = 33 ∨ c = 34 ∨ c = 35 ∨ c = 36 ∨ c = 37 ∨ c = 38 ∨ c = 39 ∨ c = 40 ∨ c = 41 ∨ c = 42 ∨ c = 43 ∨ c = 44 ∨ c = 45 ∨ c = 46 ∨ c = 47 := by omega
  have pm : ∀ d : Nat, 30 ≤ d → d ≤ 39 → ∀ K : rz_S → Prop, rz mProcessor_move 0 [(0, .ref 37), (1, .int (nI d))] [] S1 (rz_v K) → rz_ev mProcessor_perform [.ref 37, .int (nI d), .int (nI 0)] S1 (rz_v K) := by
    intro d d1 d2 K hk
    show rz _ 0 [(0, .ref 37), (1, .int (nI d)), (2, .int (nI 0))] [] _ _
    exact p_Processor_perform_0 ⟨fun _ => ⟨fun _ => ⟨fun _ => ⟨fun _ => ⟨fun q => by have := (nI_ltI (a := 39) (by omega) (by omega)).mp q; omega, fun _ => hk⟩, fun q => absurd (nI_lt (a := 29) (by omega) (by omega)) q⟩, fun q => absurd (nI_lt (a := 21) (by omega) (by omega)) q⟩, fun q => absurd (nI_lt (a := 15) (by omega) (by omega)) q⟩, fun q => absurd (nI_lt (a := 12) (by omega) (by omega)) q⟩
  have pf : ∀ d : Nat, 40 ≤ d → d ≤ 47 → ∀ K : rz_S → Prop, rz mProcessor_changeFlag 0 [(0, .ref 37), (1, .int (nI d))] [] S1 (rz_v K) → rz_ev mProcessor_perform [.ref 37, .int (nI d), .int (nI 0)] S1 (rz_v K) := by
    intro d d1 d2 K hk
    show rz _ 0 [(0, .ref 37), (1, .int (nI d)), (2, .int (nI 0))] [] _ _
    exact p_Processor_perform_0 ⟨fun _ => ⟨fun _ => ⟨fun _ => ⟨fun _ => ⟨fun _ => ⟨fun q => by have := (nI_ltI (a := 47) (by omega) (by omega)).mp q; omega, fun _ => hk⟩, fun q => absurd (nI_lt (a := 39) (by omega) (by omega)) q⟩, fun q => absurd (nI_lt (a := 29) (by omega) (by omega)) q⟩, fun q => absurd (nI_lt (a := 21) (by omega) (by omega)) q⟩, fun q => absurd (nI_lt (a := 15) (by omega) (by omega)) q⟩, fun q => absurd (nI_lt (a := 12) (by omega) (by omega)) q⟩
  rcases hs with rfl | rfl | rfl | rfl | rfl | rfl | rfl | rfl | rfl | rfl | rfl | rfl | rfl | rfl | rfl | rfl | rfl | rfl
  · refine pm 30 (by omega) (by omega) _ (p_Processor_move_0 ⟨fun c => absurd c (by decide), fun _ => rz_toI (c6_marked _ b4) ?_, fun c => absurd c (by decide), fun c => absurd c (by decide), fun c => absurd c (by decide), fun c => absurd c (by decide), fun c => absurd c (by decide), fun c => absurd c (by decide), fun c => absurd c (by decide), fun c => absurd c (by decide)⟩)
    rw [e4, e0]
    exact ⟨z6X_u (z6X_u l1), z6fX_u (z6fX_u l4)⟩
  · refine pm 31 (by omega) (by omega) _ (p_Processor_move_0 ⟨fun c => absurd c (by decide), fun c => absurd c (by decide), fun _ => rz_toI (c6_marked _ b4) ?_, fun c => absurd c (by decide), fun c => absurd c (by decide), fun c => absurd c (by decide), fun c => absurd c (by decide), fun c => absurd c (by decide), fun c => absurd c (by decide), fun c => absurd c (by decide)⟩)
    rw [e4, e0]
    exact ⟨z6X_u (z6X_u l1), z6fX_u (z6fX_u l4)⟩
  · refine pm 32 (by omega) (by omega) _ (p_Processor_move_0 ⟨fun c => absurd c (by decide), fun c => absurd c (by decide), fun c => absurd c (by decide), fun _ => rz_toI (c6_marked _ b4) ?_, fun c => absurd c (by decide), fun c => absurd c (by decide), fun c => absurd c (by decide), fun c => absurd c (by decide), fun c => absurd c (by decide), fun c => absurd c (by decide)⟩)
    rw [e4, e1]
    exact ⟨z6X_u (z6X_u l1), z6fX_u (z6fX_u l4)⟩
  · refine pm 33 (by omega) (by omega) _ (p_Processor_move_0 ⟨fun c => absurd c (by decide), fun c => absurd c (by decide), fun c => absurd c (by decide), fun c => absurd c (by decide), fun _ => rz_toI (c6_marked _ b4) ?_, fun c => absurd c (by decide), fun c => absurd c (by decide), fun c => absurd c (by decide), fun c => absurd c (by decide), fun c => absurd c (by decide)⟩)
    rw [e4, e2]
    exact ⟨z6X_u (z6X_u l1), z6fX_u (z6fX_u l4)⟩
  · refine pm 34 (by omega) (by omega) _ (p_Processor_move_0 ⟨fun c => absurd c (by decide), fun c => absurd c (by decide), fun c => absurd c (by decide), fun c => absurd c (by decide), fun c => absurd c (by decide), fun _ => rz_toI (c6_marked _ b4) ?_, fun c => absurd c (by decide), fun c => absurd c (by decide), fun c => absurd c (by decide), fun c => absurd c (by decide)⟩)
    rw [e4, e3]
    exact ⟨z6X_u (z6X_u l1), z6fX_u (z6fX_u l4)⟩
  · refine pm 35 (by omega) (by omega) _ (p_Processor_move_0 ⟨fun c => absurd c (by decide), fun c => absurd c (by decide), fun c => absurd c (by decide), fun c => absurd c (by decide), fun c => absurd c (by decide), fun c => absurd c (by decide), fun _ => ?_, fun c => absurd c (by decide), fun c => absurd c (by decide), fun c => absurd c (by decide)⟩)
    rw [e1]
    exact ⟨z6X_u l1, z6fX_u l4⟩
  · refine pm 36 (by omega) (by omega) _ (p_Processor_move_0 ⟨fun c => absurd c (by decide), fun c => absurd c (by decide), fun c => absurd c (by decide), fun c => absurd c (by decide), fun c => absurd c (by decide), fun c => absurd c (by decide), fun c => absurd c (by decide), fun _ => rz_toI (c6_marked _ b4) ?_, fun c => absurd c (by decide), fun c => absurd c (by decide)⟩)
    rw [e4, e1]
    exact ⟨z6X_u (z6X_u l1), z6fX_u (z6fX_u l4)⟩
  · refine pm 37 (by omega) (by omega) _ (p_Processor_move_0 ⟨fun c => absurd c (by decide), fun c => absurd c (by decide), fun c => absurd c (by decide), fun c => absurd c (by decide), fun c => absurd c (by decide), fun c => absurd c (by decide), fun c => absurd c (by decide), fun c => absurd c (by decide), fun _ => rz_toI (c6_marked _ b4) ?_, fun c => absurd c (by decide)⟩)
    rw [e4, e2]
    exact ⟨z6X_u (z6X_u l1), z6fX_u (z6fX_u l4)⟩
  · refine pm 38 (by omega) (by omega) _ (p_Processor_move_0 ⟨fun c => absurd c (by decide), fun c => absurd c (by decide), fun c => absurd c (by decide), fun c => absurd c (by decide), fun c => absurd c (by decide), fun c => absurd c (by decide), fun c => absurd c (by decide), fun c => absurd c (by decide), fun c => absurd c (by decide), fun _ => rz_toI (c6_marked _ b4) ?_⟩)
    rw [e4, e1]
    exact ⟨z6X_u (z6X_u l1), z6fX_u (z6fX_u l4)⟩
  · refine pm 39 (by omega) (by omega) _ (p_Processor_move_0 ⟨fun _ => rz_toI (c6_marked _ b4) ?_, fun c => absurd c (by decide), fun c => absurd c (by decide), fun c => absurd c (by decide), fun c => absurd c (by decide), fun c => absurd c (by decide), fun c => absurd c (by decide), fun c => absurd c (by decide), fun c => absurd c (by decide), fun c => absurd c (by decide)⟩)
    rw [e4, e2]
    exact ⟨z6X_u (z6X_u l1), z6fX_u (z6fX_u l4)⟩
  · refine pf 40 (by omega) (by omega) _ (p_Processor_changeFlag_0 ⟨fun c => absurd c (by decide), fun _ => rz_toV (c6_flag _ _) ?_, fun c => absurd c (by decide), fun c => absurd c (by decide), fun c => absurd c (by decide), fun c => absurd c (by decide), fun c => absurd c (by decide), fun c => absurd c (by decide)⟩)
    rw [e4]
    exact ⟨z6X_u l1, z6fX_u l4⟩
  · refine pf 41 (by omega) (by omega) _ (p_Processor_changeFlag_0 ⟨fun c => absurd c (by decide), fun c => absurd c (by decide), fun _ => rz_toV (c6_flag _ _) ?_, fun c => absurd c (by decide), fun c => absurd c (by decide), fun c => absurd c (by decide), fun c => absurd c (by decide), fun c => absurd c (by decide)⟩)
    rw [e4]
    exact ⟨z6X_u l1, z6fX_u l4⟩
  · refine pf 42 (by omega) (by omega) _ (p_Processor_changeFlag_0 ⟨fun c => absurd c (by decide), fun c => absurd c (by decide), fun c => absurd c (by decide), fun _ => rz_toV (c6_flag _ _) ?_, fun c => absurd c (by decide), fun c => absurd c (by decide), fun c => absurd c (by decide), fun c => absurd c (by decide)⟩)
    rw [e4]
    exact ⟨z6X_u l1, z6fX_u l4⟩
  · refine pf 43 (by omega) (by omega) _ (p_Processor_changeFlag_0 ⟨fun c => absurd c (by decide), fun c => absurd c (by decide), fun c => absurd c (by decide), fun c => absurd c (by decide), fun _ => rz_toV (c6_flag _ _) ?_, fun c => absurd c (by decide), fun c => absurd c (by decide), fun c => absurd c (by decide)⟩)
    rw [e4]
    exact ⟨z6X_u l1, z6fX_u l4⟩
  · refine pf 44 (by omega) (by omega) _ (p_Processor_changeFlag_0 ⟨fun c => absurd c (by decide), fun c => absurd c (by decide), fun c => absurd c (by decide), fun c => absurd c (by decide), fun c => absurd c (by decide), fun _ => rz_toV (c6_flag _ _) ?_, fun c => absurd c (by decide), fun c => absurd c (by decide)⟩)
    rw [e4]
    exact ⟨z6X_u l1, z6fX_u l4⟩
  · refine pf 45 (by omega) (by omega) _ (p_Processor_changeFlag_0 ⟨fun c => absurd c (by decide), fun c => absurd c (by decide), fun c => absurd c (by decide), fun c => absurd c (by decide), fun c => absurd c (by decide), fun c => absurd c (by decide), fun _ => rz_toV (c6_flag _ _) ?_, fun c => absurd c (by decide)⟩)
    rw [e4]
    exact ⟨z6X_u l1, z6fX_u l4⟩
  · refine pf 46 (by omega) (by omega) _ (p_Processor_changeFlag_0 ⟨fun c => absurd c (by decide), fun c => absurd c (by decide), fun c => absurd c (by decide), fun c => absurd c (by decide), fun c => absurd c (by decide), fun c => absurd c (by decide), fun c => absurd c (by decide), fun _ => rz_toV (c6_flag _ _) ?_⟩)
    rw [e4]
    exact ⟨z6X_u l1, z6fX_u l4⟩
  · exact pf 47 (by omega) (by omega) _ (p_Processor_changeFlag_0 ⟨fun _ => ⟨l1, l4⟩, fun c => absurd c (by decide), fun c => absurd c (by decide), fun c => absurd c (by decide), fun c => absurd c (by decide), fun c => absurd c (by decide), fun c => absurd c (by decide), fun c => absurd c (by decide)⟩)
/-! branches -/
def z6tk (c : Nat) (p : Int32) : Int32 := match c with
  | 22 => z6c (p &&& 128 = 0)
  | 23 => z6c (¬ p &&& 128 = 0)
  | 24 => z6c (p &&& 64 = 0)
  | 25 => z6c (¬ p &&& 64 = 0)
  | 26 => z6c (p &&& 1 = 0)
  | 27 => z6c (¬ p &&& 1 = 0)
  | 28 => z6c (p &&& 2 = 0)
  | _ => z6c (¬ p &&& 2 = 0)
def z6br (t : Int32) (r : Nat → Int32) (G : Int32 → Int32) : Nat → Int32 := if t = 0 then upd r 5 (z6n (r 5)) else upd (upd (upd r 5 (z6n (r 5))) 6 (r 6 + (if (z6n (r 5) + (G (r 5)).toInt8.toInt32) &&& (-256) = z6n (r 5) &&& (-256) then 1 else 2))) 5 ((z6n (r 5) + (G (r 5)).toInt8.toInt32) &&& 2047)
theorem z6_d8 : ∀ n, n < 256 → (if 128 ≤ nI n then nI n - 256 else nI n) = (nI n).toInt8.toInt32 := by decide +kernel
theorem z6_hi : ∀ n, n < 2300 → nI n &&& 65280 = nI n &&& (-256) := by decide +kernel
theorem z6_lo : ∀ n, n < 128 → (nI n - 128) &&& 65280 = 65280 ∧ (nI n - 128) &&& (-256) = -256 := by decide +kernel
theorem z6_pg {q v : Int32} (hq : ∃ n, n < 2048 ∧ q = nI n) (hv : byt v) : (q + v.toInt8.toInt32) &&& 65280 = q &&& 65280 ↔ (q + v.toInt8.toInt32) &&& (-256) = q &&& (-256) := by
  obtain ⟨n, hn, rfl⟩ := hq
  obtain ⟨m, hm, rfl⟩ := hv
  rw [← z6_d8 m hm, z6_hi n (by omega)]
  by_cases c : 128 ≤ nI m
  · have hm2 : 128 ≤ m := (nI_leI (a := 128) (by omega) (by omega)).mp c
    rw [if_pos c]
    by_cases d : 256 ≤ n + m
    · have e : nI n + (nI m - 256) = nI (n + m - 256) := by
        rw [Int32.sub_eq_add_neg, ← Int32.add_assoc, nI_add, ← Int32.sub_eq_add_neg]
        exact pk_sub (b := 256) (by omega)
      rw [e, z6_hi _ (by omega)]
    · have e : nI n + (nI m - 256) = nI (n + m - 128) - 128 := by
        rw [Int32.sub_eq_add_neg, ← Int32.add_assoc, nI_add, ← Int32.sub_eq_add_neg]
        apply Int32.toBitVec_inj.mp
        show BitVec.ofNat 32 (n + m) - 256#32 = BitVec.ofNat 32 (n + m - 128) - 128#32
        apply BitVec.eq_of_toNat_eq
        simp only [BitVec.toNat_sub, BitVec.toNat_ofNat]
        omega
      obtain ⟨l1, l2⟩ := z6_lo (n + m - 128) (by omega)
      rw [e, l1, l2]
      have hs : ∀ k, k < 128 → ¬ (65280 : Int32) = nI k &&& (-256) ∧ ¬ (-256 : Int32) = nI k &&& (-256) := by decide +kernel
      have := hs n (by omega)
      exact ⟨fun z => absurd z this.1, fun z => absurd z this.2⟩
  · have hm2 : m < 128 := Nat.lt_of_not_le fun z => c (nI_le (a := 128) z (by omega))
    rw [if_neg c, nI_add, z6_hi _ (by omega)]
theorem l6_rel (hX : z6X S r G) (hG : ∀ a, byt (G a)) : rz_ev mProcessor_locate [.ref 37, .int (nI 11)] S (rz_v (fun S1 => z6X S1 (upd r 5 (z6n (r 5))) G ∧ S1.2 37 8 = z6n (r 5) + (G (r 5)).toInt8.toInt32 ∧ (S1.2 37 9 = 0 ↔ (z6n (r 5) + (G (r 5)).toInt8.toInt32) &&& (-256) = z6n (r 5) &&& (-256)) ∧ z6fX S S1)) := by
  have hX9 : z6X (rz_uI S 37 9 0) r G := z6X_o hX (by omega)
  obtain ⟨m, hm, em⟩ := hG (r 5)
  have hd := z6_d8 m hm
  have hq : ∃ n, n < 2048 ∧ z6n (r 5) = nI n := pk_andE (r 5 + 1) (m := 2047) 11 (by decide)
  have hp := z6_pg hq (hG (r 5))
  have key : ∀ s0, s0 = (G (r 5)).toInt8.toInt32 → rz mProcessor_locate 246 [(0, .ref 37)] [.int s0, .int (z6n (r 5)), .ref 37] (rz_uI (rz_uI S 37 9 0) 37 5 (z6n (r 5))) (rz_v (fun S1 => z6X S1 (upd r 5 (z6n (r 5))) G ∧ S1.2 37 8 = z6n (r 5) + (G (r 5)).toInt8.toInt32 ∧ (S1.2 37 9 = 0 ↔ (z6n (r 5) + (G (r 5)).toInt8.toInt32) &&& (-256) = z6n (r 5) &&& (-256)) ∧ z6fX S S1)) := by
    intro s0 e
    subst e
    refine p_Processor_locate_246 ⟨fun c => ⟨z6X_o (z6X_o (z6X_u hX9) (by omega)) (by omega), rfl, ⟨fun _ => hp.mp c, fun _ => rfl⟩, z6fX_u (z6fX_u (z6fX_u (z6fX_u (z6fX_r S))))⟩, fun c => ⟨z6X_o (z6X_o (z6X_u hX9) (by omega)) (by omega), rfl, ⟨fun z => absurd (show (1 : Int32) = 0 from z) (by decide), fun z => absurd (hp.mpr z) c⟩, z6fX_u (z6fX_u (z6fX_u (z6fX_u (z6fX_r S))))⟩⟩
  show rz _ 0 [(0, .ref 37), (1, .int (nI 11))] [] _ _
  refine p_Processor_locate_0 ⟨fun c => absurd c (by decide), fun c => absurd c (by decide), fun c => absurd c (by decide), fun c => absurd c (by decide), fun c => absurd c (by decide), fun c => absurd c (by decide), fun c => absurd c (by decide), fun c => absurd c (by decide), fun c => absurd c (by decide), fun c => absurd c (by decide), fun _ => rz_toI (c6_fetch hX9) ⟨fun c => key _ ?_, fun c => key _ ?_⟩, fun c => absurd c (by decide)⟩
  · rw [em] at c ⊢
    rw [← hd, if_pos c]
  · rw [em] at c ⊢
    rw [← hd, if_neg c]
theorem x6_branch {c : Nat} (hc : 22 ≤ c ∧ c ≤ 29) (hX : z6X S r G) (hG : ∀ a, byt (G a)) : rz_ev mProcessor_locate [.ref 37, .int (nI 11)] S (rz_v (fun S1 => rz_ev mProcessor_perform [.ref 37, .int (nI c), .int (nI 11)] S1 (rz_v (fun S2 => z6X S2 (z6br (z6tk c (r 4)) r G) G ∧ z6fX S S2)))) := by
  refine rz_useV (l6_rel hX hG) (fun S1 hL => ?_)
  obtain ⟨l1, l2, l3, l4⟩ := hL
  have e4 : S1.2 37 4 = r 4 := l1.1 4 (by omega)
  have e6 : S1.2 37 6 = r 6 := l1.1 6 (by omega)
  have fin : ∀ t, t = z6tk c (r 4) → rz mProcessor_branch 151 [(0, .ref 37), (2, .int t)] [] S1 (rz_v (fun S2 => z6X S2 (z6br (z6tk c (r 4)) r G) G ∧ z6fX S S2)) := by
    intro t et
    subst et
    unfold z6br
    refine p_Processor_branch_151 ⟨fun d => ?_, fun d => ⟨fun d2 => ?_, fun d2 => ?_⟩⟩
    · rw [if_pos d]; exact ⟨l1, l4⟩
    · rw [if_neg d, if_pos (l3.mp d2), l2, e6]; exact ⟨z6X_u (z6X_u l1), z6fX_u (z6fX_u l4)⟩
    · rw [if_neg d, if_neg (fun z => d2 (l3.mpr z)), l2, e6]; exact ⟨z6X_u (z6X_u l1), z6fX_u (z6fX_u l4)⟩
  have n1 : ∀ b : Int32, S1.2 37 4 &&& b = r 4 &&& b := fun b => by rw [e4]
  show rz _ 0 [(0, .ref 37), (1, .int (nI c)), (2, .int (nI 11))] [] _ _
  refine p_Processor_perform_0 ⟨fun _ => ⟨fun _ => ⟨fun _ => ⟨fun d => ?_, fun _ => ?_⟩, fun d => absurd (nI_lt (a := 21) (by omega) (by omega)) d⟩, fun d => absurd (nI_lt (a := 15) (by omega) (by omega)) d⟩, fun d => absurd (nI_lt (a := 12) (by omega) (by omega)) d⟩
  · have := (nI_ltI (a := 29) (by omega) (by omega)).mp d
    omega
  show rz _ 0 [(0, .ref 37), (1, .int (nI c))] [] _ _
  have hs : c = 22 ∨ c = 23 ∨ c = 24 ∨ c = 25 ∨ c = 26 ∨ c = 27 ∨ c = 28 ∨ c = 29 := by omega
  rcases hs with rfl | rfl | rfl | rfl | rfl | rfl | rfl | rfl
  · refine p_Processor_branch_0 ⟨fun c => absurd c (by decide), fun _ => rz_toI (c6_has 128) ⟨fun d => p_Processor_branch_59 (fin _ ?_), fun d => p_Processor_branch_59 (fin _ ?_)⟩, fun c => absurd c (by decide), fun c => absurd c (by decide), fun c => absurd c (by decide), fun c => absurd c (by decide), fun c => absurd c (by decide), fun c => absurd c (by decide)⟩
    · rw [n1] at d
      show (1 : Int32) = z6c (r 4 &&& 128 = 0)
      by_cases z : r 4 &&& 128 = 0
      · rw [z6_p z]
      · rw [z6_p z] at d; exact absurd d (by decide)
    · rw [n1] at d
      show (0 : Int32) = z6c (r 4 &&& 128 = 0)
      by_cases z : r 4 &&& 128 = 0
      · exact absurd (z6_n (fun y => y z)) d
      · rw [z6_n z]
  · refine p_Processor_branch_0 ⟨fun c => absurd c (by decide), fun c => absurd c (by decide), fun _ => rz_toI (c6_has 128) (fin _ ?_), fun c => absurd c (by decide), fun c => absurd c (by decide), fun c => absurd c (by decide), fun c => absurd c (by decide), fun c => absurd c (by decide)⟩
    rw [n1]
    rfl
  · refine p_Processor_branch_0 ⟨fun c => absurd c (by decide), fun c => absurd c (by decide), fun c => absurd c (by decide), fun _ => rz_toI (c6_has 64) ⟨fun d => p_Processor_branch_88 (fin _ ?_), fun d => p_Processor_branch_88 (fin _ ?_)⟩, fun c => absurd c (by decide), fun c => absurd c (by decide), fun c => absurd c (by decide), fun c => absurd c (by decide)⟩
    · rw [n1] at d
      show (1 : Int32) = z6c (r 4 &&& 64 = 0)
      by_cases z : r 4 &&& 64 = 0
      · rw [z6_p z]
      · rw [z6_p z] at d; exact absurd d (by decide)
    · rw [n1] at d
      show (0 : Int32) = z6c (r 4 &&& 64 = 0)
      by_cases z : r 4 &&& 64 = 0
      · exact absurd (z6_n (fun y => y z)) d
      · rw [z6_n z]
  · refine p_Processor_branch_0 ⟨fun c => absurd c (by decide), fun c => absurd c (by decide), fun c => absurd c (by decide), fun c => absurd c (by decide), fun _ => rz_toI (c6_has 64) (fin _ ?_), fun c => absurd c (by decide), fun c => absurd c (by decide), fun c => absurd c (by decide)⟩
    rw [n1]
    rfl
  · refine p_Processor_branch_0 ⟨fun c => absurd c (by decide), fun c => absurd c (by decide), fun c => absurd c (by decide), fun c => absurd c (by decide), fun c => absurd c (by decide), fun _ => rz_toI (c6_has 1) ⟨fun d => p_Processor_branch_115 (fin _ ?_), fun d => p_Processor_branch_115 (fin _ ?_)⟩, fun c => absurd c (by decide), fun c => absurd c (by decide)⟩
    · rw [n1] at d
      show (1 : Int32) = z6c (r 4 &&& 1 = 0)
      by_cases z : r 4 &&& 1 = 0
      · rw [z6_p z]
      · rw [z6_p z] at d; exact absurd d (by decide)
    · rw [n1] at d
      show (0 : Int32) = z6c (r 4 &&& 1 = 0)
      by_cases z : r 4 &&& 1 = 0
      · exact absurd (z6_n (fun y => y z)) d
      · rw [z6_n z]
  · refine p_Processor_branch_0 ⟨fun c => absurd c (by decide), fun c => absurd c (by decide), fun c => absurd c (by decide), fun c => absurd c (by decide), fun c => absurd c (by decide), fun c => absurd c (by decide), fun _ => rz_toI (c6_has 1) (fin _ ?_), fun c => absurd c (by decide)⟩
    rw [n1]
    rfl
  · refine p_Processor_branch_0 ⟨fun c => absurd c (by decide), fun c => absurd c (by decide), fun c => absurd c (by decide), fun c => absurd c (by decide), fun c => absurd c (by decide), fun c => absurd c (by decide), fun c => absurd c (by decide), fun _ => rz_toI (c6_has 2) ⟨fun d => p_Processor_branch_141 (fin _ ?_), fun d => p_Processor_branch_141 (fin _ ?_)⟩⟩
    · rw [n1] at d
      show (1 : Int32) = z6c (r 4 &&& 2 = 0)
      by_cases z : r 4 &&& 2 = 0
      · rw [z6_p z]
      · rw [z6_p z] at d; exact absurd d (by decide)
    · rw [n1] at d
      show (0 : Int32) = z6c (r 4 &&& 2 = 0)
      by_cases z : r 4 &&& 2 = 0
      · exact absurd (z6_n (fun y => y z)) d
      · rw [z6_n z]
  · refine p_Processor_branch_0 ⟨fun _ => rz_toI (c6_has 2) (fin _ ?_), fun c => absurd c (by decide), fun c => absurd c (by decide), fun c => absurd c (by decide), fun c => absurd c (by decide), fun c => absurd c (by decide), fun c => absurd c (by decide), fun c => absurd c (by decide)⟩
    rw [n1]
    rfl
theorem y6_branch {t : Int32} (hX : z6M S r G) : rz_ev mM_branch [.ref 116, .int t] S (rz_v (fun S1 => z6M S1 (z6br t (z6t 2 r) G) G ∧ z6fM S S1)) := by
  show rz _ 0 [(0, .ref 116), (1, .int t)] [] _ _
  refine p_M_branch_0 (rz_toI (d6_byteNext hX) ?_)
  have e6 : (rz_uI S 116 80 (z6n (r 5))).2 116 81 = r 6 := hX.1 6 (by omega)
  have e5 : (rz_uI S 116 80 (z6n (r 5))).2 116 80 = z6n (r 5) := rfl
  rw [e6, e5]
  have h1 := z6M_u (k := 5) (v := z6n (r 5)) hX
  have g1 : ∀ v : Int32, z6fM S (rz_uI (rz_uI S 116 80 (z6n (r 5))) 116 81 v) := fun v => z6fM_u (z6fM_u (z6fM_r S) (by omega)) (by omega)
  unfold z6br
  refine ⟨fun d => ?_, fun d => ⟨fun d2 => ?_, fun d2 => ?_⟩⟩
  · rw [if_pos d]
    exact ⟨z6M_e (z6M_u (k := 6) h1) (c7 rfl rfl rfl rfl rfl rfl rfl), g1 _⟩
  · rw [if_neg d]
    have d3 : (z6n (z6t 2 r 5) + (G (z6t 2 r 5)).toInt8.toInt32) &&& (-256) = z6n (z6t 2 r 5) &&& (-256) := d2
    rw [if_pos d3]
    exact ⟨z6M_e (z6M_u (k := 5) (z6M_u (k := 6) (z6M_u (k := 6) h1))) (c7 rfl rfl rfl rfl rfl rfl rfl), z6fM_u (z6fM_u (g1 _) (by omega)) (by omega)⟩
  · rw [if_neg d]
    have d3 : ¬ (z6n (z6t 2 r 5) + (G (z6t 2 r 5)).toInt8.toInt32) &&& (-256) = z6n (z6t 2 r 5) &&& (-256) := d2
    rw [if_neg d3]
    exact ⟨z6M_e (z6M_u (k := 5) (z6M_u (k := 6) (z6M_u (k := 6) h1))) (c7 rfl rfl rfl rfl rfl rfl rfl), z6fM_u (z6fM_u (g1 _) (by omega)) (by omega)⟩
end WRK
