/-! channel 15 is read: both sides -/
/-- the STATUS as both have it, and how far it has been read -/
def stT (Sx Sm : rz_S) : Prop := ∃ n : Nat, cdN n ∧ Sx.2 3 0 = nI n ∧ Sm.2 116 56 = nI n ∧ Sx.2 3 1 = Sm.2 116 57 ∧ Sx.2 3 2 = Sm.2 116 58 ∧ ((Sx.2 3 5 = 0 ∧ Sx.2 3 6 = 0 ∧ Sm.2 116 59 = 0) ∨ ∃ p, p < (spl (Sx.2 3 0) (Sx.2 3 1) (Sx.2 3 2) (wds n)).length ∧ TB Sx (spl (Sx.2 3 0) (Sx.2 3 1) (Sx.2 3 2) (wds n)) ∧ Sx.2 3 6 = nI p ∧ Sm.2 116 59 = nI p)
/-- what M-R has brought -/
def rpR (Sx Sm : rz_S) : Prop := (Sm.2 116 61 = 0 ∧ Sm.2 116 62 = 0 ∧ Sx.2 3 8 ≤ Sx.2 3 9) ∨ ∃ m p : Nat, p < m ∧ m ≤ 32 ∧ Sx.2 3 8 = nI m ∧ Sx.2 3 9 = nI p ∧ Sm.2 116 61 = nI m ∧ Sm.2 116 62 = nI p ∧ ∀ j, j < m → Sx.1 5 j = Sm.1 149 j
/-- OUT -/
def ouR (Sx Sm : rz_S) : Prop := (∃ n : Nat, n ≤ 300 ∧ Sx.2 0 7 = nI n ∧ Sm.2 116 67 = nI n ∧ ∀ j, j < n → Sx.1 115 j = Sm.1 152 j) ∧ Sx.2 0 8 = Sm.2 116 68 ∧ (Sx.2 0 8 = 0 ∨ Sx.2 0 8 = 1)
def tyX (S S1 : rz_S) : Prop := (∀ q, q ≠ 4 → S1.1 q = S.1 q) ∧ ∀ u z, ¬ (u = 3 ∧ z ≤ 6) → S1.2 u z = S.2 u z
theorem c_textByte {S : rz_S} {n p : Nat} {T : List Int32} (hn : cdN n) (h0 : S.2 3 0 = nI n) (hT : T = spl (S.2 3 0) (S.2 3 1) (S.2 3 2) (wds n)) (hp : p < T.length) (h6 : S.2 3 6 = nI p) (hr : S.2 3 5 = 0 ∧ p = 0 ∨ TB S T) : rz_ev mStatus_textByte [.ref 3] S (rz_i (fun x S1 => x = T.getD p 0 ∧ ((p + 1 < T.length ∧ TB S1 T ∧ S1.2 3 6 = nI (p + 1) ∧ ∀ z, z ≤ 3 → S1.2 3 z = S.2 3 z) ∨ (p + 1 = T.length ∧ S1.2 3 0 = 0 ∧ S1.2 3 1 = 0 ∧ S1.2 3 2 = 0 ∧ S1.2 3 3 = 1 ∧ S1.2 3 5 = 0 ∧ S1.2 3 6 = 0)) ∧ tyX S S1)) := by
  have hw := wds_l hn
  have hl : T.length ≤ 28 := by rw [hT, spl_l]; omega
  have key : ∀ S1, TB S1 T → tbX S S1 → rz mStatus_textByte 11 [(0, .ref 3)] [] S1 (rz_i (fun x S2 => x = T.getD p 0 ∧ ((p + 1 < T.length ∧ TB S2 T ∧ S2.2 3 6 = nI (p + 1) ∧ ∀ z, z ≤ 3 → S2.2 3 z = S.2 3 z) ∨ (p + 1 = T.length ∧ S2.2 3 0 = 0 ∧ S2.2 3 1 = 0 ∧ S2.2 3 2 = 0 ∧ S2.2 3 3 = 1 ∧ S2.2 3 5 = 0 ∧ S2.2 3 6 = 0)) ∧ tyX S S2)) := by
    intro S1 ht hf
    have e6 : S1.2 3 6 = nI p := (hf.2 3 6 (by omega)).trans h6
    refine p_Status_textByte_11 ?_
    rw [e6]
    refine ⟨fun c => ?_, fun _ => ⟨rin (by omega) (by omega), ?_⟩⟩
    · have := (nI_leI (a := 40) (by omega) (by omega)).mp c
      omega
    rw [nI_clamp (by omega), ht.2 p hp]
    refine p_Status_textByte_37 ?_
    rw [e6, ht.1, nI_1]
    refine ⟨fun c => ?_, fun c => rz_toI (c_Status_set _ _ _) ?_⟩
    · have hlt := (nI_ltI (a := p + 1) (b := T.length) (by omega) (by omega)).mp c
      refine ⟨rfl, Or.inl ⟨hlt, ⟨ht.1, ht.2⟩, rfl, fun z hz => ?_⟩, fun q hq => hf.1 q hq, fun u z hz => ?_⟩
      · rw [rz_uI_n (by omega)]; exact hf.2 3 z (by omega)
      · rw [rz_uI_n (by omega)]; exact hf.2 u z (by omega)
    · have hlt : p + 1 = T.length := by
        have : ¬ p + 1 < T.length := fun z => c (nI_lt z (by omega))
        omega
      refine ⟨rfl, Or.inr ⟨hlt, rfl, rfl, rfl, rfl, rfl, rfl⟩, fun q hq => hf.1 q hq, fun u z hz => ?_⟩
      unfold st_set
      rw [rz_uI_n (by omega), rz_uI_n (by omega), rz_uI_n (by omega), rz_uI_n (by omega), rz_uI_n (by omega), rz_uI_n (by omega), rz_uI_n (by omega)]
      exact hf.2 u z (by omega)
  show rz _ 0 [(0, .ref 3)] [] _ _
  by_cases z : S.2 3 5 = 0
  · refine p_Status_textByte_0 ⟨fun _ => rz_useV (c_spell hn h0 z) (fun S1 q => key S1 (hT ▸ q.1) q.2), fun c => absurd z c⟩
  · rcases hr with h | h
    · exact absurd h.1 z
    · exact p_Status_textByte_0 ⟨fun c => absurd c z, fun _ => key S h (tbX_r S)⟩
def rsX (S S1 : rz_S) : Prop := (∀ q, q ≠ 4 → q ≠ 115 → S1.1 q = S.1 q) ∧ ∀ u z, ¬ (u = 3 ∧ (z ≤ 6 ∨ z = 9)) → S1.2 u z = S.2 u z
def rsM (S S1 : rz_S) : Prop := (∀ q, q ≠ 153 → q ≠ 152 → S1.1 q = S.1 q) ∧ ∀ u z, ¬ (u = 116 ∧ (56 ≤ z ∧ z ≤ 62 ∨ z = 67 ∨ z = 68 ∨ z = 70)) → S1.2 u z = S.2 u z
theorem rsX_t {S S1 S2 : rz_S} (h : rsX S S1) (g : rsX S1 S2) : rsX S S2 := ⟨fun q a b => (g.1 q a b).trans (h.1 q a b), fun u z a => (g.2 u z a).trans (h.2 u z a)⟩
theorem rsM_t {S S1 S2 : rz_S} (h : rsM S S1) (g : rsM S1 S2) : rsM S S2 := ⟨fun q a b => (g.1 q a b).trans (h.1 q a b), fun u z a => (g.2 u z a).trans (h.2 u z a)⟩
theorem rsX_r (S : rz_S) : rsX S S := ⟨fun _ _ _ => rfl, fun _ _ _ => rfl⟩
theorem rsM_r (S : rz_S) : rsM S S := ⟨fun _ _ _ => rfl, fun _ _ _ => rfl⟩
theorem rsX_y {S S1 : rz_S} (h : tyX S S1) : rsX S S1 := ⟨fun q a _ => h.1 q a, fun u z a => h.2 u z fun e => a ⟨e.1, Or.inl e.2⟩⟩
theorem rsX_f {S : rz_S} {f : Nat → Int32} : rsX S (rz_fA S 115 f) := ⟨fun q _ h => rz_fA_n h, fun _ _ _ => rfl⟩
theorem rsM_f {S : rz_S} {f : Nat → Int32} : rsM S (rz_fA S 152 f) := ⟨fun q _ h => rz_fA_n h, fun _ _ _ => rfl⟩
theorem rsM_u {S : rz_S} {k : Nat} {v : Int32} (hk : 56 ≤ k ∧ k ≤ 62 ∨ k = 67 ∨ k = 68 ∨ k = 70) : rsM S (rz_uI S 116 k v) := ⟨fun _ _ _ => rfl, fun u z h => rz_uI_n fun e => h ⟨e.1, by omega⟩⟩
theorem rsX_u {S : rz_S} {k : Nat} {v : Int32} (hk : k ≤ 6 ∨ k = 9) : rsX S (rz_uI S 3 k v) := ⟨fun _ _ _ => rfl, fun u z h => rz_uI_n fun e => h ⟨e.1, by omega⟩⟩
theorem d_gives {S : rz_S} {i : Nat} (hi : i < 300) (h : S.2 116 67 = nI i) (v : Int32) : rz_ev mM_gives [.ref 116, .int v] S (rz_v (fun S1 => S1 = rz_uI (rz_fA S 152 (upd (S.1 152) i v)) 116 67 (nI (i + 1)))) := by
  show rz _ 0 [(0, .ref 116), (1, .int v)] [] _ _
  refine p_M_gives_0 ?_
  rw [h, nI_clamp (by omega), nI_1]
  exact ⟨rin hi (by omega), rfl⟩
/-- what the reading of channel 15 ends with -/
def rsP (Sx Sm : rz_S) (x : Int32) (Sx1 Sm1 : rz_S) : Prop := ∃ i : Nat, i ≤ 300 ∧ x = nI i ∧ Sm1.2 116 67 = nI i ∧ (∀ j, j < i → Sx1.1 115 j = Sm1.1 152 j) ∧ Sx1.2 3 3 = Sm1.2 116 68 ∧ (Sx1.2 3 3 = 0 ∨ Sx1.2 3 3 = 1) ∧ stT Sx1 Sm1 ∧ rpR Sx1 Sm1 ∧ rsX Sx Sx1 ∧ rsM Sm Sm1
theorem ou_s {F G : Nat → Int32} {i : Nat} {v : Int32} (h : ∀ j, j < i → F j = G j) : ∀ j, j < i + 1 → upd F i v j = upd G i v j := by
  intro j hj
  by_cases z : j = i
  · subst z; rw [pk_us, pk_us]
  · rw [pk_un z, pk_un z]; exact h j (by omega)
theorem rs_loop {Sx Sm : rz_S} {k n : Nat} {T : List Int32} (hn : cdN k) (hT : T = spl (Sx.2 3 0) (Sx.2 3 1) (Sx.2 3 2) (wds k)) (h300 : n ≤ 300) (hx0 : Sx.2 3 0 = nI k) (hm0 : Sm.2 116 56 = nI k) (hm1 : Sx.2 3 1 = Sm.2 116 57) (hm2 : Sx.2 3 2 = Sm.2 116 58) (hrp : Sm.2 116 61 = 0 ∧ Sm.2 116 62 = 0 ∧ Sx.2 3 8 ≤ Sx.2 3 9) : ∀ (w i p : Nat) (Tx Tm : rz_S), p + w = T.length → 0 < w → i ≤ n → (i < n ∨ TB Tx T) → rsX Sx Tx → rsM Sm Tm → (∀ z, z ≤ 2 → Tx.2 3 z = Sx.2 3 z) → Tx.2 3 9 = Sx.2 3 9 → Tx.2 3 3 = 0 → Tm.2 116 68 = 0 → (∀ z, 56 ≤ z → z ≤ 58 → Tm.2 116 z = Sm.2 116 z) → Tm.2 116 61 = 0 → Tm.2 116 62 = 0 → Tx.2 3 6 = nI p → (Tx.2 3 5 = 0 ∧ p = 0 ∨ TB Tx T) → Tm.2 116 67 = nI i → Tm.2 116 59 = nI p → WB Tm T → (∀ j, j < i → Tx.1 115 j = Tm.1 152 j) → ∀ K : Int32 → rz_S → Prop, (∀ x Sx1, rz mM_givesStatus 61 [(0, .ref 116), (1, .int (nI n))] [] Tm (rz_v (rsP Sx Sm x Sx1)) → K x Sx1) → rz mStatus_receive 7 [(0, .ref 3), (1, .int (nI n)), (2, .ref 115), (3, .int (nI i))] [] Tx (rz_i K) := by
  have hw := wds_l hn
  have hl : T.length ≤ 28 := by rw [hT, spl_l]; omega
  intro w
  induction w with
  | zero => intro i p Tx Tm _ h; omega
  | succ w ih =>
    intro i p Tx Tm hpw _ hin hsp fx fm z3 z9 h33 h68 zm m61 m62 h6 hr h67 h59 hW hO K hK
    have e0 : Tx.2 3 0 = nI k := (z3 0 (by omega)).trans hx0
    have eT : T = spl (Tx.2 3 0) (Tx.2 3 1) (Tx.2 3 2) (wds k) := by rw [z3 0 (by omega), z3 1 (by omega), z3 2 (by omega)]; exact hT
    by_cases hi : n ≤ i
    · have ei : i = n := by omega
      subst ei
      refine p_Status_receive_7 (na2 := 300) rfl ⟨fun _ => hK _ _ ?_, fun c => absurd (nI_le (a := i) (b := i) (by omega) (by omega)) c⟩
      refine p_M_givesStatus_61 ?_
      rw [h67]
      refine ⟨fun _ => p_M_givesStatus_106 ?_, fun c => absurd (nI_le (a := i) (b := i) (by omega) (by omega)) c⟩
      rw [h59, hW.1]
      refine ⟨fun c => ?_, fun _ => ?_⟩
      · have := (nI_eq (a := p) (b := T.length) (by omega) (by omega)).mp c
        omega
      · have hTB : TB Tx T := by
          rcases hsp with h | h
          · omega
          · exact h
        refine ⟨i, by omega, rfl, h67, hO, by rw [h33, h68], Or.inl h33, ⟨k, hn, e0, (zm 56 (by omega) (by omega)).trans hm0, ?_, ?_, Or.inr ⟨p, by rw [← eT]; omega, by rw [← eT]; exact hTB, h6, h59⟩⟩, Or.inl ⟨m61, m62, ?_⟩, fx, fm⟩
        · rw [z3 1 (by omega), zm 57 (by omega) (by omega)]; exact hm1
        · rw [z3 2 (by omega), zm 58 (by omega) (by omega)]; exact hm2
        · rw [z9, fx.2 3 8 (by omega)]; exact hrp.2.2
    · have e89 : Tx.2 3 8 ≤ Tx.2 3 9 := by rw [z9, fx.2 3 8 (by omega)]; exact hrp.2.2
      refine p_Status_receive_7 (na2 := 300) rfl ⟨fun c => absurd ((nI_leI (by omega) (by omega)).mp c) hi, fun _ => ⟨fun c => ?_, fun _ => ⟨fun _ => ⟨fun _ => ?_, fun c => absurd e89 c⟩, fun c => absurd h33 c⟩⟩⟩
      · have := (nI_leI (a := 300) (b := i) (by omega) (by omega)).mp c
        omega
      refine rz_useI (c_textByte hn e0 eT (by omega) h6 hr) (fun x S1 q => ⟨rin (by omega) (by omega), ?_⟩)
      obtain ⟨ev, q2, q3⟩ := q
      rw [nI_clamp (by omega), nI_1, q3.1 115 (by omega), ev]
      generalize hVx : rz_fA S1 115 (upd (Tx.1 115) i (T.getD p 0)) = Vx
      have gx : rsX Sx Vx := by rw [← hVx]; exact rsX_t fx (rsX_t (rsX_y q3) rsX_f)
      have vx : ∀ u z, Vx.2 u z = S1.2 u z := fun u z => by rw [← hVx]; rfl
      have vx4 : Vx.1 4 = S1.1 4 := by rw [← hVx]; exact rz_fA_n (by omega)
      have vxo : Vx.1 115 = upd (Tx.1 115) i (T.getD p 0) := by rw [← hVx]; exact rz_fA_s
      generalize hVm : rz_uI (rz_uI (rz_fA Tm 152 (upd (Tm.1 152) i (T.getD p 0))) 116 67 (nI (i + 1))) 116 59 (nI (p + 1)) = Vm
      have fm2 : rsM Sm Vm := by rw [← hVm]; exact rsM_t fm (rsM_t rsM_f (rsM_t (rsM_u (by omega)) (rsM_u (by omega))))
      have vm : ∀ z, z ≠ 67 → z ≠ 59 → Vm.2 116 z = Tm.2 116 z := fun z a b => by rw [← hVm, rz_uI_n (by omega), rz_uI_n (by omega)]; rfl
      have vm67 : Vm.2 116 67 = nI (i + 1) := by rw [← hVm, rz_uI_n (by omega), rz_uI_s]
      have vm59 : Vm.2 116 59 = nI (p + 1) := by rw [← hVm, rz_uI_s]
      have vmo : Vm.1 152 = upd (Tm.1 152) i (T.getD p 0) := by rw [← hVm]; exact (show (rz_fA Tm 152 (upd (Tm.1 152) i (T.getD p 0))).1 152 = _ from rz_fA_s)
      have vm153 : Vm.1 153 = Tm.1 153 := by rw [← hVm]; exact (show (rz_fA Tm 152 (upd (Tm.1 152) i (T.getD p 0))).1 153 = _ from rz_fA_n (by omega))
      have hK2 : ∀ x Sx1, rz mM_givesStatus 61 [(0, .ref 116), (1, .int (nI n))] [] Vm (rz_v (rsP Sx Sm x Sx1)) → K x Sx1 := fun x Sx1 h => hK x Sx1 (by
        refine p_M_givesStatus_61 ?_
        rw [h67, h59, hW.1]
        refine ⟨fun c => absurd ((nI_leI (by omega) (by omega)).mp c) hi, fun _ => ⟨fun c => ?_, fun _ => ⟨rin (by omega) (by omega), ?_⟩⟩⟩
        · have := (nI_leI (a := T.length) (b := p) (by omega) (by omega)).mp c
          omega
        rw [nI_clamp (by omega), hW.2 p (by omega)]
        refine rz_toV (d_gives (by omega) h67 _) ?_
        have e59 : (rz_uI (rz_fA Tm 152 (upd (Tm.1 152) i (T.getD p 0))) 116 67 (nI (i + 1))).2 116 59 = nI p := h59
        rw [e59, nI_1, hVm]
        exact h)
      have hO2 : ∀ j, j < i + 1 → Vx.1 115 j = Vm.1 152 j := fun j hj => by
        rw [vxo, vmo]
        exact ou_s hO j hj
      have e9 : Vx.2 3 9 = Sx.2 3 9 := (vx 3 9).trans ((q3.2 3 9 (by omega)).trans z9)
      have hW2 : WB Vm T := ⟨(vm 70 (by omega) (by omega)).trans hW.1, by rw [vm153]; exact hW.2⟩
      rcases q2 with ⟨lt, t1, t6, tz⟩ | ⟨eq, t0, t1, t2, t3, t5, t6⟩
      · have hTB : TB Vx T := ⟨(vx 3 5).trans t1.1, by rw [vx4]; exact t1.2⟩
        exact ih (i + 1) (p + 1) Vx Vm (by omega) (by omega) (by omega) (Or.inr hTB) gx fm2 (fun z hz => (vx 3 z).trans ((tz z (by omega)).trans (z3 z hz))) e9 ((vx 3 3).trans ((tz 3 (by omega)).trans h33)) ((vm 68 (by omega) (by omega)).trans h68) (fun z a b => (vm z (by omega) (by omega)).trans (zm z a b)) ((vm 61 (by omega) (by omega)).trans m61) ((vm 62 (by omega) (by omega)).trans m62) ((vx 3 6).trans t6) (Or.inr hTB) vm67 vm59 hW2 hO2 K hK2
      · have f106 : rz mM_givesStatus 106 [(0, .ref 116)] [] Vm (rz_v (rsP Sx Sm (nI (i + 1)) Vx)) := by
          refine p_M_givesStatus_106 ⟨fun _ => rz_toV (c_M_sets _ _ _) ?_, fun c => absurd (by rw [vm59, hW2.1, eq]) c⟩
          unfold md_sets
          refine ⟨i + 1, by omega, rfl, vm67, hO2, (vx 3 3).trans t3, Or.inr ((vx 3 3).trans t3), ⟨0, Or.inl rfl, (vx 3 0).trans t0, rfl, (vx 3 1).trans t1, (vx 3 2).trans t2, Or.inl ⟨(vx 3 5).trans t5, (vx 3 6).trans t6, rfl⟩⟩, Or.inl ⟨(vm 61 (by omega) (by omega)).trans m61, (vm 62 (by omega) (by omega)).trans m62, ?_⟩, gx, rsM_t fm2 (rsM_t (rsM_u (by omega)) (rsM_t (rsM_u (by omega)) (rsM_t (rsM_u (by omega)) (rsM_t (rsM_u (by omega)) (rsM_u (by omega))))))⟩
          rw [e9, vx 3 8, q3.2 3 8 (by omega), fx.2 3 8 (by omega)]
          exact hrp.2.2
        have fin : rz mM_givesStatus 61 [(0, .ref 116), (1, .int (nI n))] [] Vm (rz_v (rsP Sx Sm (nI (i + 1)) Vx)) := by
          refine p_M_givesStatus_61 ⟨fun _ => f106, fun _ => ⟨fun _ => f106, fun c => absurd ?_ c⟩⟩
          rw [vm59, hW2.1, eq]
          exact nI_le (Nat.le_refl _) (by omega)
        exact p_Status_receive_7 (na2 := 300) rfl ⟨fun _ => hK2 _ _ fin, fun _ => ⟨fun _ => hK2 _ _ fin, fun _ => ⟨fun c => absurd (((vx 3 3).trans t3).symm.trans c) (by decide), fun _ => hK2 _ _ fin⟩⟩⟩
/-- the reference spells its STATUS -/
theorem d_spell {S : rz_S} {n k : Nat} {Q : rz_S → Prop} (hk : cdN k) (h56 : S.2 116 56 = nI k) (w : ∀ S1, WB S1 (spl (S.2 116 56) (S.2 116 57) (S.2 116 58) (wds k)) → wbM S S1 → rz mM_givesStatus 61 [(0, .ref 116), (1, .int (nI n))] [] S1 (rz_v Q)) : rz_ev mM_givesStatus [.ref 116, .int (nI n)] S (rz_v Q) := by
  have hw := wds_l hk
  show rz _ 0 [(0, .ref 116), (1, .int (nI n))] [] _ _
  have t0 : WB (rz_uI S 116 70 0) [] := ⟨rfl, fun j hj => absurd hj (Nat.not_lt_zero _)⟩
  have f0 : wbM S (rz_uI S 116 70 0) := ⟨fun _ _ => rfl, fun u z h => rz_uI_n h⟩
  refine p_M_givesStatus_0 (rz_useV (d_two t0 (by simp) _) (fun S1 q1 => rz_useV (d_says q1.1 (by simp [two]) _) (fun S2 q2 => ?_)))
  have f2 := wbM_t f0 (wbM_t q1.2 q2.2)
  rw [f2.2 116 56 (by omega), h56]
  refine rz_useV (d_words hk q2.1 (by simp [two])) (fun S3 q3 => rz_useV (d_says q3.1 (by simp [two]; omega) _) (fun S4 q4 => ?_))
  have f4 := wbM_t f2 (wbM_t q3.2 q4.2)
  rw [f4.2 116 57 (by omega)]
  refine rz_useV (d_two q4.1 (by simp [two]; omega) _) (fun S5 q5 => rz_useV (d_says q5.1 (by simp [two]; omega) _) (fun S6 q6 => ?_))
  have f6 := wbM_t f4 (wbM_t q5.2 q6.2)
  rw [f6.2 116 58 (by omega)]
  refine rz_useV (d_two q6.1 (by simp [two]; omega) _) (fun S7 q7 => rz_useV (d_says q7.1 (by simp [two]; omega) _) (fun S8 q8 => w S8 ?_ (wbM_t f6 (wbM_t q7.2 q8.2))))
  refine wb_c q8.1 ?_
  unfold spl
  rw [List.nil_append]
