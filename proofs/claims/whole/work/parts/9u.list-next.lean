/-! a LIST's next ENTRY: both sides -/
def nxM (c : Nat) (S S1 : rz_S) : Prop := (∀ q, ¬ (118 ≤ q ∧ q ≤ 121) → q ≠ 124 → ¬ (140 ≤ q ∧ q ≤ 143) → S1.1 q = S.1 q) ∧ (∀ q, 140 ≤ q → q ≤ 143 → ∀ d, d ≠ c → S1.1 q d = S.1 q d) ∧ ∀ u z, ¬ (u = 116 ∧ (2 ≤ z ∧ z ≤ 15 ∨ z = 20)) → S1.2 u z = S.2 u z
theorem nxM_r (c : Nat) (S : rz_S) : nxM c S S := ⟨fun _ _ _ _ => rfl, fun _ _ _ _ _ => rfl, fun _ _ _ => rfl⟩
theorem nxM_t {c : Nat} {S S1 S2 : rz_S} (h : nxM c S S1) (g : nxM c S1 S2) : nxM c S S2 := ⟨fun q a b d => (g.1 q a b d).trans (h.1 q a b d), fun q a b d e => (g.2.1 q a b d e).trans (h.2.1 q a b d e), fun u z a => (g.2.2 u z a).trans (h.2.2 u z a)⟩
theorem nxM_k {c : Nat} {S S1 : rz_S} (h : kFa 124 0 S S1) : nxM c S S1 := ⟨fun q a b _ => h.1 q a b, fun q a b d _ => by rw [h.1 q (by omega) (by omega)], fun u z a => h.2.2 u z a⟩
theorem nxM_u {c k : Nat} {S : rz_S} {x : Int32} (hk : k = 4 ∨ k = 5) : nxM c S (rz_uI S 116 k x) := ⟨fun _ _ _ _ => rfl, fun _ _ _ _ _ => rfl, fun u z a => rz_uI_n (by omega)⟩
theorem nxM_a {c q : Nat} {S : rz_S} {f : Nat → Int32} (hq : 140 ≤ q ∧ q ≤ 143) (h : ∀ d, d ≠ c → f d = S.1 q d) : nxM c S (rz_fA S q f) := ⟨fun p a b d => rz_fA_n (by omega), fun p a b d e => by
  by_cases z : p = q
  · subst z; rw [rz_fA_s]; exact h d e
  · rw [rz_fA_n z], fun _ _ _ => rfl⟩
theorem FM_nx {c : Nat} {S S1 : rz_S} (h : nxM c S S1) : FM c S S1 := ⟨fun q a => h.1 q (by omega) (by omega) (by omega), fun q a b e d f => by
  by_cases z : 140 ≤ q ∧ q ≤ 143
  · exact h.2.1 q z.1 z.2 d f
  · rw [h.1 q (by omega) (by omega) z], fun j a => ⟨by rw [h.1 127 (by omega) (by omega) (by omega)], by rw [h.1 148 (by omega) (by omega) (by omega)]⟩, fun j a => by rw [h.1 147 (by omega) (by omega) (by omega)], fun z a => h.2.2 116 z (by omega)⟩
theorem FX_fd {c : Nat} {S S1 : rz_S} (h : fdX S S1) : FX c S S1 := ⟨fun q a => h.1 q (by omega) (by omega), fun d a b => ⟨h.1 _ (by omega) (by omega), h.1 _ (by omega) (by omega)⟩, fun u z a => h.2 u z (by omega) (by omega) (by omega) (by omega), fun d a b z => ⟨h.2 _ z (by omega) (by omega) (by omega) (by omega), h.2 _ z (by omega) (by omega) (by omega) (by omega)⟩⟩
/-- what the search for a LIST's next ENTRY ends with; R: the right run from where it stands -/
def nxO (c : Nat) (B : Nat → Nat → Bool) (pr : Bool) (Sx Sm : rz_S) (R : (Int32 → rz_S → Prop) → Prop) (x : Int32) (Sx1 : rz_S) : Prop := ∃ Sm1, fdX Sx Sx1 ∧ nxM c Sm Sm1 ∧ (∃ id', Dk B pr id' Sx1 Sm1) ∧
  ((∃ xc : Nat, xc ≠ 0 ∧ (xc < 100 ∧ (xc = 0 ∨ xc = 1 ∨ 20 ≤ xc ∧ xc ≤ 26 ∨ xc = 28 ∨ 30 ≤ xc ∧ xc ≤ 34 ∨ 60 ≤ xc ∧ xc ≤ 66 ∨ 70 ≤ xc ∧ xc ≤ 74)) ∧ x = nI xc ∧ flt xc Sx1 Sm1 ∧ Sx1.2 3 3 = Sx.2 3 3 ∧ ∀ Q : Int32 → rz_S → Prop, Q x Sm1 → R Q) ∨
   ((∀ z, Sx1.2 3 z = Sx.2 3 z) ∧ x = 0 ∧ Sx1.2 46 5 = 0 ∧ ∀ Q : Int32 → rz_S → Prop, rz mM_next 162 [(0, .ref 116), (1, .int (nI c))] [] Sm1 (rz_i Q) → R Q) ∨
   ((∀ z, Sx1.2 3 z = Sx.2 3 z) ∧ x = 0 ∧ Sx1.2 46 5 = 1 ∧ Dr Sx1 Sm1 ∧ ∃ t s k e : Nat, 1 ≤ t ∧ t ≤ 12 ∧ s < sct t ∧ 1 ≤ k ∧ k ≤ 6 ∧ e < 4 ∧ Sx1.2 46 1 = nI t ∧ Sx1.2 46 2 = nI s ∧ Sx1.2 46 3 = nI k ∧ Sx1.2 46 4 = nI e ∧ Sm1.1 140 c = nI t ∧ Sm1.1 141 c = nI s ∧ Sm1.1 142 c = nI k ∧ Sm1.1 143 c = nI (e + 1) ∧
     ∀ Q : Int32 → rz_S → Prop, rz_ev mM_entryLine [.ref 116, .int (nI (16 * e))] Sm1 (rz_v (fun S => Q 0 S)) → R Q))
def nxS (c : Nat) (B : Nat → Nat → Bool) (pr : Bool) (Sx Sm : rz_S) (t s k : Nat) (Tx Tm : rz_S) : Prop := (fdX Sx Tx) ∧ (nxM c Sm Tm) ∧ (∃ id', Dk B pr id' Tx Tm) ∧ (∀ z, Tx.2 3 z = Sx.2 3 z) ∧ (Tx.2 46 5 = 0) ∧ (Tx.2 46 1 = nI t) ∧ (Tx.2 46 2 = nI s) ∧ (Tx.2 46 3 = nI k) ∧ (Tm.1 140 c = nI t) ∧ (Tm.1 141 c = nI s) ∧ (Tm.1 142 c = nI k) ∧ (1 ≤ t) ∧ (t ≤ 12) ∧ (s < sct t) ∧ (1 ≤ k) ∧ (k ≤ 6)
theorem c_goTo {S : rz_S} (a1 a2 a3 a4 : Int32) : rz_ev mDirectory_goTo [.ref 46, .int a1, .int a2, .int a3, .int a4] S (rz_v (fun S1 => S1 = rz_uI (rz_uI (rz_uI (rz_uI (rz_uI S 46 1 a1) 46 2 a2) 46 3 a3) 46 4 a4) 46 6 0)) := by
  show rz _ 0 [(0, .ref 46), (1, .int a1), (2, .int a2), (3, .int a3), (4, .int a4)] [] _ _
  exact p_Directory_goTo_0 rfl
theorem nxS_u {c : Nat} {B : Nat → Nat → Bool} {pr : Bool} {Sx Sm : rz_S} {t s k j : Nat} {x : Int32} {Tx Tm : rz_S} (h : nxS c B pr Sx Sm t s k Tx Tm) (hj : j = 4 ∨ j = 6) : nxS c B pr Sx Sm t s k (rz_uI Tx 46 j x) Tm := by
  obtain ⟨a1, a2, ⟨id', a3⟩, a4, a5, a6, a7, a8, a9⟩ := h
  exact ⟨fdX_t a1 fdX_u, a2, ⟨id', Dk_xu a3 (by omega)⟩, fun z => (rz_uI_n (by omega)).trans (a4 z), (rz_uI_n (by omega)).trans a5, (rz_uI_n (by omega)).trans a6, (rz_uI_n (by omega)).trans a7, (rz_uI_n (by omega)).trans a8, a9⟩
section NEXT
variable {B : Nat → Nat → Bool} {pr : Bool} {Sx Sm : rz_S} {c n : Nat} {R : (Int32 → rz_S → Prop) → Prop}
theorem nx_in (hc : c < 15) (hn : n ≤ 10) (len : Sx.2 (50 + 4 * c) 1 = nI n) (lm : Sm.1 144 c = nI n) (same : ∀ i, i < n → Sx.1 (51 + 4 * c) i = Sm.1 147 (10 * c + i)) {t s k : Nat}
    (hOut : k < 6 → ∀ (t' s' m : Nat) (Tx Tm : rz_S), m ≤ 5 * k → nxS c B pr Sx Sm t' s' (k + 1) Tx Tm → Tx.2 46 4 = -1 → Tx.2 46 6 = 0 → Tm.1 143 c = 0 → (∀ Q : Int32 → rz_S → Prop, rz mM_next 0 [(0, .ref 116), (1, .int (nI c))] [] Tm (rz_i Q) → R Q) → ∀ K : Int32 → rz_S → Prop, (∀ x Sx1, nxO c B pr Sx Sm R x Sx1 → K x Sx1) → rz mDirectory_find 7 [(0, .ref 46), (1, .int (nI 0)), (2, .ref (50 + 4 * c)), (3, .int (nI m))] [] Tx (rz_i K)) :
    ∀ (w e m : Nat) (Tx Tm : rz_S), w + e = 4 → m ≤ 5 * (k - 1) + e → nxS c B pr Sx Sm t s k Tx Tm → Dr Tx Tm → Tx.2 46 4 + 1 = nI e → (∀ Q : Int32 → rz_S → Prop, rz mM_next 62 [(0, .ref 116), (1, .int (nI c)), (5, .int (nI e))] [] Tm (rz_i Q) → R Q) → ∀ K : Int32 → rz_S → Prop, (∀ x Sx1, nxO c B pr Sx Sm R x Sx1 → K x Sx1) → rz mDirectory_find 43 [(0, .ref 46), (1, .int (nI 0)), (2, .ref (50 + 4 * c)), (3, .int (nI m))] [.int 0] Tx (rz_i K) := by
  have hch : chP (48 + 4 * c) := ⟨by omega, by omega, by omega⟩
  have hp : ptP (50 + 4 * c) := by have := chPt hch; rw [show 48 + 4 * c + 2 = 50 + 4 * c by omega] at this; exact this
  have ecl : (nI c).toNatClampNeg = c := nI_clamp (by omega)
  have e10 : (10 * nI c : Int32) = nI (10 * c) := pk_mul 10 c
  intro w
  induction w with
  | zero =>
    intro e m Tx Tm he hm hS hR h4 hRR K hK
    have e4 : e = 4 := by omega
    subst e4
    obtain ⟨a1, a2, ⟨id', a3⟩, a4, a5, a6, a7, a8, b1, b2, b3, t1, t2, s1, k1, k6⟩ := nxS_u (x := nI 4) (nxS_u (x := 1) hS (Or.inr rfl)) (Or.inl rfl)
    refine p_Directory_find_43 hp ⟨fun _ => ⟨fun _ => ?_, fun d => absurd (by rw [h4]; decide) d⟩, fun z => absurd rfl z⟩
    rw [h4]
    refine rz_toI (c_Directory_isLast k6 a8) ?_
    have r1 := hR 0 (by omega)
    have r2 := hR 1 (by omega)
    have r0 : (rz_uI (rz_uI Tx 46 6 1) 46 4 (nI 4)).1 47 = Tx.1 47 := rfl
    rw [r0]
    have h62 : ∀ Q : Int32 → rz_S → Prop, ((Tm.1 124 0 = 0 → rz mM_next 162 [(0, .ref 116), (1, .int (nI c))] [] Tm (rz_i Q)) ∧ (¬ Tm.1 124 0 = 0 → rx_in (nI c) 15 = true ∧ ((Tm.1 142 c = 6 → rz mM_next 162 [(0, .ref 116), (1, .int (nI c))] [] Tm (rz_i Q)) ∧ (¬ Tm.1 142 c = 6 → rz mM_next 0 [(0, .ref 116), (1, .int (nI c))] [] (rz_fA (rz_fA (rz_fA (rz_fA Tm 140 (upd (Tm.1 140) c (Tm.1 124 0))) 141 (upd (Tm.1 141) c (Tm.1 124 1))) 142 (upd (Tm.1 142) c ((Tm.1 142 c) + 1))) 143 (upd (Tm.1 143) c 0)) (rz_i Q))))) → R Q := fun Q h => hRR Q (p_M_next_62 ⟨fun _ => by rw [ecl]; exact h, fun d => absurd (by decide) d⟩)
    by_cases z0 : Tx.1 47 0 = 0
    · rw [if_pos z0]
      refine ⟨fun z => absurd z (by decide), fun _ => hK 0 _ ⟨Tm, a1, a2, ⟨id', a3⟩, Or.inr (Or.inl ⟨a4, rfl, a5, fun Q h => h62 Q ⟨fun _ => h, fun d => absurd (r1.1 ▸ z0) d⟩⟩)⟩⟩
    · rw [if_neg z0]
      have z1 : ¬ Tm.1 124 0 = 0 := fun d => z0 (r1.1.trans d)
      by_cases k6' : k = 6
      · rw [if_pos k6']
        refine ⟨fun z => absurd z (by decide), fun _ => hK 0 _ ⟨Tm, a1, a2, ⟨id', a3⟩, Or.inr (Or.inl ⟨a4, rfl, a5, fun Q h => h62 Q ⟨fun d => absurd d z1, fun _ => ⟨rin hc (by omega), fun _ => h, fun d => absurd (by rw [b3, k6']; rfl) d⟩⟩⟩)⟩⟩
      · rw [if_neg k6']
        have n6 : ¬ Tm.1 142 c = 6 := fun d => k6' ((nI_eq (b := 6) (by omega) (by omega)).mp (b3.symm.trans d))
        obtain ⟨u, hu, eu⟩ := r1.2
        obtain ⟨v, hv, ev⟩ := r2.2
        refine ⟨fun _ => rz_toI (c_Disk_legal _ _) ?_, fun z => absurd rfl z⟩
        show (lgI (Tx.1 47 0) (Tx.1 47 1) = 0 → _) ∧ (¬ lgI (Tx.1 47 0) (Tx.1 47 1) = 0 → _)
        rw [b3, nI_1, ← r1.1, ← r2.1, eu, ev] at h62
        rw [eu] at z0
        generalize hW : rz_fA (rz_fA (rz_fA (rz_fA Tm 140 (upd (Tm.1 140) c (nI u))) 141 (upd (Tm.1 141) c (nI v))) 142 (upd (Tm.1 142) c (nI (k + 1)))) 143 (upd (Tm.1 143) c 0) = W at h62
        have w140 : W.1 140 c = nI u := by rw [← hW]; simp (disch := omega) only [uI1, fA2, rz_fA_n, rz_uI_n, rz_fA_s, rz_uI_s, pk_us]
        have w141 : W.1 141 c = nI v := by rw [← hW]; simp (disch := omega) only [uI1, fA2, rz_fA_n, rz_uI_n, rz_fA_s, rz_uI_s, pk_us]
        have w142 : W.1 142 c = nI (k + 1) := by rw [← hW]; simp (disch := omega) only [uI1, fA2, rz_fA_n, rz_uI_n, rz_fA_s, rz_uI_s, pk_us]
        have w143 : W.1 143 c = 0 := by rw [← hW]; simp (disch := omega) only [uI1, fA2, rz_fA_n, rz_uI_n, rz_fA_s, rz_uI_s, pk_us]
        have gW : nxM c Tm W := by
          rw [← hW]
          exact nxM_t (nxM_a (q := 140) (by omega) (fun d hd => by simp (disch := omega) only [uI1, fA2, rz_fA_n, rz_uI_n, rz_fA_s, rz_uI_s, pk_us, pk_un])) (nxM_t (nxM_a (q := 141) (by omega) (fun d hd => by simp (disch := omega) only [uI1, fA2, rz_fA_n, rz_uI_n, rz_fA_s, rz_uI_s, pk_us, pk_un])) (nxM_t (nxM_a (q := 142) (by omega) (fun d hd => by simp (disch := omega) only [uI1, fA2, rz_fA_n, rz_uI_n, rz_fA_s, rz_uI_s, pk_us, pk_un])) (nxM_a (q := 143) (by omega) (fun d hd => by simp (disch := omega) only [uI1, fA2, rz_fA_n, rz_uI_n, rz_fA_s, rz_uI_s, pk_us, pk_un]))))
        have dW : ∀ B id V, Dk B pr id V Tm → Dk B pr id V W := fun B id V h => by
          rw [← hW]; exact Dk_mf (Dk_mf (Dk_mf (Dk_mf h (by omega)) (by omega)) (by omega)) (by omega)
        have n6' : ¬ nI k = 6 := fun d => n6 (b3.trans d)
        refine ⟨fun d => rz_toI (c_Status_set _ _ _) (hK _ _ ?_), fun d => ?_⟩
        · rw [eu, ev] at d
          show nxO c B pr Sx Sm R 71 (st_set (rz_uI (rz_uI Tx 46 6 1) 46 4 (nI 4)) 71 (Tx.1 47 0) (Tx.1 47 1))
          rw [eu, ev]
          refine ⟨rz_uI (rz_uI W 116 4 (nI u)) 116 5 (nI v), fdX_t a1 (fdX_rF rF_s), nxM_t a2 (nxM_t gW (nxM_t (nxM_u (Or.inl rfl)) (nxM_u (Or.inr rfl)))), ⟨id', Dk_mu (Dk_mu (dW _ _ _ (st_set_dk a3)) (by omega)) (by omega)⟩, Or.inl ⟨71, by omega, by omega, rfl, ⟨u, v, st_set_is, by simp (disch := omega) only [uI1, fA2, rz_fA_n, rz_uI_n, rz_fA_s, rz_uI_s, pk_us], by simp (disch := omega) only [uI1, fA2, rz_fA_n, rz_uI_n, rz_fA_s, rz_uI_s, pk_us]⟩, (show (st_set (rz_uI (rz_uI Tx 46 6 1) 46 4 (nI 4)) 71 (nI u) (nI v)).2 3 3 = (rz_uI (rz_uI Tx 46 6 1) 46 4 (nI 4)).2 3 3 from rfl).trans (a4 3), fun Q h => h62 Q ⟨fun d => absurd d z0, fun _ => ⟨rin hc (by omega), fun d => absurd d n6', fun _ => p_M_next_0 ⟨rin hc (by omega), ?_⟩⟩⟩⟩⟩
          rw [ecl, w140, w141]
          exact rz_toI (c_M_legal _ _) ⟨fun _ => rz_toI (c_M_fault _ _ _) (p_M_next_44 ⟨fun d => absurd d (by decide), fun _ => h⟩), fun d2 => absurd d d2⟩
        · obtain ⟨u', v', u1, u2, hv', eu', ev'⟩ := lgI_1 d
          have q1 : u = u' := (nI_eq (by omega) (by omega)).mp (eu.symm.trans eu')
          have q2 : v = v' := (nI_eq (by omega) (by have := (sct_b u1 u2).1; omega)).mp (ev.symm.trans ev')
          subst q1
          subst q2
          refine rz_toV (c_goTo _ _ _ _) ?_
          show rz mDirectory_find 7 [(0, .ref 46), (1, .int (nI 0)), (2, .ref (50 + 4 * c)), (3, .int (nI m + 1))] [] (rz_uI (rz_uI (rz_uI (rz_uI (rz_uI (rz_uI (rz_uI Tx 46 6 1) 46 4 (nI 4)) 46 1 (Tx.1 47 0)) 46 2 (Tx.1 47 1)) 46 3 ((rz_uI (rz_uI Tx 46 6 1) 46 4 (nI 4)).2 46 3 + 1)) 46 4 (-1)) 46 6 0) (rz_i K)
          rw [nI_1, a8, nI_1, eu, ev]
          generalize hV : rz_uI (rz_uI (rz_uI (rz_uI (rz_uI (rz_uI (rz_uI Tx 46 6 1) 46 4 (nI 4)) 46 1 (nI u)) 46 2 (nI v)) 46 3 (nI (k + 1))) 46 4 (-1)) 46 6 0 = V
          have e3 : ∀ z, V.2 3 z = (rz_uI (rz_uI Tx 46 6 1) 46 4 (nI 4)).2 3 z := fun z => by rw [← hV]; simp (disch := omega) only [uI1, fA2, rz_fA_n, rz_uI_n, rz_fA_s, rz_uI_s, pk_us]
          refine hOut (by omega) u v (m + 1) V W (by omega) ⟨fdX_t a1 ?_, nxM_t a2 gW, ⟨id', dW _ _ _ ?_⟩, fun z => (e3 z).trans (a4 z), ?_, ?_, ?_, ?_, w140, w141, w142, u1, u2, hv', by omega, by omega⟩ ?_ ?_ w143 (fun Q h => h62 Q ⟨fun d => absurd d z0, fun _ => ⟨rin hc (by omega), fun d => absurd d n6', fun _ => h⟩⟩) K hK
          · rw [← hV]; exact fdX_t fdX_u (fdX_t fdX_u (fdX_t fdX_u (fdX_t fdX_u fdX_u)))
          · rw [← hV]; exact Dk_xu (Dk_xu (Dk_xu (Dk_xu (Dk_xu a3 (by omega)) (by omega)) (by omega)) (by omega)) (by omega)
          · have : V.2 46 5 = (rz_uI (rz_uI Tx 46 6 1) 46 4 (nI 4)).2 46 5 := by rw [← hV]; simp (disch := omega) only [uI1, fA2, rz_fA_n, rz_uI_n, rz_fA_s, rz_uI_s, pk_us]
            exact this.trans a5
          · rw [← hV]; simp (disch := omega) only [uI1, fA2, rz_fA_n, rz_uI_n, rz_fA_s, rz_uI_s, pk_us]
          · rw [← hV]; simp (disch := omega) only [uI1, fA2, rz_fA_n, rz_uI_n, rz_fA_s, rz_uI_s, pk_us]
          · rw [← hV]; simp (disch := omega) only [uI1, fA2, rz_fA_n, rz_uI_n, rz_fA_s, rz_uI_s, pk_us]
          · rw [← hV]; simp (disch := omega) only [uI1, fA2, rz_fA_n, rz_uI_n, rz_fA_s, rz_uI_s, pk_us]
          · rw [← hV]; simp (disch := omega) only [uI1, fA2, rz_fA_n, rz_uI_n, rz_fA_s, rz_uI_s, pk_us]
  | succ w ih =>
    intro e m Tx Tm he hm hS hR h4 hRR K hK
    have hS2 : nxS c B pr Sx Sm t s k (rz_uI (rz_uI Tx 46 6 1) 46 4 (nI e)) Tm := nxS_u (nxS_u hS (Or.inr rfl)) (Or.inl rfl)
    obtain ⟨a1, a2, ⟨id', a3⟩, a4, a5, a6, a7, a8, b1, b2, b3, t1, t2, s1, k1, k6⟩ := hS2
    refine p_Directory_find_43 hp ⟨fun _ => ⟨fun d => ?_, fun _ => ?_⟩, fun z => absurd rfl z⟩
    · rw [h4] at d
      have := (nI_leI (a := 4) (by omega) (by omega)).mp d
      omega
    rw [h4]
    generalize hV : rz_uI (rz_uI Tx 46 6 1) 46 4 (nI e) = V at a1 a3 a4 a5 a6 a7 a8
    have v4 : V.2 46 4 = nI e := by rw [← hV]; simp (disch := omega) only [uI1, fA2, rz_fA_n, rz_uI_n, rz_fA_s, rz_uI_s, pk_us]
    have v6 : V.2 46 6 = 1 := by rw [← hV]; simp (disch := omega) only [uI1, fA2, rz_fA_n, rz_uI_n, rz_fA_s, rz_uI_s, pk_us]
    have vr : V.1 47 = Tx.1 47 := by rw [← hV]; rfl
    have hl : V.2 (50 + 4 * c) 1 = nI n := (a1.2 _ 1 (by omega) (by omega) (by omega) (by omega)).trans len
    refine rz_toI (c_Directory_isWanted (kd := 0) (n := n) (by omega) hp hn hl (by omega) v4) ?_
    have hw : wnt 0 (V.1 (50 + 4 * c + 1)) n (V.1 47) e = wnt 0 (fun i => Tm.1 147 (10 * c + i)) n (Tm.1 124) e := by
      refine wnt_c (by omega) hn (fun _ i hi => ?_) (fun i hi => by rw [vr]; exact (hR i hi).1)
      rw [show 50 + 4 * c + 1 = 51 + 4 * c by omega, a1.1 _ (by omega) (by omega), a2.1 147 (by omega) (by omega) (by omega)]
      exact same i hi
    rw [hw]
    have lm2 : Tm.1 144 c = nI n := by rw [a2.1 144 (by omega) (by omega) (by omega)]; exact lm
    have h62 : ∀ Q : Int32 → rz_S → Prop, (wnt 0 (fun i => Tm.1 147 (10 * c + i)) n (Tm.1 124) e = false → rz mM_next 62 [(0, .ref 116), (1, .int (nI c)), (5, .int (nI (e + 1)))] [] Tm (rz_i Q)) → (wnt 0 (fun i => Tm.1 147 (10 * c + i)) n (Tm.1 124) e = true → rz_ev mM_entryLine [.ref 116, .int (nI (16 * e))] (rz_fA Tm 143 (upd (Tm.1 143) c (nI (e + 1)))) (rz_v (fun S => Q 0 S))) → R Q := fun Q hA hB => hRR Q (p_M_next_62 ⟨fun d => by
      have := (nI_leI (a := 4) (by omega) (by omega)).mp d
      omega, fun _ => by
        have i1 : (16 * nI e : Int32) = nI (16 * e) := pk_mul 16 e
        rw [i1, show (nI (16 * e) + 2 : Int32) = nI (16 * e + 2) from nI_add _ 2, show (nI (16 * e) + 5 : Int32) = nI (16 * e + 5) from nI_add _ 5, nI_clamp (show 16 * e + 2 < 2 ^ 31 by omega), nI_1, ecl, lm2, e10]
        unfold wnt at hA hB
        rw [if_neg (by omega), if_pos rfl] at hA hB
        refine ⟨rin (by omega) (by omega), fun d => hA (by rw [decide_eq_true d]; rfl), fun d => ⟨rin hc (by omega), rz_toI (c_M_fits (n := n) (b := 147) (nb := 150) (a := 124) (na := 64) rfl (by omega) rfl (by omega) hn (by omega) (by omega)) ⟨fun z => hA ?_, fun z => hB ?_⟩⟩⟩
        · rw [decide_eq_false d, (nI_b0 _).mp z]; rfl
        · cases hz : ftF (fun i => Tm.1 147 (10 * c + i)) (fun i => Tm.1 124 (16 * e + 5 + i)) n n 0 with
          | false => rw [hz] at z; exact absurd rfl z
          | true => rw [decide_eq_false d]; rfl⟩)
    cases hz : wnt 0 (fun i => Tm.1 147 (10 * c + i)) n (Tm.1 124) e with
    | false =>
      refine ⟨fun _ => ?_, fun d => absurd rfl d⟩
      rw [nI_1]
      refine p_Directory_find_7 hp ⟨fun d => ?_, fun _ => ⟨fun d => ?_, fun _ => ?_⟩⟩
      · have := (nI_leI (a := 30) (by omega) (by omega)).mp d
        omega
      · exact absurd (v6.symm.trans d) (by decide)
      · exact ih (e + 1) (m + 1) V Tm (by omega) (by omega) ⟨a1, a2, ⟨id', a3⟩, a4, a5, a6, a7, a8, b1, b2, b3, t1, t2, s1, k1, k6⟩ (fun i hi => by rw [vr]; exact hR i hi) (by rw [v4, nI_1]) (fun Q h => h62 Q (fun _ => h) (fun q => by rw [hz] at q; exact absurd q (by decide))) K hK
    | true =>
      refine ⟨fun d => absurd d (by decide), fun _ => hK 0 _ ⟨rz_fA Tm 143 (upd (Tm.1 143) c (nI (e + 1))), fdX_t a1 fdX_u, nxM_t a2 (nxM_a (q := 143) (by omega) (fun d hd => by simp (disch := omega) only [uI1, fA2, rz_fA_n, rz_uI_n, rz_fA_s, rz_uI_s, pk_us, pk_un])), ⟨id', Dk_mf (Dk_xu a3 (by omega)) (by omega)⟩, Or.inr (Or.inr ⟨fun z => ?_, rfl, ?_, fun i hi => ?_, t, s, k, e, t1, t2, s1, k1, k6, by omega, ?_, ?_, ?_, ?_, ?_, ?_, ?_, ?_, fun Q h => h62 Q (fun q => by rw [hz] at q; exact absurd q (by decide)) (fun _ => h)⟩)⟩⟩
      · simp (disch := omega) only [uI1, fA2, rz_fA_n, rz_uI_n, rz_fA_s, rz_uI_s, pk_us]; exact a4 z
      · simp (disch := omega) only [uI1, fA2, rz_fA_n, rz_uI_n, rz_fA_s, rz_uI_s, pk_us]
      · simp (disch := omega) only [uI1, fA2, rz_fA_n, rz_uI_n, rz_fA_s, rz_uI_s, pk_us]; rw [vr]; exact hR i hi
      · simp (disch := omega) only [uI1, fA2, rz_fA_n, rz_uI_n, rz_fA_s, rz_uI_s, pk_us]; exact a6
      · simp (disch := omega) only [uI1, fA2, rz_fA_n, rz_uI_n, rz_fA_s, rz_uI_s, pk_us]; exact a7
      · simp (disch := omega) only [uI1, fA2, rz_fA_n, rz_uI_n, rz_fA_s, rz_uI_s, pk_us]; exact a8
      · simp (disch := omega) only [uI1, fA2, rz_fA_n, rz_uI_n, rz_fA_s, rz_uI_s, pk_us]; exact v4
      · simp (disch := omega) only [uI1, fA2, rz_fA_n, rz_uI_n, rz_fA_s, rz_uI_s, pk_us]; exact b1
      · simp (disch := omega) only [uI1, fA2, rz_fA_n, rz_uI_n, rz_fA_s, rz_uI_s, pk_us]; exact b2
      · simp (disch := omega) only [uI1, fA2, rz_fA_n, rz_uI_n, rz_fA_s, rz_uI_s, pk_us]; exact b3
      · simp (disch := omega) only [uI1, fA2, rz_fA_n, rz_uI_n, rz_fA_s, rz_uI_s, pk_us]
theorem nx_out (hc : c < 15) (hn : n ≤ 10) (len : Sx.2 (50 + 4 * c) 1 = nI n) (lm : Sm.1 144 c = nI n) (same : ∀ i, i < n → Sx.1 (51 + 4 * c) i = Sm.1 147 (10 * c + i)) : ∀ (w k e t s m : Nat) (Tx Tm : rz_S), w + k = 7 → e ≤ 4 → m ≤ 5 * (k - 1) + e → nxS c B pr Sx Sm t s k Tx Tm → Tx.2 46 4 + 1 = nI e → Tx.2 46 6 = 0 → Tm.1 143 c = nI e → (∀ Q : Int32 → rz_S → Prop, rz mM_next 0 [(0, .ref 116), (1, .int (nI c))] [] Tm (rz_i Q) → R Q) → ∀ K : Int32 → rz_S → Prop, (∀ x Sx1, nxO c B pr Sx Sm R x Sx1 → K x Sx1) → rz mDirectory_find 7 [(0, .ref 46), (1, .int (nI 0)), (2, .ref (50 + 4 * c)), (3, .int (nI m))] [] Tx (rz_i K) := by
  have hch : chP (48 + 4 * c) := ⟨by omega, by omega, by omega⟩
  have hp : ptP (50 + 4 * c) := by have := chPt hch; rw [show 48 + 4 * c + 2 = 50 + 4 * c by omega] at this; exact this
  have ecl : (nI c).toNatClampNeg = c := nI_clamp (by omega)
  intro w
  induction w with
  | zero => intro k e t s m Tx Tm h _ _ hS; have := hS.2.2.2.2.2.2.2.2.2.2.2.2.2.2.2; omega
  | succ w ih =>
    intro k e t s m Tx Tm h he hm hS h4 h6 h143 hRR K hK
    obtain ⟨a1, a2, ⟨id', a3⟩, a4, a5, a6, a7, a8, b1, b2, b3, t1, t2, s1, k1, k6⟩ := hS
    have hsb := sct_b t1 t2
    obtain ⟨x, Ux, y, Um, e1, e2, rfl, xc, id2, ex, x100, D2, f1, f2, o1, n1⟩ := PR_read (a := 47) (a' := 124) (at0 := 0) (na := 64) (s := s) a3 t1 t2 (by omega) rfl (by omega) rfl (by omega) (by omega) (by omega)
    refine p_Directory_find_7 hp ⟨fun d => ?_, fun _ => ⟨fun _ => ?_, fun d => absurd h6 d⟩⟩
    · have := (nI_leI (a := 30) (by omega) (by omega)).mp d
      omega
    rw [a6, a7]
    refine rzx_I e1 ?_
    have h0 : ∀ Q : Int32 → rz_S → Prop, (x = 0 → rz mM_next 62 [(0, .ref 116), (1, .int (nI c)), (5, .int (nI e))] [] Um (rz_i Q)) → (¬ x = 0 → Q x Um) → R Q := fun Q hA hB => hRR Q (p_M_next_0 ⟨rin hc (by omega), by
      rw [ecl, b1, b2]
      refine rz_toI (c_M_legal _ _) ⟨fun d => absurd d (by rw [lgI_y t1 t2 s1]; decide), fun _ => rzx_I e2 (p_M_next_44 ⟨fun d => ⟨rin hc (by omega), ?_⟩, hB⟩)⟩
      rw [ecl, f2.1 143 (by omega) (by omega), h143]
      exact hA d⟩)
    have gx : fdX Sx Ux := fdX_t a1 (fdX_rF f1)
    have gm : nxM c Sm Um := nxM_t a2 (nxM_k f2)
    have f46 : ∀ z, Ux.2 46 z = Tx.2 46 z := fun z => f1.2 46 z (by omega) (by omega) (by omega)
    have m14 : ∀ q, 140 ≤ q → q ≤ 143 → Um.1 q = Tm.1 q := fun q a b => f2.1 q (by omega) (by omega)
    by_cases x0 : xc = 0
    · subst x0
      subst ex
      obtain ⟨⟨dd, hd⟩, hst⟩ := o1 rfl
      refine nx_in (t := t) (s := s) (k := k) hc hn len lm same (fun k5 t' s' m' Vx Vm hm' hV v4 v6 v143 hR' K' hK' => ih (k + 1) 0 t' s' m' Vx Vm (by omega) (by omega) (by omega) hV (by rw [v4]; decide) v6 (v143.trans rfl) hR' K' hK') (4 - e) e m Ux Um (by omega) hm ⟨gx, gm, ⟨id2, D2⟩, fun z => (hst z).trans (a4 z), (f46 5).trans a5, (f46 1).trans a6, (f46 2).trans a7, (f46 3).trans a8, by rw [m14 140 (by omega) (by omega)]; exact b1, by rw [m14 141 (by omega) (by omega)]; exact b2, by rw [m14 142 (by omega) (by omega)]; exact b3, t1, t2, s1, k1, k6⟩ (fun i hi => ⟨?_, ⟨dd i, (hd i hi).2.2, (hd i hi).1⟩⟩) (by rw [f46]; exact h4) (fun Q h => h0 Q (fun _ => h) (fun d => absurd rfl d)) K hK
      have := hd i hi
      rw [Nat.zero_add] at this
      exact this.1.trans this.2.1.symm
    · have xne : ¬ x = 0 := by rw [ex]; exact nI_ne0 (by omega) (by omega)
      obtain ⟨_, _, hfl, h33⟩ := n1 x0
      refine p_Directory_find_43 hp ⟨fun d => absurd d xne, fun _ => hK x Ux ⟨Um, gx, gm, ⟨id2, D2⟩, Or.inl ⟨xc, x0, x100, ex, hfl, h33.trans (a4 3), fun Q h => h0 Q (fun d => absurd d xne) (fun _ => h)⟩⟩⟩
end NEXT
/-- the search for a LIST's next ENTRY, from where both stand -/
theorem PR_next {B : Nat → Nat → Bool} {pr : Bool} {id : Option (Nat × Nat)} {Sx Sm : rz_S} {c n t s k e : Nat} (hc : c < 15) (hn : n ≤ 10) (len : Sx.2 (50 + 4 * c) 1 = nI n) (lm : Sm.1 144 c = nI n) (same : ∀ i, i < n → Sx.1 (51 + 4 * c) i = Sm.1 147 (10 * c + i)) (hD : Dk B pr id Sx Sm) (t1 : 1 ≤ t) (t2 : t ≤ 12) (s1 : s < sct t) (k1 : 1 ≤ k) (k6 : k ≤ 6) (e4 : e ≤ 4) (x1 : Sx.2 46 1 = nI t) (x2 : Sx.2 46 2 = nI s) (x3 : Sx.2 46 3 = nI k) (x4 : Sx.2 46 4 + 1 = nI e) (x6 : Sx.2 46 6 = 0) (y1 : Sm.1 140 c = nI t) (y2 : Sm.1 141 c = nI s) (y3 : Sm.1 142 c = nI k) (y4 : Sm.1 143 c = nI e) : ∃ x Sx1, rzx mDirectory_find [.ref 46, .int 0, .ref (50 + 4 * c)] Sx (some (.int x)) Sx1 ∧ nxO c B pr Sx Sm (fun Q => rz_ev mM_next [.ref 116, .int (nI c)] Sm (rz_i Q)) x Sx1 := by
  have hch : chP (48 + 4 * c) := ⟨by omega, by omega, by omega⟩
  have hp : ptP (50 + 4 * c) := by have := chPt hch; rw [show 48 + 4 * c + 2 = 50 + 4 * c by omega] at this; exact this
  have hL : rz_ev mDirectory_find [.ref 46, .int 0, .ref (50 + 4 * c)] Sx (rz_i (nxO c B pr Sx Sm (fun Q => rz_ev mM_next [.ref 116, .int (nI c)] Sm (rz_i Q)))) := by
    show rz _ 0 [(0, .ref 46), (1, .int (nI 0)), (2, .ref (50 + 4 * c))] [] _ _
    refine p_Directory_find_0 hp ?_
    refine nx_out hc hn len lm same (7 - k) k e t s 0 (rz_uI Sx 46 5 0) Sm (by omega) e4 (by omega) ⟨fdX_u, nxM_r _ _, ⟨id, Dk_xu hD (by omega)⟩, fun z => by simp (disch := omega) only [uI1, fA2, rz_fA_n, rz_uI_n, rz_fA_s, rz_uI_s, pk_us], by simp (disch := omega) only [uI1, fA2, rz_fA_n, rz_uI_n, rz_fA_s, rz_uI_s, pk_us], by simp (disch := omega) only [uI1, fA2, rz_fA_n, rz_uI_n, rz_fA_s, rz_uI_s, pk_us]; exact x1, by simp (disch := omega) only [uI1, fA2, rz_fA_n, rz_uI_n, rz_fA_s, rz_uI_s, pk_us]; exact x2, by simp (disch := omega) only [uI1, fA2, rz_fA_n, rz_uI_n, rz_fA_s, rz_uI_s, pk_us]; exact x3, y1, y2, y3, t1, t2, s1, k1, k6⟩ (by simp (disch := omega) only [uI1, fA2, rz_fA_n, rz_uI_n, rz_fA_s, rz_uI_s, pk_us]; exact x4) (by simp (disch := omega) only [uI1, fA2, rz_fA_n, rz_uI_n, rz_fA_s, rz_uI_s, pk_us]; exact x6) y4 (fun Q h => h) _ (fun x Sx1 h => h)
  obtain ⟨_, Sx1, h1, x, rfl, h2⟩ := rzx_ev hL
  exact ⟨x, Sx1, h1, h2⟩
