/-! a search whose two sides tell other lengths where nobody looks at them -/
section FINDN
variable {B : Nat → Nat → Bool} {pr : Bool} {Sx Sm : rz_S} {kd p n nr b nb q : Nat}
/-- what a search asks of the two PATTERNs -/
def fgP (Sx Sm : rz_S) (kd p n nr b nb q : Nat) : Prop := (kd < 3) ∧ (ptP p) ∧ (n ≤ 10) ∧ (Sx.2 p 1 = nI n) ∧ (rz_T[b]? = some (.inl (0, nb))) ∧ (nb < 2 ^ 20) ∧ (kd ≠ 2 → q + n ≤ nb) ∧ (kd ≠ 2 → ∀ i, i < n → Sx.1 (p + 1) i = Sm.1 b (q + i)) ∧ (38 < p ∧ p ≠ 46) ∧ ((¬ (118 ≤ b ∧ b ≤ 121) ∧ b ≠ 124) ∧ (kd ≠ 2 → nr = n))
theorem fgP.kd3 {Sx Sm : rz_S} {kd p n nr b nb q : Nat} (h : fgP Sx Sm kd p n nr b nb q) : kd < 3 := h.1
theorem fgP.pt {Sx Sm : rz_S} {kd p n nr b nb q : Nat} (h : fgP Sx Sm kd p n nr b nb q) : ptP p := h.2.1
theorem fgP.n10 {Sx Sm : rz_S} {kd p n nr b nb q : Nat} (h : fgP Sx Sm kd p n nr b nb q) : n ≤ 10 := h.2.2.1
theorem fgP.len {Sx Sm : rz_S} {kd p n nr b nb q : Nat} (h : fgP Sx Sm kd p n nr b nb q) : Sx.2 p 1 = nI n := h.2.2.2.1
theorem fgP.bT {Sx Sm : rz_S} {kd p n nr b nb q : Nat} (h : fgP Sx Sm kd p n nr b nb q) : rz_T[b]? = some (.inl (0, nb)) := h.2.2.2.2.1
theorem fgP.bN {Sx Sm : rz_S} {kd p n nr b nb q : Nat} (h : fgP Sx Sm kd p n nr b nb q) : nb < 2 ^ 20 := h.2.2.2.2.2.1
theorem fgP.qn {Sx Sm : rz_S} {kd p n nr b nb q : Nat} (h : fgP Sx Sm kd p n nr b nb q) : kd ≠ 2 → q + n ≤ nb := h.2.2.2.2.2.2.1
theorem fgP.same {Sx Sm : rz_S} {kd p n nr b nb q : Nat} (h : fgP Sx Sm kd p n nr b nb q) : kd ≠ 2 → ∀ i, i < n → Sx.1 (p + 1) i = Sm.1 b (q + i) := h.2.2.2.2.2.2.2.1
theorem fgP.p1 {Sx Sm : rz_S} {kd p n nr b nb q : Nat} (h : fgP Sx Sm kd p n nr b nb q) : 38 < p ∧ p ≠ 46 := h.2.2.2.2.2.2.2.2.1
theorem fgP.b1 {Sx Sm : rz_S} {kd p n nr b nb q : Nat} (h : fgP Sx Sm kd p n nr b nb q) : ¬ (118 ≤ b ∧ b ≤ 121) ∧ b ≠ 124 := h.2.2.2.2.2.2.2.2.2.1
theorem fgP.lens {Sx Sm : rz_S} {kd p n nr b nb q : Nat} (h : fgP Sx Sm kd p n nr b nb q) : kd ≠ 2 → nr = n := h.2.2.2.2.2.2.2.2.2.2
theorem fg_in (hP : fgP Sx Sm kd p n nr b nb q) {t s k : Nat} (hOut : k < 6 → ∀ (t' s' : Nat) (Tx Tm : rz_S), fdS B pr Sx Sm t' s' (k + 1) Tx Tm → Tx.2 46 4 = -1 → Tx.2 46 6 = 0 → ∀ K : Int32 → rz_S → Prop, (∀ x Sx1, rz mM_finds 12 [(0, .ref 116), (1, .int (nI kd)), (2, .ref b), (3, .int (nI q)), (4, .int (nI nr)), (5, .int (nI t')), (6, .int (nI s'))] [] Tm (rz_i (fdE B pr Sx Sm x Sx1)) → K x Sx1) → rz mDirectory_find 7 [(0, .ref 46), (1, .int (nI kd)), (2, .ref p), (3, .int (nI (5 * k)))] [] Tx (rz_i K)) :
    ∀ (w e : Nat) (Tx Tm : rz_S), w + e = 4 → fdS B pr Sx Sm t s k Tx Tm → Dr Tx Tm → Tx.2 46 4 + 1 = nI e → Tm.2 116 30 = nI t → Tm.2 116 31 = nI s → ∀ K : Int32 → rz_S → Prop, (∀ x Sx1, rz mM_finds 80 [(0, .ref 116), (1, .int (nI kd)), (2, .ref b), (3, .int (nI q)), (4, .int (nI nr)), (5, .int (nI t)), (6, .int (nI s)), (8, .int (nI e))] [] Tm (rz_i (fdE B pr Sx Sm x Sx1)) → K x Sx1) → rz mDirectory_find 43 [(0, .ref 46), (1, .int (nI kd)), (2, .ref p), (3, .int (nI (5 * (k - 1) + e)))] [.int 0] Tx (rz_i K) := by
  have hp := hP.pt
  intro w
  induction w with
  | zero =>
    intro e Tx Tm he hS hR h4 m30 m31 K hK
    have e4 : e = 4 := by omega
    subst e4
    have hk6 := hS.k6
    have hk1 := hS.k1
    have hS2 : fdS B pr Sx Sm t s k (rz_uI (rz_uI Tx 46 6 1) 46 4 (nI 4)) Tm := fdS_u (fdS_u hS (Or.inr rfl)) (Or.inl rfl)
    refine p_Directory_find_43 hp ⟨fun _ => ⟨fun _ => ?_, fun c => absurd (by rw [h4]; decide) c⟩, fun z => absurd rfl z⟩
    rw [h4]
    refine rz_toI (c_Directory_isLast hk6 hS2.x3) ?_
    show (_ → _) ∧ (_ → _)
    have r0 : (rz_uI (rz_uI Tx 46 6 1) 46 4 (nI 4)).1 47 = Tx.1 47 := rfl
    have r1 := hR 0 (by omega)
    have r2 := hR 1 (by omega)
    rw [r0]
    by_cases z0 : Tx.1 47 0 = 0
    · rw [if_pos z0]
      refine ⟨fun z => absurd z (by decide), fun _ => hK 0 _ (p_M_finds_80 hP.bT ⟨fun _ => ⟨fun _ => ?_, fun c => absurd (r1.1 ▸ z0) c⟩, fun c => absurd (by decide) c⟩)⟩
      exact ⟨hS2.fx, hS2.fm, hS2.dk, Or.inr ⟨hS2.st, rfl, hR, t, s, k, hS.t1, hS.t2, hS.s1, hk1, hk6, hS2.x1, hS2.x2, hS2.x3, m30, m31, hS.m3, Or.inr ⟨rfl, hS2.f5, Or.inl z0⟩⟩⟩
    · rw [if_neg z0]
      have z1 : ¬ Tm.1 124 0 = 0 := fun c => z0 (r1.1.trans c)
      by_cases k6 : k = 6
      · rw [if_pos k6]
        refine ⟨fun z => absurd z (by decide), fun _ => hK 0 _ (p_M_finds_80 hP.bT ⟨fun _ => ⟨fun c => absurd c z1, fun _ => p_M_finds_12 hP.bT ⟨fun _ => ?_, fun c => absurd ?_ c⟩⟩, fun c => absurd (by decide) c⟩)⟩
        · obtain ⟨id', d⟩ := hS2.dk
          refine ⟨hS2.fx, fdM_t (fdM_t hS2.fm (fdM_u (by omega))) (fdM_u (by omega)), ⟨id', Dk_mu (Dk_mu d (by omega)) (by omega)⟩, Or.inr ⟨hS2.st, rfl, hR, t, s, k, hS.t1, hS.t2, hS.s1, hk1, hk6, hS2.x1, hS2.x2, hS2.x3, m30, m31, ?_, Or.inr ⟨rfl, hS2.f5, Or.inr k6⟩⟩⟩
          rw [k6]
          exact rz_uI_s
        · rw [rz_uI_s, hS.m3, k6]
          decide
      · rw [if_neg k6]
        have hk5 : k < 6 := by omega
        have m32 : (rz_uI Tm 116 32 (Tm.2 116 32 + 1)).2 116 32 = nI (k + 1) := by rw [rz_uI_s, hS.m3, nI_1]
        refine ⟨fun _ => rz_toI (c_Disk_legal _ _) ?_, fun z => absurd rfl z⟩
        have hK2 : ∀ x Sx1, rz mM_finds 12 [(0, .ref 116), (1, .int (nI kd)), (2, .ref b), (3, .int (nI q)), (4, .int (nI nr)), (5, .int (Tm.1 124 0)), (6, .int (Tm.1 124 1))] [] (rz_uI Tm 116 32 (Tm.2 116 32 + 1)) (rz_i (fdE B pr Sx Sm x Sx1)) → K x Sx1 := fun x Sx1 h => hK x Sx1 (p_M_finds_80 hP.bT ⟨fun _ => ⟨fun c => absurd c z1, fun _ => h⟩, fun c => absurd (by decide) c⟩)
        rw [← r1.1, ← r2.1] at hK2
        show (lgI (Tx.1 47 0) (Tx.1 47 1) = 0 → _) ∧ (¬ lgI (Tx.1 47 0) (Tx.1 47 1) = 0 → _)
        refine ⟨fun c => rz_toI (c_Status_set _ _ _) (hK2 _ _ (p_M_finds_12 hP.bT ⟨fun d => ?_, fun _ => rz_toI (c_M_legal _ _) ⟨fun _ => rz_toI (c_M_fault _ _ _) ?_, fun d => absurd c d⟩⟩)), fun c => ?_⟩
        · rw [m32] at d
          have := (nI_ltI (a := 6) (by omega) (by omega)).mp d
          omega
        · obtain ⟨id', d⟩ := hS2.dk
          obtain ⟨_, b1⟩ := r1
          obtain ⟨_, b2⟩ := r2
          obtain ⟨u, hu, eu⟩ := b1
          obtain ⟨v, hv, ev⟩ := b2
          refine ⟨fdX_t hS2.fx (fdX_rF rF_s), fdM_t (fdM_t (fdM_t hS2.fm (fdM_u (by omega))) (fdM_u (by omega))) (fdM_u (by omega)), ⟨id', Dk_mu (Dk_mu (Dk_mu ?_ (by omega)) (by omega)) (by omega)⟩, Or.inl ⟨71, by omega, by omega, rfl, rfl, ⟨u, v, ?_, ?_, ?_⟩, ?_, ?_⟩⟩
          · exact Dk_xu (Dk_xu (Dk_xu (Dk_xu (Dk_xu d (by omega)) (by omega)) (by omega)) (by omega)) (by omega)
          · show stIs (st_set _ 71 (Tx.1 47 0) (Tx.1 47 1)) 71 u v
            rw [eu, ev]
            exact st_set_is
          · rw [rz_uI_n (by omega), rz_uI_s]
            exact eu
          · rw [rz_uI_s]
            exact ev
          · exact hS2.f5
          · exact hS2.st 3
        · obtain ⟨u, v, u1, u2, hv, eu, ev⟩ := lgI_1 c
          have hgo : ∀ S a1 a2 a3 a4, rz_ev mDirectory_goTo [.ref 46, .int a1, .int a2, .int a3, .int a4] S (rz_v (fun S1 => S1 = rz_uI (rz_uI (rz_uI (rz_uI (rz_uI S 46 1 a1) 46 2 a2) 46 3 a3) 46 4 a4) 46 6 0)) := fun S a1 a2 a3 a4 => by
            show rz _ 0 [(0, .ref 46), (1, .int a1), (2, .int a2), (3, .int a3), (4, .int a4)] [] _ _
            exact p_Directory_goTo_0 rfl
          refine rz_toV (hgo _ _ _ _ _) ?_
          show rz mDirectory_find 7 [(0, .ref 46), (1, .int (nI kd)), (2, .ref p), (3, .int (nI (5 * (k - 1) + 4) + 1))] [] (rz_uI (rz_uI (rz_uI (rz_uI (rz_uI (rz_uI (rz_uI Tx 46 6 1) 46 4 (nI 4)) 46 1 (Tx.1 47 0)) 46 2 (Tx.1 47 1)) 46 3 ((rz_uI (rz_uI Tx 46 6 1) 46 4 (nI 4)).2 46 3 + 1)) 46 4 (-1)) 46 6 0) (rz_i K)
          have e5 : nI (5 * (k - 1) + 4) + 1 = nI (5 * k) := by rw [nI_1, show 5 * (k - 1) + 4 + 1 = 5 * k by omega]
          have e3 : (rz_uI (rz_uI Tx 46 6 1) 46 4 (nI 4)).2 46 3 + 1 = nI (k + 1) := by rw [hS2.x3, nI_1]
          have e6 : Tm.2 116 32 + 1 = nI (k + 1) := by rw [hS.m3, nI_1]
          rw [e5, e3, eu, ev]
          rw [eu, ev, e6] at hK2
          exact hOut hk5 u v _ _ (fdS_go hS2 hk5 u1 u2 hv) (by rw [rz_uI_n (by omega), rz_uI_s]) rz_uI_s K hK2
  | succ w ih =>
    intro e Tx Tm he hS hR h4 m30 m31 K hK
    have hk6 := hS.k6
    have hk1 := hS.k1
    have hS2 : fdS B pr Sx Sm t s k (rz_uI (rz_uI Tx 46 6 1) 46 4 (nI e)) Tm := fdS_u (fdS_u hS (Or.inr rfl)) (Or.inl rfl)
    refine p_Directory_find_43 hp ⟨fun _ => ⟨fun c => ?_, fun _ => ?_⟩, fun z => absurd rfl z⟩
    · rw [h4] at c
      have := (nI_leI (a := 4) (by omega) (by omega)).mp c
      omega
    rw [h4]
    have hl : (rz_uI (rz_uI Tx 46 6 1) 46 4 (nI e)).2 p 1 = nI n := (hS2.fx.2 p 1 (by have := hP.p1; omega) (by have := hP.p1; omega) (by have := hP.p1; omega) (by have := hP.p1; omega)).trans hP.len
    refine rz_toI (c_Directory_isWanted hP.kd3 hp hP.n10 hl (by omega) rz_uI_s) ?_
    have hw : wnt kd ((rz_uI (rz_uI Tx 46 6 1) 46 4 (nI e)).1 (p + 1)) n ((rz_uI (rz_uI Tx 46 6 1) 46 4 (nI e)).1 47) e = wnt kd (fun i => Tm.1 b (q + i)) n (Tm.1 124) e := by
      refine wnt_c (by omega) hP.n10 (fun k2 i hi => ?_) (fun i hi => (hR i hi).1)
      show Tx.1 (p + 1) i = Tm.1 b (q + i)
      rw [hS.fx.1 (p + 1) (by have := hP.p1; omega) (by have := hP.p1; omega), hS.fm.1 b hP.b1.1 hP.b1.2]
      exact hP.same k2 i hi
    have hwr : wnt kd (fun i => Tm.1 b (q + i)) n (Tm.1 124) e = wnt kd (fun i => Tm.1 b (q + i)) nr (Tm.1 124) e := by
      by_cases k2 : kd = 2
      · unfold wnt; rw [if_pos k2, if_pos k2]
      · rw [hP.lens k2]
    rw [hw, hwr]
    have hK2 : ∀ x Sx1, rz mM_finds 177 [(0, .ref 116), (1, .int (nI kd)), (2, .ref b), (3, .int (nI q)), (4, .int (nI nr)), (5, .int (nI t)), (6, .int (nI s)), (8, .int (nI e))] [.int (nI (wnt kd (fun i => Tm.1 b (q + i)) nr (Tm.1 124) e).toNat)] Tm (rz_i (fdE B pr Sx Sm x Sx1)) → K x Sx1 := fun x Sx1 h => hK x Sx1 (s_M_finds hP.kd3 hP.bT hP.bN (fun k2 => by rw [hP.lens k2]; exact ⟨hP.n10, hP.qn k2⟩) (by omega) h)
    cases hz : wnt kd (fun i => Tm.1 b (q + i)) nr (Tm.1 124) e with
    | false =>
      rw [hz] at hK2
      refine ⟨fun _ => ?_, fun c => absurd rfl c⟩
      rw [show (nI (5 * (k - 1) + e) + 1 : Int32) = nI (5 * (k - 1) + (e + 1)) from nI_1 _]
      refine p_Directory_find_7 hp ⟨fun c => ?_, fun _ => ⟨fun c => ?_, fun _ => ?_⟩⟩
      · have := (nI_leI (a := 30) (by omega) (by omega)).mp c
        omega
      · exact absurd c (by rw [rz_uI_n (by omega), rz_uI_s]; decide)
      · refine ih (e + 1) _ Tm (by omega) hS2 hR ?_ m30 m31 K (fun x Sx1 h => hK2 x Sx1 (p_M_finds_177 hP.bT ⟨fun _ => ?_, fun c => absurd rfl c⟩))
        · rw [rz_uI_s, nI_1]
        · rw [nI_1]
          exact h
    | true =>
      rw [hz] at hK2
      refine ⟨fun c => absurd c (by decide), fun _ => hK2 0 _ (p_M_finds_177 hP.bT ⟨fun c => absurd c (by decide), fun _ => ?_⟩)⟩
      obtain ⟨id', d⟩ := hS2.dk
      refine ⟨fdX_t hS2.fx fdX_u, fdM_t (fdM_t (fdM_t hS2.fm (fdM_u (by omega))) (fdM_u (by omega))) (fdM_u (by omega)), ⟨id', Dk_mu (Dk_mu (Dk_mu (Dk_xu d (by omega)) (by omega)) (by omega)) (by omega)⟩, Or.inr ⟨fun z => (rz_uI_n (by omega)).trans (hS2.st z), rfl, hR, t, s, k, hS.t1, hS.t2, hS.s1, hk1, hk6, (rz_uI_n (by omega)).trans hS2.x1, (rz_uI_n (by omega)).trans hS2.x2, (rz_uI_n (by omega)).trans hS2.x3, m30, m31, hS.m3, Or.inl ⟨rfl, rz_uI_s, rfl, rfl, e, by omega, rfl, rz_uI_s⟩⟩⟩
theorem fg_out (hP : fgP Sx Sm kd p n nr b nb q) : ∀ (w k t s : Nat) (Tx Tm : rz_S), w + k = 7 → fdS B pr Sx Sm t s k Tx Tm → Tx.2 46 4 = -1 → Tx.2 46 6 = 0 → ∀ K : Int32 → rz_S → Prop, (∀ x Sx1, rz mM_finds 12 [(0, .ref 116), (1, .int (nI kd)), (2, .ref b), (3, .int (nI q)), (4, .int (nI nr)), (5, .int (nI t)), (6, .int (nI s))] [] Tm (rz_i (fdE B pr Sx Sm x Sx1)) → K x Sx1) → rz mDirectory_find 7 [(0, .ref 46), (1, .int (nI kd)), (2, .ref p), (3, .int (nI (5 * (k - 1))))] [] Tx (rz_i K) := by
  have hp := hP.pt
  intro w
  induction w with
  | zero => intro k t s Tx Tm h hS; have := hS.k6; omega
  | succ w ih =>
    intro k t s Tx Tm h hS h4 h6 K hK
    have hk6 := hS.k6
    have hk1 := hS.k1
    have hsb := sct_b hS.t1 hS.t2
    obtain ⟨id', d⟩ := hS.dk
    obtain ⟨x, Ux, y, Um, e1, e2, rfl, xc, id2, ex, x100, D2, f1, f2, o1, n1⟩ := PR_read (a := 47) (a' := 124) (at0 := 0) (na := 64) (s := s) d hS.t1 hS.t2 (by have := hS.s1; omega) rfl (by omega) rfl (by omega) (by omega) (by omega)
    refine p_Directory_find_7 hp ⟨fun c => ?_, fun _ => ⟨fun _ => ?_, fun c => absurd h6 c⟩⟩
    · have := (nI_leI (a := 30) (by omega) (by omega)).mp c
      omega
    rw [hS.x1, hS.x2]
    refine rzx_I e1 ?_
    have hK2 : ∀ z Sx1, ((x = 0 → rz mM_finds 80 [(0, .ref 116), (1, .int (nI kd)), (2, .ref b), (3, .int (nI q)), (4, .int (nI nr)), (5, .int (nI t)), (6, .int (nI s)), (8, .int 0)] [] (rz_uI (rz_uI Um 116 30 (nI t)) 116 31 (nI s)) (rz_i (fdE B pr Sx Sm z Sx1))) ∧ (¬ x = 0 → fdE B pr Sx Sm z Sx1 x Um)) → K z Sx1 := fun z Sx1 hh => hK z Sx1 (p_M_finds_12 hP.bT ⟨fun c => by
        rw [hS.m3] at c
        have := (nI_ltI (a := 6) (by omega) (by omega)).mp c
        omega, fun _ => rz_toI (c_M_legal _ _) ⟨fun c => absurd c (by rw [lgI_y hS.t1 hS.t2 hS.s1]; decide), fun _ => rzx_I e2 hh⟩⟩)
    have gx : fdX Sx Ux := fdX_t hS.fx (fdX_rF f1)
    have gm : fdM Sm Um := fdM_t hS.fm (fdM_kFa f2)
    have f46 : ∀ z, Ux.2 46 z = Tx.2 46 z := fun z => f1.2 46 z (by omega) (by omega) (by omega)
    have m32 : Um.2 116 32 = nI k := (f2.2.2 116 32 (by omega)).trans hS.m3
    by_cases x0 : xc = 0
    · subst x0
      subst ex
      obtain ⟨⟨dd, hd⟩, hst⟩ := o1 rfl
      have hS2 : fdS B pr Sx Sm t s k Ux (rz_uI (rz_uI Um 116 30 (nI t)) 116 31 (nI s)) := ⟨gx, fdM_t (fdM_t gm (fdM_u (by omega))) (fdM_u (by omega)), ⟨id2, Dk_mu (Dk_mu D2 (by omega)) (by omega)⟩, fun z => (hst z).trans (hS.st z), (f46 5).trans hS.f5, (f46 1).trans hS.x1, (f46 2).trans hS.x2, (f46 3).trans hS.x3, m32, hS.t1, hS.t2, hS.s1, hk1, hk6⟩
      have := fg_in hP (t := t) (s := s) (k := k) (B := B) (pr := pr) (fun k5 t' s' Vx Vm hV v4 v6 K' hK' => by
        have q := ih (k + 1) t' s' Vx Vm (by omega) hV v4 v6 K' hK'
        rw [show 5 * (k + 1 - 1) = 5 * k by omega] at q
        exact q) 4 0 Ux _ rfl hS2 (fun i hi => ⟨by
          have := hd i hi
          rw [Nat.zero_add] at this
          exact this.1.trans this.2.1.symm, ⟨dd i, (hd i hi).2.2, (hd i hi).1⟩⟩) (by rw [f46, h4]; rfl) rfl rfl K (fun z Sx1 hh => hK2 z Sx1 ⟨fun _ => hh, fun c => absurd rfl c⟩)
      exact this
    · have xne : ¬ x = 0 := by rw [ex]; exact nI_ne0 (by omega) (by omega)
      obtain ⟨_, _, hfl, h33⟩ := n1 x0
      refine p_Directory_find_43 hp ⟨fun c => absurd c xne, fun _ => hK2 x Ux ⟨fun c => absurd c xne, fun _ => ?_⟩⟩
      exact ⟨gx, gm, ⟨id2, D2⟩, Or.inl ⟨xc, x0, x100, ex, ex, hfl, (f46 5).trans hS.f5, h33.trans (hS.st 3)⟩⟩
/-- the search from the DIRECTORY's start -/
theorem PR_findN (hP : fgP Sx Sm kd p n nr b nb q) {id : Option (Nat × Nat)} (hD : Dk B pr id Sx Sm) (h1 : Sx.2 46 1 = 7) (h2 : Sx.2 46 2 = 1) (h3 : Sx.2 46 3 = 1) (h4 : Sx.2 46 4 = -1) (h6 : Sx.2 46 6 = 0) : PCi mDirectory_find mM_finds [.ref 46, .int (nI kd), .ref p] [.ref 116, .int (nI kd), .ref b, .int (nI q), .int (nI nr)] Sx Sm (fdE B pr Sx Sm) := by
  refine PCi_of (fun K hK => ?_)
  show rz _ 0 [(0, .ref 46), (1, .int (nI kd)), (2, .ref p)] [] _ _
  refine p_Directory_find_0 hP.pt ?_
  refine fg_out hP 6 1 7 1 (rz_uI Sx 46 5 0) (rz_uI Sm 116 32 1) rfl ⟨fdX_u, fdM_u (by omega), ⟨id, Dk_mu (Dk_xu hD (by omega)) (by omega)⟩, fun z => rz_uI_n (by omega), rz_uI_s, (rz_uI_n (by omega)).trans h1, (rz_uI_n (by omega)).trans h2, (rz_uI_n (by omega)).trans h3, rz_uI_s, by omega, by omega, by decide, by omega, by omega⟩ ((rz_uI_n (by omega)).trans h4) ((rz_uI_n (by omega)).trans h6) K (fun x Sx1 hh => hK x Sx1 ?_)
  show rz _ 0 [(0, .ref 116), (1, .int (nI kd)), (2, .ref b), (3, .int (nI q)), (4, .int (nI nr))] [] _ _
  exact p_M_finds_0 hP.bT hh
end FINDN
