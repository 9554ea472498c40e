/-! a chain of blocks is given back; an ENTRY's TYPE is changed -/
def chX (S S1 : rz_S) : Prop := (∀ q, ¬ (8 ≤ q ∧ q ≤ 12) → q ≠ 40 → q ≠ 45 → S1.1 q = S.1 q) ∧ ∀ u z, ¬ (13 ≤ u ∧ u ≤ 35 ∧ 3 ≤ z ∧ z ≤ 7) → ¬ (u = 6 ∧ (z = 1 ∨ z = 2)) → ¬ (u = 3 ∧ z ≤ 6) → S1.2 u z = S.2 u z
def chM (S S1 : rz_S) : Prop := (∀ q, ¬ (118 ≤ q ∧ q ≤ 121) → q ≠ 125 → q ≠ 123 → S1.1 q = S.1 q) ∧ ∀ u z, ¬ (u = 116 ∧ (2 ≤ z ∧ z ≤ 15 ∨ z = 20)) → S1.2 u z = S.2 u z
theorem chX_t {S S1 S2 : rz_S} (h1 : chX S S1) (h2 : chX S1 S2) : chX S S2 := ⟨fun q a b c => (h2.1 q a b c).trans (h1.1 q a b c), fun u z a b c => (h2.2 u z a b c).trans (h1.2 u z a b c)⟩
theorem chM_t {S S1 S2 : rz_S} (h1 : chM S S1) (h2 : chM S1 S2) : chM S S2 := ⟨fun q a b c => (h2.1 q a b c).trans (h1.1 q a b c), fun u z a => (h2.2 u z a).trans (h1.2 u z a)⟩
theorem chX_r (S : rz_S) : chX S S := ⟨fun _ _ _ _ => rfl, fun _ _ _ _ _ => rfl⟩
theorem chM_r (S : rz_S) : chM S S := ⟨fun _ _ _ _ => rfl, fun _ _ _ => rfl⟩
theorem chX_f {S : rz_S} {f : Nat → Int32} : chX S (rz_fA S 45 f) := ⟨fun q _ _ h => rz_fA_n h, fun _ _ _ _ _ => rfl⟩
theorem chM_f {S : rz_S} {f : Nat → Int32} : chM S (rz_fA S 123 f) := ⟨fun q _ _ h => rz_fA_n h, fun _ _ _ => rfl⟩
theorem chX_rF {S S1 : rz_S} {a : Nat} (ha : a = 40 ∨ a = 45) (h : rF a S S1) : chX S S1 := ⟨fun q a1 b c => h.1 q a1 (by omega), h.2⟩
theorem chM_kFa {S S1 : rz_S} {a : Nat} (ha : a = 125 ∨ a = 123) (h : kFa a 0 S S1) : chM S S1 := ⟨fun q a1 b c => h.1 q a1 (by omega), h.2.2⟩
theorem chM_u {S : rz_S} {j : Nat} {x : Int32} (hj : j = 4 ∨ j = 5) : chM S (rz_uI S 116 j x) := ⟨fun _ _ _ _ => rfl, fun u z h => rz_uI_n fun e => h ⟨e.1, by omega⟩⟩
/-- how a job's answer stands on both sides: nothing told, or a fault -/
def ans (Sx : rz_S) (x : Int32) (Sx1 Sm1 : rz_S) : Prop := (x = 0 ∧ ∀ z, Sx1.2 3 z = Sx.2 3 z) ∨ ∃ xc : Nat, xc ≠ 0 ∧ (xc < 100 ∧ (xc = 0 ∨ xc = 1 ∨ 20 ≤ xc ∧ xc ≤ 26 ∨ xc = 28 ∨ 30 ≤ xc ∧ xc ≤ 34 ∨ 60 ≤ xc ∧ xc ≤ 66 ∨ 70 ≤ xc ∧ xc ≤ 74)) ∧ x = nI xc ∧ flt xc Sx1 Sm1 ∧ Sx1.2 3 3 = Sx.2 3 3
def chE (B : Nat → Nat → Bool) (pr : Bool) (Sx Sm : rz_S) (x : Int32) (Sx1 Sm1 : rz_S) : Prop := chX Sx Sx1 ∧ chM Sm Sm1 ∧ (∃ id', Dk B pr id' Sx1 Sm1) ∧ Mp Sx1 Sm1 ∧ ans Sx x Sx1 Sm1
theorem c_give71 {S : rz_S} {u v : Int32} (hu : byt u) (hv : byt v) : ∃ a b : Nat, u = nI a ∧ v = nI b := by
  obtain ⟨a, _, ha⟩ := hu
  obtain ⟨b, _, hb⟩ := hv
  exact ⟨a, b, ha, hb⟩
theorem st_set_dk {B : Nat → Nat → Bool} {pr : Bool} {id : Option (Nat × Nat)} {Sx Sm : rz_S} {a b c : Int32} (h : Dk B pr id Sx Sm) : Dk B pr id (st_set Sx a b c) Sm := Dk_xu (Dk_xu (Dk_xu (Dk_xu (Dk_xu h (by omega)) (by omega)) (by omega)) (by omega)) (by omega)
theorem ch_loop {B : Nat → Nat → Bool} {pr : Bool} {Sx Sm : rz_S} : ∀ (w i : Nat) (t s : Int32) (Tx Tm : rz_S), w + i = 72 → byt t → byt s → chX Sx Tx → chM Sm Tm → (∃ id', Dk B pr id' Tx Tm) → Mp Tx Tm → (∀ z, Tx.2 3 z = Sx.2 3 z) → ∀ K : Int32 → rz_S → Prop, (∀ x Sx1 Sm1 c4 c5 c6, chE B pr Sx Sm x Sx1 Sm1 → (∀ R : Int32 → rz_S → Prop, rz mM_freesChain 23 [(0, .ref 116), (3, .int x), (4, .int c4), (5, .int c5), (6, .int c6), (7, .int 0)] [] Sm1 (rz_i R) → rz mM_freesChain 23 [(0, .ref 116), (3, .int 0), (4, .int t), (5, .int s), (6, .int (nI i)), (7, .int 1)] [] Tm (rz_i R)) → K x Sx1) → rz mDos_giveBackChain 8 [(0, .ref 39), (3, .int t), (4, .int s), (5, .int (nI i))] [] Tx (rz_i K) := by
  intro w
  induction w with
  | zero =>
    intro i t s Tx Tm hw ht hs fx fm hD hM hst K hK
    have e72 : i = 72 := by omega
    subst e72
    obtain ⟨a, b, ea, eb⟩ := c_give71 (S := Tx) ht hs
    obtain ⟨id', d⟩ := hD
    refine p_Dos_giveBackChain_8 ⟨fun _ => rz_toI (c_Status_set _ _ _) (hK _ _ (rz_uI (rz_uI Tm 116 4 t) 116 5 s) t s (nI 72) ?_ (fun R h => ?_)), fun c => absurd (by decide) c⟩
    · refine ⟨chX_t fx (chX_rF (Or.inl rfl) rF_s), chM_t (chM_t fm (chM_u (by omega))) (chM_u (by omega)), ⟨id', Dk_mu (Dk_mu (st_set_dk d) (by omega)) (by omega)⟩, hM, Or.inr ⟨71, by omega, by omega, rfl, ⟨a, b, ?_, ?_, ?_⟩, hst 3⟩⟩
      · rw [ea, eb]; exact st_set_is
      · rw [rz_uI_n (by omega), rz_uI_s]; exact ea
      · rw [rz_uI_s]; exact eb
    · have h45 := p_M_freesChain_45 (a4 := t) (a5 := s) (a6 := nI 72) (rz_toI (S := Tm) (c_M_fault 71 t s) h)
      exact p_M_freesChain_23 ⟨fun c => absurd c (by decide), fun _ => rz_toI (c_M_legal _ _) ⟨fun _ => h45, fun _ => ⟨fun _ => h45, fun c => absurd (by decide) c⟩⟩⟩
  | succ w ih =>
    intro i t s Tx Tm hw ht hs fx fm hD hM hst K hK
    obtain ⟨id', d⟩ := hD
    refine p_Dos_giveBackChain_8 ⟨fun c => ?_, fun _ => rz_toI (c_Disk_legal _ _) ⟨fun c => ?_, fun c => ?_⟩⟩
    · have := (nI_leI (a := 72) (by omega) (by omega)).mp c
      omega
    · obtain ⟨a, b, ea, eb⟩ := c_give71 (S := Tx) ht hs
      refine rz_toI (c_Status_set _ _ _) (hK _ _ (rz_uI (rz_uI Tm 116 4 t) 116 5 s) t s (nI i) ?_ (fun R h => ?_))
      · refine ⟨chX_t fx (chX_rF (Or.inl rfl) rF_s), chM_t (chM_t fm (chM_u (by omega))) (chM_u (by omega)), ⟨id', Dk_mu (Dk_mu (st_set_dk d) (by omega)) (by omega)⟩, hM, Or.inr ⟨71, by omega, by omega, rfl, ⟨a, b, ?_, ?_, ?_⟩, hst 3⟩⟩
        · rw [ea, eb]; exact st_set_is
        · rw [rz_uI_n (by omega), rz_uI_s]; exact ea
        · rw [rz_uI_s]; exact eb
      · exact p_M_freesChain_23 ⟨fun c => absurd c (by decide), fun _ => rz_toI (c_M_legal _ _) ⟨fun _ => p_M_freesChain_45 (rz_toI (c_M_fault 71 t s) h), fun z => absurd c z⟩⟩
    · obtain ⟨u, v, u1, u2, hv, rfl, rfl⟩ := lgI_1 c
      have hsb := sct_b u1 u2
      have i72 : ¬ nI i = 72 := fun z => by have := (nI_eq (b := 72) (by omega) (by omega)).mp z; omega
      obtain ⟨Ux, Um, g1, g2, f, g, rfl, rfl, hM2⟩ := PR_giveBack hM (nI u) (nI v)
      have d2 : Dk B pr id' (rz_fA Tx 45 f) (rz_fA Tm 123 g) := Dk_m (Dk_x d (fun q a b => rz_fA_n (by omega)) (fun _ _ _ => rfl)) (fun q a b => rz_fA_n (by omega)) (fun _ _ => rfl)
      obtain ⟨x, Vx, y, Vm, e1, e2, rfl, xc, id2, ex, x100, D2, f1, f2, o1, n1⟩ := PR_read (a := 40) (a' := 125) (at0 := 0) (na := 64) (s := v) d2 u1 u2 (by omega) rfl (by omega) rfl (by omega) (by omega) (by omega)
      have gx : chX Sx Vx := chX_t fx (chX_t chX_f (chX_rF (Or.inl rfl) f1))
      have gm : chM Sm Vm := chM_t fm (chM_t chM_f (chM_kFa (Or.inl rfl) f2))
      have hM3 : Mp Vx Vm := fun k hk => by
        rw [f1.1 45 (by omega) (by omega), f2.1 123 (by omega) (by omega)]
        exact hM2 k hk
      refine rzx_V g1 (rzx_I e1 ⟨fun x0 => ?_, fun x0 => ?_⟩)
      · have xc0 : xc = 0 := by
          by_cases z : xc = 0
          · exact z
          · exact absurd (ex ▸ x0) (nI_ne0 (by omega) (by omega))
        obtain ⟨⟨dd, hd⟩, hst2⟩ := o1 xc0
        have r0 := hd 0 (by omega)
        have r1 := hd 1 (by omega)
        have q0 : Vx.1 40 0 = Vm.1 125 0 := r0.1.trans r0.2.1.symm
        have q1 : Vx.1 40 1 = Vm.1 125 1 := r1.1.trans r1.2.1.symm
        have st2 : ∀ z, Vx.2 3 z = Sx.2 3 z := fun z => (hst2 z).trans (hst z)
        refine ⟨fun z0 => hK x Vx Vm (nI u) (nI v) (nI i + 1) ⟨gx, gm, ⟨id2, D2⟩, hM3, Or.inl ⟨x0, st2⟩⟩ (fun R h => ?_), fun z0 => ?_⟩
        · refine p_M_freesChain_23 ⟨fun c => absurd c (by decide), fun _ => rz_toI (c_M_legal _ _) ⟨fun z => absurd z c, fun _ => ⟨fun z => absurd z i72, fun _ => rzx_V g2 (rzx_I e2 ⟨fun _ => ⟨fun _ => p_M_freesChain_107 (p_M_freesChain_108 ⟨fun _ => p_M_freesChain_126 ⟨fun _ => h, fun z => absurd rfl z⟩, fun z => absurd rfl z⟩), fun z => absurd (q0 ▸ z0) z⟩, fun z => absurd x0 z⟩)⟩⟩⟩
        · rw [nI_1]
          refine ih (i + 1) _ _ Vx Vm (by omega) ⟨dd 0, r0.2.2, r0.1⟩ ⟨dd 1, r1.2.2, r1.1⟩ gx gm ⟨id2, D2⟩ hM3 st2 K (fun x' Sx1 Sm1 c4 c5 c6 hE hR => hK x' Sx1 Sm1 c4 c5 c6 hE (fun R h => ?_))
          have h2 := hR R h
          refine p_M_freesChain_23 ⟨fun c => absurd c (by decide), fun _ => rz_toI (c_M_legal _ _) ⟨fun z => absurd z c, fun _ => ⟨fun z => absurd z i72, fun _ => rzx_V g2 (rzx_I e2 ⟨fun _ => ⟨fun z => absurd (q0.trans z) z0, fun _ => p_M_freesChain_108 ⟨fun z => absurd z (by decide), fun _ => p_M_freesChain_126 ⟨fun z => absurd z (by decide), fun _ => ?_⟩⟩⟩, fun z => absurd x0 z⟩)⟩⟩⟩
          rw [x0, nI_1, ← q0, ← q1]
          exact h2
      · have xc0 : xc ≠ 0 := fun z => x0 (by rw [ex, z]; rfl)
        obtain ⟨_, _, hfl, h33⟩ := n1 xc0
        refine hK x Vx Vm (nI u) (nI v) (nI i + 1) ⟨gx, gm, ⟨id2, D2⟩, hM3, Or.inr ⟨xc, xc0, x100, ex, hfl, h33.trans (hst 3)⟩⟩ (fun R h => ?_)
        exact p_M_freesChain_23 ⟨fun c => absurd c (by decide), fun _ => rz_toI (c_M_legal _ _) ⟨fun z => absurd z c, fun _ => ⟨fun z => absurd z i72, fun _ => rzx_V g2 (rzx_I e2 ⟨fun z => absurd z x0, fun _ => p_M_freesChain_107 (p_M_freesChain_108 ⟨fun _ => p_M_freesChain_126 ⟨fun _ => h, fun z => absurd rfl z⟩, fun z => absurd rfl z⟩)⟩)⟩⟩⟩
