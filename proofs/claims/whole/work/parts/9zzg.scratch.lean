/-! commands: SCRATCH, as long as it ends -/
/-- one ENTRY is found and scratched -/
def scS (V V2 : rz_S) : Prop := ∃ V0 V1, rzx mDirectory_rewind [.ref 46] V none V0 ∧ rzx mDirectory_find [.ref 46, .int 0, .ref 109] V0 (some (.int 0)) V1 ∧ V1.2 46 5 = 1 ∧ rzx mDos_scratchFound [.ref 39] V1 (some (.int 0)) V2
/-- no thousand ENTRIES are scratched one behind the other -/
def SCR : Prop := ∀ (B : Nat → Nat → Bool) (pr : Bool) (id : Option (Nat × Nat)) (V W : rz_S) (m : Nat), Dk B pr id V W → m ≤ 10 → V.2 109 1 = nI m → ∀ ch : Nat → rz_S, ch 0 = V → (∀ i, i < 1000 → scS (ch i) (ch (i + 1))) → False
theorem GM_w {c : Nat} {S : rz_S} {f : Nat → Int32} : GM c S (rz_fA S 154 f) := ⟨⟨fun p a => rz_fA_n (by omega), fun p a b e d f => by rw [rz_fA_n (by omega)], fun j a => ⟨by rw [rz_fA_n (by omega)], by rw [rz_fA_n (by omega)]⟩, fun j a => by rw [rz_fA_n (by omega)], fun _ _ => rfl⟩, rz_fA_n (by omega), fun _ _ => rfl⟩
/-- as fd_go, the class's runs by themselves -/
theorem fd_go2 {B : Nat → Nat → Bool} {pr : Bool} {id : Option (Nat × Nat)} {V W : rz_S} {kd p many q b nb : Nat} (hk : kd < 3) (hp : ptP p) (hp2 : 38 < p ∧ p ≠ 46) (hlen : V.2 p 1 = nI many) (hm : many ≤ 10) (hb : rz_T[b]? = some (.inl (0, nb))) (hnb : nb < 2 ^ 20) (hb2 : ¬ (118 ≤ b ∧ b ≤ 121) ∧ b ≠ 124) (hq : q + many ≤ nb) (hrow : ∀ i, i < many → V.1 (p + 1) i = W.1 b (q + i)) (D : Dk B pr id V W) : ∃ V0 x V1 y W1, rzx mDirectory_rewind [.ref 46] V none V0 ∧ rzx mDirectory_find [.ref 46, .int (nI kd), .ref p] V0 (some (.int x)) V1 ∧ rzx mM_finds [.ref 116, .int (nI kd), .ref b, .int (nI q), .int (nI many)] W (some (.int y)) W1 ∧ fdE B pr V W x V1 y W1 := by
  obtain ⟨_, V0, e0, rfl, hV0⟩ := rzx_ev (c_rewind (S := V))
  have u0 : ∀ u z, u ≠ 46 → V0.2 u z = V.2 u z := fun u z hu => by rw [hV0]; simp (disch := omega) only [uI1, fA2, rz_fA_n, rz_uI_n, rz_fA_s, rz_uI_s, pk_us]
  have a0 : V0.1 = V.1 := by rw [hV0]; rfl
  obtain ⟨x, V1, y, W1, e1, e2, fx, fm, hD, alt⟩ := PR_find (Sx := V0) (Sm := W) (kd := kd) (p := p) (n := many) (b := b) (nb := nb) (q := q) ⟨hk, hp, hm, (u0 p 1 hp2.2).trans hlen, hb, hnb, fun _ => hq, fun _ i hi => by rw [a0]; exact hrow i hi, hp2, hb2⟩ (Dk_x D (fun q _ _ => by rw [a0]) (fun u z hu => u0 u z (by omega))) (by rw [hV0]; simp (disch := omega) only [uI1, fA2, rz_fA_n, rz_uI_n, rz_fA_s, rz_uI_s, pk_us]) (by rw [hV0]; simp (disch := omega) only [uI1, fA2, rz_fA_n, rz_uI_n, rz_fA_s, rz_uI_s, pk_us]) (by rw [hV0]; simp (disch := omega) only [uI1, fA2, rz_fA_n, rz_uI_n, rz_fA_s, rz_uI_s, pk_us]) (by rw [hV0]; simp (disch := omega) only [uI1, fA2, rz_fA_n, rz_uI_n, rz_fA_s, rz_uI_s, pk_us]) (by rw [hV0]; simp (disch := omega) only [uI1, fA2, rz_fA_n, rz_uI_n, rz_fA_s, rz_uI_s, pk_us])
  refine ⟨V0, x, V1, y, W1, e0, e1, e2, ⟨fun q a b => by rw [fx.1 q a b, a0], fun u z a b c d => (fx.2 u z a b c d).trans (u0 u z d)⟩, fm, hD, ?_⟩
  rcases alt with ⟨xc, k1, k2, k3, k4, k5, k6, k7⟩ | ⟨k1, k2, k3, k4⟩
  · exact Or.inl ⟨xc, k1, k2, k3, k4, k5, k6, k7.trans (u0 3 3 (by omega))⟩
  · exact Or.inr ⟨fun z => (k1 z).trans (u0 3 z (by omega)), k2, k3, k4⟩
theorem sc_loop (hS : SCR) {B0 : Nat → Nat → Bool} {pr : Bool} {id0 : Option (Nat × Nat)} {T U V0 W0 : rz_S} {m : Nat} (D0 : Dk B0 pr id0 V0 W0) (hm : m ≤ 10) (l0 : V0.2 109 1 = nI m) : ∀ (w i : Nat) (V W : rz_S) (ch : Nat → rz_S), i + w = 1000 → ch 0 = V0 → ch i = V → (∀ j, j < i → scS (ch j) (ch (j + 1))) → GX 99 T V → GM 99 U W → (∃ B id, Dk B pr id V W) → (∀ z, V.2 3 z = T.2 3 z) → V.2 109 1 = nI m → (∀ k, k < m → V.1 110 k = W.1 154 k) → ∃ x V1 W1, GX 99 T V1 ∧ GM 99 U W1 ∧ (∃ B id, Dk B pr id V1 W1) ∧ ans T x V1 W1 ∧ (∀ K : Int32 → rz_S → Prop, K x V1 → rz mCommands_scratch 63 [(0, .ref 108), (1, .int (nI i)), (2, .int 1), (3, .int (nI i))] [] V (rz_i K)) ∧ ∀ Q : Int32 → rz_S → Prop, Q x W1 → rz mM_scratch 52 [(0, .ref 116), (2, .int (nI m)), (3, .int (nI i))] [] W (rz_i Q) := by
  intro w
  induction w with
  | zero =>
    intro i V W ch e c0 ci hch
    have ei : i = 1000 := by omega
    subst ei
    exact absurd (hS B0 pr id0 V0 W0 m D0 hm l0 ch c0 hch) (fun z => z)
  | succ w ih =>
    intro i V W ch e c0 ci hch gx gm hD st len row
    obtain ⟨B, id, D⟩ := hD
    obtain ⟨R0, x, V1, y, W1, e0, e1, r1, fx, fm, ⟨id1, D1⟩, alt⟩ := fd_go2 (kd := 0) (p := 109) (many := m) (q := 0) (b := 154) (nb := 10) (by omega) pt109 (by omega) len hm rfl (by omega) (by omega) (by omega) (fun k hk => by rw [Nat.zero_add]; exact row k hk) D
    have n1000 : ¬ (1000 : Int32) ≤ nI i := fun z => by have := (nI_leI (a := 1000) (b := i) (by omega) (by omega)).mp z; omega
    have gx1 : GX 99 T V1 := GX_t gx (GX_fd fx)
    have gm1 : GM 99 U W1 := GM_t gm (GM_fd fm)
    have left : ∀ K : Int32 → rz_S → Prop, ((x = 0 → ((V1.2 46 5 = 0 → rz mCommands_scratch 124 [(0, .ref 108), (1, .int (nI i)), (2, .int (V1.2 46 5)), (3, .int (nI i)), (4, .int x)] [] V1 (rz_i K)) ∧ (¬ V1.2 46 5 = 0 → rz_ev mDos_scratchFound [.ref 39] V1 (rz_i (fun xq7 Sq7 => rz mCommands_scratch 124 [(0, .ref 108), (1, .int (nI (i + 1))), (2, .int (V1.2 46 5)), (3, .int (nI i)), (4, .int xq7)] [] Sq7 (rz_i K)))))) ∧ (¬ x = 0 → rz mCommands_scratch 124 [(0, .ref 108), (1, .int (nI i)), (2, .int (V1.2 46 5)), (3, .int (nI i)), (4, .int x)] [] V1 (rz_i K))) → rz mCommands_scratch 63 [(0, .ref 108), (1, .int (nI i)), (2, .int 1), (3, .int (nI i))] [] V (rz_i K) := fun K h => p_Commands_scratch_63 ⟨fun z => absurd z n1000, fun _ => ⟨fun z => absurd z (by decide), fun _ => rzx_V e0 (rzx_I e1 (by rw [nI_1]; exact h))⟩⟩
    have right : ∀ Q : Int32 → rz_S → Prop, ((y = (-1) → rz_ev mM_fault [.ref 116, .int 1, .int (nI i), .int 0] W1 (rz_i (fun xq5 Sq5 => Q xq5 Sq5))) ∧ (¬ y = (-1) → ((y = 0 → rz_ev mM_scratches [.ref 116] W1 (rz_i (fun xq4 Sq4 => rz mM_scratch 90 [(0, .ref 116), (2, .int (nI m)), (3, .int (nI i)), (4, .int xq4)] [] Sq4 (rz_i Q)))) ∧ (¬ y = 0 → rz mM_scratch 90 [(0, .ref 116), (2, .int (nI m)), (3, .int (nI i)), (4, .int y)] [] W1 (rz_i Q))))) → rz mM_scratch 52 [(0, .ref 116), (2, .int (nI m)), (3, .int (nI i))] [] W (rz_i Q) := fun Q h => p_M_scratch_52 (rzx_I r1 h)
    rcases alt with ⟨xc, xz, x100, rfl, rfl, hfl, f5, h33⟩ | ⟨st1, rfl, hDr, t, s, k, t1, t2, s1, k1, k6, p1, p2, p3, p30, p31, p32, alt⟩
    · have xne : ¬ nI xc = 0 := nI_ne0 (by omega) (by omega)
      exact ⟨nI xc, V1, W1, gx1, gm1, ⟨B, id1, D1⟩, Or.inr ⟨xc, xz, x100, rfl, hfl, h33.trans (st 3)⟩, fun K h => left K ⟨fun z => absurd z xne, fun _ => p_Commands_scratch_124 ⟨fun z => absurd z xne, fun _ => h⟩⟩, fun Q h => right Q ⟨fun z => absurd z (nI_m1 (by omega)), fun _ => ⟨fun z => absurd z xne, fun _ => p_M_scratch_90 ⟨fun z => absurd z xne, fun _ => h⟩⟩⟩⟩
    · have sT1 : ∀ z, V1.2 3 z = T.2 3 z := fun z => (st1 z).trans (st z)
      rcases alt with ⟨rfl, f5, p27, p28, en, he, p4, p29⟩ | ⟨rfl, f5, _⟩
      · -- an ENTRY is found
        obtain ⟨z, V2, z', W2, g1, g2, rfl, bx, bm, ⟨B2, id2, D2⟩, an⟩ := PR_scratchFound D1 hDr t1 t2 s1 he p1 p2 p4 p27 p28 p29
        have gx2 : GX 99 T V2 := GX_t gx1 (GX_b bx)
        have gm2 : GM 99 U W2 := GM_t gm1 (GM_b bm)
        have left2 : ∀ K : Int32 → rz_S → Prop, rz mCommands_scratch 124 [(0, .ref 108), (1, .int (nI (i + 1))), (2, .int 1), (3, .int (nI i)), (4, .int z)] [] V2 (rz_i K) → rz mCommands_scratch 63 [(0, .ref 108), (1, .int (nI i)), (2, .int 1), (3, .int (nI i))] [] V (rz_i K) := fun K h => left K ⟨fun _ => ⟨fun q => (by rw [f5] at q; exact absurd q (by decide)), fun _ => rzx_I g1 (by rw [f5]; exact h)⟩, fun q => absurd rfl q⟩
        have right2 : ∀ Q : Int32 → rz_S → Prop, rz mM_scratch 90 [(0, .ref 116), (2, .int (nI m)), (3, .int (nI i)), (4, .int z)] [] W2 (rz_i Q) → rz mM_scratch 52 [(0, .ref 116), (2, .int (nI m)), (3, .int (nI i))] [] W (rz_i Q) := fun Q h => right Q ⟨fun q => absurd q (by decide), fun _ => ⟨fun _ => rzx_I g2 h, fun q => absurd rfl q⟩⟩
        by_cases z0 : z = 0
        · subst z0
          have hstep : scS V V2 := ⟨R0, V1, e0, e1, f5, g1⟩
          obtain ⟨x', V3, W3, q1, q2, q3, q4, l, r⟩ := ih (i + 1) V2 W2 (fun j => if j ≤ i then ch j else V2) (by omega) (by rw [if_pos (by omega)]; exact c0) (by rw [if_neg (by omega)]) (fun j hj => by
            by_cases e : j = i
            · subst e
              rw [if_pos (by omega), if_neg (by omega), ci]
              exact hstep
            · rw [if_pos (by omega), if_pos (by omega)]
              exact hch j (by omega)) gx2 gm2 ⟨B2, id2, D2⟩ (fun q => (ans_z an rfl q).trans (sT1 q)) ((bx.2 109 1 (by omega) (by omega) (by omega) (by omega) (by omega)).trans ((fx.2 109 1 (by omega) (by omega) (by omega) (by omega)).trans len)) (fun k hk => by
              rw [bx.1 110 (by omega) (by omega) (by omega) (by omega), bm.1 154 (by omega) (by omega), fx.1 110 (by omega) (by omega), fm.1 154 (by omega) (by omega)]
              exact row k hk)
          exact ⟨x', V3, W3, q1, q2, q3, q4, fun K h => left2 K (p_Commands_scratch_124 ⟨fun _ => by rw [nI_1]; exact l K h, fun q => absurd rfl q⟩), fun Q h => right2 Q (p_M_scratch_90 ⟨fun _ => by rw [nI_1]; exact r Q h, fun q => absurd rfl q⟩)⟩
        · exact ⟨z, V2, W2, gx2, gm2, ⟨B2, id2, D2⟩, ans_t sT1 an, fun K h => left2 K (p_Commands_scratch_124 ⟨fun q => absurd q z0, fun _ => h⟩), fun Q h => right2 Q (p_M_scratch_90 ⟨fun q => absurd q z0, fun _ => h⟩)⟩
      · -- none
        refine ⟨nI 1, st_set V1 (nI 1) (nI i) (nI 0), rz_uI (rz_uI W1 116 4 (nI i)) 116 5 (nI 0), GX_t gx1 GX_s, GM_t gm1 (GM_t (GM_u (by omega)) (GM_u (by omega))), ⟨B, id1, Dk_mu (Dk_mu (st_set_dk D1) (by omega)) (by omega)⟩, ans_fl 1 i 0 (by omega) (by omega) (sT1 3), fun K h => left K ⟨fun _ => ⟨fun _ => p_Commands_scratch_124 ⟨fun _ => ?_, fun q => absurd rfl q⟩, fun q => absurd f5 q⟩, fun q => absurd rfl q⟩, fun Q h => right Q ⟨fun _ => rz_toI (c_M_fault _ _ _) h, fun q => absurd rfl q⟩⟩
        have h138 : rz mCommands_scratch 138 [(0, .ref 108), (1, .int (nI i))] [] V1 (rz_i K) := p_Commands_scratch_138 (rz_toI (c_Status_set _ _ _) h)
        rw [f5]
        exact p_Commands_scratch_63 ⟨fun _ => h138, fun _ => ⟨fun _ => h138, fun q => absurd rfl q⟩⟩
theorem m25 {S : rz_S} {m : Nat} {K : Int32 → rz_S → Prop} (hm : m ≤ 10) (h : rz mM_scratch 52 [(0, .ref 116), (2, .int (nI m)), (3, .int 0)] [] (rz_fA S 154 (fun k => if k < m then S.1 151 (2 + k) else S.1 154 k)) (rz_i K)) : ∀ (w i : Nat) (f : Nat → Int32), w + i = m → (∀ k, f k = if k < i then S.1 151 (2 + k) else S.1 154 k) → rz mM_scratch 25 [(0, .ref 116), (2, .int (nI m)), (3, .int (nI i))] [] (rz_fA S 154 f) (rz_i K) := by
  intro w
  induction w with
  | zero =>
    intro i f e hf
    have ei : i = m := by omega
    subst ei
    refine p_M_scratch_25 ⟨fun _ => ?_, fun z => absurd (nI_le (by omega) (by omega)) z⟩
    rw [show f = (fun k => if k < i then S.1 151 (2 + k) else S.1 154 k) from funext hf]
    exact h
  | succ w ih =>
    intro i f e hf
    have e2 : (2 : Int32) + nI i = nI (2 + i) := nI_add 2 i
    refine p_M_scratch_25 ⟨fun z => ?_, fun _ => ?_⟩
    · have := (nI_leI (a := m) (b := i) (by omega) (by omega)).mp z
      omega
    · rw [e2, nI_clamp (by omega), nI_clamp (by omega), nI_1, rz_fA_s, rz_fAA, rz_fA_n (by omega)]
      refine ⟨rin (by omega) (by omega), rin (by omega) (by omega), ih (i + 1) _ (by omega) (fun k => ?_)⟩
      by_cases z : k = i
      · subst z; rw [pk_us, if_pos (by omega)]
      · rw [pk_un z, hf k]
        by_cases q : k < i
        · rw [if_pos q, if_pos (by omega)]
        · rw [if_neg q, if_neg (by omega)]
theorem m25x {S : rz_S} {m : Nat} (hm : m ≤ 10) : ∃ f : Nat → Int32, (∀ k, k < m → f k = S.1 151 (2 + k)) ∧ ∀ K : Int32 → rz_S → Prop, rz mM_scratch 52 [(0, .ref 116), (2, .int (nI m)), (3, .int 0)] [] (rz_fA S 154 f) (rz_i K) → rz mM_scratch 25 [(0, .ref 116), (2, .int (nI m)), (3, .int 0)] [] S (rz_i K) := ⟨fun k => if k < m then S.1 151 (2 + k) else S.1 154 k, fun k hk => if_pos hk, fun K h => by
  have := m25 hm h m 0 (S.1 154) rfl (fun k => by rw [if_neg (by omega)])
  rw [rz_fA_self] at this
  exact this⟩
section CM8
variable {M n : Nat} {B : Nat → Nat → Bool} {pr : Bool} {id : Option (Nat × Nat)} {T U : rz_S}
theorem sc_pair (hS : SCR) (hC : cmC M n B pr id T U) (hn2 : 2 ≤ n) (hn40 : n ≤ 40) (hc : T.1 2 1 = 58) : CM M pr T U mCommands_scratch mM_scratch [.ref 108] [.ref 116, .int (nI n)] := by
  obtain ⟨hn, hl, htx, _⟩ := hC.1
  have hD := hC.2.1
  have e2 : (nI n - 2 : Int32) = nI (n - 2) := pk_sub (b := 2) (by omega)
  have left : ∀ K : Int32 → rz_S → Prop, rz_ev mPattern_take [.ref 109, .ref 1, .int (nI 2), .int (nI n)] T (rz_i (fun xq3 Sq3 => ((xq3 = 0 → rz mCommands_scratch 45 [(0, .ref 108)] [] Sq3 (rz_i K)) ∧ (¬ xq3 = 0 → rz_ev mPattern_isEmpty [.ref 109] Sq3 (rz_i (fun xq5 Sq5 => ((xq5 = 0 → rz mCommands_scratch 63 [(0, .ref 108), (1, .int 0), (2, .int 1), (3, .int 0)] [] Sq5 (rz_i K)) ∧ (¬ xq5 = 0 → rz mCommands_scratch 45 [(0, .ref 108)] [] Sq5 (rz_i K))))))))) → rz_ev mCommands_scratch [.ref 108] T (rz_i K) := fun K h => by
    show rz _ 0 [(0, .ref 108)] [] _ _
    refine p_Commands_scratch_0 (rz_toI (c_byteAt (i := 1) hn hl (by omega)) ?_)
    rw [if_pos (by omega), hc, hl]
    exact ⟨fun _ => h, fun z => absurd rfl z⟩
  have right : ∀ K : Int32 → rz_S → Prop, ((n - 2 = 0 ∨ 10 < n - 2) → rz mM_scratch 14 [(0, .ref 116)] [] U (rz_i K)) → (¬ (n - 2 = 0 ∨ 10 < n - 2) → rz mM_scratch 25 [(0, .ref 116), (2, .int (nI (n - 2))), (3, .int 0)] [] U (rz_i K)) → rz_ev mM_scratch [.ref 116, .int (nI n)] U (rz_i K) := fun K h g => by
    show rz _ 0 [(0, .ref 116), (1, .int (nI n))] [] _ _
    refine p_M_scratch_0 ?_
    rw [e2]
    refine ⟨fun z => h (Or.inl ((nI_eq (b := 0) (by omega) (by omega)).mp z)), fun z => ⟨fun z2 => g (fun y => ?_), fun z2 => h (Or.inr ?_)⟩⟩
    · have a := (nI_leI (b := 10) (by omega) (by omega)).mp z2
      rcases y with y | y
      · exact z (by rw [y]; rfl)
      · omega
    · have : ¬ n - 2 ≤ 10 := fun y => z2 (nI_le (b := 10) y (by omega))
      omega
  have no30 : ∀ V : rz_S, GX 99 T V → Dk B pr id V U → V.2 3 3 = T.2 3 3 → (∀ K : Int32 → rz_S → Prop, rz mCommands_scratch 45 [(0, .ref 108)] [] V (rz_i K) → rz_ev mCommands_scratch [.ref 108] T (rz_i K)) → (n - 2 = 0 ∨ 10 < n - 2) → CM M pr T U mCommands_scratch mM_scratch [.ref 108] [.ref 116, .int (nI n)] := fun V gx d h3 l hb => ⟨nI 30, _, _, cm_fg hC 30 0 0 (by omega) (by omega) gx (GM_r 99 U) ⟨B, id, d⟩ h3, rzx_of (fun K h => l K (p_Commands_scratch_45 (rz_toI (c_Status_set _ _ _) h))), rzx_of (fun K h => right K (fun _ => p_M_scratch_14 (rz_toI (c_M_fault _ _ _) h)) (fun z => absurd hb z))⟩
  obtain ⟨_, V1, e1, x1, rfl, h1⟩ := rzx_ev (c_take (S := T) (p := 109) (n := n) (f := 2) (t := n) pt109 (by omega) hn hl (by omega) (by omega))
  rcases h1 with ⟨rfl, rfl, hlt⟩ | ⟨rfl, hle, g1, hV1, hg1⟩
  · exact no30 V1 (GX_r 99 V1) hD rfl (fun K h => left K (rzx_I e1 ⟨fun _ => h, fun z => absurd rfl z⟩)) (by omega)
  · have gV1 : GX 99 T V1 := by rw [hV1]; exact GX_t (GX_p (by omega)) (GX_pf (by omega))
    have uV1 : ∀ u z, u ≠ 109 → V1.2 u z = T.2 u z := fun u z hu => by rw [hV1]; simp (disch := omega) only [uI1, fA2, rz_fA_n, rz_uI_n, rz_fA_s, rz_uI_s, pk_us]
    have aV1 : ∀ p, p ≠ 110 → V1.1 p = T.1 p := fun p hp => by rw [hV1]; simp (disch := omega) only [uI1, fA2, rz_fA_n, rz_uI_n, rz_fA_s, rz_uI_s, pk_us]
    have DV1 : Dk B pr id V1 U := Dk_x hD (fun q a b => aV1 q (by omega)) (fun u z hu => uV1 u z (by omega))
    have l109 : V1.2 109 1 = nI (n - 2) := by rw [hV1]; simp (disch := omega) only [uI1, fA2, rz_fA_n, rz_uI_n, rz_fA_s, rz_uI_s, pk_us]
    have r110 : ∀ k, k < n - 2 → V1.1 110 k = U.1 151 (2 + k) := fun k hk => by
      have : V1.1 110 k = T.1 2 (2 + k) := by
        rw [hV1]; simp (disch := omega) only [uI1, fA2, rz_fA_n, rz_uI_n, rz_fA_s, rz_uI_s, pk_us]
        rw [hg1 k hk, if_pos (by omega)]
      rw [this]
      exact (htx _ (by omega)).1
    have s1 : ∀ z, V1.2 3 z = T.2 3 z := fun z => uV1 3 z (by omega)
    by_cases hem : n - 2 = 0
    · refine no30 V1 gV1 DV1 (s1 3) (fun K h => left K (rzx_I e1 ⟨fun z => absurd z (by decide), fun _ => ?_⟩)) (Or.inl hem)
      show rz _ 0 [(0, .ref 109)] [] _ _
      refine p_Pattern_isEmpty_0 pt109 ⟨fun _ => ⟨fun z => absurd z (by decide), fun _ => h⟩, fun z => absurd ?_ z⟩
      rw [l109, hem]; rfl
    · have qne : ¬ nI (n - 2) = 0 := nI_ne0 (by omega) (by omega)
      have left2 : ∀ K : Int32 → rz_S → Prop, rz mCommands_scratch 63 [(0, .ref 108), (1, .int 0), (2, .int 1), (3, .int 0)] [] V1 (rz_i K) → rz_ev mCommands_scratch [.ref 108] T (rz_i K) := fun K h => left K (rzx_I e1 ⟨fun z => absurd z (by decide), fun _ => by
        show rz _ 0 [(0, .ref 109)] [] _ _
        refine p_Pattern_isEmpty_0 pt109 ?_
        rw [l109]
        exact ⟨fun z => absurd z qne, fun _ => ⟨fun _ => h, fun z => absurd rfl z⟩⟩⟩)
      obtain ⟨f, hf, rt⟩ : ∃ f : Nat → Int32, (∀ k, k < n - 2 → f k = U.1 151 (2 + k)) ∧ ∀ K : Int32 → rz_S → Prop, rz mM_scratch 52 [(0, .ref 116), (2, .int (nI (n - 2))), (3, .int 0)] [] (rz_fA U 154 f) (rz_i K) → rz mM_scratch 25 [(0, .ref 116), (2, .int (nI (n - 2))), (3, .int 0)] [] U (rz_i K) := m25x (by omega)
      obtain ⟨x, V2, W2, gx2, gm2, hD2, an, l, r⟩ := sc_loop hS (pr := pr) (T := T) (U := U) (V0 := V1) (W0 := rz_fA U 154 f) (m := n - 2) (Dk_mf DV1 (by omega)) (by omega) l109 1000 0 V1 (rz_fA U 154 f) (fun _ => V1) rfl rfl rfl (fun j hj => by omega) gV1 GM_w ⟨B, id, Dk_mf DV1 (by omega)⟩ s1 l109 (fun k hk => by rw [rz_fA_s, hf k hk]; exact r110 k hk)
      exact ⟨x, V2, W2, cm_g (c := 99) hC gx2 gm2 hD2 an (fun z => absurd z (by decide)), rzx_of (fun K h => left2 K (l K h)), rzx_of (fun K h => right K (fun z => absurd z (by omega)) (fun _ => rt K (r K h)))⟩
end CM8
