/-! commands: VALIDATE -/
theorem pt113 : ptP 113 := ⟨rfl, rfl⟩
/-- a block is marked, if it is free, both sides -/
theorem tb_pair {B : Nat → Nat → Bool} {pr : Bool} {id : Option (Nat × Nat)} {V W : rz_S} {u v : Nat} (hM : Mp V W) (D : Dk B pr id V W) (u1 : 1 ≤ u) (u2 : u ≤ 12) (hv : v < sct u) : ∃ V1 W1, (∀ K : rz_S → Prop, K V1 → rz_ev mBlockMap_takeBlock [.ref 44, .int (nI u), .int (nI v)] V (rz_v K)) ∧ (∀ K : rz_S → Prop, K W1 → rz_ev mM_isFree [.ref 116, .int (nI u), .int (nI v)] W (rz_i (fun a S => ((a = 0 → K S) ∧ (¬ a = 0 → rz_ev mM_takes [.ref 116, .int (nI u), .int (nI v)] S (rz_v K)))))) ∧ chX V V1 ∧ bgM W W1 ∧ W1.1 124 = W.1 124 ∧ Dk B pr id V1 W1 ∧ Mp V1 W1 ∧ (∀ z, V1.2 3 z = V.2 3 z) ∧ (fr (V.1 45) u v = true → V1.1 45 = tkR (V.1 45) u v ∧ ∀ K : rz_S → Prop, K W1 → rz_ev mM_takes [.ref 116, .int (nI u), .int (nI v)] W (rz_v K)) := by
  have sb := sct_b u1 u2
  have ef : fr (W.1 123) u v = fr (V.1 45) u v := (fr_c u2 hM).symm
  cases hf : fr (V.1 45) u v with
  | true =>
    refine ⟨rz_fA V 45 (tkR (V.1 45) u v), rz_uI (rz_uI (rz_fA W 123 (tkR (W.1 123) u v)) 116 25 (nI u)) 116 26 (nI v), fun K h => rz_toV (c_BlockMap_takeBlock u1 u2 hv) (by rw [if_pos hf]; exact h), fun K h => rz_toI (c_M_isFree u2 (by omega)) ⟨fun z => ?_, fun _ => rz_toV (c_M_takes u2) h⟩, chX_f, bgM_t (bgM_f (by omega)) (bgM_t (bgM_u (by omega)) (bgM_u (by omega))), by simp (disch := omega) only [uI1, fA2, rz_fA_n, rz_uI_n, rz_fA_s, rz_uI_s, pk_us], Dk_mu (Dk_mu (Dk_mf (Dk_xf D (by omega)) (by omega)) (by omega)) (by omega), fun k hk => ?_, fun _ => rfl, fun _ => ⟨by simp (disch := omega) only [uI1, fA2, rz_fA_n, rz_uI_n, rz_fA_s, rz_uI_s, pk_us], fun K h => rz_toV (c_M_takes u2) h⟩⟩
    · rw [ef, hf] at z; exact absurd z (by decide)
    · have := tkR_c (t := u) (s := v) u2 hM k hk
      simp (disch := omega) only [uI1, fA2, rz_fA_n, rz_uI_n, rz_fA_s, rz_uI_s, pk_us]
      exact this
  | false =>
    refine ⟨V, W, fun K h => rz_toV (c_BlockMap_takeBlock u1 u2 hv) (by rw [if_neg (by rw [hf]; decide)]; exact h), fun K h => rz_toI (c_M_isFree u2 (by omega)) ⟨fun _ => h, fun z => ?_⟩, chX_r V, bgM_r W, rfl, D, hM, fun _ => rfl, fun z => by cases z⟩
    rw [ef, hf] at z; exact absurd rfl z
def tdC (B : Nat → Nat → Bool) (pr : Bool) (T U : rz_S) (i : Nat) (t s : Int32) (V W : rz_S) : Prop := ∃ x V1 W1, bgX T V1 ∧ bgM U W1 ∧ (∃ id, Dk B pr id V1 W1) ∧ ans T x V1 W1 ∧ (x = 0 → Mp V1 W1) ∧ (∀ K : Int32 → rz_S → Prop, K x V1 → rz mCommands_takeDirectory 7 [(0, .ref 108), (1, .int t), (2, .int s), (3, .int (nI i))] [] V (rz_i K)) ∧ ∀ Q : Int32 → rz_S → Prop, ((x = 0 → rz_ev mM_entries [.ref 116] W1 (rz_i (fun a S => ((a = 0 → rz_ev mM_stores [.ref 116] S (rz_i (fun c S2 => Q c S2))) ∧ (¬ a = 0 → Q a S))))) ∧ (¬ x = 0 → Q x W1)) → rz mM_validates 33 [(0, .ref 116), (2, .int t), (3, .int s), (4, .int (nI i)), (5, .int 1)] [] W (rz_i Q)
theorem td_step {B : Nat → Nat → Bool} {pr : Bool} {T U : rz_S} {i : Nat} {t s : Int32} {V W : rz_S} (hi : i < 6) (ht : byt t) (hs : byt s) (gx : bgX T V) (gm : bgM U W) (hD : ∃ id, Dk B pr id V W) (hM : Mp V W) (st : ∀ z, V.2 3 z = T.2 3 z) (nx : i + 1 < 6 → ∀ (t' s' : Int32) (V' W' : rz_S), byt t' → byt s' → bgX T V' → bgM U W' → (∃ id, Dk B pr id V' W') → Mp V' W' → (∀ z, V'.2 3 z = T.2 3 z) → tdC B pr T U (i + 1) t' s' V' W') : tdC B pr T U i t s V W := by
  obtain ⟨id, D⟩ := hD
  have n6 : ¬ (6 : Int32) ≤ nI i := fun z => by have := (nI_leI (a := 6) (b := i) (by omega) (by omega)).mp z; omega
  by_cases lg : lgI t s = 0
  · obtain ⟨a, b, ea, eb⟩ := c_give71 (S := V) ht hs
    subst ea
    subst eb
    exact ⟨nI 71, st_set V (nI 71) (nI a) (nI b), rz_uI (rz_uI W 116 4 (nI a)) 116 5 (nI b), bgX_t gx (bgX_rF (a := 40) (by omega) rF_s), bgM_t gm (bgM_t (bgM_u (by omega)) (bgM_u (by omega))), ⟨id, Dk_mu (Dk_mu (st_set_dk D) (by omega)) (by omega)⟩, ans_fl 71 a b (by omega) (by omega) (st 3), fun z => absurd z (by decide), fun K h => p_Commands_takeDirectory_7 ⟨fun z => absurd z n6, fun _ => rz_toI (c_Disk_legal _ _) ⟨fun _ => rz_toI (c_Status_set _ _ _) h, fun z => absurd lg z⟩⟩, fun Q h => p_M_validates_33 ⟨fun z => absurd z (by decide), fun _ => rz_toI (c_M_legal _ _) ⟨fun _ => rz_toI (c_M_fault _ _ _) (h.2 (by decide)), fun z => absurd lg z⟩⟩⟩
  · obtain ⟨u, v, u1, u2, hv, rfl, rfl⟩ := lgI_1 lg
    have sb := sct_b u1 u2
    obtain ⟨V1, W1, l1, r1, cx, cm, _, D1, hM1, st1, _⟩ := tb_pair hM D u1 u2 hv
    obtain ⟨x, V2, y, W2, e1, e2, rfl, xc, id2, ex, x100, D2, f1, f2, o1, n1⟩ := PR_read (s := v) (a := 40) (a' := 124) (at0 := 0) (na := 64) D1 u1 u2 (by omega) rfl (by omega) rfl (by omega) (by omega) (by omega)
    have gx2 : bgX T V2 := bgX_t gx (bgX_t (bgX_ch cx) (bgX_rF (by omega) f1))
    have gm2 : bgM U W2 := bgM_t gm (bgM_t cm (bgM_kFa (by omega) f2))
    have hM2 : Mp V2 W2 := fun k hk => by
      rw [f1.1 45 (by omega) (by omega), f2.1 123 (by omega) (by omega)]
      exact hM1 k hk
    have left : ∀ K : Int32 → rz_S → Prop, ((x = 0 → ((V2.1 40 0 = 0 → K x V2) ∧ (¬ V2.1 40 0 = 0 → rz mCommands_takeDirectory 7 [(0, .ref 108), (1, .int (V2.1 40 0)), (2, .int (V2.1 40 1)), (3, .int (nI i + 1))] [] V2 (rz_i K)))) ∧ (¬ x = 0 → K x V2)) → rz mCommands_takeDirectory 7 [(0, .ref 108), (1, .int (nI u)), (2, .int (nI v)), (3, .int (nI i))] [] V (rz_i K) := fun K h => p_Commands_takeDirectory_7 ⟨fun z => absurd z n6, fun _ => rz_toI (c_Disk_legal _ _) ⟨fun z => absurd z lg, fun _ => l1 _ (rzx_I e1 h)⟩⟩
    have right : ∀ Q : Int32 → rz_S → Prop, ((x = 0 → ((W2.1 124 0 = 0 → rz mM_validates 114 [(0, .ref 116), (4, .int (nI i + 1))] [] W2 (rz_i Q)) ∧ (¬ W2.1 124 0 = 0 → ((6 ≤ nI i + 1 → rz mM_validates 114 [(0, .ref 116), (4, .int (nI i + 1))] [] W2 (rz_i Q)) ∧ (¬ 6 ≤ nI i + 1 → rz mM_validates 115 [(0, .ref 116), (4, .int (nI i + 1))] [.int 1] W2 (rz_i Q)))))) ∧ (¬ x = 0 → Q x W2)) → rz mM_validates 33 [(0, .ref 116), (2, .int (nI u)), (3, .int (nI v)), (4, .int (nI i)), (5, .int 1)] [] W (rz_i Q) := fun Q h => p_M_validates_33 ⟨fun z => absurd z (by decide), fun _ => rz_toI (c_M_legal _ _) ⟨fun z => absurd z lg, fun _ => r1 _ (p_M_validates_70 (rzx_I e2 h))⟩⟩
    by_cases xz : xc = 0
    · subst xz
      subst ex
      obtain ⟨⟨dd, hd⟩, st2⟩ := o1 rfl
      have q0 : V2.1 40 0 = W2.1 124 0 := (hd 0 (by omega)).1.trans (hd 0 (by omega)).2.1.symm
      have q1 : V2.1 40 1 = W2.1 124 1 := (hd 1 (by omega)).1.trans (hd 1 (by omega)).2.1.symm
      have sT2 : ∀ z, V2.2 3 z = T.2 3 z := fun z => (st2 z).trans ((st1 z).trans (st z))
      have fin : ∀ Q : Int32 → rz_S → Prop, rz_ev mM_entries [.ref 116] W2 (rz_i (fun a S => ((a = 0 → rz_ev mM_stores [.ref 116] S (rz_i (fun c S2 => Q c S2))) ∧ (¬ a = 0 → Q a S)))) → rz mM_validates 114 [(0, .ref 116), (4, .int (nI i + 1))] [] W2 (rz_i Q) := fun Q h => p_M_validates_114 (p_M_validates_115 (p_M_validates_33 ⟨fun _ => h, fun z => absurd rfl z⟩))
      by_cases z0 : V2.1 40 0 = 0
      · exact ⟨nI 0, V2, W2, gx2, gm2, ⟨id2, D2⟩, Or.inl ⟨rfl, sT2⟩, fun _ => hM2, fun K h => left K ⟨fun _ => ⟨fun _ => h, fun z => absurd z0 z⟩, fun z => absurd rfl z⟩, fun Q h => right Q ⟨fun _ => ⟨fun _ => fin Q (h.1 rfl), fun z => absurd (q0.symm.trans z0) z⟩, fun z => absurd rfl z⟩⟩
      · have z0' : ¬ W2.1 124 0 = 0 := fun z => z0 (q0.trans z)
        by_cases i5 : i + 1 < 6
        · obtain ⟨y, V3, W3, a1, a2, a3, a4, a5, a6, a7⟩ := nx i5 (V2.1 40 0) (V2.1 40 1) V2 W2 ⟨dd 0, (hd 0 (by omega)).2.2, (hd 0 (by omega)).1⟩ ⟨dd 1, (hd 1 (by omega)).2.2, (hd 1 (by omega)).1⟩ gx2 gm2 ⟨id2, D2⟩ hM2 sT2
          refine ⟨y, V3, W3, a1, a2, a3, a4, a5, fun K h => left K ⟨fun _ => ⟨fun z => absurd z z0, fun _ => ?_⟩, fun z => absurd rfl z⟩, fun Q h => right Q ⟨fun _ => ⟨fun z => absurd z z0', fun _ => ⟨fun z => ?_, fun _ => p_M_validates_115 ?_⟩⟩, fun z => absurd rfl z⟩⟩
          · rw [nI_1]; exact a6 K h
          · rw [nI_1] at z
            have := (nI_leI (a := 6) (b := i + 1) (by omega) (by omega)).mp z
            omega
          · rw [nI_1, ← q0, ← q1]; exact a7 Q h
        · have i5' : i = 5 := by omega
          subst i5'
          exact ⟨nI 0, V2, W2, gx2, gm2, ⟨id2, D2⟩, Or.inl ⟨rfl, sT2⟩, fun _ => hM2, fun K h => left K ⟨fun _ => ⟨fun z => absurd z z0, fun _ => p_Commands_takeDirectory_7 ⟨fun _ => h, fun z => absurd (by decide) z⟩⟩, fun z => absurd rfl z⟩, fun Q h => right Q ⟨fun _ => ⟨fun z => absurd z z0', fun _ => ⟨fun _ => fin Q (h.1 rfl), fun z => absurd (by decide) z⟩⟩, fun z => absurd rfl z⟩⟩
    · obtain ⟨_, _, hfl, h33⟩ := n1 xz
      have xne : ¬ x = 0 := by rw [ex]; exact nI_ne0 (by omega) (by omega)
      exact ⟨x, V2, W2, gx2, gm2, ⟨id2, D2⟩, Or.inr ⟨xc, xz, x100, ex, hfl, h33.trans ((st1 3).trans (st 3))⟩, fun z => absurd z xne, fun K h => left K ⟨fun z => absurd z xne, fun _ => h⟩, fun Q h => right Q ⟨fun z => absurd z xne, fun _ => h.2 xne⟩⟩
theorem td_loop {B : Nat → Nat → Bool} {pr : Bool} {T U : rz_S} : ∀ (w i : Nat) (t s : Int32) (V W : rz_S), w + i = 5 → byt t → byt s → bgX T V → bgM U W → (∃ id, Dk B pr id V W) → Mp V W → (∀ z, V.2 3 z = T.2 3 z) → tdC B pr T U i t s V W := by
  intro w
  induction w with
  | zero => intro i t s V W e a b c d f g h; exact td_step (by omega) a b c d f g h (fun z => by omega)
  | succ w ih => intro i t s V W e a b c d f g h; exact td_step (by omega) a b c d f g h (fun z t' s' V' W' a' b' c' d' f' g' h' => ih (i + 1) t' s' V' W' (by omega) a' b' c' d' f' g' h')
/-- a FILE's chain is marked, both sides -/
theorem tc_loop {B : Nat → Nat → Bool} {pr : Bool} {id : Option (Nat × Nat)} {T U : rz_S} (hid : id ≠ none) : ∀ (w i : Nat) (t s : Int32) (V W : rz_S), cfr (V.1 45) 96 ≤ w → i + w ≤ 140 → byt t → byt s → chX T V → bgM U W → W.1 124 = U.1 124 → Dk B pr id V W → Mp V W → (∀ z, V.2 3 z = T.2 3 z) → ∃ x V1 W1, chX T V1 ∧ bgM U W1 ∧ W1.1 124 = U.1 124 ∧ Dk B pr id V1 W1 ∧ ans T x V1 W1 ∧ Mp V1 W1 ∧ (∀ K : Int32 → rz_S → Prop, K x V1 → rz mCommands_takeChain 8 [(0, .ref 108), (3, .int t), (4, .int s), (5, .int (nI i))] [] V (rz_i K)) ∧ ∀ Q : Int32 → rz_S → Prop, Q x W1 → rz mM_used 63 [(0, .ref 116), (5, .int t), (6, .int s)] [] W (rz_i Q) := by
  have step : ∀ (i : Nat) (t s : Int32) (V W : rz_S), i ≤ 140 → byt t → byt s → chX T V → bgM U W → W.1 124 = U.1 124 → Dk B pr id V W → Mp V W → (∀ z, V.2 3 z = T.2 3 z) → (∀ (t' s' : Int32) (V' W' : rz_S), cfr (V'.1 45) 96 < cfr (V.1 45) 96 → byt t' → byt s' → chX T V' → bgM U W' → W'.1 124 = U.1 124 → Dk B pr id V' W' → Mp V' W' → (∀ z, V'.2 3 z = T.2 3 z) → ∃ x V1 W1, chX T V1 ∧ bgM U W1 ∧ W1.1 124 = U.1 124 ∧ Dk B pr id V1 W1 ∧ ans T x V1 W1 ∧ Mp V1 W1 ∧ (∀ K : Int32 → rz_S → Prop, K x V1 → rz mCommands_takeChain 8 [(0, .ref 108), (3, .int t'), (4, .int s'), (5, .int (nI (i + 1)))] [] V' (rz_i K)) ∧ ∀ Q : Int32 → rz_S → Prop, Q x W1 → rz mM_used 63 [(0, .ref 116), (5, .int t'), (6, .int s')] [] W' (rz_i Q)) → ∃ x V1 W1, chX T V1 ∧ bgM U W1 ∧ W1.1 124 = U.1 124 ∧ Dk B pr id V1 W1 ∧ ans T x V1 W1 ∧ Mp V1 W1 ∧ (∀ K : Int32 → rz_S → Prop, K x V1 → rz mCommands_takeChain 8 [(0, .ref 108), (3, .int t), (4, .int s), (5, .int (nI i))] [] V (rz_i K)) ∧ ∀ Q : Int32 → rz_S → Prop, Q x W1 → rz mM_used 63 [(0, .ref 116), (5, .int t), (6, .int s)] [] W (rz_i Q) := by
    intro i t s V W hi ht hs fx gm k124 D hM st nx
    have n144 : ¬ (144 : Int32) < nI i := nI_nlt (a := 144) (b := i) (by omega) (by omega)
    have no71 : ∀ a b : Nat, t = nI a → s = nI b → (∀ K : Int32 → rz_S → Prop, K 0 V → rz_ev mBlockMap_isFree [.ref 44, .int t, .int s] V (rz_i K)) → (∀ Q : Int32 → rz_S → Prop, rz mM_uses 17 [(0, .ref 116), (1, .int t), (2, .int s)] [] W (rz_i Q) → rz_ev mM_uses [.ref 116, .int t, .int s] W (rz_i Q)) → ∃ x V1 W1, chX T V1 ∧ bgM U W1 ∧ W1.1 124 = U.1 124 ∧ Dk B pr id V1 W1 ∧ ans T x V1 W1 ∧ Mp V1 W1 ∧ (∀ K : Int32 → rz_S → Prop, K x V1 → rz mCommands_takeChain 8 [(0, .ref 108), (3, .int t), (4, .int s), (5, .int (nI i))] [] V (rz_i K)) ∧ ∀ Q : Int32 → rz_S → Prop, Q x W1 → rz mM_used 63 [(0, .ref 116), (5, .int t), (6, .int s)] [] W (rz_i Q) := fun a b ea eb l r => by
      subst ea
      subst eb
      exact ⟨nI 71, st_set V (nI 71) (nI a) (nI b), rz_uI (rz_uI W 116 4 (nI a)) 116 5 (nI b), chX_t fx (chX_rF (Or.inl rfl) rF_s), bgM_t gm (bgM_t (bgM_u (by omega)) (bgM_u (by omega))), k124, Dk_mu (Dk_mu (st_set_dk D) (by omega)) (by omega), ans_fl 71 a b (by omega) (by omega) (st 3), hM, fun K h => p_Commands_takeChain_8 ⟨fun z => absurd z n144, fun _ => l _ ⟨fun _ => rz_toI (c_Status_set _ _ _) h, fun z => absurd rfl z⟩⟩, fun Q h => p_M_used_63 (r _ (p_M_uses_17 (rz_toI (c_M_fault _ _ _) ⟨fun z => absurd z (by decide), fun _ => p_M_used_93 ⟨fun z => absurd z (by decide), fun _ => h⟩⟩)))⟩
    obtain ⟨a, b, ea, eb⟩ := c_give71 (S := V) ht hs
    by_cases lg : lgI t s = 0
    · refine no71 a b ea eb (fun K h => ?_) (fun Q h => ?_)
      · show rz _ 0 [(0, .ref 44), (1, .int t), (2, .int s)] [] _ _
        exact p_BlockMap_isFree_0 (rz_toI (c_Disk_legal _ _) ⟨fun _ => h, fun z => absurd lg z⟩)
      · show rz _ 0 [(0, .ref 116), (1, .int t), (2, .int s)] [] _ _
        exact p_M_uses_0 (rz_toI (c_M_legal _ _) ⟨fun _ => h, fun z => absurd lg z⟩)
    · obtain ⟨u, v, u1, u2, hv, eu, ev⟩ := lgI_1 lg
      have sb := sct_b u1 u2
      have ef : fr (W.1 123) u v = fr (V.1 45) u v := (fr_c u2 hM).symm
      cases hf : fr (V.1 45) u v with
      | false =>
        refine no71 a b ea eb (fun K h => ?_) (fun Q h => ?_)
        · rw [eu, ev]
          refine rz_toI (c_BlockMap_isFree u1 u2 hv) ?_
          rw [hf]
          exact h
        · show rz _ 0 [(0, .ref 116), (1, .int t), (2, .int s)] [] _ _
          refine p_M_uses_0 (rz_toI (c_M_legal _ _) ⟨fun z => absurd z lg, fun _ => ?_⟩)
          rw [eu, ev] at h ⊢
          refine rz_toI (c_M_isFree u2 (by omega)) ⟨fun _ => h, fun z => ?_⟩
          rw [ef, hf] at z
          exact absurd rfl z
      | true =>
        subst eu
        subst ev
        obtain ⟨V1, W1, l1, r1, cx, cm, k1, D1, hM1, st1, etk⟩ := tb_pair hM D u1 u2 hv
        obtain ⟨hV1, rt⟩ := etk hf
        have hlt : cfr (V1.1 45) 96 < cfr (V.1 45) 96 := by
          rw [hV1]
          have q := tk_fr (F := V.1 45) u1 u2 (show v < 8 by omega) (fun k hk => (hM k hk).2)
          exact cfr_lt u1 u2 (by omega) q.2 hf q.1 96 (by omega) (by omega)
        obtain ⟨x, V2, W2, id2, e1, e2, D2, f1, f2, an, hid2, hx⟩ := PR_readJ (s := v) (a := 40) (a' := 125) (at0 := 0) (na := 64) D1 u1 u2 (by omega) rfl (by omega) rfl (by omega) (by omega) (by omega)
        have eid := hid2 hid
        subst eid
        have fx2 : chX T V2 := chX_t fx (chX_t cx (chX_rF (Or.inl rfl) f1))
        have gm2 : bgM U W2 := bgM_t gm (bgM_t cm (bgM_kFa (by omega) f2))
        have k2 : W2.1 124 = U.1 124 := (f2.1 124 (by omega) (by omega)).trans (k1.trans k124)
        have v45 : V2.1 45 = V1.1 45 := f1.1 45 (by omega) (by omega)
        have hM2 : Mp V2 W2 := fun k hk => by
          rw [v45, f2.1 123 (by omega) (by omega)]
          exact hM1 k hk
        have sT1 : ∀ z, V1.2 3 z = T.2 3 z := fun z => (st1 z).trans (st z)
        have left : ∀ K : Int32 → rz_S → Prop, ((x = 0 → ((V2.1 40 0 = 0 → K x V2) ∧ (¬ V2.1 40 0 = 0 → rz mCommands_takeChain 8 [(0, .ref 108), (3, .int (V2.1 40 0)), (4, .int (V2.1 40 1)), (5, .int (nI i + 1))] [] V2 (rz_i K)))) ∧ (¬ x = 0 → K x V2)) → rz mCommands_takeChain 8 [(0, .ref 108), (3, .int (nI u)), (4, .int (nI v)), (5, .int (nI i))] [] V (rz_i K) := fun K h => p_Commands_takeChain_8 ⟨fun z => absurd z n144, fun _ => rz_toI (c_BlockMap_isFree u1 u2 hv) ⟨fun z => (by rw [hf] at z; exact absurd z (by decide)), fun _ => l1 _ (rzx_I e1 h)⟩⟩
        have right : ∀ Q : Int32 → rz_S → Prop, rz mM_used 93 [(0, .ref 116), (7, .int x)] [] W2 (rz_i Q) → rz mM_used 63 [(0, .ref 116), (5, .int (nI u)), (6, .int (nI v))] [] W (rz_i Q) := fun Q h => p_M_used_63 (by
          show rz _ 0 [(0, .ref 116), (1, .int (nI u)), (2, .int (nI v))] [] _ _
          refine p_M_uses_0 (rz_toI (c_M_legal _ _) ⟨fun z => absurd z lg, fun _ => ?_⟩)
          refine rz_toI (c_M_isFree u2 (by omega)) ⟨fun z => ?_, fun _ => rt _ ⟨fun _ => rzx_I e2 h, fun z => absurd rfl z⟩⟩
          rw [ef, hf] at z
          exact absurd z (by decide))
        by_cases x0 : x = 0
        · subst x0
          obtain ⟨d, hH, rows⟩ := hx rfl
          have w0 : W2.1 125 0 = nI (d 0) := by have := (rows 0 (by omega)).2; rw [Nat.zero_add] at this; exact this
          have w1 : W2.1 125 1 = nI (d 1) := by have := (rows 1 (by omega)).2; rw [Nat.zero_add] at this; exact this
          have q0 : V2.1 40 0 = W2.1 125 0 := (rows 0 (by omega)).1.trans w0.symm
          have q1 : V2.1 40 1 = W2.1 125 1 := (rows 1 (by omega)).1.trans w1.symm
          have sT2 : ∀ z, V2.2 3 z = T.2 3 z := fun z => (ans_z an rfl z).trans (sT1 z)
          by_cases z0 : V2.1 40 0 = 0
          · exact ⟨0, V2, W2, fx2, gm2, k2, D2, Or.inl ⟨rfl, sT2⟩, hM2, fun K h => left K ⟨fun _ => ⟨fun _ => h, fun z => absurd z0 z⟩, fun z => absurd rfl z⟩, fun Q h => right Q (p_M_used_93 ⟨fun _ => ⟨fun _ => h, fun z => absurd (q0.symm.trans z0) z⟩, fun z => absurd rfl z⟩)⟩
          · obtain ⟨y, V3, W3, a1, a2, a3, a4, a5, a6, a7, a8⟩ := nx (V2.1 40 0) (V2.1 40 1) V2 W2 (by rw [v45]; exact hlt) ⟨d 0, hH.2.1 0 (by omega), (rows 0 (by omega)).1⟩ ⟨d 1, hH.2.1 1 (by omega), (rows 1 (by omega)).1⟩ fx2 gm2 k2 D2 hM2 sT2
            refine ⟨y, V3, W3, a1, a2, a3, a4, a5, a6, fun K h => left K ⟨fun _ => ⟨fun z => absurd z z0, fun _ => ?_⟩, fun z => absurd rfl z⟩, fun Q h => right Q (p_M_used_93 ⟨fun _ => ⟨fun z => absurd (q0.trans z) z0, fun _ => ?_⟩, fun z => absurd rfl z⟩)⟩
            · rw [nI_1]; exact a7 K h
            · rw [← q0, ← q1]; exact a8 Q h
        · exact ⟨x, V2, W2, fx2, gm2, k2, D2, ans_t sT1 an, hM2, fun K h => left K ⟨fun z => absurd z x0, fun _ => h⟩, fun Q h => right Q (p_M_used_93 ⟨fun z => absurd z x0, fun _ => h⟩)⟩
  intro w
  induction w with
  | zero => intro i t s V W hw hi a b c d k e f g; exact step i t s V W (by omega) a b c d k e f g (fun t' s' V' W' q => by omega)
  | succ w ih => intro i t s V W hw hi a b c d k e f g; exact step i t s V W (by omega) a b c d k e f g (fun t' s' V' W' q => ih (i + 1) t' s' V' W' (by omega) (by omega))
/-! its ENTRIES -/
def vdK (K : Int32 → rz_S → Prop) (a2 : Int32) (x : Int32) (S : rz_S) : Prop := ((x = 0 → ((S.2 46 5 = 0 → rz_ev mBlockMap_store [.ref 44] S (rz_i (fun a b => K a b))) ∧ (¬ S.2 46 5 = 0 → rz mCommands_validate 88 [(0, .ref 108), (1, .int x), (2, .int a2)] [] S (rz_i K)))) ∧ (¬ x = 0 → rz mCommands_validate 88 [(0, .ref 108), (1, .int x), (2, .int a2)] [] S (rz_i K)))
theorem vd_stop {K : Int32 → rz_S → Prop} {a2 x : Int32} {S : rz_S} (x0 : ¬ x = 0) (h : K x S) : rz mCommands_validate 43 [(0, .ref 108), (1, .int x), (2, .int a2)] [] S (rz_i K) := p_Commands_validate_43 ⟨fun _ => h, fun _ => ⟨fun z => absurd z x0, fun _ => h⟩⟩
theorem vd_flt {K : Int32 → rz_S → Prop} {a2 x : Int32} {S : rz_S} (x0 : ¬ x = 0) (h : K x S) : vdK K a2 x S := ⟨fun z => absurd z x0, fun _ => p_Commands_validate_88 ⟨fun z => absurd z x0, fun _ => vd_stop x0 h⟩⟩
def vdI (B : Nat → Nat → Bool) (pr : Bool) (id : Option (Nat × Nat)) (T U : rz_S) (t s k e : Nat) (V W : rz_S) : Prop := bgX T V ∧ bgM U W ∧ Dk B pr id V W ∧ (∀ z, V.2 3 z = T.2 3 z) ∧ Mp V W ∧ V.2 46 1 = nI t ∧ V.2 46 2 = nI s ∧ V.2 46 3 = nI k ∧ V.2 46 4 = nI e - 1 ∧ V.2 46 5 = 0 ∧ ((e = 0 ∧ V.2 46 6 = 0) ∨ (1 ≤ e ∧ V.2 46 6 = 1 ∧ ∃ d, Hld B id t s d ∧ (∀ j, j < 64 → V.1 47 j = nI (d j)) ∧ W.1 124 0 = nI (d 0) ∧ W.1 124 1 = nI (d 1)))
def vdC (pr : Bool) (T U : rz_S) (t s k e a3 a2 : Nat) (V W : rz_S) : Prop := ∃ x V1 W1, bgX T V1 ∧ bgM U W1 ∧ (∃ B id, Dk B pr id V1 W1) ∧ ans T x V1 W1 ∧ (x = 0 → Mp V1 W1) ∧ (∀ K : Int32 → rz_S → Prop, ((x = 0 → rz_ev mBlockMap_store [.ref 44] V1 (rz_i (fun a b => K a b))) ∧ (¬ x = 0 → K x V1)) → rz mDirectory_find 7 [(0, .ref 46), (1, .int 0), (2, .ref 113), (3, .int (nI a3))] [] V (rz_i (vdK K (nI a2)))) ∧ ∀ R : Int32 → rz_S → Prop, R x W1 → rz mM_entries 33 [(0, .ref 116), (1, .int (nI t)), (2, .int (nI s)), (3, .int (nI k)), (4, .int (nI e))] [] W (rz_i R)
theorem ftF_all {nm F : Nat → Int32} (h : nm 0 = 42) : ftF nm F 1 1 0 = true := if_pos h
/-- one ENTRY -/
theorem vd_entry {B : Nat → Nat → Bool} {pr : Bool} {id : Option (Nat × Nat)} {T U V W : rz_S} {t s k e a3 a2 : Nat} {d : Nat → Nat} (hall : T.2 113 1 = 1 ∧ T.1 114 0 = 42) (he : e < 4) (t1 : 1 ≤ t) (t2 : t ≤ 12) (hs : s < sct t) (hk : k ≤ 6) (h3 : a3 < 29) (h2 : a2 < 60) (gx : bgX T V) (gm : bgM U W) (D : Dk B pr id V W) (st : ∀ z, V.2 3 z = T.2 3 z) (hM : Mp V W) (v1 : V.2 46 1 = nI t) (v2 : V.2 46 2 = nI s) (v3 : V.2 46 3 = nI k) (v4 : V.2 46 4 = nI e - 1) (v5 : V.2 46 5 = 0) (hH : Hld B id t s d) (row : ∀ j, j < 64 → V.1 47 j = nI (d j)) (rowW : ∀ j, j < 64 → W.1 124 j = nI (d j)) (nx : ∀ (B' : Nat → Nat → Bool) (id' : Option (Nat × Nat)) (a3' a2' : Nat) (V' W' : rz_S), a3' ≤ a3 + 1 → a2' ≤ a2 + 1 → vdI B' pr id' T U t s k (e + 1) V' W' → vdC pr T U t s k (e + 1) a3' a2' V' W') : ∃ x V1 W1, bgX T V1 ∧ bgM U W1 ∧ (∃ B id, Dk B pr id V1 W1) ∧ ans T x V1 W1 ∧ (x = 0 → Mp V1 W1) ∧ (∀ K : Int32 → rz_S → Prop, ((x = 0 → rz_ev mBlockMap_store [.ref 44] V1 (rz_i (fun a b => K a b))) ∧ (¬ x = 0 → K x V1)) → rz mDirectory_find 43 [(0, .ref 46), (1, .int 0), (2, .ref 113), (3, .int (nI a3))] [.int 0] V (rz_i (vdK K (nI a2)))) ∧ ∀ R : Int32 → rz_S → Prop, R x W1 → rz_ev mM_used [.ref 116, .int (nI t), .int (nI s), .int (nI e)] W (rz_i (fun a S => rz mM_entries 67 [(0, .ref 116), (1, .int (nI t)), (2, .int (nI s)), (3, .int (nI k)), (4, .int (nI e)), (5, .int a)] [] S (rz_i R))) := by
  have sb := sct_b t1 t2
  have e1 : V.2 46 4 + 1 = nI e := by rw [v4]; exact Int32.sub_add_cancel _ _
  have n4 : ¬ (4 : Int32) ≤ nI e := fun z => by have := (nI_leI (a := 4) (b := e) (by omega) (by omega)).mp z; omega
  generalize hS : rz_uI (rz_uI V 46 6 1) 46 4 (nI e) = S
  have sa : S.1 = V.1 := by rw [← hS]; rfl
  have su : ∀ u z, u ≠ 46 → S.2 u z = V.2 u z := fun u z hu => by rw [← hS]; simp (disch := omega) only [uI1, fA2, rz_fA_n, rz_uI_n, rz_fA_s, rz_uI_s, pk_us]
  have s4 : S.2 46 4 = nI e := by rw [← hS]; simp (disch := omega) only [uI1, fA2, rz_fA_n, rz_uI_n, rz_fA_s, rz_uI_s, pk_us]
  have s6 : S.2 46 6 = 1 := by rw [← hS]; simp (disch := omega) only [uI1, fA2, rz_fA_n, rz_uI_n, rz_fA_s, rz_uI_s, pk_us]
  have so : ∀ z, z ≠ 4 → z ≠ 6 → S.2 46 z = V.2 46 z := fun z a b => by rw [← hS]; simp (disch := omega) only [uI1, fA2, rz_fA_n, rz_uI_n, rz_fA_s, rz_uI_s, pk_us]
  have gS : bgX T S := bgX_t gx ⟨fun q _ _ _ _ => by rw [sa], fun u z _ _ _ _ hu => su u z hu⟩
  have DS : Dk B pr id S W := Dk_x D (fun q _ _ => by rw [sa]) (fun u z hu => su u z (by omega))
  have hMS : Mp S W := fun k hk => by rw [sa]; exact hM k hk
  have stS : ∀ z, S.2 3 z = T.2 3 z := fun z => (su 3 z (by omega)).trans (st z)
  have p113 : S.2 113 1 = nI 1 := (gS.2 113 1 (by omega) (by omega) (by omega) (by omega) (by omega)).trans hall.1
  have p114 : S.1 114 0 = 42 := by rw [gS.1 114 (by omega) (by omega) (by omega) (by omega)]; exact hall.2
  have wn : wnt 0 (S.1 114) 1 (S.1 47) e = !decide (d (16 * e + 2) = 0) := by
    unfold wnt
    rw [if_neg (by decide), if_pos rfl, ftF_all p114, Bool.and_true, sa, row _ (by omega)]
    congr 1
    have dl := hH.2.1 (16 * e + 2) (by omega)
    by_cases z : d (16 * e + 2) = 0
    · rw [z]; rfl
    · rw [decide_eq_false z, decide_eq_false (nI_ne0 (by omega) (by omega))]
  have left : ∀ K : Int32 → rz_S → Prop, ((d (16 * e + 2) = 0 → rz mDirectory_find 7 [(0, .ref 46), (1, .int 0), (2, .ref 113), (3, .int (nI (a3 + 1)))] [] S (rz_i (vdK K (nI a2)))) ∧ (¬ d (16 * e + 2) = 0 → vdK K (nI a2) 0 (rz_uI S 46 5 1))) → rz mDirectory_find 43 [(0, .ref 46), (1, .int 0), (2, .ref 113), (3, .int (nI a3))] [.int 0] V (rz_i (vdK K (nI a2))) := fun K h => by
    refine p_Directory_find_43 pt113 ⟨fun _ => ?_, fun z => absurd rfl z⟩
    rw [e1, hS, nI_1]
    refine ⟨fun z => absurd z n4, fun _ => rz_toI (c_Directory_isWanted (kd := 0) (n := 1) (by omega) pt113 (by omega) p113 he s4) ?_⟩
    rw [wn]
    by_cases z : d (16 * e + 2) = 0
    · rw [decide_eq_true z]
      exact ⟨fun _ => h.1 z, fun y => absurd rfl y⟩
    · rw [decide_eq_false z]
      exact ⟨fun y => absurd y (by decide), fun _ => h.2 z⟩
  have i2 : ((16 * nI e) + 2 : Int32) = nI (16 * e + 2) := by rw [show (16 * nI e : Int32) = nI (16 * e) from pk_mul 16 e]; exact nI_add _ 2
  have i3 : ((16 * nI e) + 3 : Int32) = nI (16 * e + 3) := by rw [show (16 * nI e : Int32) = nI (16 * e) from pk_mul 16 e]; exact nI_add _ 3
  have i4 : ((16 * nI e) + 4 : Int32) = nI (16 * e + 4) := by rw [show (16 * nI e : Int32) = nI (16 * e) from pk_mul 16 e]; exact nI_add _ 4
  have right : ∀ R : Int32 → rz_S → Prop, ((d (16 * e + 2) = 0 → R 0 W) ∧ (¬ d (16 * e + 2) = 0 → ((128 ≤ d (16 * e + 2) → rz mM_used 63 [(0, .ref 116), (5, .int (nI (d (16 * e + 3)))), (6, .int (nI (d (16 * e + 4))))] [] W (rz_i R)) ∧ (¬ 128 ≤ d (16 * e + 2) → rz_ev mM_changesType [.ref 116, .int (nI t), .int (nI s), .int (nI e), .int 0] W (rz_i R))))) → rz_ev mM_used [.ref 116, .int (nI t), .int (nI s), .int (nI e)] W (rz_i R) := fun R h => by
    show rz _ 0 [(0, .ref 116), (1, .int (nI t)), (2, .int (nI s)), (3, .int (nI e))] [] _ _
    have dl := hH.2.1 (16 * e + 2) (by omega)
    refine p_M_used_0 ?_
    rw [i2, i3, i4, nI_clamp (by omega), nI_clamp (by omega), nI_clamp (by omega), rowW _ (by omega), rowW _ (by omega), rowW _ (by omega)]
    refine ⟨rin (by omega) (by omega), fun z => h.1 ?_, fun z => ⟨fun z2 => ⟨rin (by omega) (by omega), rin (by omega) (by omega), (h.2 ?_).1 ?_⟩, fun z2 => (h.2 ?_).2 ?_⟩⟩
    · exact (nI_eq (b := 0) (by omega) (by omega)).mp z
    · exact fun y => z (by rw [y]; rfl)
    · exact (nI_leI (a := 128) (by omega) (by omega)).mp z2
    · exact fun y => z (by rw [y]; rfl)
    · exact fun y => z2 (nI_le (a := 128) y (by omega))
  have r67 : ∀ (a : Int32) (S1 : rz_S) (R : Int32 → rz_S → Prop), ((a = 0 → rz mM_entries 33 [(0, .ref 116), (1, .int (nI t)), (2, .int (nI s)), (3, .int (nI k)), (4, .int (nI (e + 1)))] [] S1 (rz_i R)) ∧ (¬ a = 0 → R a S1)) → rz mM_entries 67 [(0, .ref 116), (1, .int (nI t)), (2, .int (nI s)), (3, .int (nI k)), (4, .int (nI e)), (5, .int a)] [] S1 (rz_i R) := fun a S1 R h => p_M_entries_67 ⟨fun z => by rw [nI_1]; exact h.1 z, h.2⟩
  have e1s : nI e = nI (e + 1) - 1 := by rw [← nI_1]; exact (Int32.add_sub_cancel _ _).symm
  by_cases d0 : d (16 * e + 2) = 0
  · obtain ⟨x, V1, W1, c1, c2, c3, c4, c5, c6, c7⟩ := nx B id (a3 + 1) a2 S W (by omega) (by omega) ⟨gS, gm, DS, stS, hMS, (so 1 (by omega) (by omega)).trans v1, (so 2 (by omega) (by omega)).trans v2, (so 3 (by omega) (by omega)).trans v3, s4.trans e1s, (so 5 (by omega) (by omega)).trans v5, Or.inr ⟨by omega, s6, d, hH, fun j hj => by rw [sa]; exact row j hj, rowW 0 (by omega), rowW 1 (by omega)⟩⟩
    exact ⟨x, V1, W1, c1, c2, c3, c4, c5, fun K h => left K ⟨fun _ => c6 K h, fun z => absurd d0 z⟩, fun R h => right _ ⟨fun _ => r67 0 W R ⟨fun _ => c7 R h, fun z => absurd rfl z⟩, fun z => absurd d0 z⟩⟩
  · -- found
    generalize hS5 : rz_uI S 46 5 1 = S5
    have ta : S5.1 = V.1 := by rw [← hS5]; exact sa
    have tu : ∀ u z, u ≠ 46 → S5.2 u z = V.2 u z := fun u z hu => by rw [← hS5]; simp (disch := omega) only [uI1, fA2, rz_fA_n, rz_uI_n, rz_fA_s, rz_uI_s, pk_us]; exact su u z hu
    have t5 : S5.2 46 5 = 1 := by rw [← hS5]; simp (disch := omega) only [uI1, fA2, rz_fA_n, rz_uI_n, rz_fA_s, rz_uI_s, pk_us]
    have t4 : S5.2 46 4 = nI e := by rw [← hS5]; simp (disch := omega) only [uI1, fA2, rz_fA_n, rz_uI_n, rz_fA_s, rz_uI_s, pk_us]; exact s4
    have t6 : S5.2 46 6 = 1 := by rw [← hS5]; simp (disch := omega) only [uI1, fA2, rz_fA_n, rz_uI_n, rz_fA_s, rz_uI_s, pk_us]; exact s6
    have to : ∀ z, z ≠ 4 → z ≠ 5 → z ≠ 6 → S5.2 46 z = V.2 46 z := fun z a b c => by rw [← hS5]; simp (disch := omega) only [uI1, fA2, rz_fA_n, rz_uI_n, rz_fA_s, rz_uI_s, pk_us]; exact so z a c
    have gT : bgX T S5 := bgX_t gx ⟨fun q _ _ _ _ => by rw [ta], fun u z _ _ _ _ hu => tu u z hu⟩
    have DT : Dk B pr id S5 W := Dk_x D (fun q _ _ => by rw [ta]) (fun u z hu => tu u z (by omega))
    have hMT : Mp S5 W := fun k hk => by rw [ta]; exact hM k hk
    have stT5 : ∀ z, S5.2 3 z = T.2 3 z := fun z => (tu 3 z (by omega)).trans (st z)
    have n64 : ¬ (64 : Int32) ≤ nI (a2 + 1) := fun z => by have := (nI_leI (a := 64) (b := a2 + 1) (by omega) (by omega)).mp z; omega
    have left5 : ∀ K : Int32 → rz_S → Prop, rz mCommands_validate 88 [(0, .ref 108), (1, .int 0), (2, .int (nI a2))] [] S5 (rz_i K) → rz mDirectory_find 43 [(0, .ref 46), (1, .int 0), (2, .ref 113), (3, .int (nI a3))] [.int 0] V (rz_i (vdK K (nI a2))) := fun K h => left K ⟨fun z => absurd z d0, fun _ => ⟨fun _ => ⟨fun z => (by rw [hS5, t5] at z; exact absurd z (by decide)), fun _ => by rw [hS5]; exact h⟩, fun z => absurd rfl z⟩⟩
    -- what comes behind an ENTRY that was dealt with
    have go : ∀ (B' : Nat → Nat → Bool) (id' : Option (Nat × Nat)) (V' W' : rz_S) (d' : Nat → Nat), bgX T V' → bgM U W' → Dk B' pr id' V' W' → (∀ z, V'.2 3 z = T.2 3 z) → Mp V' W' → (∀ z, V'.2 46 z = S5.2 46 z) → Hld B' id' t s d' → (∀ j, j < 64 → V'.1 47 j = nI (d' j)) → W'.1 124 0 = nI (d' 0) → W'.1 124 1 = nI (d' 1) → ∃ x V1 W1, bgX T V1 ∧ bgM U W1 ∧ (∃ B id, Dk B pr id V1 W1) ∧ ans T x V1 W1 ∧ (x = 0 → Mp V1 W1) ∧ (∀ K : Int32 → rz_S → Prop, ((x = 0 → rz_ev mBlockMap_store [.ref 44] V1 (rz_i (fun a b => K a b))) ∧ (¬ x = 0 → K x V1)) → rz mCommands_validate 43 [(0, .ref 108), (1, .int 0), (2, .int (nI a2 + 1))] [] V' (rz_i K)) ∧ ∀ R : Int32 → rz_S → Prop, R x W1 → rz mM_entries 33 [(0, .ref 116), (1, .int (nI t)), (2, .int (nI s)), (3, .int (nI k)), (4, .int (nI (e + 1)))] [] W' (rz_i R) := fun B' id' V' W' d' q1 q2 q3 q4 q5 q6 q7 q8 q9 q10 => by
      generalize hV0 : rz_uI V' 46 5 0 = V0
      have za : V0.1 = V'.1 := by rw [← hV0]; rfl
      have zu : ∀ u z, u ≠ 46 → V0.2 u z = V'.2 u z := fun u z hu => by rw [← hV0]; simp (disch := omega) only [uI1, fA2, rz_fA_n, rz_uI_n, rz_fA_s, rz_uI_s, pk_us]
      have z5 : V0.2 46 5 = 0 := by rw [← hV0]; simp (disch := omega) only [uI1, fA2, rz_fA_n, rz_uI_n, rz_fA_s, rz_uI_s, pk_us]
      have zo : ∀ z, z ≠ 5 → V0.2 46 z = S5.2 46 z := fun z a => by rw [← hV0]; simp (disch := omega) only [uI1, fA2, rz_fA_n, rz_uI_n, rz_fA_s, rz_uI_s, pk_us]; exact q6 z
      obtain ⟨x, V1, W1, c1, c2, c3, c4, c5, c6, c7⟩ := nx B' id' 0 (a2 + 1) V0 W' (by omega) (by omega) ⟨bgX_t q1 ⟨fun q _ _ _ _ => by rw [za], fun u z _ _ _ _ hu => zu u z hu⟩, q2, Dk_x q3 (fun q _ _ => by rw [za]) (fun u z hu => zu u z (by omega)), fun z => (zu 3 z (by omega)).trans (q4 z), fun k hk => by rw [za]; exact q5 k hk, (zo 1 (by omega)).trans ((to 1 (by omega) (by omega) (by omega)).trans v1), (zo 2 (by omega)).trans ((to 2 (by omega) (by omega) (by omega)).trans v2), (zo 3 (by omega)).trans ((to 3 (by omega) (by omega) (by omega)).trans v3), (zo 4 (by omega)).trans (t4.trans e1s), z5, Or.inr ⟨by omega, (zo 6 (by omega)).trans t6, d', q7, fun j hj => by rw [za]; exact q8 j hj, q9, q10⟩⟩
      refine ⟨x, V1, W1, c1, c2, c3, c4, c5, fun K h => p_Commands_validate_43 ?_, c7⟩
      rw [nI_1]
      refine ⟨fun z => absurd z n64, fun _ => ⟨fun _ => ?_, fun z => absurd rfl z⟩⟩
      show rz _ 0 [(0, .ref 46), (1, .int 0), (2, .ref 113)] [] _ _
      refine p_Directory_find_0 pt113 ?_
      rw [hV0]
      exact c6 K h
    have dl := hH.2.1 (16 * e + 2) (by omega)
    have cl := c_isClosed (S := S5) (e := e) (ty := d (16 * e + 2)) he t4 (by rw [ta]; exact row _ (by omega))
    by_cases c128 : 128 ≤ d (16 * e + 2)
    · -- CLOSED
      have ncl : ¬ nI (d (16 * e + 2)) < 128 := nI_nlt (b := 128) c128 (by omega)
      rw [if_neg ncl] at cl
      have b3 : byt (nI (d (16 * e + 3))) := ⟨_, hH.2.1 (16 * e + 3) (by omega), rfl⟩
      have b4 : byt (nI (d (16 * e + 4))) := ⟨_, hH.2.1 (16 * e + 4) (by omega), rfl⟩
      obtain ⟨x, V1, W1, fx, fm, k124, D1, an, hM1, l, r⟩ := tc_loop (B := B) (pr := pr) (id := id) (T := S5) (U := W) hH.1 96 0 _ _ S5 W (cfr_le _ 96) (by omega) b3 b4 (chX_r _) (bgM_r _) rfl DT hMT (fun _ => rfl)
      have left6 : ∀ K : Int32 → rz_S → Prop, rz mCommands_validate 43 [(0, .ref 108), (1, .int x), (2, .int (nI a2 + 1))] [] V1 (rz_i K) → rz mDirectory_find 43 [(0, .ref 46), (1, .int 0), (2, .ref 113), (3, .int (nI a3))] [.int 0] V (rz_i (vdK K (nI a2))) := fun K h => left5 K (p_Commands_validate_88 ⟨fun _ => rz_toI cl ⟨fun z => absurd z (by decide), fun _ => rz_toI (c_firstTrack he t4) (rz_toI (c_firstSector he t4) (by
        rw [ta, row _ (by omega), row _ (by omega)]
        show rz _ 0 [(0, .ref 108), (1, .int (nI (d (16 * e + 3)))), (2, .int (nI (d (16 * e + 4))))] [] _ _
        exact p_Commands_takeChain_0 (l _ h)))⟩, fun z => absurd rfl z⟩)
      by_cases x0 : x = 0
      · subst x0
        obtain ⟨y, V2, W2, c1, c2, c3, c4, c5, c6, c7⟩ := go B id V1 W1 d (bgX_t gT (bgX_ch fx)) (bgM_t gm fm) D1 (fun z => (ans_z an rfl z).trans (stT5 z)) hM1 (fun z => fx.2 46 z (by omega) (by omega) (by omega)) hH (fun j hj => by rw [fx.1 47 (by omega) (by omega) (by omega), ta]; exact row j hj) (by rw [k124]; exact rowW 0 (by omega)) (by rw [k124]; exact rowW 1 (by omega))
        exact ⟨y, V2, W2, c1, c2, c3, c4, c5, fun K h => left6 K (c6 K h), fun R h => right _ ⟨fun z => absurd z d0, fun _ => ⟨fun _ => r _ (r67 0 W1 R ⟨fun _ => c7 R h, fun z => absurd rfl z⟩), fun z => absurd c128 z⟩⟩⟩
      · exact ⟨x, V1, W1, bgX_t gT (bgX_ch fx), bgM_t gm fm, ⟨B, id, D1⟩, ans_t stT5 an, fun z => absurd z x0, fun K h => left6 K (vd_stop x0 (h.2 x0)), fun R h => right _ ⟨fun z => absurd z d0, fun _ => ⟨fun _ => r _ (r67 x W1 R ⟨fun z => absurd z x0, fun _ => h⟩), fun z => absurd c128 z⟩⟩⟩
    · -- not CLOSED
      have ncl : nI (d (16 * e + 2)) < 128 := nI_lt (b := 128) (by omega) (by omega)
      rw [if_pos ncl] at cl
      obtain ⟨x, V1, W1, g1, g2, fx, fm, ⟨B1, id1, D1, hH1⟩, an, k45, k123, k124, k46, k47⟩ := PR_typeJ (e := e) DT t1 t2 hs he ((to 1 (by omega) (by omega) (by omega)).trans v1) ((to 2 (by omega) (by omega) (by omega)).trans v2) t4 hH
      have left6 : ∀ K : Int32 → rz_S → Prop, rz mCommands_validate 43 [(0, .ref 108), (1, .int x), (2, .int (nI a2 + 1))] [] V1 (rz_i K) → rz mDirectory_find 43 [(0, .ref 46), (1, .int 0), (2, .ref 113), (3, .int (nI a3))] [.int 0] V (rz_i (vdK K (nI a2))) := fun K h => left5 K (p_Commands_validate_88 ⟨fun _ => rz_toI cl ⟨fun _ => rzx_I g1 h, fun z => absurd rfl z⟩, fun z => absurd rfl z⟩)
      by_cases x0 : x = 0
      · subst x0
        obtain ⟨y, V2, W2, c1, c2, c3, c4, c5, c6, c7⟩ := go B1 id1 V1 W1 _ (bgX_t gT fx) (bgM_t gm fm) D1 (fun z => (ans_z an rfl z).trans (stT5 z)) (fun k hk => by rw [k45, k123]; exact hMT k hk) k46 (hH1 rfl).1 (k47 rfl) (by rw [k124, if_neg (by omega)]; exact rowW 0 (by omega)) (by rw [k124, if_neg (by omega)]; exact rowW 1 (by omega))
        exact ⟨y, V2, W2, c1, c2, c3, c4, c5, fun K h => left6 K (c6 K h), fun R h => right _ ⟨fun z => absurd z d0, fun _ => ⟨fun z => absurd z c128, fun _ => rzx_I g2 (r67 0 W1 R ⟨fun _ => c7 R h, fun z => absurd rfl z⟩)⟩⟩⟩
      · exact ⟨x, V1, W1, bgX_t gT fx, bgM_t gm fm, ⟨B1, id1, D1⟩, ans_t stT5 an, fun z => absurd z x0, fun K h => left6 K (vd_stop x0 (h.2 x0)), fun R h => right _ ⟨fun z => absurd z d0, fun _ => ⟨fun z => absurd z c128, fun _ => rzx_I g2 (r67 x W1 R ⟨fun z => absurd z x0, fun _ => h⟩)⟩⟩⟩
