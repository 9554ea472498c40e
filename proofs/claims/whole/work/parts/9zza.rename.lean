/-! commands: RENAME -/
theorem GX_p {c u k : Nat} {S : rz_S} {x : Int32} (hu : 108 ≤ u ∧ u < 113) : GX c S (rz_uI S u k x) := ⟨⟨fun _ _ => rfl, fun _ _ _ => ⟨rfl, rfl⟩, fun v z a => rz_uI_n (by omega), fun d a b z => ⟨rz_uI_n (by omega), rz_uI_n (by omega)⟩⟩, rfl, fun z => rz_uI_n (by omega)⟩
theorem GX_pf {c q : Nat} {S : rz_S} {f : Nat → Int32} (hq : 108 ≤ q ∧ q < 113) : GX c S (rz_fA S q f) := ⟨⟨fun p a => rz_fA_n (by omega), fun d a b => ⟨rz_fA_n (by omega), rz_fA_n (by omega)⟩, fun _ _ _ => rfl, fun _ _ _ _ => ⟨rfl, rfl⟩⟩, rz_fA_n (by omega), fun _ => rfl⟩
theorem pt109 : ptP 109 := ⟨rfl, rfl⟩
theorem pt111 : ptP 111 := ⟨rfl, rfl⟩
/-- a search from the beginning, both sides, of an ENTRY with a NAME -/
theorem fd_go {B : Nat → Nat → Bool} {pr : Bool} {id : Option (Nat × Nat)} {V W : rz_S} {kd p many q b nb : Nat} (hk : kd < 3) (hp : ptP p) (hp2 : 38 < p ∧ p ≠ 46) (hlen : V.2 p 1 = nI many) (hm : many ≤ 10) (hb : rz_T[b]? = some (.inl (0, nb))) (hnb : nb < 2 ^ 20) (hb2 : ¬ (118 ≤ b ∧ b ≤ 121) ∧ b ≠ 124) (hq : q + many ≤ nb) (hrow : ∀ i, i < many → V.1 (p + 1) i = W.1 b (q + i)) (D : Dk B pr id V W) : ∃ x V1 y W1, (∀ K : Int32 → rz_S → Prop, K x V1 → rz_ev mDirectory_rewind [.ref 46] V (rz_v (fun S => rz_ev mDirectory_find [.ref 46, .int (nI kd), .ref p] S (rz_i K)))) ∧ rzx mM_finds [.ref 116, .int (nI kd), .ref b, .int (nI q), .int (nI many)] W (some (.int y)) W1 ∧ fdE B pr V W x V1 y W1 := by
  obtain ⟨_, V0, e0, rfl, hV0⟩ := rzx_ev (c_rewind (S := V))
  have u0 : ∀ u z, u ≠ 46 → V0.2 u z = V.2 u z := fun u z hu => by rw [hV0]; simp (disch := omega) only [uI1, fA2, rz_fA_n, rz_uI_n, rz_fA_s, rz_uI_s, pk_us]
  have a0 : V0.1 = V.1 := by rw [hV0]; rfl
  obtain ⟨x, V1, y, W1, e1, e2, fx, fm, hD, alt⟩ := PR_find (Sx := V0) (Sm := W) (kd := kd) (p := p) (n := many) (b := b) (nb := nb) (q := q) ⟨hk, hp, hm, (u0 p 1 hp2.2).trans hlen, hb, hnb, fun _ => hq, fun _ i hi => by rw [a0]; exact hrow i hi, hp2, hb2⟩ (Dk_x D (fun q _ _ => by rw [a0]) (fun u z hu => u0 u z (by omega))) (by rw [hV0]; simp (disch := omega) only [uI1, fA2, rz_fA_n, rz_uI_n, rz_fA_s, rz_uI_s, pk_us]) (by rw [hV0]; simp (disch := omega) only [uI1, fA2, rz_fA_n, rz_uI_n, rz_fA_s, rz_uI_s, pk_us]) (by rw [hV0]; simp (disch := omega) only [uI1, fA2, rz_fA_n, rz_uI_n, rz_fA_s, rz_uI_s, pk_us]) (by rw [hV0]; simp (disch := omega) only [uI1, fA2, rz_fA_n, rz_uI_n, rz_fA_s, rz_uI_s, pk_us]) (by rw [hV0]; simp (disch := omega) only [uI1, fA2, rz_fA_n, rz_uI_n, rz_fA_s, rz_uI_s, pk_us])
  refine ⟨x, V1, y, W1, fun K h => rzx_V e0 (rzx_I e1 h), e2, ⟨fun q a b => by rw [fx.1 q a b, a0], fun u z a b c d => (fx.2 u z a b c d).trans (u0 u z d)⟩, fm, hD, ?_⟩
  rcases alt with ⟨xc, k1, k2, k3, k4, k5, k6, k7⟩ | ⟨k1, k2, k3, k4⟩
  · exact Or.inl ⟨xc, k1, k2, k3, k4, k5, k6, k7.trans (u0 3 3 (by omega))⟩
  · exact Or.inr ⟨fun z => (k1 z).trans (u0 3 z (by omega)), k2, k3, k4⟩
theorem r207 {S : rz_S} {m e : Nat} {K : Int32 → rz_S → Prop} (hm : m ≤ 10) (he : e < 4) (h29 : S.2 116 29 = nI e) (h : rz_ev mM_writeBlock [.ref 116, .int (S.2 116 27), .int (S.2 116 28), .ref 125, .int 0] (rz_fA S 125 (nmR (S.1 125) (fun i => S.1 151 (2 + i)) m (16 * e + 5))) (rz_i K)) : ∀ (w i : Nat) (T : rz_S), w + i = 10 → T = rz_fA S 125 (fun j => if 16 * e + 5 ≤ j ∧ j < 16 * e + 5 + i then pd (fun i => S.1 151 (2 + i)) m (j - (16 * e + 5)) else S.1 125 j) → rz mM_renames 207 [(0, .ref 116), (3, .int (nI m)), (6, .int (nI i))] [] T (rz_i K) := by
  intro w
  induction w with
  | zero =>
    intro i T hi hT
    have ei : i = 10 := by omega
    subst ei
    have t2 : T.2 = S.2 := by rw [hT]; rfl
    refine p_M_renames_207 ⟨fun _ => ?_, fun z => absurd (by decide) z⟩
    rw [t2, hT]
    exact h
  | succ w ih =>
    intro i T hi hT
    have t2 : T.2 = S.2 := by rw [hT]; rfl
    have t151 : T.1 151 = S.1 151 := by rw [hT]; simp (disch := omega) only [uI1, fA2, rz_fA_n, rz_uI_n, rz_fA_s, rz_uI_s, pk_us]
    have t125 : T.1 125 = fun j => if 16 * e + 5 ≤ j ∧ j < 16 * e + 5 + i then pd (fun i => S.1 151 (2 + i)) m (j - (16 * e + 5)) else S.1 125 j := by rw [hT]; simp (disch := omega) only [uI1, fA2, rz_fA_n, rz_uI_n, rz_fA_s, rz_uI_s, pk_us]
    have nx : ∀ v : Int32, v = pd (fun i => S.1 151 (2 + i)) m i → rz mM_renames 207 [(0, .ref 116), (3, .int (nI m)), (6, .int (nI (i + 1)))] [] (rz_fA T 125 (upd (T.1 125) (16 * e + 5 + i) v)) (rz_i K) := fun v hv => by
      refine ih (i + 1) _ (by omega) ?_
      rw [t125, hT, rz_fAA]
      congr 1
      funext j
      by_cases z : j = 16 * e + 5 + i
      · subst z
        rw [pk_us, if_pos ⟨by omega, by omega⟩, hv, show 16 * e + 5 + i - (16 * e + 5) = i by omega]
      · rw [pk_un z]
        by_cases q : 16 * e + 5 ≤ j ∧ j < 16 * e + 5 + i
        · rw [if_pos q, if_pos ⟨q.1, by omega⟩]
        · rw [if_neg q, if_neg (by omega)]
    have e5 : ((16 * nI e) + 5 : Int32) = nI (16 * e + 5) := by rw [show (16 * nI e : Int32) = nI (16 * e) from pk_mul 16 e]; exact nI_add _ 5
    have e2 : (2 : Int32) + nI i = nI (2 + i) := nI_add 2 i
    refine p_M_renames_207 ⟨fun d => ?_, fun _ => ⟨fun d => ?_, fun d => ?_⟩⟩
    · have := (nI_leI (a := 10) (by omega) (by omega)).mp d
      omega
    · have him : m ≤ i := (nI_leI (by omega) (by omega)).mp d
      rw [t2, h29, e5, nI_add, nI_clamp (by omega), nI_1]
      refine ⟨rin (by omega) (by omega), nx 160 ?_⟩
      unfold pd; rw [if_neg (by omega)]
    · have him : i < m := Decidable.byContradiction fun z => d (nI_le (by omega) (by omega))
      rw [t2, h29, e5, e2, nI_add, nI_clamp (by omega), nI_clamp (by omega), nI_1, t151]
      refine ⟨rin (by omega) (by omega), rin (by omega) (by omega), nx _ ?_⟩
      unfold pd; rw [if_pos him]
section CM5
variable {M n : Nat} {B : Nat → Nat → Bool} {pr : Bool} {id : Option (Nat × Nat)} {T U : rz_S}
theorem cm_fg {V W : rz_S} (hC : cmC M n B pr id T U) (xc t s : Nat) (h0 : xc ≠ 0) (hx : xc < 100 ∧ (xc = 0 ∨ xc = 1 ∨ 20 ≤ xc ∧ xc ≤ 26 ∨ xc = 28 ∨ 30 ≤ xc ∧ xc ≤ 34 ∨ 60 ≤ xc ∧ xc ≤ 66 ∨ 70 ≤ xc ∧ xc ≤ 74)) (gx : GX 99 T V) (gm : GM 99 U W) (hD : ∃ B id, Dk B pr id V W) (h3 : V.2 3 3 = T.2 3 3) : cmE M pr T U (nI xc) (st_set V (nI xc) (nI t) (nI s)) (rz_uI (rz_uI W 116 4 (nI t)) 116 5 (nI s)) := by
  obtain ⟨B', id', d⟩ := hD
  exact cm_g (c := 99) hC (GX_t gx GX_s) (GM_t gm (GM_t (GM_u (by omega)) (GM_u (by omega)))) ⟨B', id', Dk_mu (Dk_mu (st_set_dk d) (by omega)) (by omega)⟩ (ans_fl xc t s h0 hx h3) (fun z => absurd z (by decide))
theorem rn_pair (hC : cmC M n B pr id T U) (hn2 : 2 ≤ n) (hn40 : n ≤ 40) (hc : T.1 2 1 = 58) : CM M pr T U mCommands_rename mM_renames [.ref 108] [.ref 116, .int (nI n)] := by
  obtain ⟨hn, hl, htx, _⟩ := hC.1
  have hD := hC.2.1
  have lp : ∀ (w j : Nat) (K : Int32 → rz_S → Prop), j + w = n → rz mM_renames 25 [(0, .ref 116), (1, .int (nI n)), (2, .int (nI ((fnd (T.1 2) 61 n j).getD n)))] [] U (rz_i K) → rz mM_renames 2 [(0, .ref 116), (1, .int (nI n)), (2, .int (nI j))] [] U (rz_i K) := by
    intro w
    induction w with
    | zero =>
      intro j K e h
      rw [fnd_e (by omega)] at h
      have ej : j = n := by omega
      subst ej
      exact p_M_renames_2 ⟨fun _ => h, fun z => absurd (nI_le (by omega) (by omega)) z⟩
    | succ w ih =>
      intro j K e h
      refine p_M_renames_2 ⟨fun z => ?_, fun _ => ?_⟩
      · have := (nI_leI (a := n) (b := j) (by omega) (by omega)).mp z
        omega
      · rw [nI_clamp (by omega), ← (htx j (by omega)).1, nI_1]
        rw [fnd_s (by omega)] at h
        refine ⟨rin (by omega) (by omega), fun z => ?_, fun z => ?_⟩
        · rw [if_pos z] at h; exact h
        · rw [if_neg z] at h; exact ih (j + 1) K (by omega) h
  have right : ∀ K : Int32 → rz_S → Prop, rz mM_renames 25 [(0, .ref 116), (1, .int (nI n)), (2, .int (nI ((fnd (T.1 2) 61 n 2).getD n)))] [] U (rz_i K) → rz_ev mM_renames [.ref 116, .int (nI n)] U (rz_i K) := fun K h => by
    show rz _ 0 [(0, .ref 116), (1, .int (nI n))] [] _ _
    exact p_M_renames_0 (lp (n - 2) 2 K (by omega) h)
  have left : ∀ K : Int32 → rz_S → Prop, ((oI (fnd (T.1 2) 61 n 2) = -1 → rz mCommands_rename 93 [(0, .ref 108)] [] T (rz_i K)) ∧ (¬ oI (fnd (T.1 2) 61 n 2) = -1 → rz_ev mPattern_take [.ref 109, .ref 1, .int 2, .int (oI (fnd (T.1 2) 61 n 2))] T (rz_i (fun xq5 Sq5 => ((xq5 = 0 → rz mCommands_rename 93 [(0, .ref 108)] [] Sq5 (rz_i K)) ∧ (¬ xq5 = 0 → rz_ev mPattern_take [.ref 111, .ref 1, .int (oI (fnd (T.1 2) 61 n 2) + 1), .int (Sq5.2 1 2)] Sq5 (rz_i (fun xq7 Sq7 => ((xq7 = 0 → rz mCommands_rename 93 [(0, .ref 108)] [] Sq7 (rz_i K)) ∧ (¬ xq7 = 0 → rz_ev mPattern_isEmpty [.ref 109] Sq7 (rz_i (fun xq9 Sq9 => ((xq9 = 0 → rz_ev mPattern_isEmpty [.ref 111] Sq9 (rz_i (fun xq11 Sq11 => ((xq11 = 0 → rz mCommands_rename 94 [(0, .ref 108)] [.int 1] Sq11 (rz_i K)) ∧ (¬ xq11 = 0 → rz mCommands_rename 93 [(0, .ref 108)] [] Sq11 (rz_i K)))))) ∧ (¬ xq9 = 0 → rz mCommands_rename 93 [(0, .ref 108)] [] Sq9 (rz_i K))))))))))))))) → rz_ev mCommands_rename [.ref 108] T (rz_i K) := fun K h => by
    show rz _ 0 [(0, .ref 108)] [] _ _
    refine p_Commands_rename_0 (rz_toI (c_find (i := 2) hn hl (by omega)) (rz_toI (c_byteAt (i := 1) hn hl (by omega)) ?_))
    rw [if_pos (by omega), hc]
    exact ⟨fun _ => h, fun z => absurd rfl z⟩
  have no30 : ∀ V : rz_S, GX 99 T V → Dk B pr id V U → V.2 3 3 = T.2 3 3 → (∀ K : Int32 → rz_S → Prop, rz mCommands_rename 93 [(0, .ref 108)] [] V (rz_i K) → rz_ev mCommands_rename [.ref 108] T (rz_i K)) → (∀ K : Int32 → rz_S → Prop, rz mM_renames 64 [(0, .ref 116)] [] U (rz_i K) → rz_ev mM_renames [.ref 116, .int (nI n)] U (rz_i K)) → CM M pr T U mCommands_rename mM_renames [.ref 108] [.ref 116, .int (nI n)] := fun V gx d h3 l r => ⟨nI 30, _, _, cm_fg hC 30 0 0 (by omega) (by omega) gx (GM_r 99 U) ⟨B, id, d⟩ h3, rzx_of (fun K h => l K (p_Commands_rename_93 (p_Commands_rename_94 ⟨fun _ => rz_toI (c_Status_set _ _ _) h, fun z => absurd rfl z⟩))), rzx_of (fun K h => r K (p_M_renames_64 (rz_toI (c_M_fault _ _ _) h)))⟩
  cases hf : fnd (T.1 2) 61 n 2 with
  | none =>
    rw [hf] at left right
    exact no30 T (GX_r 99 T) hD rfl (fun K h => left K ⟨fun _ => h, fun z => absurd rfl z⟩) (fun K h => right K (p_M_renames_25 ⟨fun _ => h, fun z => absurd rfl z⟩))
  | some q =>
    obtain ⟨q2, qn, _⟩ := fnd_lt hf
    rw [hf] at left right
    rw [show (some q).getD n = q from rfl] at right
    have left1 : ∀ K : Int32 → rz_S → Prop, rz_ev mPattern_take [.ref 109, .ref 1, .int (nI 2), .int (nI q)] T (rz_i (fun xq5 Sq5 => ((xq5 = 0 → rz mCommands_rename 93 [(0, .ref 108)] [] Sq5 (rz_i K)) ∧ (¬ xq5 = 0 → rz_ev mPattern_take [.ref 111, .ref 1, .int (nI (q + 1)), .int (Sq5.2 1 2)] Sq5 (rz_i (fun xq7 Sq7 => ((xq7 = 0 → rz mCommands_rename 93 [(0, .ref 108)] [] Sq7 (rz_i K)) ∧ (¬ xq7 = 0 → rz_ev mPattern_isEmpty [.ref 109] Sq7 (rz_i (fun xq9 Sq9 => ((xq9 = 0 → rz_ev mPattern_isEmpty [.ref 111] Sq9 (rz_i (fun xq11 Sq11 => ((xq11 = 0 → rz mCommands_rename 94 [(0, .ref 108)] [.int 1] Sq11 (rz_i K)) ∧ (¬ xq11 = 0 → rz mCommands_rename 93 [(0, .ref 108)] [] Sq11 (rz_i K)))))) ∧ (¬ xq9 = 0 → rz mCommands_rename 93 [(0, .ref 108)] [] Sq9 (rz_i K))))))))))))) → rz_ev mCommands_rename [.ref 108] T (rz_i K) := fun K h => left K ⟨fun z => absurd z (nI_m1 (by omega)), fun _ => by
      rw [← nI_1 q] at h
      exact h⟩
    have right1 : ∀ K : Int32 → rz_S → Prop, ((q - 2 = 0 ∨ 10 < q - 2 ∨ n - q - 1 < 1 ∨ 10 < n - q - 1) → rz mM_renames 64 [(0, .ref 116)] [] U (rz_i K)) → (¬ (q - 2 = 0 ∨ 10 < q - 2 ∨ n - q - 1 < 1 ∨ 10 < n - q - 1) → rz_ev mM_isWild [.ref 116, .int (nI 2), .int (nI (q - 2))] U (rz_i (fun xq6 Sq6 => ((xq6 = 0 → rz_ev mM_isWild [.ref 116, .int (nI (q + 1)), .int (nI (n - q - 1))] Sq6 (rz_i (fun xq8 Sq8 => ((xq8 = 0 → rz_ev mM_finds [.ref 116, .int (nI 1), .ref 151, .int (nI 2), .int (nI (q - 2))] Sq8 (rz_i (fun xq10 Sq10 => ((xq10 = 0 → rz_ev mM_fault [.ref 116, .int 63, .int 0, .int 0] Sq10 (rz_i (fun xq19 Sq19 => K xq19 Sq19))) ∧ (¬ xq10 = 0 → ((xq10 ≤ 0 → rz_ev mM_finds [.ref 116, .int (nI 1), .ref 151, .int (nI (q + 1)), .int (nI (n - q - 1))] Sq10 (rz_i (fun xq13 Sq13 => ((xq13 = (-1) → rz_ev mM_fault [.ref 116, .int 62, .int 0, .int 0] Sq13 (rz_i (fun xq18 Sq18 => K xq18 Sq18))) ∧ (¬ xq13 = (-1) → ((xq13 = 0 → rz_ev mM_readBlock [.ref 116, .int (Sq13.2 116 27), .int (Sq13.2 116 28), .ref 125, .int (nI 0)] Sq13 (rz_i (fun xq16 Sq16 => ((xq16 = 0 → rz mM_renames 207 [(0, .ref 116), (3, .int (nI (q - 2))), (6, .int (nI 0))] [] Sq16 (rz_i K)) ∧ (¬ xq16 = 0 → K xq16 Sq16))))) ∧ (¬ xq13 = 0 → K xq13 Sq13))))))) ∧ (¬ xq10 ≤ 0 → K xq10 Sq10))))))) ∧ (¬ xq8 = 0 → rz mM_renames 94 [(0, .ref 116)] [] Sq8 (rz_i K)))))) ∧ (¬ xq6 = 0 → rz mM_renames 94 [(0, .ref 116)] [] Sq6 (rz_i K)))))) → rz_ev mM_renames [.ref 116, .int (nI n)] U (rz_i K) := fun K hb hg => by
      refine right K (p_M_renames_25 ?_)
      have a1 : (nI q : Int32) - 2 = nI (q - 2) := pk_sub (b := 2) (by omega)
      have a2 : (nI n - nI q : Int32) - 1 = nI (n - q - 1) := by rw [pk_sub (by omega)]; exact pk_sub (b := 1) (by omega)
      have a3 : (nI q : Int32) + 1 = nI (q + 1) := nI_1 q
      rw [a1, a2, a3]
      refine ⟨fun z => ?_, fun _ => ⟨fun z => hb ?_, fun z1 => ⟨fun z => hb ?_, fun z2 => ⟨fun z => hb ?_, fun z3 => ⟨fun z4 => hg ?_, fun z => hb ?_⟩⟩⟩⟩⟩
      · have := (nI_eq (by omega) (by omega)).mp z
        omega
      · exact Or.inl ((nI_eq (b := 0) (by omega) (by omega)).mp z)
      · exact Or.inr (Or.inl ((nI_ltI (a := 10) (by omega) (by omega)).mp z))
      · exact Or.inr (Or.inr (Or.inl ((nI_ltI (b := 1) (by omega) (by omega)).mp z)))
      · have y1 : ¬ q - 2 = 0 := fun y => z1 (by rw [y]; rfl)
        have y2 : ¬ 10 < q - 2 := fun y => z2 (nI_lt (a := 10) y (by omega))
        have y3 : ¬ n - q - 1 < 1 := fun y => z3 (nI_lt (b := 1) y (by omega))
        have y4 := (nI_leI (b := 10) (by omega) (by omega)).mp z4
        omega
      · have y4 : ¬ n - q - 1 ≤ 10 := fun y => z (nI_le (b := 10) y (by omega))
        omega
    have mk30 : ∀ V : rz_S, GX 99 T V → Dk B pr id V U → V.2 3 3 = T.2 3 3 → (q - 2 = 0 ∨ 10 < q - 2 ∨ n - q - 1 < 1 ∨ 10 < n - q - 1) → (∀ K : Int32 → rz_S → Prop, rz mCommands_rename 93 [(0, .ref 108)] [] V (rz_i K) → rz_ev mCommands_rename [.ref 108] T (rz_i K)) → CM M pr T U mCommands_rename mM_renames [.ref 108] [.ref 116, .int (nI n)] := fun V gx d h3 hb l => no30 V gx d h3 l (fun K h => right1 K (fun _ => h) (fun z => absurd hb z))
    obtain ⟨_, V1, e1, x1, rfl, h1⟩ := rzx_ev (c_take (S := T) (p := 109) (n := n) (f := 2) (t := q) pt109 (by omega) hn hl (by omega) (by omega))
    rcases h1 with ⟨rfl, rfl, hlt⟩ | ⟨rfl, hle, g1, hV1, hg1⟩
    · exact mk30 V1 (GX_r 99 V1) hD rfl (by omega) (fun K h => left1 K (rzx_I e1 ⟨fun _ => h, fun z => absurd rfl z⟩))
    · have gV1 : GX 99 T V1 := by rw [hV1]; exact GX_t (GX_p (by omega)) (GX_pf (by omega))
      have uV1 : ∀ u z, u ≠ 109 → V1.2 u z = T.2 u z := fun u z hu => by rw [hV1]; simp (disch := omega) only [uI1, fA2, rz_fA_n, rz_uI_n, rz_fA_s, rz_uI_s, pk_us]
      have aV1 : ∀ p, p ≠ 110 → V1.1 p = T.1 p := fun p hp => by rw [hV1]; simp (disch := omega) only [uI1, fA2, rz_fA_n, rz_uI_n, rz_fA_s, rz_uI_s, pk_us]
      have DV1 : Dk B pr id V1 U := Dk_x hD (fun q a b => aV1 q (by omega)) (fun u z hu => uV1 u z (by omega))
      have hl1 : V1.2 1 2 = nI n := (uV1 1 2 (by omega)).trans hl
      obtain ⟨_, V2, e2, x2, rfl, h2⟩ := rzx_ev (c_take (S := V1) (p := 111) (n := n) (f := q + 1) (t := n) pt111 (by omega) hn hl1 (by omega) (by omega))
      rcases h2 with ⟨rfl, rfl, hlt⟩ | ⟨rfl, hle2, g2, hV2, hg2⟩
      · refine mk30 V2 gV1 DV1 (uV1 3 3 (by omega)) (by omega) (fun K h => left1 K (rzx_I e1 ⟨fun z => absurd z (by decide), fun _ => ?_⟩))
        rw [hl1]
        exact rzx_I e2 ⟨fun _ => h, fun z => absurd rfl z⟩
      · have gV2 : GX 99 T V2 := GX_t gV1 (by rw [hV2]; exact GX_t (GX_p (by omega)) (GX_pf (by omega)))
        have uV2 : ∀ u z, u ≠ 109 → u ≠ 111 → V2.2 u z = T.2 u z := fun u z hu hu2 => by
          have : V2.2 u z = V1.2 u z := by rw [hV2]; simp (disch := omega) only [uI1, fA2, rz_fA_n, rz_uI_n, rz_fA_s, rz_uI_s, pk_us]
          exact this.trans (uV1 u z hu)
        have aV2 : ∀ p, p ≠ 110 → p ≠ 112 → V2.1 p = T.1 p := fun p hp hp2 => by
          have : V2.1 p = V1.1 p := by rw [hV2]; simp (disch := omega) only [uI1, fA2, rz_fA_n, rz_uI_n, rz_fA_s, rz_uI_s, pk_us]
          exact this.trans (aV1 p hp)
        have l109 : V2.2 109 1 = nI (q - 2) := by rw [hV2, hV1]; simp (disch := omega) only [uI1, fA2, rz_fA_n, rz_uI_n, rz_fA_s, rz_uI_s, pk_us]
        have l111 : V2.2 111 1 = nI (n - q - 1) := by rw [hV2]; simp (disch := omega) only [uI1, fA2, rz_fA_n, rz_uI_n, rz_fA_s, rz_uI_s, pk_us]; rw [Nat.sub_sub]
        have r110 : ∀ i, i < q - 2 → V2.1 110 i = U.1 151 (2 + i) := fun i hi => by
          rw [hV2, hV1]; simp (disch := omega) only [uI1, fA2, rz_fA_n, rz_uI_n, rz_fA_s, rz_uI_s, pk_us]
          rw [hg1 i hi, if_pos (by omega)]
          exact (htx _ (by omega)).1
        have b110 : ∀ i, i < q - 2 → byt (V2.1 110 i) := fun i hi => by
          rw [hV2, hV1]; simp (disch := omega) only [uI1, fA2, rz_fA_n, rz_uI_n, rz_fA_s, rz_uI_s, pk_us]
          rw [hg1 i hi, if_pos (by omega)]
          exact (htx _ (by omega)).2
        have r112 : ∀ i, i < n - q - 1 → V2.1 112 i = U.1 151 (q + 1 + i) := fun i hi => by
          rw [hV2]; simp (disch := omega) only [uI1, fA2, rz_fA_n, rz_uI_n, rz_fA_s, rz_uI_s, pk_us]
          rw [hg2 i (by omega), if_pos (by omega), aV1 2 (by omega)]
          exact (htx _ (by omega)).1
        have DV2 : Dk B pr id V2 U := Dk_x hD (fun q a b => aV2 q (by omega) (by omega)) (fun u z hu => uV2 u z (by omega) (by omega))
        have left2 : ∀ K : Int32 → rz_S → Prop, ((q - 2 = 0 ∨ n - q - 1 = 0) → rz mCommands_rename 93 [(0, .ref 108)] [] V2 (rz_i K)) → (¬ (q - 2 = 0 ∨ n - q - 1 = 0) → rz mCommands_rename 94 [(0, .ref 108)] [.int 1] V2 (rz_i K)) → rz_ev mCommands_rename [.ref 108] T (rz_i K) := fun K hb hg => left1 K (rzx_I e1 ⟨fun z => absurd z (by decide), fun _ => by
          rw [hl1]
          refine rzx_I e2 ⟨fun z => absurd z (by decide), fun _ => ?_⟩
          show rz _ 0 [(0, .ref 109)] [] _ _
          refine p_Pattern_isEmpty_0 pt109 ?_
          rw [l109]
          refine ⟨fun z => ⟨fun y => absurd y (by decide), fun _ => hb (Or.inl ((nI_eq (b := 0) (by omega) (by omega)).mp z))⟩, fun z => ⟨fun _ => ?_, fun y => absurd rfl y⟩⟩
          show rz _ 0 [(0, .ref 111)] [] _ _
          refine p_Pattern_isEmpty_0 pt111 ?_
          rw [l111]
          refine ⟨fun z2 => ⟨fun y => absurd y (by decide), fun _ => hb (Or.inr ((nI_eq (b := 0) (by omega) (by omega)).mp z2))⟩, fun z2 => ⟨fun _ => hg (fun y => ?_), fun y => absurd rfl y⟩⟩
          rcases y with y | y
          · exact z (by rw [y]; rfl)
          · exact z2 (by rw [y]; rfl)⟩)
        by_cases hem : q - 2 = 0 ∨ n - q - 1 = 0
        · exact mk30 V2 gV2 DV2 (uV2 3 3 (by omega) (by omega)) (by omega) (fun K h => left2 K (fun _ => h) (fun z => absurd hem z))
        · have good : ¬ (q - 2 = 0 ∨ 10 < q - 2 ∨ n - q - 1 < 1 ∨ 10 < n - q - 1) := by omega
          have w1 : wlF (V2.1 110) (q - 2) 0 = wlF (fun i => U.1 151 (2 + i)) (q - 2) 0 := wlF_c r110 _ 0 (by omega)
          have w2 : wlF (V2.1 112) (n - q - 1) 0 = wlF (fun i => U.1 151 (q + 1 + i)) (n - q - 1) 0 := wlF_c r112 _ 0 (by omega)
          have cw1 := c_Pattern_isWild (S := V2) (p := 109) (n := q - 2) pt109 (by omega) l109
          have cw2 := c_Pattern_isWild (S := V2) (p := 111) (n := n - q - 1) pt111 (by omega) l111
          have cm1 := c_M_isWild (S := U) (n := q - 2) (q := 2) (by omega)
          have cm2 := c_M_isWild (S := U) (n := n - q - 1) (q := q + 1) (by omega)
          rw [w1] at cw1
          rw [w2] at cw2
          generalize wlF (fun i => U.1 151 (2 + i)) (q - 2) 0 = k1 at cw1 cm1
          generalize wlF (fun i => U.1 151 (q + 1 + i)) (n - q - 1) 0 = k2 at cw2 cm2
          have wild : ∀ K : Int32 → rz_S → Prop, (k1 = true ∨ k2 = true) → K (nI 33) (st_set V2 (nI 33) (nI 0) (nI 0)) → rz mCommands_rename 94 [(0, .ref 108)] [.int 1] V2 (rz_i K) := fun K hk h => by
            have h131 : rz mCommands_rename 131 [(0, .ref 108)] [] V2 (rz_i K) := p_Commands_rename_131 (rz_toI (c_Status_set _ _ _) h)
            refine p_Commands_rename_94 ⟨fun z => absurd z (by decide), fun _ => rz_toI cw1 ⟨fun z => rz_toI cw2 ⟨fun z2 => ?_, fun _ => h131⟩, fun _ => h131⟩⟩
            rcases hk with y | y
            · rw [y] at z; exact absurd z (by decide)
            · rw [y] at z2; exact absurd z2 (by decide)
          by_cases hk : k1 = true ∨ k2 = true
          · refine ⟨nI 33, _, _, cm_fg hC 33 0 0 (by omega) (by omega) gV2 (GM_r 99 U) ⟨B, id, DV2⟩ (uV2 3 3 (by omega) (by omega)), rzx_of (fun K h => left2 K (fun z => absurd z hem) (fun _ => wild K hk h)), rzx_of (fun K h => right1 K (fun z => absurd z good) (fun _ => ?_))⟩
            have h94 : rz mM_renames 94 [(0, .ref 116)] [] U (rz_i K) := p_M_renames_94 (rz_toI (c_M_fault _ _ _) h)
            refine rz_toI cm1 ⟨fun z => rz_toI cm2 ⟨fun z2 => ?_, fun _ => h94⟩, fun _ => h94⟩
            rcases hk with y | y
            · rw [y] at z; exact absurd z (by decide)
            · rw [y] at z2; exact absurd z2 (by decide)
          · have kf1 : k1 = false := by
              cases k1 with
              | true => exact absurd (Or.inl rfl) hk
              | false => rfl
            have kf2 : k2 = false := by
              cases k2 with
              | true => exact absurd (Or.inr rfl) hk
              | false => rfl
            subst kf1 kf2
            obtain ⟨x3, V3, y3, W3, l3, r3, fx3, fm3, ⟨id3, D3⟩, alt3⟩ := fd_go (kd := 1) (p := 109) (many := q - 2) (q := 2) (b := 151) (nb := 401) (by omega) pt109 (by omega) l109 (by omega) rfl (by omega) (by omega) (by omega) r110 DV2
            have left3 : ∀ K : Int32 → rz_S → Prop, ((x3 = 0 → ((V3.2 46 5 = 0 → rz mCommands_rename 189 [(0, .ref 108), (3, .int x3)] [] V3 (rz_i K)) ∧ (¬ V3.2 46 5 = 0 → rz_ev mStatus_set [.ref 3, .int 63, .int 0, .int 0] V3 (rz_i (fun xq10 Sq10 => K xq10 Sq10))))) ∧ (¬ x3 = 0 → rz mCommands_rename 189 [(0, .ref 108), (3, .int x3)] [] V3 (rz_i K))) → rz_ev mCommands_rename [.ref 108] T (rz_i K) := fun K h => left2 K (fun z => absurd z hem) (fun _ => p_Commands_rename_94 ⟨fun z => absurd z (by decide), fun _ => rz_toI cw1 ⟨fun _ => rz_toI cw2 ⟨fun _ => l3 _ h, fun z => absurd rfl z⟩, fun z => absurd rfl z⟩⟩)
            have right3 : ∀ K : Int32 → rz_S → Prop, ((y3 = 0 → rz_ev mM_fault [.ref 116, .int 63, .int 0, .int 0] W3 (rz_i (fun xq19 Sq19 => K xq19 Sq19))) ∧ (¬ y3 = 0 → ((y3 ≤ 0 → rz_ev mM_finds [.ref 116, .int (nI 1), .ref 151, .int (nI (q + 1)), .int (nI (n - q - 1))] W3 (rz_i (fun xq13 Sq13 => ((xq13 = (-1) → rz_ev mM_fault [.ref 116, .int 62, .int 0, .int 0] Sq13 (rz_i (fun xq18 Sq18 => K xq18 Sq18))) ∧ (¬ xq13 = (-1) → ((xq13 = 0 → rz_ev mM_readBlock [.ref 116, .int (Sq13.2 116 27), .int (Sq13.2 116 28), .ref 125, .int (nI 0)] Sq13 (rz_i (fun xq16 Sq16 => ((xq16 = 0 → rz mM_renames 207 [(0, .ref 116), (3, .int (nI (q - 2))), (6, .int (nI 0))] [] Sq16 (rz_i K)) ∧ (¬ xq16 = 0 → K xq16 Sq16))))) ∧ (¬ xq13 = 0 → K xq13 Sq13))))))) ∧ (¬ y3 ≤ 0 → K y3 W3)))) → rz_ev mM_renames [.ref 116, .int (nI n)] U (rz_i K) := fun K h => right1 K (fun z => absurd z good) (fun _ => rz_toI cm1 ⟨fun _ => rz_toI cm2 ⟨fun _ => rzx_I r3 h, fun z => absurd rfl z⟩, fun z => absurd rfl z⟩)
            have gV3 : GX 99 T V3 := GX_t gV2 (GX_fd fx3)
            have gW3 : GM 99 U W3 := GM_fd fm3
            rcases alt3 with ⟨xc, xz, x100, ex, ey, hfl, f5, h33⟩ | ⟨st3, ex, _, t, s, k, t1, t2, s1, k1, k6, p1, p2, p3, p30, p31, p32, alt⟩
            · have xne : ¬ nI xc = 0 := nI_ne0 (by omega) (by omega)
              have xnle : ¬ nI xc ≤ 0 := fun z => by have := (nI_leI (b := 0) (by omega) (by omega)).mp z; omega
              subst ex
              subst ey
              exact ⟨nI xc, V3, W3, cm_g (c := 99) hC gV3 gW3 ⟨B, id3, D3⟩ (Or.inr ⟨xc, xz, x100, rfl, hfl, h33.trans (uV2 3 3 (by omega) (by omega))⟩) (fun z => absurd z (by decide)), rzx_of (fun K h => left3 K ⟨fun z => absurd z xne, fun _ => p_Commands_rename_189 ⟨fun z => absurd z xne, fun _ => p_Commands_rename_213 ⟨fun z => absurd z xne, fun _ => p_Commands_rename_239 ⟨fun z => absurd z xne, fun _ => h⟩⟩⟩⟩), rzx_of (fun K h => right3 K ⟨fun z => absurd z xne, fun _ => ⟨fun z => absurd z xnle, fun _ => h⟩⟩)⟩
            · subst ex
              have sT3 : ∀ z, V3.2 3 z = T.2 3 z := fun z => (st3 z).trans (uV2 3 z (by omega) (by omega))
              rcases alt with ⟨rfl, f5, _⟩ | ⟨rfl, f5, _⟩
              · refine ⟨nI 63, _, _, cm_fg hC 63 0 0 (by omega) (by omega) gV3 gW3 ⟨B, id3, D3⟩ (sT3 3), rzx_of (fun K h => left3 K ⟨fun _ => ⟨fun z => ?_, fun _ => rz_toI (c_Status_set _ _ _) h⟩, fun z => absurd rfl z⟩), rzx_of (fun K h => right3 K ⟨fun _ => rz_toI (c_M_fault _ _ _) h, fun z => absurd rfl z⟩)⟩
                rw [f5] at z; exact absurd z (by decide)
              · have kf : ∀ u z, (u = 109 ∨ u = 111) → V3.2 u z = V2.2 u z := fun u z hu => fx3.2 u z (by omega) (by omega) (by omega) (by omega)
                have ka : ∀ p, (p = 110 ∨ p = 112) → V3.1 p = V2.1 p := fun p hp => fx3.1 p (by omega) (by omega)
                have w151 : W3.1 151 = U.1 151 := fm3.1 151 (by omega) (by omega)
                obtain ⟨x4, V4, y4, W4, l4, r4, fx4, fm4, ⟨id4, D4⟩, alt4⟩ := fd_go (kd := 1) (p := 111) (many := n - q - 1) (q := q + 1) (b := 151) (nb := 401) (by omega) pt111 (by omega) ((kf 111 1 (by omega)).trans l111) (by omega) rfl (by omega) (by omega) (by omega) (fun i hi => by rw [ka _ (Or.inr rfl), w151]; exact r112 i hi) D3
                have left4 : ∀ K : Int32 → rz_S → Prop, rz mCommands_rename 213 [(0, .ref 108), (3, .int x4)] [] V4 (rz_i K) → rz_ev mCommands_rename [.ref 108] T (rz_i K) := fun K h => left3 K ⟨fun _ => ⟨fun _ => p_Commands_rename_189 ⟨fun _ => l4 _ h, fun z => absurd rfl z⟩, fun z => absurd f5 z⟩, fun z => absurd rfl z⟩
                have right4 : ∀ K : Int32 → rz_S → Prop, ((y4 = (-1) → rz_ev mM_fault [.ref 116, .int 62, .int 0, .int 0] W4 (rz_i (fun xq18 Sq18 => K xq18 Sq18))) ∧ (¬ y4 = (-1) → ((y4 = 0 → rz_ev mM_readBlock [.ref 116, .int (W4.2 116 27), .int (W4.2 116 28), .ref 125, .int (nI 0)] W4 (rz_i (fun xq16 Sq16 => ((xq16 = 0 → rz mM_renames 207 [(0, .ref 116), (3, .int (nI (q - 2))), (6, .int (nI 0))] [] Sq16 (rz_i K)) ∧ (¬ xq16 = 0 → K xq16 Sq16))))) ∧ (¬ y4 = 0 → K y4 W4)))) → rz_ev mM_renames [.ref 116, .int (nI n)] U (rz_i K) := fun K h => right3 K ⟨fun z => absurd z (by decide), fun _ => ⟨fun _ => rzx_I r4 h, fun z => absurd (by decide) z⟩⟩
                have gV4 : GX 99 T V4 := GX_t gV3 (GX_fd fx4)
                have gW4 : GM 99 U W4 := GM_t gW3 (GM_fd fm4)
                rcases alt4 with ⟨xc, xz, x100, ex, ey, hfl, f5', h33⟩ | ⟨st4, ex, _, t, s, k, t1, t2, s1, k1, k6, p1, p2, p3, p30, p31, p32, alt⟩
                · have xne : ¬ nI xc = 0 := nI_ne0 (by omega) (by omega)
                  subst ex
                  subst ey
                  exact ⟨nI xc, V4, W4, cm_g (c := 99) hC gV4 gW4 ⟨B, id4, D4⟩ (Or.inr ⟨xc, xz, x100, rfl, hfl, h33.trans (sT3 3)⟩) (fun z => absurd z (by decide)), rzx_of (fun K h => left4 K (p_Commands_rename_213 ⟨fun z => absurd z xne, fun _ => p_Commands_rename_239 ⟨fun z => absurd z xne, fun _ => h⟩⟩)), rzx_of (fun K h => right4 K ⟨fun z => absurd z (nI_m1 (by omega)), fun _ => ⟨fun z => absurd z xne, fun _ => h⟩⟩)⟩
                · subst ex
                  have sT4 : ∀ z, V4.2 3 z = T.2 3 z := fun z => (st4 z).trans (sT3 z)
                  rcases alt with ⟨rfl, f5', p27, p28, e, he, p4, p29⟩ | ⟨rfl, f5', _⟩
                  · have tb := sct_b t1 t2
                    have len : V4.2 109 1 = nI (q - 2) := (fx4.2 109 1 (by omega) (by omega) (by omega) (by omega)).trans ((kf 109 1 (by omega)).trans l109)
                    have row : V4.1 110 = V2.1 110 := (fx4.1 110 (by omega) (by omega)).trans (ka 110 (Or.inl rfl))
                    have w151' : W4.1 151 = U.1 151 := (fm4.1 151 (by omega) (by omega)).trans w151
                    obtain ⟨x5, V5, y5, W5, c1, c2, rfl, xc, id5, ex5, x100, D5, f1, f2, o1, n1⟩ := PR_read (s := s) (a := 47) (a' := 125) (at0 := 0) (na := 64) D4 t1 t2 (by omega) rfl (by omega) rfl (by omega) (by omega) (by omega)
                    have left5 : ∀ K : Int32 → rz_S → Prop, ((x5 = 0 → rz_ev mDirectory_base [.ref 46] V5 (rz_i (fun xq3 Sq3 => rz_ev mPattern_putInto [.ref 109, .ref 47, .int (xq3 + 5)] Sq3 (rz_v (fun Sq4 => rz_ev mDisk_writeBlock [.ref 6, .int (Sq4.2 46 1), .int (Sq4.2 46 2), .ref 47] Sq4 (rz_i (fun xq5 Sq5 => K xq5 Sq5))))))) ∧ (¬ x5 = 0 → K x5 V5)) → rz_ev mCommands_rename [.ref 108] T (rz_i K) := fun K h => left4 K (p_Commands_rename_213 ⟨fun _ => ⟨fun z => by rw [f5'] at z; exact absurd z (by decide), fun _ => p_Commands_rename_239 ⟨fun _ => by
                      show rz _ 0 [(0, .ref 46), (1, .ref 109)] [] _ _
                      refine p_Directory_changeName_0 pt109 ?_
                      rw [p1, p2]
                      exact rzx_I c1 h, fun z => absurd rfl z⟩⟩, fun z => absurd rfl z⟩)
                    have right5 : ∀ K : Int32 → rz_S → Prop, ((x5 = 0 → rz mM_renames 207 [(0, .ref 116), (3, .int (nI (q - 2))), (6, .int (nI 0))] [] W5 (rz_i K)) ∧ (¬ x5 = 0 → K x5 W5)) → rz_ev mM_renames [.ref 116, .int (nI n)] U (rz_i K) := fun K h => right4 K ⟨fun z => absurd z (by decide), fun _ => ⟨fun _ => by
                      rw [p27, p28]
                      exact rzx_I c2 h, fun z => absurd rfl z⟩⟩
                    have gV5 : GX 99 T V5 := GX_t gV4 (GX_b (bgX_rF (by omega) f1))
                    have gW5 : GM 99 U W5 := GM_t gW4 (GM_b (bgM_kFa (by omega) f2))
                    by_cases xz : xc = 0
                    · subst xz
                      subst ex5
                      obtain ⟨⟨dd, hd⟩, st5⟩ := o1 rfl
                      have v46 : ∀ z, V5.2 46 z = V4.2 46 z := fun z => f1.2 46 z (by omega) (by omega) (by omega)
                      have len5 : V5.2 109 1 = nI (q - 2) := (f1.2 109 1 (by omega) (by omega) (by omega)).trans len
                      have row5 : V5.1 110 = V2.1 110 := (f1.1 110 (by omega) (by omega)).trans row
                      have w5 : W5.1 151 = U.1 151 := (f2.1 151 (by omega) (by omega)).trans w151'
                      have s27 : W5.2 116 27 = nI t := (f2.2.2 116 27 (by omega)).trans p27
                      have s28 : W5.2 116 28 = nI s := (f2.2.2 116 28 (by omega)).trans p28
                      have s29 : W5.2 116 29 = nI e := (f2.2.2 116 29 (by omega)).trans p29
                      have hrow : ∀ k, k < 64 → nmR (V5.1 47) (V5.1 110) (q - 2) (16 * e + 5) k = nmR (W5.1 125) (fun i => W5.1 151 (2 + i)) (q - 2) (16 * e + 5) k ∧ byt (nmR (V5.1 47) (V5.1 110) (q - 2) (16 * e + 5) k) := nmR_c (fun j hj => ⟨by
                        have := hd j hj
                        rw [Nat.zero_add] at this
                        exact this.1.trans this.2.1.symm, ⟨dd j, (hd j hj).2.2, (hd j hj).1⟩⟩) (fun i hi => ⟨by rw [row5, w5]; exact r110 i hi, by rw [row5]; exact b110 i hi⟩)
                      generalize hF : nmR (V5.1 47) (V5.1 110) (q - 2) (16 * e + 5) = F at hrow
                      generalize hG : nmR (W5.1 125) (fun i => W5.1 151 (2 + i)) (q - 2) (16 * e + 5) = G at hrow
                      obtain ⟨rr, hr⟩ := row_nat (F := F) (G := G) hrow
                      obtain ⟨x6, V6, y6, W6, j1, j2, rfl, xc6, id6, B6, ex6, x106, D6, h1, h2, o2, n2⟩ := PR_write (Sx := rz_fA V5 47 F) (Sm := rz_fA W5 125 G) (s := s) (a := 47) (a' := 125) (at0 := 0) (na := 64) (Dk_mf (Dk_xf D5 (by omega)) (by omega)) t1 t2 (by omega) rfl (by omega) rfl (by omega) (by omega) (by omega) (fun k hk => by rw [rz_fA_s, rz_fA_s]; exact hr k hk)
                      have an6 : ans T x6 V6 W6 := by
                        refine ans_t (Tx := V5) (fun z => (st5 z).trans (sT4 z)) ?_
                        by_cases z : xc6 = 0
                        · exact Or.inl ⟨by rw [ex6, z]; rfl, o2 z⟩
                        · obtain ⟨hfl, h33⟩ := n2 z
                          exact Or.inr ⟨xc6, z, x106, ex6, hfl, h33⟩
                      refine ⟨x6, V6, W6, cm_g (c := 99) hC (GX_t gV5 (GX_t (GX_f2 (by omega)) (GX_b (bgX_rF (by omega) h1)))) (GM_t gW5 (GM_t (GM_b (bgM_f (by omega))) (GM_b (bgM_wM h2)))) ⟨B6, id6, D6⟩ an6 (fun z => absurd z (by decide)), rzx_of (fun K h => left5 K ⟨fun _ => rz_toI (c_Directory_base he ((v46 4).trans p4)) ?_, fun z => absurd rfl z⟩), rzx_of (fun K h => right5 K ⟨fun _ => r207 (S := W5) (e := e) (by omega) he s29 ?_ 10 0 W5 rfl ?_, fun z => absurd rfl z⟩)⟩
                      · rw [show (nI (16 * e) + 5 : Int32) = nI (16 * e + 5) from nI_add _ 5]
                        refine rz_toV (c_Pattern_putInto (S := V5) (n := q - 2) pt109 rfl (by omega) (by omega) len5 (by omega)) ?_
                        rw [hF]
                        show rz_ev mDisk_writeBlock [.ref 6, .int (V5.2 46 1), .int (V5.2 46 2), .ref 47] (rz_fA V5 47 F) _
                        rw [v46 1, v46 2, p1, p2]
                        exact rzx_I j1 h
                      · rw [s27, s28, hG]
                        exact rzx_I j2 h
                      · have : (fun j => if 16 * e + 5 ≤ j ∧ j < 16 * e + 5 + 0 then pd (fun i => W5.1 151 (2 + i)) (q - 2) (j - (16 * e + 5)) else W5.1 125 j) = W5.1 125 := by
                          funext j
                          rw [if_neg (by omega)]
                        rw [this, rz_fA_self]
                    · obtain ⟨_, _, hfl, h33⟩ := n1 xz
                      have xne : ¬ x5 = 0 := by rw [ex5]; exact nI_ne0 (by omega) (by omega)
                      exact ⟨x5, V5, W5, cm_g (c := 99) hC gV5 gW5 ⟨B, id5, D5⟩ (Or.inr ⟨xc, xz, x100, ex5, hfl, h33.trans (sT4 3)⟩) (fun z => absurd z (by decide)), rzx_of (fun K h => left5 K ⟨fun z => absurd z xne, fun _ => h⟩), rzx_of (fun K h => right5 K ⟨fun z => absurd z xne, fun _ => h⟩)⟩
                  · exact ⟨nI 62, _, _, cm_fg hC 62 0 0 (by omega) (by omega) gV4 gW4 ⟨B, id4, D4⟩ (sT4 3), rzx_of (fun K h => left4 K (p_Commands_rename_213 ⟨fun _ => ⟨fun _ => rz_toI (c_Status_set _ _ _) h, fun z => absurd f5' z⟩, fun z => absurd rfl z⟩)), rzx_of (fun K h => right4 K ⟨fun _ => rz_toI (c_M_fault _ _ _) h, fun z => absurd rfl z⟩)⟩
end CM5
