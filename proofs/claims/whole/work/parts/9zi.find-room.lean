/-! room for a new ENTRY: both sides -/
theorem c_isFull {S : rz_S} {k : Nat} (hk : k ≤ 6) (h : S.2 46 3 = nI k) : rz_ev mDirectory_isFull [.ref 46] S (rz_i (fun x S1 => x = (if k = 6 then 1 else 0) ∧ S1 = S)) := by
  show rz _ 0 [(0, .ref 46)] [] _ _
  refine p_Directory_isFull_0 ?_
  rw [h]
  refine ⟨fun c => ⟨?_, rfl⟩, fun c => ⟨?_, rfl⟩⟩
  · have := (nI_ltI (b := 6) (by omega) (by omega)).mp c
    rw [if_neg (by omega)]
  · have : ¬ k < 6 := fun z => c (nI_lt (b := 6) z (by omega))
    rw [if_pos (by omega)]
theorem bgX_u {S : rz_S} {k j : Nat} {x : Int32} (h : k = 46 ∨ k = 44 ∧ (j = 1 ∨ j = 2)) : bgX S (rz_uI S k j x) := ⟨fun _ _ _ _ _ => rfl, fun u z _ _ _ a b => rz_uI_n (by omega)⟩
theorem bgX_s {S : rz_S} {n t s : Int32} : bgX S (st_set S n t s) := bgX_rF (a := 40) (by omega) rF_s
/-- an empty block of the DIRECTORY, the reference's row -/
theorem lp_empty {a2 a3 a4 : Int32} {Q : Int32 → rz_S → Prop} : ∀ (w j : Nat) (S : rz_S), w + j = 64 → (∀ f, (∀ i, j ≤ i → i < 64 → f i = (if i = 1 then 255 else 0)) → (∀ i, ¬ (j ≤ i ∧ i < 64) → f i = S.1 125 i) → rz_ev mM_writeBlock [.ref 116, .int 7, .int a4, .ref 125, .int 0] (rz_fA S 125 f) (rz_i (fun xq2 Sq2 => ((xq2 = 0 → rz_ev mM_readBlock [.ref 116, .int a2, .int a3, .ref 125, .int 0] Sq2 (rz_i (fun xq4 Sq4 => ((xq4 = 0 → rz_ev mM_writeBlock [.ref 116, .int a2, .int a3, .ref 125, .int 0] (rz_fA (rz_fA Sq4 125 (upd (Sq4.1 125) 0 7)) 125 (upd (upd (Sq4.1 125) 0 7) 1 a4)) (rz_i (fun xq6 Sq6 => Q xq6 (rz_uI (rz_uI (rz_uI Sq6 116 27 7) 116 28 a4) 116 29 0)))) ∧ (¬ xq4 = 0 → Q xq4 Sq4))))) ∧ (¬ xq2 = 0 → Q xq2 Sq2))))) → rz mM_makesEntry 103 [(0, .ref 116), (2, .int a2), (3, .int a3), (4, .int a4), (5, .int (nI j))] [] S (rz_i Q) := by
  intro w
  induction w with
  | zero =>
    intro j S hj hK
    have ej : j = 64 := by omega
    subst ej
    have := hK (S.1 125) (fun i a b => by omega) (fun _ _ => rfl)
    rw [rz_fA_self] at this
    exact p_M_makesEntry_103 ⟨fun _ => this, fun d => absurd (by decide) d⟩
  | succ w ih =>
    intro j S hj hK
    have step : ∀ v : Int32, v = (if j = 1 then 255 else 0) → rz mM_makesEntry 103 [(0, .ref 116), (2, .int a2), (3, .int a3), (4, .int a4), (5, .int (nI j + 1))] [] (rz_fA S 125 (upd (S.1 125) (nI j).toNatClampNeg v)) (rz_i Q) := fun v hv => by
      rw [nI_1, nI_clamp (by omega)]
      refine ih (j + 1) _ (by omega) (fun f f1 f2 => ?_)
      rw [rz_fAA]
      rw [rz_fA_s] at f2
      refine hK f (fun i a b => ?_) (fun i a => ?_)
      · by_cases z : i = j
        · subst z; rw [f2 i (by omega), pk_us, hv]
        · exact f1 i (by omega) b
      · rw [f2 i (by omega), pk_un (by omega)]
    refine p_M_makesEntry_103 ⟨fun d => ?_, fun _ => ⟨fun d => ⟨rin (by omega) (by omega), step 255 ?_⟩, fun d => ⟨rin (by omega) (by omega), step 0 ?_⟩⟩⟩
    · have := (nI_leI (a := 64) (by omega) (by omega)).mp d
      omega
    · have j1 : j = 1 := (nI_eq (b := 1) (by omega) (by omega)).mp d
      rw [if_pos j1]
    · rw [if_neg (fun z => d (by rw [z]; rfl))]
def frE (pr : Bool) (Sx Sm : rz_S) (x : Int32) (V : rz_S) (y : Int32) (W : rz_S) : Prop := x = y ∧ bgX Sx V ∧ bgM Sm W ∧ (∃ B id, Dk B pr id V W) ∧ ans Sx x V W ∧ (x = 0 → ∃ t s e : Nat, 1 ≤ t ∧ t ≤ 12 ∧ s < sct t ∧ e < 4 ∧ V.2 46 1 = nI t ∧ V.2 46 2 = nI s ∧ V.2 46 4 = nI e ∧ W.2 116 27 = nI t ∧ W.2 116 28 = nI s ∧ W.2 116 29 = nI e)
theorem fr_flt {pr : Bool} {Sx Sm V W : rz_S} {B : Nat → Nat → Bool} {id : Option (Nat × Nat)} (gx : bgX Sx V) (gm : bgM Sm W) (h3 : ∀ z, V.2 3 z = Sx.2 3 z) (hD : Dk B pr id V W) : frE pr Sx Sm (nI 72) (st_set V (nI 72) (nI 0) (nI 0)) (nI 72) (rz_uI (rz_uI W 116 4 (nI 0)) 116 5 (nI 0)) := ⟨rfl, bgX_t gx bgX_s, bgM_t gm (bgM_t (bgM_u (by omega)) (bgM_u (by omega))), ⟨B, id, Dk_mu (Dk_mu (st_set_dk hD) (by omega)) (by omega)⟩, Or.inr ⟨72, by omega, by omega, rfl, ⟨0, 0, st_set_is, by simp (disch := omega) only [uI1, fA2, rz_fA_n, rz_uI_n, rz_fA_s, rz_uI_s, pk_us], by simp (disch := omega) only [uI1, fA2, rz_fA_n, rz_uI_n, rz_fA_s, rz_uI_s, pk_us]⟩, (show (st_set V (nI 72) (nI 0) (nI 0)).2 3 3 = V.2 3 3 from rfl).trans (h3 3)⟩, fun z => absurd z (by decide)⟩
theorem fr_pair {B : Nat → Nat → Bool} {pr : Bool} {id : Option (Nat × Nat)} {Sx Sm : rz_S} {m : Nat} (hD : Dk B pr id Sx Sm) (hm : m ≤ 10) (hl : Sx.2 42 1 = nI m) : PCi mDos_findRoom mM_makesEntry [.ref 39] [.ref 116] Sx Sm (frE pr Sx Sm) := by
  refine PCi_of (fun K hK => ?_)
  have hK2 : ∀ x V, rz mM_makesEntry 0 [(0, .ref 116)] [] Sm (rz_i (frE pr Sx Sm x V)) → K x V := hK
  show rz _ 0 [(0, .ref 39)] [] _ _
  refine p_Dos_findRoom_0 (rz_toV c_rewind ?_)
  generalize hS : rz_uI (rz_uI (rz_uI (rz_uI (rz_uI Sx 46 1 7) 46 2 1) 46 3 1) 46 4 (-1)) 46 6 0 = S
  have sr : ∀ u z, u ≠ 46 → S.2 u z = Sx.2 u z := fun u z hu => by rw [← hS]; simp (disch := omega) only [uI1, fA2, rz_fA_n, rz_uI_n, rz_fA_s, rz_uI_s, pk_us]
  have sa : S.1 = Sx.1 := by rw [← hS]; rfl
  have gS : bgX Sx S := by rw [← hS]; exact bgX_t (bgX_u (by omega)) (bgX_t (bgX_u (by omega)) (bgX_t (bgX_u (by omega)) (bgX_t (bgX_u (by omega)) (bgX_u (by omega)))))
  have DS : Dk B pr id S Sm := Dk_x hD (fun q _ _ => by rw [sa]) (fun u z hu => sr u z (by omega))
  have hP : fgP S Sm 2 42 m 0 151 401 0 := ⟨by omega, pt42, hm, (sr 42 1 (by omega)).trans hl, rfl, by omega, fun z => absurd rfl z, fun z => absurd rfl z, ⟨by omega, by omega⟩, ⟨by omega, by omega⟩, fun z => absurd rfl z⟩
  obtain ⟨x, V, y, W, e1, e2, fx, fm, ⟨id1, D1⟩, hO⟩ := PR_findN hP DS (by rw [← hS]; simp (disch := omega) only [uI1, fA2, rz_fA_n, rz_uI_n, rz_fA_s, rz_uI_s, pk_us]) (by rw [← hS]; simp (disch := omega) only [uI1, fA2, rz_fA_n, rz_uI_n, rz_fA_s, rz_uI_s, pk_us]) (by rw [← hS]; simp (disch := omega) only [uI1, fA2, rz_fA_n, rz_uI_n, rz_fA_s, rz_uI_s, pk_us]) (by rw [← hS]; simp (disch := omega) only [uI1, fA2, rz_fA_n, rz_uI_n, rz_fA_s, rz_uI_s, pk_us]) (by rw [← hS]; simp (disch := omega) only [uI1, fA2, rz_fA_n, rz_uI_n, rz_fA_s, rz_uI_s, pk_us])
  have gV : bgX Sx V := bgX_t gS (bgX_fd fx)
  have gW : bgM Sm W := bgM_fd fm
  have s3 : ∀ z, S.2 3 z = Sx.2 3 z := fun z => sr 3 z (by omega)
  refine rzx_I (show rzx mDirectory_find [.ref 46, .int 2, .ref 42] S (some (.int x)) V from e1) ?_
  have e2' : rzx mM_finds [.ref 116, .int 2, .ref 151, .int 0, .int 0] Sm (some (.int y)) W := e2
  rcases hO with ⟨xc, x0, hx, rfl, rfl, hf, h5, h33⟩ | ⟨hs, rfl, hDr, t, s, k, t1, t2, s1, k1, k6, z1, z2, z3, y1, y2, y3, hE⟩
  · have xne : ¬ nI xc = 0 := nI_ne0 (by omega) (by omega)
    refine ⟨fun d => absurd d xne, fun _ => hK2 _ _ (p_M_makesEntry_0 (rzx_I e2' ⟨fun d => absurd d (nI_m1 (by omega)), fun _ => ?_⟩))⟩
    exact ⟨rfl, gV, gW, ⟨B, id1, D1⟩, Or.inr ⟨xc, x0, hx, rfl, hf, h33.trans (s3 3)⟩, fun z => absurd z xne⟩
  · have hs3 : ∀ z, V.2 3 z = Sx.2 3 z := fun z => (hs z).trans (s3 z)
    refine ⟨fun _ => ?_, fun d => absurd rfl d⟩
    rcases hE with ⟨rfl, f5, y27, y28, e, e4, z4, y29⟩ | ⟨rfl, f5, _⟩
    · refine ⟨fun d => absurd (f5.symm.trans d) (by decide), fun _ => hK2 _ _ (p_M_makesEntry_0 (rzx_I e2' ⟨fun d => absurd d (by decide), fun _ => ?_⟩))⟩
      exact ⟨rfl, gV, gW, ⟨B, id1, D1⟩, Or.inl ⟨rfl, hs3⟩, fun _ => ⟨t, s, e, t1, t2, s1, e4, z1, z2, z4, y27, y28, y29⟩⟩
    · refine ⟨fun _ => rz_toI (c_isFull k6 z3) ?_, fun d => absurd f5 d⟩
      by_cases hk : k = 6
      · rw [if_pos hk]
        refine ⟨fun d => absurd d (by decide), fun _ => rz_toI (c_Status_set _ _ _) (hK2 _ _ (p_M_makesEntry_0 (rzx_I e2' ⟨fun _ => ⟨fun d => ?_, fun _ => rz_toI (c_M_fault _ _ _) (fr_flt gV gW hs3 D1)⟩, fun d => absurd rfl d⟩)))⟩
        rw [y3, hk] at d
        exact absurd d (by decide)
      · rw [if_neg hk]
        have lt6 : W.2 116 32 < 6 := by rw [y3]; exact nI_lt (b := 6) (by omega) (by omega)
        refine ⟨fun _ => ?_, fun d => absurd rfl d⟩
        obtain ⟨x, V1, y, W1, a1, a2, rfl, cx, cm, ⟨id2, D2⟩, an, mp⟩ := PR_load D1
        have gV1 := bgX_t gV (bgX_ch cx)
        have gW1 := bgM_t gW (bgM_ch cm)
        have v46 : ∀ z, V1.2 46 z = V.2 46 z := fun z => cx.2 46 z (by omega) (by omega) (by omega)
        refine rzx_I a1 ⟨fun x0 => ?_, fun x0 => ?_⟩
        · subst x0
          have hmp := mp rfl
          have hst1 : ∀ z, V1.2 3 z = Sx.2 3 z := fun z => by
            rcases an with ⟨_, q⟩ | ⟨xc, q1, q2, q3', _⟩
            · exact (q z).trans (hs3 z)
            · exact absurd ((nI_eq (a := 0) (by omega) (by omega)).mp q3').symm q1
          have epk : pkO (V1.1 45) 7 0 = pkO (W1.1 123) 7 0 := pkO_c (by omega) (fun k hk => (hmp k hk).1)
          have hpick : rz_ev mBlockMap_pickForDirectory [.ref 44] V1 (rz_i (fun x S1 => (x = 0 ∨ x = 1) ∧ pkX (pkO (V1.1 45) 7 0) 7 V1 x S1)) := by
            show rz _ 0 [(0, .ref 44)] [] _ _
            refine p_BlockMap_pickForDirectory_0 (rz_useI (c_BlockMap_pickOf (t := 7) (f := 0) (by omega) (by omega) (by omega)) (fun x S1 q => ?_))
            cases hz : pkO (V1.1 45) 7 0 with
            | none => rw [hz] at q; exact ⟨Or.inl q.1, Or.inl q.1, q⟩
            | some s => rw [hz] at q; exact ⟨Or.inr q.1, Or.inr q.1, q⟩
          refine rz_useI hpick (fun xp S2 q => ?_)
          have hR : ∀ Q : Int32 → rz_S → Prop, rz_ev mM_lowest [.ref 116, .int 7] W1 (rz_i (fun xq6 Sq6 => ((xq6 = (-1) → rz_ev mM_fault [.ref 116, .int 72, .int 0, .int 0] Sq6 (rz_i (fun xq11 Sq11 => Q xq11 Sq11))) ∧ (¬ xq6 = (-1) → rz_ev mM_takes [.ref 116, .int 7, .int xq6] Sq6 (rz_v (fun Sq8 => rz_ev mM_stores [.ref 116] Sq8 (rz_i (fun xq9 Sq9 => ((xq9 = 0 → rz mM_makesEntry 103 [(0, .ref 116), (2, .int (nI t)), (3, .int (nI s)), (4, .int xq6), (5, .int 0)] [] Sq9 (rz_i Q)) ∧ (¬ xq9 = 0 → Q xq9 Sq9)))))))))) → rz mM_makesEntry 0 [(0, .ref 116)] [] Sm (rz_i Q) := fun Q h => p_M_makesEntry_0 (rzx_I e2' ⟨fun _ => ⟨fun _ => rzx_I a2 ⟨fun _ => by rw [y1, y2]; exact h, fun z => absurd rfl z⟩, fun z => absurd lt6 z⟩, fun z => absurd rfl z⟩)
          have hlow := c_M_lowest (S := W1) (t := 7) (by omega) (by omega)
          rw [← epk] at hlow
          obtain ⟨_, q⟩ := q
          cases hz : pkO (V1.1 45) 7 0 with
          | none =>
            rw [hz] at q hlow
            obtain ⟨rfl, rfl⟩ := q
            refine ⟨fun _ => rz_toI (c_Status_set _ _ _) (hK2 _ _ (hR _ (rz_toI hlow ⟨fun _ => rz_toI (c_M_fault _ _ _) (fr_flt gV1 gW1 hst1 D2), fun z => absurd rfl z⟩))), fun d => absurd rfl d⟩
          | some ps =>
            rw [hz] at q hlow
            obtain ⟨rfl, rfl⟩ := q
            have hps := (pkO_lt (by omega) (by omega) hz).1
            have hps8 : ps < 8 := by have := (sct_b (t := 7) (by omega) (by omega)).1; omega
            refine ⟨fun d => absurd d (by decide), fun _ => p_Dos_findRoom_92 ⟨fun _ => ?_, fun d => absurd rfl d⟩⟩
            -- the MAP is stored
            have hmp2 : Mp (xpk V1 7 ps) (mpk W1 7 ps) := fun k hk => by
              have := tkR_c (t := 7) (s := ps) (by omega) hmp k hk
              unfold xpk mpk
              simp (disch := omega) only [uI1, fA2, rz_fA_n, rz_uI_n, rz_fA_s, rz_uI_s, pk_us]
              exact this
            have D3 : Dk B pr id2 (xpk V1 7 ps) (mpk W1 7 ps) := Dk_mu (Dk_mu (Dk_mf (Dk_xu (Dk_xu (Dk_xf D2 (by omega)) (by omega)) (by omega)) (by omega)) (by omega)) (by omega)
            obtain ⟨x3, V3, y3', W3, b1, b2, rfl, f3x, f3m, ⟨B3, id3, D4⟩, an3⟩ := PR_store D3 hmp2
            have gV3 : bgX Sx V3 := bgX_t gV1 (bgX_t (bgX_t (bgX_f (by omega)) (bgX_t (bgX_u (by omega)) (bgX_u (by omega)))) (bgX_rF (by omega) f3x))
            have gW3 : bgM Sm W3 := bgM_t gW1 (bgM_t (bgM_t (bgM_f (by omega)) (bgM_t (bgM_u (by omega)) (bgM_u (by omega)))) (bgM_wM f3m))
            have hR3 : ∀ Q : Int32 → rz_S → Prop, ((x3 = 0 → rz mM_makesEntry 103 [(0, .ref 116), (2, .int (nI t)), (3, .int (nI s)), (4, .int (nI ps)), (5, .int 0)] [] W3 (rz_i Q)) ∧ (¬ x3 = 0 → Q x3 W3)) → rz mM_makesEntry 0 [(0, .ref 116)] [] Sm (rz_i Q) := fun Q h => hR Q (rz_toI hlow ⟨fun z => absurd z (nI_m1 (by omega)), fun _ => rz_toV (c_M_takes (t := 7) (s := ps) (by omega)) (rzx_I b2 h)⟩)
            have x46 : ∀ z, (xpk V1 7 ps).2 46 z = V.2 46 z := fun z => by unfold xpk; simp (disch := omega) only [uI1, fA2, rz_fA_n, rz_uI_n, rz_fA_s, rz_uI_s, pk_us]; exact v46 z
            have st3 : ∀ z, (xpk V1 7 ps).2 3 z = Sx.2 3 z := fun z => by unfold xpk; simp (disch := omega) only [uI1, fA2, rz_fA_n, rz_uI_n, rz_fA_s, rz_uI_s, pk_us]; exact hst1 z
            have v446 : ∀ z, V3.2 46 z = V.2 46 z := fun z => (f3x.2 46 z (by omega) (by omega) (by omega)).trans (x46 z)
            have p441 : V3.2 44 1 = nI 7 := (f3x.2 44 1 (by omega) (by omega) (by omega)).trans (by unfold xpk; simp (disch := omega) only [uI1, fA2, rz_fA_n, rz_uI_n, rz_fA_s, rz_uI_s, pk_us])
            have p442 : V3.2 44 2 = nI ps := (f3x.2 44 2 (by omega) (by omega) (by omega)).trans (by unfold xpk; simp (disch := omega) only [uI1, fA2, rz_fA_n, rz_uI_n, rz_fA_s, rz_uI_s, pk_us])
            refine rzx_I b1 (p_Dos_findRoom_104 ⟨fun x0 => ?_, fun x0 => p_Dos_findRoom_130 ⟨fun z => absurd z x0, fun _ => hK2 _ _ (hR3 _ ⟨fun z => absurd z x0, fun _ => ?_⟩)⟩⟩)
            · subst x0
              have hst4 : ∀ z, V3.2 3 z = Sx.2 3 z := fun z => by
                rcases an3 with ⟨_, q⟩ | ⟨xc, q1, q2, q3', _⟩
                · exact (q z).trans (st3 z)
                · exact absurd ((nI_eq (a := 0) (by omega) (by omega)).mp q3').symm q1
              -- the empty block
              let f0 : Nat → Int32 := fun i => if i < 64 then (if i = 1 then 255 else 0) else W3.1 125 i
              have hR4 : ∀ Q : Int32 → rz_S → Prop, rz_ev mM_writeBlock [.ref 116, .int 7, .int (nI ps), .ref 125, .int 0] (rz_fA W3 125 f0) (rz_i (fun xq2 Sq2 => ((xq2 = 0 → rz_ev mM_readBlock [.ref 116, .int (nI t), .int (nI s), .ref 125, .int 0] Sq2 (rz_i (fun xq4 Sq4 => ((xq4 = 0 → rz_ev mM_writeBlock [.ref 116, .int (nI t), .int (nI s), .ref 125, .int 0] (rz_fA (rz_fA Sq4 125 (upd (Sq4.1 125) 0 7)) 125 (upd (upd (Sq4.1 125) 0 7) 1 (nI ps))) (rz_i (fun xq6 Sq6 => Q xq6 (rz_uI (rz_uI (rz_uI Sq6 116 27 7) 116 28 (nI ps)) 116 29 0)))) ∧ (¬ xq4 = 0 → Q xq4 Sq4))))) ∧ (¬ xq2 = 0 → Q xq2 Sq2)))) → rz mM_makesEntry 0 [(0, .ref 116)] [] Sm (rz_i Q) := fun Q h => hR3 Q ⟨fun _ => lp_empty 64 0 W3 (by omega) (fun f f1 f2 => by
                have ef : f = f0 := by
                  funext i
                  show f i = if i < 64 then (if i = 1 then 255 else 0) else W3.1 125 i
                  by_cases z : i < 64
                  · rw [if_pos z]; exact f1 i (by omega) z
                  · rw [if_neg z]; exact f2 i (by omega)
                rw [ef]
                exact h), fun z => absurd rfl z⟩
              have hf0 : ∀ k, k < 64 → f0 k = (if k = 1 then 255 else 0) := fun k hk => if_pos hk
              generalize f0 = f1 at hR4 hf0
              generalize hWA : rz_fA W3 125 f1 = WA at hR4
              show rz _ 0 [(0, .ref 46), (1, .int (V3.2 44 1)), (2, .int (V3.2 44 2))] [] _ _
              rw [p441, p442]
              refine p_Directory_writeEmpty_0 (rz_toV (c_Arr_fill (k := 47) (n := 64) rfl (by omega) 0) ?_)
              unfold fl_to
              rw [rz_fA_s, rz_fAA]
              generalize hVA : rz_uI (rz_fA V3 47 (upd (fun i => if i < 64 then 0 else V3.1 47 i) 1 255)) 46 6 0 = VA
              have rowA : ∀ k, k < 64 → VA.1 47 k = WA.1 125 k ∧ byt (VA.1 47 k) := fun k hk => by
                have a : VA.1 47 = upd (fun i => if i < 64 then 0 else V3.1 47 i) 1 255 := by rw [← hVA]; simp (disch := omega) only [uI1, fA2, rz_fA_n, rz_uI_n, rz_fA_s, rz_uI_s, pk_us]
                have b : WA.1 125 = f1 := by rw [← hWA]; simp (disch := omega) only [uI1, fA2, rz_fA_n, rz_uI_n, rz_fA_s, rz_uI_s, pk_us]
                rw [a, b, hf0 k hk]
                by_cases z : k = 1
                · rw [z, pk_us, if_pos rfl]; exact ⟨rfl, 255, by omega, rfl⟩
                · rw [pk_un z, if_neg z]
                  show (if k < 64 then (0 : Int32) else V3.1 47 k) = 0 ∧ byt (if k < 64 then (0 : Int32) else V3.1 47 k)
                  rw [if_pos hk]
                  exact ⟨rfl, 0, by omega, rfl⟩
              obtain ⟨rr, hrr⟩ := row_nat rowA
              have DA : Dk B3 pr id3 VA WA := by rw [← hVA, ← hWA]; exact Dk_mf (Dk_xu (Dk_xf D4 (by omega)) (by omega)) (by omega)
              have gVA : bgX Sx VA := bgX_t gV3 (by rw [← hVA]; exact bgX_t (bgX_f (by omega)) (bgX_u (by omega)))
              have gWA : bgM Sm WA := bgM_t gW3 (by rw [← hWA]; exact bgM_f (by omega))
              have va : ∀ u z, ¬ (u = 46 ∧ z = 6) → VA.2 u z = V3.2 u z := fun u z hu => by rw [← hVA]; simp (disch := omega) only [uI1, fA2, rz_fA_n, rz_uI_n, rz_fA_s, rz_uI_s, pk_us]
              obtain ⟨x4, VB, y4, WB, c1, c2, rfl, xc4, id4, B4, ex4, hx4, D5, r4, w4, o4, n4⟩ := PR_write (t := 7) (s := ps) (a := 47) (a' := 125) (at0 := 0) (na := 64) DA (by omega) (by omega) (by omega) rfl (by omega) rfl (by omega) (by omega) (by omega) hrr
              have gVB := bgX_t gVA (bgX_rF (by omega) r4)
              have gWB := bgM_t gWA (bgM_wM w4)
              have vb : ∀ u z, (u = 44 ∨ u = 46 ∧ z ≤ 4) → VB.2 u z = V3.2 u z := fun u z hu => (r4.2 u z (by omega) (by omega) (by omega)).trans (va u z (by omega))
              refine rzx_I c1 ?_
              by_cases z4 : xc4 = 0
              · subst z4
                subst ex4
                have hst5 : ∀ z, VB.2 3 z = Sx.2 3 z := fun z => (o4 rfl z).trans ((va 3 z (by omega)).trans (hst4 z))
                have hR5 : ∀ Q : Int32 → rz_S → Prop, rz_ev mM_readBlock [.ref 116, .int (nI t), .int (nI s), .ref 125, .int 0] WB (rz_i (fun xq4 Sq4 => ((xq4 = 0 → rz_ev mM_writeBlock [.ref 116, .int (nI t), .int (nI s), .ref 125, .int 0] (rz_fA (rz_fA Sq4 125 (upd (Sq4.1 125) 0 7)) 125 (upd (upd (Sq4.1 125) 0 7) 1 (nI ps))) (rz_i (fun xq6 Sq6 => Q xq6 (rz_uI (rz_uI (rz_uI Sq6 116 27 7) 116 28 (nI ps)) 116 29 0)))) ∧ (¬ xq4 = 0 → Q xq4 Sq4)))) → rz mM_makesEntry 0 [(0, .ref 116)] [] Sm (rz_i Q) := fun Q h => hR4 Q (rzx_I (show rzx mM_writeBlock [.ref 116, .int 7, .int (nI ps), .ref 125, .int 0] WA (some (.int (nI 0))) WB from c2) ⟨fun _ => h, fun z => absurd rfl z⟩)
                refine p_Dos_findRoom_130 ⟨fun _ => ?_, fun z => absurd rfl z⟩
                rw [vb 44 1 (by omega), vb 44 2 (by omega), p441, p442]
                show rz _ 0 [(0, .ref 46), (1, .int (nI 7)), (2, .int (nI ps))] [] _ _
                have hsb := sct_b t1 t2
                obtain ⟨x5, VC, y5, WC, d1, d2, rfl, xc5, id5, ex5, hx5, D6, r5, w5, o5, n5⟩ := PR_read (s := s) (a := 47) (a' := 125) (at0 := 0) (na := 64) D5 t1 t2 (by omega) rfl (by omega) rfl (by omega) (by omega) (by omega)
                have gVC := bgX_t gVB (bgX_rF (by omega) r5)
                have gWC := bgM_t gWB (bgM_kFa (by omega) w5)
                have vc : ∀ z, z ≤ 4 → VC.2 46 z = V.2 46 z := fun z hz => (r5.2 46 z (by omega) (by omega) (by omega)).trans ((vb 46 z (by omega)).trans (v446 z))
                refine p_Directory_lengthen_0 ?_
                rw [vb 46 1 (by omega), vb 46 2 (by omega), v446, v446, z1, z2]
                refine rzx_I d1 ?_
                have goS : ∀ (x : Int32) (T : rz_S), ((x = 0 → False) → True) → ∀ w : K x (rz_uI (rz_uI (rz_uI (rz_uI (rz_uI T 46 1 (nI 7)) 46 2 (nI ps)) 46 3 (T.2 46 3 + 1)) 46 4 0) 46 6 0), rz mDirectory_lengthen 58 [(0, .ref 46), (1, .int (nI 7)), (2, .int (nI ps)), (3, .int x)] [] T (rz_i (fun xq2 Sq2 => K xq2 Sq2)) := fun x T _ w => p_Directory_lengthen_58 (rz_toV (c_goTo _ _ _ _) w)
                by_cases z5 : xc5 = 0
                · subst z5
                  subst ex5
                  obtain ⟨⟨dd, hd⟩, h3⟩ := o5 rfl
                  refine ⟨fun _ => ?_, fun z => absurd rfl z⟩
                  rw [vc 1 (by omega), vc 2 (by omega), z1, z2, rz_fAA]
                  generalize hVD : rz_fA VC 47 (upd (upd (VC.1 47) 0 (nI 7)) 1 (nI ps)) = VD
                  have hR6 : ∀ Q : Int32 → rz_S → Prop, rz_ev mM_writeBlock [.ref 116, .int (nI t), .int (nI s), .ref 125, .int 0] (rz_fA WC 125 (upd (upd (WC.1 125) 0 7) 1 (nI ps))) (rz_i (fun xq6 Sq6 => Q xq6 (rz_uI (rz_uI (rz_uI Sq6 116 27 7) 116 28 (nI ps)) 116 29 0))) → rz mM_makesEntry 0 [(0, .ref 116)] [] Sm (rz_i Q) := fun Q h => hR5 Q (rzx_I (show rzx mM_readBlock [.ref 116, .int (nI t), .int (nI s), .ref 125, .int 0] WB (some (.int (nI 0))) WC from d2) ⟨fun _ => by rw [rz_fAA]; exact h, fun z => absurd rfl z⟩)
                  generalize hWD : rz_fA WC 125 (upd (upd (WC.1 125) 0 7) 1 (nI ps)) = WD at hR6
                  have rowD : ∀ k, k < 64 → VD.1 47 k = WD.1 125 k ∧ byt (VD.1 47 k) := fun k hk => by
                    have a : VD.1 47 = upd (upd (VC.1 47) 0 (nI 7)) 1 (nI ps) := by rw [← hVD]; simp (disch := omega) only [uI1, fA2, rz_fA_n, rz_uI_n, rz_fA_s, rz_uI_s, pk_us]
                    have b : WD.1 125 = upd (upd (WC.1 125) 0 7) 1 (nI ps) := by rw [← hWD]; simp (disch := omega) only [uI1, fA2, rz_fA_n, rz_uI_n, rz_fA_s, rz_uI_s, pk_us]
                    rw [a, b]
                    exact eqb_upd (eqb_upd (fun j hj => ⟨by
                      have := hd j hj
                      rw [Nat.zero_add] at this
                      exact this.1.trans this.2.1.symm, ⟨dd j, (hd j hj).2.2, (hd j hj).1⟩⟩) rfl ⟨7, by omega, rfl⟩) rfl ⟨ps, by omega, rfl⟩ k hk
                  obtain ⟨rr6, hr6⟩ := row_nat rowD
                  have DD : Dk B4 pr id5 VD WD := by rw [← hVD, ← hWD]; exact Dk_mf (Dk_xf D6 (by omega)) (by omega)
                  obtain ⟨x6, VE, y6, WE, k1', k2', rfl, xc6, id6, B6, ex6, hx6, D7, r6, w6, o6, n6⟩ := PR_write (s := s) (a := 47) (a' := 125) (at0 := 0) (na := 64) DD t1 t2 (by omega) rfl (by omega) rfl (by omega) (by omega) (by omega) hr6
                  have gVE := bgX_t gVC (bgX_t (by rw [← hVD]; exact bgX_f (by omega)) (bgX_rF (by omega) r6))
                  have gWE := bgM_t gWC (bgM_t (by rw [← hWD]; exact bgM_f (by omega)) (bgM_wM w6))
                  have sD : ∀ z, VD.2 3 z = Sx.2 3 z := fun z => by
                    have : VD.2 3 z = VC.2 3 z := by rw [← hVD]; rfl
                    exact this.trans ((h3 z).trans (hst5 z))
                  refine rzx_I k1' (goS x6 VE (fun _ => trivial) (hK2 _ _ (hR6 _ (rzx_I (show rzx mM_writeBlock [.ref 116, .int (nI t), .int (nI s), .ref 125, .int 0] WD (some (.int x6)) WE from k2') ?_))))
                  refine ⟨rfl, bgX_t gVE (bgX_t (bgX_u (by omega)) (bgX_t (bgX_u (by omega)) (bgX_t (bgX_u (by omega)) (bgX_t (bgX_u (by omega)) (bgX_u (by omega)))))), bgM_t gWE (bgM_t (bgM_u (by omega)) (bgM_t (bgM_u (by omega)) (bgM_u (by omega)))), ⟨B6, id6, Dk_mu (Dk_mu (Dk_mu (Dk_xu (Dk_xu (Dk_xu (Dk_xu (Dk_xu D7 (by omega)) (by omega)) (by omega)) (by omega)) (by omega)) (by omega)) (by omega)) (by omega)⟩, ?_, fun _ => ⟨7, ps, 0, by omega, by omega, hps, by omega, by simp (disch := omega) only [uI1, fA2, rz_fA_n, rz_uI_n, rz_fA_s, rz_uI_s, pk_us], by simp (disch := omega) only [uI1, fA2, rz_fA_n, rz_uI_n, rz_fA_s, rz_uI_s, pk_us], by simp (disch := omega) only [uI1, fA2, rz_fA_n, rz_uI_n, rz_fA_s, rz_uI_s, pk_us]; rfl, by simp (disch := omega) only [uI1, fA2, rz_fA_n, rz_uI_n, rz_fA_s, rz_uI_s, pk_us]; rfl, by simp (disch := omega) only [uI1, fA2, rz_fA_n, rz_uI_n, rz_fA_s, rz_uI_s, pk_us], by simp (disch := omega) only [uI1, fA2, rz_fA_n, rz_uI_n, rz_fA_s, rz_uI_s, pk_us]; rfl⟩⟩
                  have s5 : ∀ z, (rz_uI (rz_uI (rz_uI (rz_uI (rz_uI VE 46 1 (nI 7)) 46 2 (nI ps)) 46 3 (VE.2 46 3 + 1)) 46 4 0) 46 6 0).2 3 z = VE.2 3 z := fun z => by simp (disch := omega) only [uI1, fA2, rz_fA_n, rz_uI_n, rz_fA_s, rz_uI_s, pk_us]
                  by_cases z6 : xc6 = 0
                  · exact Or.inl ⟨by rw [ex6, z6]; rfl, fun z => (s5 z).trans ((o6 z6 z).trans (sD z))⟩
                  · obtain ⟨⟨ft, fs, ⟨p0, p1, p2, p3, p4⟩, q1, q2⟩, h33⟩ := n6 z6
                    exact Or.inr ⟨xc6, z6, hx6, ex6, ⟨ft, fs, ⟨(s5 0).trans p0, (s5 1).trans p1, (s5 2).trans p2, (s5 5).trans p3, (s5 6).trans p4⟩, by simp (disch := omega) only [uI1, fA2, rz_fA_n, rz_uI_n, rz_fA_s, rz_uI_s, pk_us]; exact q1, by simp (disch := omega) only [uI1, fA2, rz_fA_n, rz_uI_n, rz_fA_s, rz_uI_s, pk_us]; exact q2⟩, (s5 3).trans (h33.trans (sD 3))⟩
                · obtain ⟨_, _, hf5, h33⟩ := n5 z5
                  have xne : ¬ x5 = 0 := by rw [ex5]; exact nI_ne0 (by omega) (by omega)
                  refine ⟨fun z => absurd z xne, fun _ => goS x5 VC (fun _ => trivial) (hK2 _ _ (hR5 _ (rzx_I (show rzx mM_readBlock [.ref 116, .int (nI t), .int (nI s), .ref 125, .int 0] WB (some (.int x5)) WC from d2) ⟨fun z => absurd z xne, fun _ => ?_⟩)))⟩
                  have s5 : ∀ z, (rz_uI (rz_uI (rz_uI (rz_uI (rz_uI VC 46 1 (nI 7)) 46 2 (nI ps)) 46 3 (VC.2 46 3 + 1)) 46 4 0) 46 6 0).2 3 z = VC.2 3 z := fun z => by simp (disch := omega) only [uI1, fA2, rz_fA_n, rz_uI_n, rz_fA_s, rz_uI_s, pk_us]
                  exact ⟨rfl, bgX_t gVC (bgX_t (bgX_u (by omega)) (bgX_t (bgX_u (by omega)) (bgX_t (bgX_u (by omega)) (bgX_t (bgX_u (by omega)) (bgX_u (by omega)))))), gWC, ⟨B4, id5, Dk_xu (Dk_xu (Dk_xu (Dk_xu (Dk_xu D6 (by omega)) (by omega)) (by omega)) (by omega)) (by omega)⟩, ans_f (Or.inr ⟨xc5, z5, hx5, ex5, hf5, h33.trans (hst5 3)⟩) s5 (fun _ => rfl), fun z => absurd z xne⟩
              · obtain ⟨hf4, h33⟩ := n4 z4
                have xne : ¬ x4 = 0 := by rw [ex4]; exact nI_ne0 (by omega) (by omega)
                refine p_Dos_findRoom_130 ⟨fun z => absurd z xne, fun _ => hK2 _ _ (hR4 _ (rzx_I (show rzx mM_writeBlock [.ref 116, .int 7, .int (nI ps), .ref 125, .int 0] WA (some (.int x4)) WB from c2) ⟨fun z => absurd z xne, fun _ => ?_⟩))⟩
                exact ⟨rfl, gVB, gWB, ⟨B4, id4, D5⟩, Or.inr ⟨xc4, z4, hx4, ex4, hf4, h33.trans ((va 3 3 (by omega)).trans (hst4 3))⟩, fun z => absurd z xne⟩
            · exact ⟨rfl, gV3, gW3, ⟨B3, id3, D4⟩, ans_t st3 an3, fun z => absurd z x0⟩
        · refine p_Dos_findRoom_92 ⟨fun z => absurd z x0, fun _ => p_Dos_findRoom_104 ⟨fun z => absurd z x0, fun _ => p_Dos_findRoom_130 ⟨fun z => absurd z x0, fun _ => hK2 _ _ (p_M_makesEntry_0 (rzx_I e2' ⟨fun _ => ⟨fun _ => rzx_I a2 ⟨fun z => absurd z x0, fun _ => ?_⟩, fun z => absurd lt6 z⟩, fun z => absurd rfl z⟩))⟩⟩⟩
          exact ⟨rfl, gV1, gW1, ⟨B, id2, D2⟩, ans_t hs3 an, fun z => absurd z x0⟩
