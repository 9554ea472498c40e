/-! commands: VALIDATE, the whole of it -/
theorem vd_loop {pr : Bool} {T U : rz_S} (hall : T.2 113 1 = 1 ∧ T.1 114 0 = 42) : ∀ (m : Nat) (B : Nat → Nat → Bool) (id : Option (Nat × Nat)) (t s k e a3 a2 : Nat) (V W : rz_S), 5 * (6 - k) + (5 - e) = m → 1 ≤ k → k ≤ 6 → e ≤ 4 → a3 + m ≤ 30 → a2 + m ≤ 60 → 1 ≤ t → t ≤ 12 → s < sct t → vdI B pr id T U t s k e V W → vdC pr T U t s k e a3 a2 V W := by
  intro m
  induction m with
  | zero => intro B id t s k e a3 a2 V W h _ _ _ _ _ _ _ _ _; omega
  | succ m ih =>
    intro B id t s k e a3 a2 V W hm k1 k6 e4 h3 h2 t1 t2 hs hI
    have sb := sct_b t1 t2
    have n30 : ¬ (30 : Int32) ≤ nI a3 := fun z => by have := (nI_leI (a := 30) (b := a3) (by omega) (by omega)).mp z; omega
    obtain ⟨gx, gm, D, st, hM, v1, v2, v3, v4, v5, hh⟩ := hI
    by_cases he : e < 4
    · have n4 : ¬ (4 : Int32) ≤ nI e := fun z => by have := (nI_leI (a := 4) (b := e) (by omega) (by omega)).mp z; omega
      have nx : ∀ (B' : Nat → Nat → Bool) (id' : Option (Nat × Nat)) (a3' a2' : Nat) (V' W' : rz_S), a3' ≤ a3 + 1 → a2' ≤ a2 + 1 → vdI B' pr id' T U t s k (e + 1) V' W' → vdC pr T U t s k (e + 1) a3' a2' V' W' := fun B' id' a3' a2' V' W' p q hI' => ih B' id' t s k (e + 1) a3' a2' V' W' (by omega) k1 k6 (by omega) (by omega) (by omega) t1 t2 hs hI'
      rcases hh with ⟨e0, v6⟩ | ⟨e1, v6, d, hH, row, w0, w1⟩
      · -- both READ
        obtain ⟨x, V1, W1, id1, g1, g2, D1, f1, f2, an, hid, hx⟩ := PR_readJ (s := s) (a := 47) (a' := 124) (at0 := 0) (na := 64) D t1 t2 (by omega) rfl (by omega) rfl (by omega) (by omega) (by omega)
        have gx1 : bgX T V1 := bgX_t gx (bgX_rF (by omega) f1)
        have gm1 : bgM U W1 := bgM_t gm (bgM_kFa (by omega) f2)
        have v46 : ∀ z, V1.2 46 z = V.2 46 z := fun z => f1.2 46 z (by omega) (by omega) (by omega)
        have left : ∀ K : Int32 → rz_S → Prop, rz mDirectory_find 43 [(0, .ref 46), (1, .int 0), (2, .ref 113), (3, .int (nI a3))] [.int x] V1 (rz_i (vdK K (nI a2))) → rz mDirectory_find 7 [(0, .ref 46), (1, .int 0), (2, .ref 113), (3, .int (nI a3))] [] V (rz_i (vdK K (nI a2))) := fun K h => p_Directory_find_7 pt113 ⟨fun z => absurd z n30, fun _ => ⟨fun _ => by rw [v1, v2]; exact rzx_I g1 h, fun z => absurd v6 z⟩⟩
        have right : ∀ R : Int32 → rz_S → Prop, ((x = 0 → rz_ev mM_used [.ref 116, .int (nI t), .int (nI s), .int (nI e)] W1 (rz_i (fun a S => rz mM_entries 67 [(0, .ref 116), (1, .int (nI t)), (2, .int (nI s)), (3, .int (nI k)), (4, .int (nI e)), (5, .int a)] [] S (rz_i R)))) ∧ (¬ x = 0 → R x W1)) → rz mM_entries 33 [(0, .ref 116), (1, .int (nI t)), (2, .int (nI s)), (3, .int (nI k)), (4, .int (nI e))] [] W (rz_i R) := fun R h => p_M_entries_33 ⟨fun z => absurd z n4, fun _ => rzx_I g2 ⟨h.1, fun z => p_M_entries_67 ⟨fun y => absurd y z, fun _ => h.2 z⟩⟩⟩
        by_cases x0 : x = 0
        · subst x0
          obtain ⟨d, hH, rows⟩ := hx rfl
          obtain ⟨y, V2, W2, c1, c2, c3, c4, c5, c6, c7⟩ := vd_entry (d := d) hall he t1 t2 hs k6 (by omega) (by omega) gx1 gm1 D1 (fun z => (ans_z an rfl z).trans (st z)) (fun k hk => by rw [f1.1 45 (by omega) (by omega), f2.1 123 (by omega) (by omega)]; exact hM k hk) ((v46 1).trans v1) ((v46 2).trans v2) ((v46 3).trans v3) ((v46 4).trans v4) ((v46 5).trans v5) hH (fun j hj => (rows j hj).1) (fun j hj => by have := (rows j hj).2; rw [Nat.zero_add] at this; exact this) nx
          exact ⟨y, V2, W2, c1, c2, c3, c4, c5, fun K h => left K (c6 K h), fun R h => right R ⟨fun _ => c7 R h, fun z => absurd rfl z⟩⟩
        · exact ⟨x, V1, W1, gx1, gm1, ⟨B, id1, D1⟩, ans_t st an, fun z => absurd z x0, fun K h => left K (p_Directory_find_43 pt113 ⟨fun z => absurd z x0, fun _ => vd_flt x0 (h.2 x0)⟩), fun R h => right R ⟨fun z => absurd z x0, fun _ => h⟩⟩
      · -- the reference alone
        obtain ⟨W1, g2, D1, f2, rows⟩ := rd_M (a' := 124) (na := 64) D t1 t2 (show s < 256 by omega) rfl (by omega) (by omega) (by omega) hH
        obtain ⟨y, V2, W2, c1, c2, c3, c4, c5, c6, c7⟩ := vd_entry (d := d) hall he t1 t2 hs k6 (by omega) (by omega) gx (bgM_t gm (bgM_kFa (by omega) f2)) D1 st (fun k hk => by rw [f2.1 123 (by omega) (by omega)]; exact hM k hk) v1 v2 v3 v4 v5 hH row rows nx
        refine ⟨y, V2, W2, c1, c2, c3, c4, c5, fun K h => p_Directory_find_7 pt113 ⟨fun z => absurd z n30, fun _ => ⟨fun z => ?_, fun _ => c6 K h⟩⟩, fun R h => p_M_entries_33 ⟨fun z => absurd z n4, fun _ => rzx_I g2 ⟨fun _ => c7 R h, fun z => absurd rfl z⟩⟩⟩
        rw [v6] at z; exact absurd z (by decide)
    · have e4' : e = 4 := by omega
      subst e4'
      rcases hh with ⟨z, _⟩ | ⟨_, v6, d, hH, row, w0, w1⟩
      · omega
      · have d0 := hH.2.1 0 (by omega)
        have d1 := hH.2.1 1 (by omega)
        generalize hS : rz_uI (rz_uI V 46 6 1) 46 4 (nI 4) = S
        have e1 : V.2 46 4 + 1 = nI 4 := by rw [v4]; exact Int32.sub_add_cancel _ _
        have sa : S.1 = V.1 := by rw [← hS]; rfl
        have su : ∀ u z, u ≠ 46 → S.2 u z = V.2 u z := fun u z hu => by rw [← hS]; simp (disch := omega) only [uI1, fA2, rz_fA_n, rz_uI_n, rz_fA_s, rz_uI_s, pk_us]
        have so : ∀ z, z ≠ 4 → z ≠ 6 → S.2 46 z = V.2 46 z := fun z a b => by rw [← hS]; simp (disch := omega) only [uI1, fA2, rz_fA_n, rz_uI_n, rz_fA_s, rz_uI_s, pk_us]
        have gS : bgX T S := bgX_t gx ⟨fun q _ _ _ _ => by rw [sa], fun u z _ _ _ _ hu => su u z hu⟩
        have DS : Dk B pr id S W := Dk_x D (fun q _ _ => by rw [sa]) (fun u z hu => su u z (by omega))
        have hMS : Mp S W := fun k hk => by rw [sa]; exact hM k hk
        have stS : ∀ z, S.2 3 z = T.2 3 z := fun z => (su 3 z (by omega)).trans (st z)
        have r0 : S.1 47 0 = nI (d 0) := by rw [sa]; exact row 0 (by omega)
        have r1 : S.1 47 1 = nI (d 1) := by rw [sa]; exact row 1 (by omega)
        have l4 : (4 : Int32) ≤ nI 4 := by decide
        have il := c_Directory_isLast (S := S) (k := k) k6 ((so 3 (by omega) (by omega)).trans v3)
        rw [r0] at il
        have left : ∀ K : Int32 → rz_S → Prop, (((if nI (d 0) = 0 then (1 : Int32) else if k = 6 then 1 else 0) = 0 → rz_ev mDisk_isLegal [.int (nI (d 0)), .int (nI (d 1))] S (rz_i (fun xq5 Sq5 => ((xq5 = 0 → rz_ev mStatus_set [.ref 3, .int 71, .int (Sq5.1 47 0), .int (Sq5.1 47 1)] Sq5 (rz_i (fun xq8 Sq8 => vdK K (nI a2) xq8 Sq8))) ∧ (¬ xq5 = 0 → rz_ev mDirectory_goTo [.ref 46, .int (Sq5.1 47 0), .int (Sq5.1 47 1), .int ((Sq5.2 46 3) + 1), .int (-1)] Sq5 (rz_v (fun Sq7 => rz mDirectory_find 7 [(0, .ref 46), (1, .int 0), (2, .ref 113), (3, .int (nI (a3 + 1)))] [] Sq7 (rz_i (vdK K (nI a2)))))))))) ∧ (¬ (if nI (d 0) = 0 then (1 : Int32) else if k = 6 then 1 else 0) = 0 → vdK K (nI a2) 0 S)) → rz mDirectory_find 7 [(0, .ref 46), (1, .int 0), (2, .ref 113), (3, .int (nI a3))] [] V (rz_i (vdK K (nI a2))) := fun K h => p_Directory_find_7 pt113 ⟨fun z => absurd z n30, fun _ => ⟨fun z => by rw [v6] at z; exact absurd z (by decide), fun _ => p_Directory_find_43 pt113 ⟨fun _ => by
          rw [e1, hS, nI_1]
          refine ⟨fun _ => rz_toI il ⟨fun z => ?_, h.2⟩, fun z => absurd l4 z⟩
          rw [r0, r1]
          exact h.1 z, fun z => absurd rfl z⟩⟩⟩
        have right : ∀ R : Int32 → rz_S → Prop, ((nI (d 0) = 0 → R 0 W) ∧ (¬ nI (d 0) = 0 → rz mM_entries 7 [(0, .ref 116), (1, .int (nI (d 0))), (2, .int (nI (d 1))), (3, .int (nI (k + 1)))] [] W (rz_i R))) → rz mM_entries 33 [(0, .ref 116), (1, .int (nI t)), (2, .int (nI s)), (3, .int (nI k)), (4, .int (nI 4))] [] W (rz_i R) := fun R h => p_M_entries_33 ⟨fun _ => by
          rw [w0, w1, nI_1]
          exact h, fun z => absurd l4 z⟩
        have stp : ∀ K : Int32 → rz_S → Prop, rz_ev mBlockMap_store [.ref 44] S (rz_i (fun a b => K a b)) → vdK K (nI a2) 0 S := fun K h => ⟨fun _ => ⟨fun _ => h, fun z => absurd ((so 5 (by omega) (by omega)).trans v5) z⟩, fun z => absurd rfl z⟩
        by_cases dz : nI (d 0) = 0
        · rw [if_pos dz] at left
          exact ⟨0, S, W, gS, gm, ⟨B, id, DS⟩, Or.inl ⟨rfl, stS⟩, fun _ => hMS, fun K h => left K ⟨fun z => absurd z (by decide), fun _ => stp K (h.1 rfl)⟩, fun R h => right R ⟨fun _ => h, fun z => absurd dz z⟩⟩
        · rw [if_neg dz] at left
          by_cases k6' : k = 6
          · rw [if_pos k6'] at left
            refine ⟨0, S, W, gS, gm, ⟨B, id, DS⟩, Or.inl ⟨rfl, stS⟩, fun _ => hMS, fun K h => left K ⟨fun z => absurd z (by decide), fun _ => stp K (h.1 rfl)⟩, fun R h => right R ⟨fun z => absurd z dz, fun _ => p_M_entries_7 ⟨fun _ => h, fun z => absurd ?_ z⟩⟩⟩
            rw [k6']; decide
          · rw [if_neg k6'] at left
            have n6 : ¬ (6 : Int32) < nI (k + 1) := nI_nlt (a := 6) (b := k + 1) (by omega) (by omega)
            by_cases lg : lgI (nI (d 0)) (nI (d 1)) = 0
            · refine ⟨nI 71, st_set S (nI 71) (nI (d 0)) (nI (d 1)), rz_uI (rz_uI W 116 4 (nI (d 0))) 116 5 (nI (d 1)), bgX_t gS (bgX_rF (a := 40) (by omega) rF_s), bgM_t gm (bgM_t (bgM_u (by omega)) (bgM_u (by omega))), ⟨B, id, Dk_mu (Dk_mu (st_set_dk DS) (by omega)) (by omega)⟩, ans_fl 71 (d 0) (d 1) (by omega) (by omega) (stS 3), fun z => absurd z (by decide), fun K h => left K ⟨fun _ => rz_toI (c_Disk_legal _ _) ⟨fun _ => ?_, fun z => absurd lg z⟩, fun z => absurd rfl z⟩, fun R h => right R ⟨fun z => absurd z dz, fun _ => p_M_entries_7 ⟨fun z => absurd z n6, fun _ => rz_toI (c_M_legal _ _) ⟨fun _ => rz_toI (c_M_fault _ _ _) h, fun z => absurd lg z⟩⟩⟩⟩
              rw [r0, r1]
              exact rz_toI (c_Status_set _ _ _) (vd_flt (by decide) (h.2 (by decide)))
            · obtain ⟨u, v, u1, u2, hv, eu, ev⟩ := lgI_1 lg
              generalize hG : rz_uI (rz_uI (rz_uI (rz_uI (rz_uI S 46 1 (nI u)) 46 2 (nI v)) 46 3 (nI (k + 1))) 46 4 (-1)) 46 6 0 = G
              have ga : G.1 = V.1 := by rw [← hG]; exact sa
              have gu : ∀ w z, w ≠ 46 → G.2 w z = V.2 w z := fun w z hw => by rw [← hG]; simp (disch := omega) only [uI1, fA2, rz_fA_n, rz_uI_n, rz_fA_s, rz_uI_s, pk_us]; exact su w z hw
              obtain ⟨x, V1, W1, c1, c2, c3, c4, c5, c6, c7⟩ := ih B id u v (k + 1) 0 (a3 + 1) a2 G W (by omega) (by omega) (by omega) (by omega) (by omega) (by omega) u1 u2 hv ⟨bgX_t gx ⟨fun q _ _ _ _ => by rw [ga], fun w z _ _ _ _ hw => gu w z hw⟩, gm, Dk_x D (fun q _ _ => by rw [ga]) (fun w z hw => gu w z (by omega)), fun z => (gu 3 z (by omega)).trans (st z), fun j hj => by rw [ga]; exact hM j hj, by rw [← hG]; simp (disch := omega) only [uI1, fA2, rz_fA_n, rz_uI_n, rz_fA_s, rz_uI_s, pk_us], by rw [← hG]; simp (disch := omega) only [uI1, fA2, rz_fA_n, rz_uI_n, rz_fA_s, rz_uI_s, pk_us], by rw [← hG]; simp (disch := omega) only [uI1, fA2, rz_fA_n, rz_uI_n, rz_fA_s, rz_uI_s, pk_us], by rw [← hG]; simp (disch := omega) only [uI1, fA2, rz_fA_n, rz_uI_n, rz_fA_s, rz_uI_s, pk_us]; decide, by rw [← hG]; simp (disch := omega) only [uI1, fA2, rz_fA_n, rz_uI_n, rz_fA_s, rz_uI_s, pk_us]; exact (so 5 (by omega) (by omega)).trans v5, Or.inl ⟨rfl, by rw [← hG]; simp (disch := omega) only [uI1, fA2, rz_fA_n, rz_uI_n, rz_fA_s, rz_uI_s, pk_us]⟩⟩
              refine ⟨x, V1, W1, c1, c2, c3, c4, c5, fun K h => left K ⟨fun _ => rz_toI (c_Disk_legal _ _) ⟨fun z => absurd z lg, fun _ => ?_⟩, fun z => absurd rfl z⟩, fun R h => right R ⟨fun z => absurd z dz, fun _ => p_M_entries_7 ⟨fun z => absurd z n6, fun _ => rz_toI (c_M_legal _ _) ⟨fun z => absurd z lg, fun _ => ?_⟩⟩⟩⟩
              · rw [r0, r1, so 3 (by omega) (by omega), v3, nI_1, eu, ev]
                show rz _ 0 [(0, .ref 46), (1, .int (nI u)), (2, .int (nI v)), (3, .int (nI (k + 1))), (4, .int (-1))] [] _ _
                refine p_Directory_goTo_0 ?_
                rw [hG]
                exact c6 K h
              · rw [eu, ev]
                exact c7 R h
section CM7
variable {M n : Nat} {B : Nat → Nat → Bool} {pr : Bool} {id : Option (Nat × Nat)} {T U : rz_S}
theorem va_pair (hC : cmC M n B pr id T U) (hall : T.2 113 1 = 1 ∧ T.1 114 0 = 42) : CM M pr T U mCommands_validate mM_validates [.ref 108] [.ref 116] := by
  obtain ⟨x, V1, y, W1, l1, l2, rfl, lx, lm, ⟨id1, D1⟩, la, lM⟩ := PR_load hC.2.1
  have rw0 : ∀ (V : rz_S) (a : Int32) (K : Int32 → rz_S → Prop), rz mCommands_validate 43 [(0, .ref 108), (1, .int a), (2, .int 0)] [] (rz_uI (rz_uI (rz_uI (rz_uI (rz_uI V 46 1 7) 46 2 1) 46 3 1) 46 4 (-1)) 46 6 0) (rz_i K) → rz mCommands_validate 34 [(0, .ref 108), (1, .int a)] [] V (rz_i K) := fun V a K h => p_Commands_validate_34 (rz_toV c_rewind h)
  have gR : ∀ V : rz_S, bgX V (rz_uI (rz_uI (rz_uI (rz_uI (rz_uI V 46 1 7) 46 2 1) 46 3 1) 46 4 (-1)) 46 6 0) := fun V => ⟨fun _ _ _ _ _ => rfl, fun u z _ _ _ _ hu => by simp (disch := omega) only [uI1, fA2, rz_fA_n, rz_uI_n, rz_fA_s, rz_uI_s, pk_us]⟩
  have uR : ∀ (V : rz_S) (u z : Nat), u ≠ 46 → (rz_uI (rz_uI (rz_uI (rz_uI (rz_uI V 46 1 7) 46 2 1) 46 3 1) 46 4 (-1)) 46 6 0).2 u z = V.2 u z := fun V u z hu => by simp (disch := omega) only [uI1, fA2, rz_fA_n, rz_uI_n, rz_fA_s, rz_uI_s, pk_us]
  have stop : ∀ (V W : rz_S) (a : Int32), ¬ a = 0 → bgX T V → bgM U W → (∃ B id, Dk B pr id V W) → ans T a V W → (∀ K : Int32 → rz_S → Prop, rz mCommands_validate 34 [(0, .ref 108), (1, .int a)] [] V (rz_i K) → rz_ev mCommands_validate [.ref 108] T (rz_i K)) → (∀ K : Int32 → rz_S → Prop, K a W → rz_ev mM_validates [.ref 116] U (rz_i K)) → CM M pr T U mCommands_validate mM_validates [.ref 108] [.ref 116] := fun V W a a0 gx gm hD an l r => by
    obtain ⟨B', id', D'⟩ := hD
    refine ⟨a, rz_uI (rz_uI (rz_uI (rz_uI (rz_uI V 46 1 7) 46 2 1) 46 3 1) 46 4 (-1)) 46 6 0, W, cm_of hC (bgX_t gx (gR V)) gm ⟨B', id', Dk_x D' (fun _ _ _ => rfl) (fun u z hu => uR V u z (by omega))⟩ ?_, rzx_of (fun K h => l K (rw0 V a K (vd_stop a0 h))), rzx_of (fun K h => r K h)⟩
    rcases an with ⟨q, _⟩ | ⟨xc, q1, q2, q3, ⟨ft, fs, ⟨p0, p1, p2, p3, p4⟩, w1, w2⟩, q5⟩
    · exact absurd q a0
    · exact Or.inr ⟨xc, q1, q2, q3, ⟨ft, fs, ⟨(uR V 3 0 (by omega)).trans p0, (uR V 3 1 (by omega)).trans p1, (uR V 3 2 (by omega)).trans p2, (uR V 3 5 (by omega)).trans p3, (uR V 3 6 (by omega)).trans p4⟩, w1, w2⟩, (uR V 3 3 (by omega)).trans q5⟩
  have left1 : ∀ K : Int32 → rz_S → Prop, ((x = 0 → rz_ev mBlockMap_freeAll [.ref 44] V1 (rz_v (fun Sq3 => rz_ev mBlockMap_takeBlock [.ref 44, .int 7, .int 0] Sq3 (rz_v (fun Sq4 => rz_ev mCommands_takeDirectory [.ref 108] Sq4 (rz_i (fun xq5 Sq5 => rz mCommands_validate 34 [(0, .ref 108), (1, .int xq5)] [] Sq5 (rz_i K)))))))) ∧ (¬ x = 0 → rz mCommands_validate 34 [(0, .ref 108), (1, .int x)] [] V1 (rz_i K))) → rz_ev mCommands_validate [.ref 108] T (rz_i K) := fun K h => by
    show rz _ 0 [(0, .ref 108)] [] _ _
    exact p_Commands_validate_0 (rzx_I l1 h)
  have right1 : ∀ K : Int32 → rz_S → Prop, ((x = 0 → rz_ev mM_freesAll [.ref 116] W1 (rz_v (fun Sq3 => rz_ev mM_takes [.ref 116, .int 7, .int 0] Sq3 (rz_v (fun Sq4 => rz mM_validates 33 [(0, .ref 116), (2, .int 7), (3, .int 1), (4, .int 0), (5, .int 1)] [] Sq4 (rz_i K)))))) ∧ (¬ x = 0 → K x W1)) → rz_ev mM_validates [.ref 116] U (rz_i K) := fun K h => by
    show rz _ 0 [(0, .ref 116)] [] _ _
    exact p_M_validates_0 (rzx_I l2 h)
  by_cases x0 : x = 0
  · subst x0
    have hM := lM rfl
    have st1 := ans_z la rfl
    have hMf : Mp (rz_fA V1 45 (faR 12 1 (V1.1 45))) (rz_fA W1 123 (faR 12 1 (W1.1 123))) := fun k hk => by
      rw [rz_fA_s, rz_fA_s]
      exact faR_c 12 1 rfl (by omega) hM k hk
    have f17 : ∀ F : Nat → Int32, fr (faR 12 1 F) 7 0 = true := fun F => by
      unfold fr
      rw [show faR 12 1 F (3 + 2 * 7) = (63 : Int32) from rfl]
      decide
    obtain ⟨V2, W2, t1, t2, cx, cm, _, D2, hM2, st2, etk⟩ := tb_pair (u := 7) (v := 0) hMf (Dk_mf (Dk_xf D1 (by omega)) (by omega)) (by omega) (by omega) (by unfold sct; omega)
    obtain ⟨_, rt⟩ := etk (by rw [rz_fA_s]; exact f17 _)
    have gx2 : bgX T V2 := bgX_t (bgX_ch lx) (bgX_t (bgX_f (by omega)) (bgX_ch cx))
    have gm2 : bgM U W2 := bgM_t (bgM_ch lm) (bgM_t (bgM_f (by omega)) cm)
    have sT2 : ∀ z, V2.2 3 z = T.2 3 z := fun z => (st2 z).trans (st1 z)
    obtain ⟨a, V3, W3, gx3, gm3, ⟨id3, D3⟩, an3, hM3, l3, r3⟩ := td_loop (B := B) (pr := pr) (T := T) (U := U) 5 0 7 1 V2 W2 rfl ⟨7, by omega, rfl⟩ ⟨1, by omega, rfl⟩ gx2 gm2 ⟨id1, D2⟩ hM2 sT2
    have left2 : ∀ K : Int32 → rz_S → Prop, rz mCommands_validate 34 [(0, .ref 108), (1, .int a)] [] V3 (rz_i K) → rz_ev mCommands_validate [.ref 108] T (rz_i K) := fun K h => left1 K ⟨fun _ => rz_toV c_BlockMap_freeAll (t1 _ (by
      show rz _ 0 [(0, .ref 108)] [] _ _
      exact p_Commands_takeDirectory_0 (l3 _ h))), fun z => absurd rfl z⟩
    have right2 : ∀ Q : Int32 → rz_S → Prop, ((a = 0 → rz_ev mM_entries [.ref 116] W3 (rz_i (fun a S => ((a = 0 → rz_ev mM_stores [.ref 116] S (rz_i (fun c S2 => Q c S2))) ∧ (¬ a = 0 → Q a S))))) ∧ (¬ a = 0 → Q a W3)) → rz_ev mM_validates [.ref 116] U (rz_i Q) := fun Q h => right1 Q ⟨fun _ => rz_toV c_M_freesAll (rt _ (r3 Q h)), fun z => absurd rfl z⟩
    by_cases a0 : a = 0
    · subst a0
      have sT3 := ans_z an3 rfl
      generalize hR : rz_uI (rz_uI (rz_uI (rz_uI (rz_uI V3 46 1 7) 46 2 1) 46 3 1) 46 4 (-1)) 46 6 0 = R0
      generalize hV0 : rz_uI R0 46 5 0 = V0
      have za : V0.1 = V3.1 := by rw [← hV0, ← hR]; rfl
      have zu : ∀ u z, u ≠ 46 → V0.2 u z = V3.2 u z := fun u z hu => by rw [← hV0, ← hR]; simp (disch := omega) only [uI1, fA2, rz_fA_n, rz_uI_n, rz_fA_s, rz_uI_s, pk_us]
      obtain ⟨y, V4, W4, c1, c2, c3, c4, c5, c6, c7⟩ := vd_loop (pr := pr) (T := T) (U := U) hall 30 B id3 7 1 1 0 0 0 V0 W3 rfl (by omega) (by omega) (by omega) (by omega) (by omega) (by omega) (by omega) (by unfold sct; omega) ⟨bgX_t gx3 ⟨fun q _ _ _ _ => by rw [za], fun u z _ _ _ _ hu => zu u z hu⟩, gm3, Dk_x D3 (fun q _ _ => by rw [za]) (fun u z hu => zu u z (by omega)), fun z => (zu 3 z (by omega)).trans (sT3 z), fun k hk => by rw [za]; exact hM3 rfl k hk, by rw [← hV0, ← hR]; simp (disch := omega) only [uI1, fA2, rz_fA_n, rz_uI_n, rz_fA_s, rz_uI_s, pk_us]; rfl, by rw [← hV0, ← hR]; simp (disch := omega) only [uI1, fA2, rz_fA_n, rz_uI_n, rz_fA_s, rz_uI_s, pk_us]; rfl, by rw [← hV0, ← hR]; simp (disch := omega) only [uI1, fA2, rz_fA_n, rz_uI_n, rz_fA_s, rz_uI_s, pk_us]; rfl, by rw [← hV0, ← hR]; simp (disch := omega) only [uI1, fA2, rz_fA_n, rz_uI_n, rz_fA_s, rz_uI_s, pk_us]; decide, by rw [← hV0]; simp (disch := omega) only [uI1, fA2, rz_fA_n, rz_uI_n, rz_fA_s, rz_uI_s, pk_us], Or.inl ⟨rfl, by rw [← hV0, ← hR]; simp (disch := omega) only [uI1, fA2, rz_fA_n, rz_uI_n, rz_fA_s, rz_uI_s, pk_us]⟩⟩
      have left3 : ∀ K : Int32 → rz_S → Prop, ((y = 0 → rz_ev mBlockMap_store [.ref 44] V4 (rz_i (fun a b => K a b))) ∧ (¬ y = 0 → K y V4)) → rz_ev mCommands_validate [.ref 108] T (rz_i K) := fun K h => left2 K (rw0 V3 0 K (by
        rw [hR]
        refine p_Commands_validate_43 ⟨fun z => absurd z (by decide), fun _ => ⟨fun _ => ?_, fun z => absurd rfl z⟩⟩
        show rz _ 0 [(0, .ref 46), (1, .int 0), (2, .ref 113)] [] _ _
        refine p_Directory_find_0 pt113 ?_
        rw [hV0]
        exact c6 K h))
      have right3 : ∀ Q : Int32 → rz_S → Prop, ((y = 0 → rz_ev mM_stores [.ref 116] W4 (rz_i (fun c S2 => Q c S2))) ∧ (¬ y = 0 → Q y W4)) → rz_ev mM_validates [.ref 116] U (rz_i Q) := fun Q h => right2 Q ⟨fun _ => by
        show rz _ 0 [(0, .ref 116)] [] _ _
        refine p_M_entries_0 (p_M_entries_7 ⟨fun z => absurd z (by decide), fun _ => rz_toI (c_M_legal _ _) ⟨fun z => ?_, fun _ => c7 _ h⟩⟩)
        have := lgI_y (u := 7) (v := 1) (by omega) (by omega) (by unfold sct; omega)
        rw [show lgI 7 1 = (1 : Int32) from this] at z
        exact absurd z (by decide), fun z => absurd rfl z⟩
      obtain ⟨B4, id4, D4⟩ := c3
      by_cases y0 : y = 0
      · subst y0
        obtain ⟨w, V5, w', W5, b1, b2, rfl, fx, fm, hD5, an5⟩ := PR_store D4 (c5 rfl)
        exact ⟨w, V5, W5, cm_of hC (bgX_t c1 (bgX_rF (by omega) fx)) (bgM_t c2 (bgM_wM fm)) hD5 (ans_t (ans_z c4 rfl) an5), rzx_of (fun K h => left3 K ⟨fun _ => rzx_I b1 h, fun z => absurd rfl z⟩), rzx_of (fun K h => right3 K ⟨fun _ => rzx_I b2 h, fun z => absurd rfl z⟩)⟩
      · exact ⟨y, V4, W4, cm_of hC c1 c2 ⟨B4, id4, D4⟩ c4, rzx_of (fun K h => left3 K ⟨fun z => absurd z y0, fun _ => h⟩), rzx_of (fun K h => right3 K ⟨fun z => absurd z y0, fun _ => h⟩)⟩
    · exact stop V3 W3 a a0 gx3 gm3 ⟨B, id3, D3⟩ an3 left2 (fun K h => right2 K ⟨fun z => absurd z a0, fun _ => h⟩)
  · exact stop V1 W1 x x0 (bgX_ch lx) (bgM_ch lm) ⟨B, id1, D1⟩ la (fun K h => left1 K ⟨fun z => absurd z x0, fun _ => h⟩) (fun K h => right1 K ⟨fun z => absurd z x0, fun _ => h⟩)
end CM7
