/-! the calls open and write, channel 15 too, keep the relation -/
/-- behind a command -/
theorem RR_cm {k M : Nat} {pr : Bool} {T U V W : rz_S} {x : Int32} (z0 : T.2 3 0 = 0 ∧ T.2 3 1 = 0 ∧ T.2 3 2 = 0 ∧ T.2 3 5 = 0 ∧ T.2 3 6 = 0) (u0 : U.2 116 56 = 0 ∧ U.2 116 57 = 0 ∧ U.2 116 58 = 0 ∧ U.2 116 59 = 0) (hT : Tpe 0 T U) (hM0 : M ≤ 20 * k) (h6 : ouR T U) (h9 : T.2 113 1 = 1 ∧ T.1 114 0 = 42) (hE : cmE M pr T U x V W) : ∃ y W1, rzx mM_ends [.ref 116, .int x] W (some (.int y)) W1 ∧ V.2 3 0 = y ∧ RR k V W1 := by
  obtain ⟨hx, hm, ⟨B, id, D⟩, an, ch, rp, cp⟩ := hE
  have w0 : W.2 116 56 = 0 ∧ W.2 116 57 = 0 ∧ W.2 116 58 = 0 ∧ W.2 116 59 = 0 := ⟨(hm.2.2 56 (by omega)).trans u0.1, (hm.2.2 57 (by omega)).trans u0.2.1, (hm.2.2 58 (by omega)).trans u0.2.2.1, (hm.2.2 59 (by omega)).trans u0.2.2.2⟩
  obtain ⟨S0, s0, a0⟩ : ∃ S0 : rz_S, (S0.2 3 0 = 0 ∧ S0.2 3 1 = 0 ∧ S0.2 3 2 = 0 ∧ S0.2 3 5 = 0 ∧ S0.2 3 6 = 0) ∧ ans S0 x V W := by
    rcases an with ⟨e, q⟩ | q
    · exact ⟨V, ⟨(q 0 (by omega)).trans z0.1, (q 1 (by omega)).trans z0.2.1, (q 2 (by omega)).trans z0.2.2.1, (q 5 (by omega)).trans z0.2.2.2.1, (q 6 (by omega)).trans z0.2.2.2.2⟩, Or.inl ⟨e, fun _ => rfl⟩⟩
    · exact ⟨T, z0, Or.inr q⟩
  obtain ⟨y, W1, e1, y1, hst, en⟩ := s_fin (Sx := V) (Sm := W) s0 w0 a0
  refine ⟨y, W1, e1, y1, 0, M, B, pr, id, Tpe_c (V := T) (W := U) hx.1 (hx.2.2.1 1 (by omega)) (by rw [en.1]; exact hm.1) ((en.2 116 64 (by omega)).trans (hm.2.2 64 (by omega))) hT, by omega, en_dk D en, hst, rpR_c rfl (fun _ _ _ => rfl) (by rw [en.1]) (fun z a b => en.2 116 z (by omega)) rp, ouR_c (V := T) (W := U) hx.2.1.1 (fun z => hx.2.2.2 0 z (Or.inl rfl)) (by rw [en.1]; exact hm.2.1) (fun z hz => (en.2 116 z (by omega)).trans (hm.2.2 z (by omega))) h6, cpR_c rfl (fun _ => rfl) (by rw [en.1]) (fun z a b => en.2 116 z (by omega)) cp, fun c hc => Chn_en en (ch c hc), (hx.2.2.2 113 1 (Or.inr rfl)).trans h9.1, by rw [hx.2.1.2]; exact h9.2⟩
/-- channel 15, behind the sending -/
theorem co_pair (hS : SCR) {k m n : Nat} {Sx Sm : rz_S} (h : RR k Sx Sm) (hT : Tpe m Sx Sm) (hnm : n ≤ m) : ∃ M1 x V y W, rzx mM_sends [.ref 116, .int (nI n)] Sm none M1 ∧ rzx mCommands_run [.ref 108] (rz_uI (rz_uI Sx 1 2 (nI n)) 1 1 0) (some (.int x)) V ∧ rzx mM_commands [.ref 116, .int (nI n)] M1 (some (.int y)) W ∧ V.2 3 0 = y ∧ RR (k + 1) V W := by
  obtain ⟨m', M, B, pr, id, h1, h2, h3, h4, h5, h6, h7, h8, h9⟩ := h
  have hm4 := hT.1
  obtain ⟨Sm1, f, es, eS, f1, f2⟩ := c_sends (S := Sm) (n := n) (by omega)
  obtain ⟨hTx, hTp, _, _⟩ := sd_of hT hnm f1 f2
  subst eS
  generalize hS1 : rz_uI (rz_uI Sx 1 2 (nI n)) 1 1 0 = S1 at hTx hTp ⊢
  generalize hM1 : rz_uI (rz_fA Sm 151 f) 116 64 0 = M1 at hTx hTp es
  have sa : S1.1 = Sx.1 := by rw [← hS1]; rfl
  have su : ∀ u z, u ≠ 1 → S1.2 u z = Sx.2 u z := fun u z hu => by rw [← hS1]; simp (disch := omega) only [uI1, fA2, rz_fA_n, rz_uI_n, rz_fA_s, rz_uI_s, pk_us]
  have ma : ∀ p, p ≠ 151 → M1.1 p = Sm.1 p := fun p hp => by rw [← hM1]; simp (disch := omega) only [uI1, fA2, rz_fA_n, rz_uI_n, rz_fA_s, rz_uI_s, pk_us]
  have mu : ∀ z, z ≠ 64 → M1.2 116 z = Sm.2 116 z := fun z hz => by rw [← hM1]; simp (disch := omega) only [uI1, fA2, rz_fA_n, rz_uI_n, rz_fA_s, rz_uI_s, pk_us]
  have D1 : Dk B pr id S1 M1 := Dk_m (Dk_x h3 (fun q _ _ => by rw [sa]) (fun u z hu => su u z (by omega))) (fun q a b => ma q (by omega)) (fun z hz => mu z (by omega))
  have c1 : ∀ d, d < 15 → Chn M d S1 M1 := fun d hd => Chn_e hd (fun p _ _ => by rw [sa]) (fun u z _ _ => su u z (by omega)) (fun p _ _ => ma p (by omega)) (h8 d hd)
  have cp1 : cpR S1 M1 := cpR_c (V := Sx) (W := Sm) (by rw [sa]) (fun z => su 37 z (by omega)) (ma 155 (by omega)) (fun z _ _ => mu z (by omega)) h7
  have ou1 : ouR S1 M1 := ouR_c (V := Sx) (W := Sm) (by rw [sa]) (fun z => su 0 z (by omega)) (ma 152 (by omega)) (fun z _ => mu z (by omega)) h6
  have al1 : S1.2 113 1 = 1 ∧ S1.1 114 0 = 42 := ⟨(su 113 1 (by omega)).trans h9.1, by rw [sa]; exact h9.2⟩
  by_cases n0 : n = 0
  · subst n0
    have st1 : stT S1 M1 := stT_c (V := Sx) (W := Sm) (by rw [sa]) (fun z _ => su 3 z (by omega)) (fun z _ _ => mu z (by omega)) h4
    refine ⟨M1, 0, S1, M1.2 116 56, M1, es, rzx_of (fun K h => ?_), rzx_of (fun K h => ?_), ?_, 0, M, B, pr, id, hTp, by omega, D1, st1, rpR_c (V := Sx) (W := Sm) (by rw [sa]) (fun z _ _ => su 3 z (by omega)) (ma 149 (by omega)) (fun z _ _ => mu z (by omega)) h5, ou1, cp1, c1, al1⟩
    · show rz _ 0 [(0, .ref 108)] [] _ _
      exact p_Commands_run_0 ⟨fun _ => h, fun z => absurd hTx.2.1 z⟩
    · show rz _ 0 [(0, .ref 116), (1, .int (nI 0))] [] _ _
      exact p_M_commands_0 ⟨fun _ => h, fun z => absurd rfl z⟩
    · obtain ⟨q, _, a, b, _⟩ := st1
      exact a.trans b.symm
  · have z0 : (st_begin S1).2 3 0 = 0 ∧ (st_begin S1).2 3 1 = 0 ∧ (st_begin S1).2 3 2 = 0 ∧ (st_begin S1).2 3 5 = 0 ∧ (st_begin S1).2 3 6 = 0 := ⟨rfl, rfl, rfl, rfl, rfl⟩
    have U5 : (md_begins M1).2 116 56 = 0 ∧ (md_begins M1).2 116 57 = 0 ∧ (md_begins M1).2 116 58 = 0 ∧ (md_begins M1).2 116 59 = 0 := ⟨rfl, rfl, rfl, rfl⟩
    have TT : Txt n (st_begin S1) (md_begins M1) := ⟨hTx.1, (bg_3 (by omega)).trans hTx.2.1, hTx.2.2.1, hTx.2.2.2⟩
    have hC : cmC M n B pr id (st_begin S1) (md_begins M1) := ⟨TT, bg_dk D1, fun d hd => Chn_bg (c1 d hd), ⟨xb_0 (by omega), xb_0 (by omega), mb_0 (by omega), mb_0 (by omega)⟩, bgCp cp1⟩
    have nz : ¬ nI n = 0 := nI_ne0 (by omega) (by omega)
    have fin := fun (x : Int32) (V W : rz_S) (hE : cmE M pr (st_begin S1) (md_begins M1) x V W) => RR_cm (k := k + 1) z0 U5 (bgTp hTp) (by omega) (bgOu ou1) ⟨(bg_3 (by omega)).trans al1.1, al1.2⟩ hE
    by_cases n40 : n ≤ 40
    · obtain ⟨x, V, W, hE, a, b⟩ := do_pair hS (by omega) n40 hC al1
      obtain ⟨y, W1, e1, y1, hR⟩ := fin x V W hE
      refine ⟨M1, x, V, y, W1, es, a, rzx_of (fun K h => ?_), y1, hR⟩
      show rz _ 0 [(0, .ref 116), (1, .int (nI n))] [] _ _
      exact p_M_commands_0 ⟨fun z => absurd z nz, fun _ => rz_toV c_M_begins ⟨fun _ => rzx_I b (rzx_I e1 h), fun z => absurd (nI_le (b := 40) n40 (by omega)) z⟩⟩
    · have nle : ¬ nI n ≤ 40 := fun z => n40 ((nI_leI (b := 40) (by omega) (by omega)).mp z)
      obtain ⟨y, W1, e1, y1, hR⟩ := fin _ _ _ (cm_f0 hC 32 0 0 (by omega) (by omega))
      refine ⟨M1, nI 32, _, y, W1, es, rzx_of (fun K h => ?_), rzx_of (fun K h => ?_), y1, hR⟩
      · show rz _ 0 [(0, .ref 108)] [] _ _
        refine p_Commands_run_0 ⟨fun z => absurd (hTx.2.1.symm.trans z) nz, fun _ => rz_toV c_Status_begin ⟨fun z => absurd ?_ nle, fun _ => rz_toI (c_Status_set _ _ _) h⟩⟩
        rw [bg_3 (by omega), hTx.2.1] at z
        exact z
      · show rz _ 0 [(0, .ref 116), (1, .int (nI n))] [] _ _
        exact p_M_commands_0 ⟨fun z => absurd z nz, fun _ => rz_toV c_M_begins ⟨fun z => absurd z nle, fun _ => rz_toI (c_M_fault _ _ _) (rzx_I e1 h)⟩⟩
/-- a number of bytes that the TAPE has, or none -/
theorem tp_or {m : Nat} (hm : m ≤ 400) (b : Int32) : (b < 0 ∨ nI m < b) ∨ ∃ n : Nat, n ≤ m ∧ b = nI n := by
  by_cases h0 : b < 0
  · exact Or.inl (Or.inl h0)
  · by_cases h1 : nI m < b
    · exact Or.inl (Or.inr h1)
    · have q1 : ¬ b.toInt < 0 := fun z => h0 (Int32.lt_iff_toInt_lt.mpr z)
      have q2 : ¬ (nI m).toInt < b.toInt := fun z => h1 (Int32.lt_iff_toInt_lt.mpr z)
      rw [nI_toInt (by omega)] at q2
      refine Or.inr ⟨b.toInt.toNat, by omega, Int32.toInt_inj.mp ?_⟩
      rw [nI_toInt (by omega)]
      omega
section JOIN2
variable {k : Nat} {Sx Sm : rz_S}
theorem RR_open (hS : SCR) (h : RR k Sx Sm) (a b : Int32) : PCi mX_open mM_open [.ref 0, .int a, .int b] [.ref 116, .int a, .int b] Sx Sm (fun x V y W => x = y ∧ RR (k + 1) V W) := by
  have h0 := h
  obtain ⟨m, M, B, pr, id, h1, h2, h3, h4, h5, h6, h7, h8, h9⟩ := h
  rcases ch_or a with ha | ⟨c, hc, rfl⟩
  · exact rf_up h0 (PR_refO h1 (Or.inl ha))
  · rcases tp_or h1.1 b with hb | ⟨n, hn, rfl⟩
    · exact rf_up h0 (PR_refO h1 (Or.inr hb))
    · by_cases c15 : c = 15
      · subst c15
        obtain ⟨M1, x, V, y, W, e1, e2, e3, xy, hR⟩ := co_pair hS h0 h1 hn
        have hm4 := h1.1
        refine ⟨V.2 3 0, V, y, W, rzx_of (fun K q => ?_), rzx_of (fun K q => ?_), xy, hR⟩
        · show rz _ 0 [(0, .ref 0), (1, .int (nI 15)), (2, .int (nI n))] [] _ _
          refine p_X_open_0 (rz_useI (c_sendText (m := m) hm4 h1.2.1 _ _) (fun z S2 w => ?_))
          rcases w with ⟨_, _, bad⟩ | ⟨rfl, rfl, _⟩
          · rcases bad with (z | z) | z | z
            · exact absurd z (by decide)
            · exact absurd z (by decide)
            · exact absurd z (nI_pos (by omega))
            · exact absurd (nI_le hn (by omega)) (Int32.not_le.mpr z)
          · exact ⟨fun z => absurd z (by decide), fun _ => ⟨fun _ => rzx_I e2 q, fun z => absurd rfl z⟩⟩
        · show rz _ 0 [(0, .ref 116), (1, .int (nI 15)), (2, .int (nI n))] [] _ _
          exact p_M_open_0 ⟨fun z => absurd z (by decide), fun _ => ⟨fun z => absurd z (by decide), fun _ => ⟨fun z => absurd z (nI_pos (by omega)), fun _ => ⟨fun _ => rzx_V e1 ⟨fun _ => rzx_I e3 q, fun z => absurd rfl z⟩, fun z => absurd (by rw [h1.2.2.1]; exact nI_le hn (by omega)) z⟩⟩⟩⟩
      · obtain ⟨f, hT, hP⟩ := PR_openC (M := M) (c := c) (n := n) (by omega) hn h1 h3 h8
        exact PCi_w hP (fun x V y W q => RR_op (B := B) (id := id) (m := m) (M := M) (N := M) (Nat.le_refl M) (by omega) h6 h7 h8 h9 hT q)
theorem RR_write (hS : SCR) (hk : k < 512) (h : RR k Sx Sm) (a b : Int32) : PCi mX_write mM_write [.ref 0, .int a, .int b] [.ref 116, .int a, .int b] Sx Sm (fun x V y W => x = y ∧ RR (k + 1) V W) := by
  have h0 := h
  obtain ⟨m, M, B, pr, id, h1, h2, h3, h4, h5, h6, h7, h8, h9⟩ := h
  rcases ch_or a with ha | ⟨c, hc, rfl⟩
  · exact rf_up h0 (PR_refW h1 (Or.inl ha))
  · rcases tp_or h1.1 b with hb | ⟨n, hn, rfl⟩
    · exact rf_up h0 (PR_refW h1 (Or.inr hb))
    · by_cases c15 : c = 15
      · subst c15
        obtain ⟨M1, x, V, y, W, e1, e2, e3, xy, hR⟩ := co_pair hS h0 h1 hn
        have hm4 := h1.1
        refine ⟨V.2 3 0, V, y, W, rzx_of (fun K q => ?_), rzx_of (fun K q => ?_), xy, hR⟩
        · show rz _ 0 [(0, .ref 0), (1, .int (nI 15)), (2, .int (nI n))] [] _ _
          refine p_X_write_0 (rz_useI (c_sendText (m := m) hm4 h1.2.1 _ _) (fun z S2 w => ?_))
          rcases w with ⟨_, _, bad⟩ | ⟨rfl, rfl, _⟩
          · rcases bad with (z | z) | z | z
            · exact absurd z (by decide)
            · exact absurd z (by decide)
            · exact absurd z (nI_pos (by omega))
            · exact absurd (nI_le hn (by omega)) (Int32.not_le.mpr z)
          · exact ⟨fun z => absurd z (by decide), fun _ => ⟨fun _ => rzx_I e2 q, fun z => absurd rfl z⟩⟩
        · show rz _ 0 [(0, .ref 116), (1, .int (nI 15)), (2, .int (nI n))] [] _ _
          exact p_M_write_0 ⟨fun z => absurd z (by decide), fun _ => ⟨fun z => absurd z (by decide), fun _ => ⟨fun z => absurd z (nI_pos (by omega)), fun _ => ⟨fun _ => rzx_V e1 ⟨fun _ => rzx_I e3 q, fun z => absurd rfl z⟩, fun z => absurd (by rw [h1.2.2.1]; exact nI_le hn (by omega)) z⟩⟩⟩⟩
      · by_cases n0 : n = 0
        · subst n0
          obtain ⟨f, hT, hP⟩ := PR_write0 (c := c) (by omega) h1 h4
          refine PCi_w hP (fun x V y W q => ?_)
          obtain ⟨q1, q2, q3⟩ := q
          rw [← q2, ← q3] at hT
          have sa : V.1 = Sx.1 := by rw [q2]; rfl
          have su : ∀ u z, u ≠ 1 → V.2 u z = Sx.2 u z := fun u z hu => by rw [q2]; simp (disch := omega) only [uI1, fA2, rz_fA_n, rz_uI_n, rz_fA_s, rz_uI_s, pk_us]
          have ma : ∀ p, p ≠ 151 → W.1 p = Sm.1 p := fun p hp => by rw [q3]; simp (disch := omega) only [uI1, fA2, rz_fA_n, rz_uI_n, rz_fA_s, rz_uI_s, pk_us]
          have mu : ∀ z, z ≠ 64 → W.2 116 z = Sm.2 116 z := fun z hz => by rw [q3]; simp (disch := omega) only [uI1, fA2, rz_fA_n, rz_uI_n, rz_fA_s, rz_uI_s, pk_us]
          exact ⟨q1, 0, M, B, pr, id, hT, by omega, Dk_m (Dk_x h3 (fun q _ _ => by rw [sa]) (fun u z hu => su u z (by omega))) (fun q a b => ma q (by omega)) (fun z hz => mu z (by omega)), stT_c (V := Sx) (W := Sm) (by rw [sa]) (fun z _ => su 3 z (by omega)) (fun z _ _ => mu z (by omega)) h4, rpR_c (V := Sx) (W := Sm) (by rw [sa]) (fun z _ _ => su 3 z (by omega)) (ma 149 (by omega)) (fun z _ _ => mu z (by omega)) h5, ouR_c (V := Sx) (W := Sm) (by rw [sa]) (fun z => su 0 z (by omega)) (ma 152 (by omega)) (fun z _ => mu z (by omega)) h6, cpR_c (V := Sx) (W := Sm) (by rw [sa]) (fun z => su 37 z (by omega)) (ma 155 (by omega)) (fun z _ _ => mu z (by omega)) h7, fun d hd => Chn_e hd (fun p _ _ => by rw [sa]) (fun u z _ _ => su u z (by omega)) (fun p _ _ => ma p (by omega)) (h8 d hd), (su 113 1 (by omega)).trans h9.1, by rw [sa]; exact h9.2⟩
        · obtain ⟨f, hT, hP⟩ := PR_writeC (M := M) (c := c) (n := n) (by omega) (by omega) hn (by omega) h1 h3 h8
          exact PCi_w hP (fun x V y W q => RR_op (B := B) (id := id) (m := m) (M := M) (N := M + n) (by omega) (by omega) h6 h7 h8 h9 hT q)
end JOIN2
