/-! commands: B-P, U1, U2 -/
section CM3
variable {M n : Nat} {B : Nat → Nat → Bool} {pr : Bool} {id : Option (Nat × Nat)} {T U V W V1 W1 : rz_S} {x : Int32}
theorem cm_g {c : Nat} (hC : cmC M n B pr id T U) (gx : GX c T V) (gm : GM c U W) (hD : ∃ B id, Dk B pr id V W) (an : ans T x V W) (hh : c < 15 → Chn M c V W) : cmE M pr T U x V W := by
  obtain ⟨_, _, hc, ⟨r1, r2, r3, r4⟩, c1, c2, c3⟩ := hC
  refine ⟨⟨gx.1.1 2 (by omega), ⟨gx.2.1, gx.1.1 114 (by omega)⟩, fun z hz => gx.1.2.2.1 1 z (by omega), fun u z hu => (by
    rcases hu with e | e
    · subst e; exact gx.2.2 z
    · subst e; exact gx.1.2.2.1 113 z (by omega))⟩, ⟨gm.1.1 150 (by omega), gm.2.1, fun z hz => ?_⟩, hD, anW_a an, fun d hd => ?_, Or.inl ⟨(gm.1.2.2.2.2 61 (by omega)).trans r3, (gm.1.2.2.2.2 62 (by omega)).trans r4, ?_⟩, fun b => ?_, fun z a b => ?_, ?_⟩
  · by_cases z64 : z = 64
    · subst z64; exact gm.1.2.2.2.2 64 (by omega)
    · exact gm.2.2 z (by omega)
  · by_cases e : d = c
    · subst e; exact hh hd
    · exact Chn_f hd e gx.1 gm.1 (hc d hd)
  · rw [gx.1.2.2.1 3 8 (by omega), gx.1.2.2.1 3 9 (by omega), r1, r2]; decide
  · rw [gx.1.1 38 (by omega), gm.1.1 155 (by omega)]; exact c1 b
  · rw [gx.1.2.2.1 37 z (by omega), gm.1.2.2.2.2 (75 + z) (by omega)]; exact c2 z a b
  · rw [gx.1.2.2.1 37 5 (by omega), gm.1.2.2.2.2 82 (by omega)]; exact c3
theorem cmE_t (hx : hX T V) (hm : hM U W) (h3 : ∀ z, V.2 3 z = T.2 3 z) (h : cmE M pr V W x V1 W1) : cmE M pr T U x V1 W1 := by
  obtain ⟨a, b, c, d, e⟩ := h
  refine ⟨⟨a.1.trans hx.1, ⟨a.2.1.1.trans hx.2.1.1, a.2.1.2.trans hx.2.1.2⟩, fun z hz => (a.2.2.1 z hz).trans (hx.2.2.1 z hz), fun u z hu => (a.2.2.2 u z hu).trans (hx.2.2.2 u z hu)⟩, ⟨b.1.trans hm.1, b.2.1.trans hm.2.1, fun z hz => (b.2.2 z hz).trans (hm.2.2 z hz)⟩, c, ?_, e⟩
  rcases d with ⟨p, q⟩ | ⟨xc, p, q, r, s, t⟩
  · exact Or.inl ⟨p, fun z hz => (q z hz).trans (h3 z)⟩
  · exact Or.inr ⟨xc, p, q, r, s, t.trans (h3 3)⟩
theorem cm_N (a b c : Int32) (hC : cmC M n B pr id T U) : cmC M n B pr id (rz_uI T 1 3 a) (rz_uI (rz_uI U 116 72 b) 116 73 c) := by
  obtain ⟨⟨t1, t2, t3, t4⟩, hD, hc, ⟨r1, r2, r3, r4⟩, c1, c2, c3⟩ := hC
  refine ⟨⟨t1, by simp (disch := omega) only [uI1, fA2, rz_fA_n, rz_uI_n, rz_fA_s, rz_uI_s, pk_us]; exact t2, t3, t4⟩, Dk_mu (Dk_mu (Dk_xu hD (by omega)) (by omega)) (by omega), fun d hd => Chn_mu (Chn_mu (Chn_u (by omega) (hc d hd))), ⟨by simp (disch := omega) only [uI1, fA2, rz_fA_n, rz_uI_n, rz_fA_s, rz_uI_s, pk_us]; exact r1, by simp (disch := omega) only [uI1, fA2, rz_fA_n, rz_uI_n, rz_fA_s, rz_uI_s, pk_us]; exact r2, by simp (disch := omega) only [uI1, fA2, rz_fA_n, rz_uI_n, rz_fA_s, rz_uI_s, pk_us]; exact r3, by simp (disch := omega) only [uI1, fA2, rz_fA_n, rz_uI_n, rz_fA_s, rz_uI_s, pk_us]; exact r4⟩, c1, fun z p q => by simp (disch := omega) only [uI1, fA2, rz_fA_n, rz_uI_n, rz_fA_s, rz_uI_s, pk_us]; exact c2 z p q, by simp (disch := omega) only [uI1, fA2, rz_fA_n, rz_uI_n, rz_fA_s, rz_uI_s, pk_us]; exact c3⟩
theorem NI_c {g : Bool} (hC : cmC M n B pr id T U) (h : NI n T U g V W) : cmC M n B pr id V W ∧ hX T V ∧ hM U W ∧ (∀ z, V.2 3 z = T.2 3 z) ∧ (g = true → W.2 116 73 = 0) ∧ (g = false → W.2 116 73 = 30) := by
  obtain ⟨p, p', z, hp, hp', rfl, rfl, hg, hb⟩ := h
  exact ⟨cm_N _ _ _ hC, ⟨rfl, ⟨rfl, rfl⟩, fun z hz => by simp (disch := omega) only [uI1, fA2, rz_fA_n, rz_uI_n, rz_fA_s, rz_uI_s, pk_us], fun u z hu => by simp (disch := omega) only [uI1, fA2, rz_fA_n, rz_uI_n, rz_fA_s, rz_uI_s, pk_us]⟩, ⟨rfl, rfl, fun z hz => by simp (disch := omega) only [uI1, fA2, rz_fA_n, rz_uI_n, rz_fA_s, rz_uI_s, pk_us]⟩, fun z => by simp (disch := omega) only [uI1, fA2, rz_fA_n, rz_uI_n, rz_fA_s, rz_uI_s, pk_us], fun q => by simp (disch := omega) only [uI1, fA2, rz_fA_n, rz_uI_n, rz_fA_s, rz_uI_s, pk_us]; exact (hg q).1, fun q => by simp (disch := omega) only [uI1, fA2, rz_fA_n, rz_uI_n, rz_fA_s, rz_uI_s, pk_us]; exact hb q⟩
theorem nn_neg (h : V.2 1 3 = -1) : rzx mTape_nextNumber [.ref 1] V (some (.int (-1))) V := rzx_of (fun K q => by
  show rz _ 0 [(0, .ref 1)] [] _ _
  exact p_Tape_nextNumber_0 ⟨fun z => by rw [h] at z; exact absurd z (by decide), fun _ => q⟩)
abbrev runL2 (T : rz_S) (L : Int32 → Int32 → rz_S → Prop) : Prop := rz_ev mTape_startNumbers [.ref 1] T (rz_v (fun S1 => rz_ev mTape_nextNumber [.ref 1] S1 (rz_i (fun a S2 => rz_ev mTape_nextNumber [.ref 1] S2 (rz_i (fun b S3 => L a b S3))))))
abbrev runR2 (n : Nat) (U : rz_S) (A : rz_S → Prop) (C : Int32 → Int32 → rz_S → Prop) : Prop := rz_ev mM_numbers [.ref 116, .int (nI n)] U (rz_i (fun q S1 => ((q = 0 → A S1) ∧ (¬ q = 0 → rz_ev mM_numberNext [.ref 116, .int (nI n)] S1 (rz_i (fun a S3 => rz_ev mM_numberNext [.ref 116, .int (nI n)] S3 (rz_i (fun b S4 => C a b S4))))))))
abbrev runL3 (T : rz_S) (L : Int32 → Int32 → Int32 → rz_S → Prop) : Prop := rz_ev mTape_startNumbers [.ref 1] T (rz_v (fun S1 => rz_ev mTape_nextNumber [.ref 1] S1 (rz_i (fun a S2 => rz_ev mTape_nextNumber [.ref 1] S2 (rz_i (fun b S3 => rz_ev mTape_nextNumber [.ref 1] S3 (rz_i (fun c S4 => L a b c S4))))))))
abbrev runR3 (n : Nat) (U : rz_S) (A : rz_S → Prop) (C : Int32 → Int32 → Int32 → rz_S → Prop) : Prop := rz_ev mM_numbers [.ref 116, .int (nI n)] U (rz_i (fun q S1 => ((q = 0 → A S1) ∧ (¬ q = 0 → rz_ev mM_numberNext [.ref 116, .int (nI n)] S1 (rz_i (fun a S3 => rz_ev mM_numberNext [.ref 116, .int (nI n)] S3 (rz_i (fun b S4 => rz_ev mM_numberNext [.ref 116, .int (nI n)] S4 (rz_i (fun c S5 => C a b c S5))))))))))
theorem nums2 (hC : cmC M n B pr id T U) : ∃ V W, cmC M n B pr id V W ∧ hX T V ∧ hM U W ∧ (∀ z, V.2 3 z = T.2 3 z) ∧ (((∀ L : Int32 → Int32 → rz_S → Prop, (∀ a b, (a = -1 ∨ b = -1) → L a b V) → runL2 T L) ∧ ∀ (A : rz_S → Prop) (C : Int32 → Int32 → rz_S → Prop), A W → (∀ a b, ¬ W.2 116 73 = 0 → C a b W) → runR2 n U A C) ∨ ∃ v1 v2 : Nat, v1 ≤ 255 ∧ v2 ≤ 255 ∧ W.2 116 73 = 0 ∧ (∀ L : Int32 → Int32 → rz_S → Prop, L (nI v1) (nI v2) V → runL2 T L) ∧ ∀ (A : rz_S → Prop) (C : Int32 → Int32 → rz_S → Prop), C (nI v1) (nI v2) W → runR2 n U A C) := by
  have hT := hC.1
  rcases nn_start hT with ⟨V0, W0, s1, s2, N0⟩ | ⟨W0, z1, z2, s1, s2, rfl⟩
  · obtain ⟨x1, y1, V1, W1, g1, a1, a2, N1, p1, p2⟩ := nn_step hT N0
    obtain ⟨x2, y2, V2, W2, g2, b1, b2, N2, q1, q2⟩ := nn_step hT N1
    obtain ⟨k1, k2, k3, k4, k5, k6⟩ := NI_c hC N2
    refine ⟨V2, W2, k1, k2, k3, k4, ?_⟩
    cases g2 with
    | false =>
      refine Or.inl ⟨fun L h => rzx_V s1 (rzx_I a1 (rzx_I b1 (h _ _ ?_))), fun A C hA hCC => rzx_I s2 ⟨fun z => absurd z (by decide), fun _ => rzx_I a2 (rzx_I b2 (hCC _ _ ?_))⟩⟩
      · cases g1 with
        | false => exact Or.inl (p2 rfl rfl)
        | true => exact Or.inr (q2 rfl rfl)
      · rw [k6 rfl]; decide
    | true =>
      obtain ⟨g1t, v2, c2, rfl, rfl⟩ := q1 rfl
      obtain ⟨_, v1, c1, rfl, rfl⟩ := p1 g1t
      exact Or.inr ⟨v1, v2, c1, c2, k5 rfl, fun L h => rzx_V s1 (rzx_I a1 (rzx_I b1 h)), fun A C h => rzx_I s2 ⟨fun z => absurd z (by decide), fun _ => rzx_I a2 (rzx_I b2 h)⟩⟩
  · have ng := nn_neg (V := rz_uI T 1 3 (-1)) rz_uI_s
    exact ⟨_, _, cm_N _ _ _ hC, ⟨rfl, ⟨rfl, rfl⟩, fun z hz => by simp (disch := omega) only [uI1, fA2, rz_fA_n, rz_uI_n, rz_fA_s, rz_uI_s, pk_us], fun u z hu => by simp (disch := omega) only [uI1, fA2, rz_fA_n, rz_uI_n, rz_fA_s, rz_uI_s, pk_us]⟩, ⟨rfl, rfl, fun z hz => by simp (disch := omega) only [uI1, fA2, rz_fA_n, rz_uI_n, rz_fA_s, rz_uI_s, pk_us]⟩, fun z => by simp (disch := omega) only [uI1, fA2, rz_fA_n, rz_uI_n, rz_fA_s, rz_uI_s, pk_us], Or.inl ⟨fun L h => rzx_V s1 (rzx_I ng (rzx_I ng (h _ _ (Or.inl rfl)))), fun A C hA _ => rzx_I s2 ⟨fun _ => hA, fun z => absurd rfl z⟩⟩⟩
theorem nums3 (hC : cmC M n B pr id T U) : ∃ V W, cmC M n B pr id V W ∧ hX T V ∧ hM U W ∧ (∀ z, V.2 3 z = T.2 3 z) ∧ (((∀ L : Int32 → Int32 → Int32 → rz_S → Prop, (∀ a b c, (a = -1 ∨ b = -1 ∨ c = -1) → L a b c V) → runL3 T L) ∧ ∀ (A : rz_S → Prop) (C : Int32 → Int32 → Int32 → rz_S → Prop), A W → (∀ a b c, ¬ W.2 116 73 = 0 → C a b c W) → runR3 n U A C) ∨ ∃ v1 v2 v3 : Nat, v1 ≤ 255 ∧ v2 ≤ 255 ∧ v3 ≤ 255 ∧ W.2 116 73 = 0 ∧ (∀ L : Int32 → Int32 → Int32 → rz_S → Prop, L (nI v1) (nI v2) (nI v3) V → runL3 T L) ∧ ∀ (A : rz_S → Prop) (C : Int32 → Int32 → Int32 → rz_S → Prop), C (nI v1) (nI v2) (nI v3) W → runR3 n U A C) := by
  have hT := hC.1
  rcases nn_start hT with ⟨V0, W0, s1, s2, N0⟩ | ⟨W0, z1, z2, s1, s2, rfl⟩
  · obtain ⟨x1, y1, V1, W1, g1, a1, a2, N1, p1, p2⟩ := nn_step hT N0
    obtain ⟨x2, y2, V2, W2, g2, b1, b2, N2, q1, q2⟩ := nn_step hT N1
    obtain ⟨x3, y3, V3, W3, g3, d1, d2, N3, r1, r2⟩ := nn_step hT N2
    obtain ⟨k1, k2, k3, k4, k5, k6⟩ := NI_c hC N3
    refine ⟨V3, W3, k1, k2, k3, k4, ?_⟩
    cases g3 with
    | false =>
      refine Or.inl ⟨fun L h => rzx_V s1 (rzx_I a1 (rzx_I b1 (rzx_I d1 (h _ _ _ ?_)))), fun A C hA hCC => rzx_I s2 ⟨fun z => absurd z (by decide), fun _ => rzx_I a2 (rzx_I b2 (rzx_I d2 (hCC _ _ _ ?_)))⟩⟩
      · cases g1 with
        | false => exact Or.inl (p2 rfl rfl)
        | true =>
          cases g2 with
          | false => exact Or.inr (Or.inl (q2 rfl rfl))
          | true => exact Or.inr (Or.inr (r2 rfl rfl))
      · rw [k6 rfl]; decide
    | true =>
      obtain ⟨g2t, v3, c3, rfl, rfl⟩ := r1 rfl
      obtain ⟨g1t, v2, c2, rfl, rfl⟩ := q1 g2t
      obtain ⟨_, v1, c1, rfl, rfl⟩ := p1 g1t
      exact Or.inr ⟨v1, v2, v3, c1, c2, c3, k5 rfl, fun L h => rzx_V s1 (rzx_I a1 (rzx_I b1 (rzx_I d1 h))), fun A C h => rzx_I s2 ⟨fun z => absurd z (by decide), fun _ => rzx_I a2 (rzx_I b2 (rzx_I d2 h))⟩⟩
  · have ng := nn_neg (V := rz_uI T 1 3 (-1)) rz_uI_s
    exact ⟨_, _, cm_N _ _ _ hC, ⟨rfl, ⟨rfl, rfl⟩, fun z hz => by simp (disch := omega) only [uI1, fA2, rz_fA_n, rz_uI_n, rz_fA_s, rz_uI_s, pk_us], fun u z hu => by simp (disch := omega) only [uI1, fA2, rz_fA_n, rz_uI_n, rz_fA_s, rz_uI_s, pk_us]⟩, ⟨rfl, rfl, fun z hz => by simp (disch := omega) only [uI1, fA2, rz_fA_n, rz_uI_n, rz_fA_s, rz_uI_s, pk_us]⟩, fun z => by simp (disch := omega) only [uI1, fA2, rz_fA_n, rz_uI_n, rz_fA_s, rz_uI_s, pk_us], Or.inl ⟨fun L h => rzx_V s1 (rzx_I ng (rzx_I ng (rzx_I ng (h _ _ _ (Or.inl rfl))))), fun A C hA _ => rzx_I s2 ⟨fun _ => hA, fun z => absurd rfl z⟩⟩⟩
theorem c_buffer {S : rz_S} {v : Nat} (hv : v ≤ 255) : rz_ev mDos_buffer [.ref 39, .int (nI v)] S (rz_r (fun r S1 => r = (if v < 15 ∧ S.2 (48 + 4 * v) 0 = 4 then .ref (48 + 4 * v) else .null) ∧ S1 = S)) := by
  show rz _ 0 [(0, .ref 39), (1, .int (nI v))] [] _ _
  have ecl : (nI v).toNatClampNeg = v := nI_clamp (by omega)
  have no : ¬ (v < 15 ∧ S.2 (48 + 4 * v) 0 = 4) → rz mDos_buffer 27 [(0, .ref 39), (1, .int (nI v))] [] S (rz_r (fun r S1 => r = (if v < 15 ∧ S.2 (48 + 4 * v) 0 = 4 then .ref (48 + 4 * v) else .null) ∧ S1 = S)) := fun h => p_Dos_buffer_27 (p_Dos_buffer_28 ⟨fun _ => ⟨(if_neg h).symm, rfl⟩, fun z => absurd rfl z⟩)
  refine p_Dos_buffer_0 ⟨fun z => absurd z (nI_pos (by omega)), fun _ => ⟨fun z => no (fun y => ?_), fun z => ?_⟩⟩
  · have := (nI_leI (a := 15) (b := v) (by omega) (by omega)).mp z
    omega
  · have v15 : v < 15 := Nat.lt_of_not_le fun y => z (nI_le (a := 15) y (by omega))
    rw [ecl]
    refine ⟨rin v15 (by omega), fun y => p_Dos_buffer_28 ⟨fun q => absurd q (by decide), fun _ => ?_⟩, fun y => no (fun q => y q.2)⟩
    rw [ecl]
    exact ⟨rin v15 (by omega), (if_pos ⟨v15, y⟩).symm, rfl⟩
theorem bp_pair (hC : cmC M n B pr id T U) : CM M pr T U mCommands_setPlace mM_pointer [.ref 108] [.ref 116, .int (nI n)] := by
  obtain ⟨V, W, hC2, hx, hm, h3, alt⟩ := nums2 hC
  rcases alt with ⟨l, r⟩ | ⟨v1, v2, b1, b2, z73, l, r⟩
  · refine ⟨nI 30, _, _, cmE_t hx hm h3 (cm_f0 hC2 30 0 0 (by omega) (by omega)), rzx_of (fun K h => ?_), rzx_of (fun K h => ?_)⟩
    · show rz _ 0 [(0, .ref 108)] [] _ _
      have h33 : rz mCommands_setPlace 33 [(0, .ref 108)] [] V (rz_i K) := p_Commands_setPlace_33 (rz_toI (c_Status_set _ _ _) h)
      exact p_Commands_setPlace_0 (l _ (fun a b ab => ⟨fun _ => h33, fun z => ⟨fun _ => h33, fun z2 => by rcases ab with y | y <;> contradiction⟩⟩))
    · show rz _ 0 [(0, .ref 116), (1, .int (nI n))] [] _ _
      exact p_M_pointer_0 (r _ _ (rz_toI (c_M_fault _ _ _) h) (fun a b z => ⟨fun y => absurd y z, fun _ => rz_toI (c_M_fault _ _ _) h⟩))
  · have hD := hC2.2.1
    have left : ∀ K : Int32 → rz_S → Prop, rz mCommands_setPlace 53 [(0, .ref 108), (2, .int (nI v2))] [if v1 < 15 ∧ V.2 (48 + 4 * v1) 0 = 4 then .ref (48 + 4 * v1) else .null] V (rz_i K) → rz_ev mCommands_setPlace [.ref 108] T (rz_i K) := fun K h => by
      show rz _ 0 [(0, .ref 108)] [] _ _
      exact p_Commands_setPlace_0 (l _ ⟨fun z => absurd z (nI_m1 (by omega)), fun _ => ⟨fun z => absurd z (nI_m1 (by omega)), fun _ => rz_toR (c_buffer b1) h⟩⟩)
    by_cases hb : v1 < 15 ∧ V.2 (48 + 4 * v1) 0 = 4
    · obtain ⟨v15, m4⟩ := hb
      have hch : chP (48 + 4 * v1) := ⟨by omega, by omega, by omega⟩
      have hCh := hC2.2.2.1 v1 v15
      have w4 : W.1 126 v1 = 4 := hCh.1.symm.trans m4
      have hB : ChB v1 V W := by
        rcases hCh.2 with q | ⟨q, _⟩ | ⟨q, _⟩ | ⟨q, _⟩ | ⟨_, q⟩
        · exact absurd (w4.symm.trans q) (by decide)
        · exact absurd (w4.symm.trans q) (by decide)
        · exact absurd (w4.symm.trans q) (by decide)
        · exact absurd (w4.symm.trans q) (by decide)
        · exact q
      rw [if_pos ⟨v15, m4⟩] at left
      have e63 : nI v2 &&& 63 = nI (v2 % 64) := an63 (by omega)
      refine ⟨0, rz_uI V (48 + 4 * v1) 2 (nI (v2 % 64)), rz_fA W 128 (upd (W.1 128) v1 (nI (v2 % 64))), cmE_t hx hm h3 (cm_g (c := v1) hC2 GX_u (GM_g (q := 128) (by omega) (fun d hd => by simp (disch := omega) only [uI1, fA2, rz_fA_n, rz_uI_n, rz_fA_s, rz_uI_s, pk_us, pk_un])) ⟨B, id, Dk_mf (Dk_xu hD (by omega)) (by omega)⟩ (Or.inl ⟨rfl, fun z => by simp (disch := omega) only [uI1, fA2, rz_fA_n, rz_uI_n, rz_fA_s, rz_uI_s, pk_us]⟩) (fun _ => ⟨by simp (disch := omega) only [uI1, fA2, rz_fA_n, rz_uI_n, rz_fA_s, rz_uI_s, pk_us]; exact m4.trans w4.symm, Or.inr (Or.inr (Or.inr (Or.inr ⟨by simp (disch := omega) only [uI1, fA2, rz_fA_n, rz_uI_n, rz_fA_s, rz_uI_s, pk_us]; exact w4, fun k hk => by simp (disch := omega) only [uI1, fA2, rz_fA_n, rz_uI_n, rz_fA_s, rz_uI_s, pk_us]; exact hB.1 k hk, v2 % 64, by omega, by simp (disch := omega) only [uI1, fA2, rz_fA_n, rz_uI_n, rz_fA_s, rz_uI_s, pk_us], by simp (disch := omega) only [uI1, fA2, rz_fA_n, rz_uI_n, rz_fA_s, rz_uI_s, pk_us]⟩)))⟩)), rzx_of (fun K h => left K (p_Commands_setPlace_53' hch ?_)), rzx_of (fun K h => ?_)⟩
      · rw [e63]; exact h
      · show rz _ 0 [(0, .ref 116), (1, .int (nI n))] [] _ _
        refine p_M_pointer_0 (r _ _ ⟨fun _ => ⟨fun z => ?_, fun _ => ?_⟩, fun z => absurd z73 z⟩)
        · have := (nI_ltI (a := 14) (b := v1) (by omega) (by omega)).mp z
          omega
        · rw [nI_clamp (by omega), e63]
          exact ⟨rin v15 (by omega), fun _ => h, fun z => absurd w4 z⟩
    · rw [if_neg hb] at left
      refine ⟨nI 70, _, _, cmE_t hx hm h3 (cm_f0 hC2 70 0 0 (by omega) (by omega)), rzx_of (fun K h => left K (p_Commands_setPlace_53 (rz_toI (c_Status_set _ _ _) h))), rzx_of (fun K h => ?_)⟩
      show rz _ 0 [(0, .ref 116), (1, .int (nI n))] [] _ _
      have h61 : rz mM_pointer 61 [(0, .ref 116)] [] W (rz_i K) := p_M_pointer_61 (rz_toI (c_M_fault _ _ _) h)
      refine p_M_pointer_0 (r _ _ ⟨fun _ => ⟨fun _ => h61, fun z => ?_⟩, fun z => absurd z73 z⟩)
      have v15 : v1 < 15 := Nat.lt_of_not_le fun y => z (nI_lt (a := 14) (by omega) (by omega))
      rw [nI_clamp (by omega)]
      exact ⟨rin v15 (by omega), fun y => absurd ⟨v15, (hC2.2.2.1 v1 v15).1.trans y⟩ hb, fun _ => h61⟩
theorem ub_pair {wr : Int32} {bw : Bool} (hw : (wr = 0 ∧ bw = false) ∨ (wr = 1 ∧ bw = true)) (hC : cmC M n B pr id T U) : CM M pr T U mCommands_moveBlock mM_blockOf [.ref 108, .int wr] [.ref 116, .int (nI n), .int wr] := by
  obtain ⟨V, W, hC2, hx, hm, h3, alt⟩ := nums3 hC
  rcases alt with ⟨l, r⟩ | ⟨v1, v2, v3, b1, b2, b3, z73, l, r⟩
  · refine ⟨nI 30, _, _, cmE_t hx hm h3 (cm_f0 hC2 30 0 0 (by omega) (by omega)), rzx_of (fun K h => ?_), rzx_of (fun K h => ?_)⟩
    · show rz _ 0 [(0, .ref 108), (1, .int wr)] [] _ _
      have h48 : rz mCommands_moveBlock 48 [(0, .ref 108)] [] V (rz_i K) := p_Commands_moveBlock_48 (rz_toI (c_Status_set _ _ _) h)
      exact p_Commands_moveBlock_0 (l _ (fun a b c ab => ⟨fun _ => h48, fun z => ⟨fun _ => h48, fun z2 => ⟨fun _ => h48, fun z3 => by rcases ab with y | y | y <;> contradiction⟩⟩⟩))
    · show rz _ 0 [(0, .ref 116), (1, .int (nI n)), (2, .int wr)] [] _ _
      exact p_M_blockOf_0 (r _ _ (rz_toI (c_M_fault _ _ _) h) (fun a b c z => ⟨fun y => absurd y z, fun _ => rz_toI (c_M_fault _ _ _) h⟩))
  · have hD := hC2.2.1
    have left : ∀ K : Int32 → rz_S → Prop, rz mCommands_moveBlock 68 [(0, .ref 108), (1, .int wr), (3, .int (nI v2)), (4, .int (nI v3))] [if v1 < 15 ∧ V.2 (48 + 4 * v1) 0 = 4 then .ref (48 + 4 * v1) else .null] V (rz_i K) → rz_ev mCommands_moveBlock [.ref 108, .int wr] T (rz_i K) := fun K h => by
      show rz _ 0 [(0, .ref 108), (1, .int wr)] [] _ _
      exact p_Commands_moveBlock_0 (l _ ⟨fun z => absurd z (nI_m1 (by omega)), fun _ => ⟨fun z => absurd z (nI_m1 (by omega)), fun _ => ⟨fun z => absurd z (nI_m1 (by omega)), fun _ => rz_toR (c_buffer b1) h⟩⟩⟩)
    by_cases hb : v1 < 15 ∧ V.2 (48 + 4 * v1) 0 = 4
    · obtain ⟨v15, m4⟩ := hb
      have hch : chP (48 + 4 * v1) := ⟨by omega, by omega, by omega⟩
      have e49 : 48 + 4 * v1 + 1 = 49 + 4 * v1 := by omega
      have e64 : (64 * nI v1 : Int32) = nI (64 * v1) := pk_mul 64 v1
      have hCh := hC2.2.2.1 v1 v15
      have w4 : W.1 126 v1 = 4 := hCh.1.symm.trans m4
      have hB : ChB v1 V W := by
        rcases hCh.2 with q | ⟨q, _⟩ | ⟨q, _⟩ | ⟨q, _⟩ | ⟨_, q⟩
        · exact absurd (w4.symm.trans q) (by decide)
        · exact absurd (w4.symm.trans q) (by decide)
        · exact absurd (w4.symm.trans q) (by decide)
        · exact absurd (w4.symm.trans q) (by decide)
        · exact q
      rw [if_pos ⟨v15, m4⟩] at left
      have left2 : ∀ K : Int32 → rz_S → Prop, ((lgI (nI v2) (nI v3) = 0 → rz_ev mStatus_set [.ref 3, .int 66, .int (nI v2), .int (nI v3)] V (rz_i K)) ∧ (¬ lgI (nI v2) (nI v3) = 0 → ((wr = 0 → rz_ev mDisk_readBlock [.ref 6, .int (nI v2), .int (nI v3), .ref (49 + 4 * v1)] V (rz_i (fun xq4 Sq4 => ((xq4 = 0 → K xq4 (rz_uI Sq4 (48 + 4 * v1) 2 0)) ∧ (¬ xq4 = 0 → K xq4 Sq4))))) ∧ (¬ wr = 0 → rz_ev mDisk_writeBlock [.ref 6, .int (nI v2), .int (nI v3), .ref (49 + 4 * v1)] V (rz_i K))))) → rz_ev mCommands_moveBlock [.ref 108, .int wr] T (rz_i K) := fun K h => by
        refine left K (p_Commands_moveBlock_68' hch (rz_toI (c_Disk_legal _ _) ?_))
        rw [e49]
        exact h
      have right2 : ∀ K : Int32 → rz_S → Prop, ((lgI (nI v2) (nI v3) = 0 → rz_ev mM_fault [.ref 116, .int 66, .int (nI v2), .int (nI v3)] W (rz_i K)) ∧ (¬ lgI (nI v2) (nI v3) = 0 → ((wr = 0 → rz_ev mM_readBlock [.ref 116, .int (nI v2), .int (nI v3), .ref 127, .int (nI (64 * v1))] W (rz_i (fun xq4 Sq4 => ((xq4 = 0 → K xq4 (rz_fA Sq4 128 (upd (Sq4.1 128) v1 0))) ∧ (¬ xq4 = 0 → K xq4 Sq4))))) ∧ (¬ wr = 0 → rz_ev mM_writeBlock [.ref 116, .int (nI v2), .int (nI v3), .ref 127, .int (nI (64 * v1))] W (rz_i K))))) → rz_ev mM_blockOf [.ref 116, .int (nI n), .int wr] U (rz_i K) := fun K h => by
        show rz _ 0 [(0, .ref 116), (1, .int (nI n)), (2, .int wr)] [] _ _
        refine p_M_blockOf_0 (r _ _ ⟨fun _ => ⟨fun z => ?_, fun _ => ?_⟩, fun z => absurd z73 z⟩)
        · have := (nI_ltI (a := 14) (b := v1) (by omega) (by omega)).mp z
          omega
        · rw [nI_clamp (by omega), e64]
          exact ⟨rin v15 (by omega), fun _ => rz_toI (c_M_legal _ _) h, fun z => absurd w4 z⟩
      have ch4 : ∀ V3 W3 : rz_S, V3.2 (48 + 4 * v1) 0 = 4 → W3.1 126 v1 = 4 → ChB v1 V3 W3 → Chn M v1 V3 W3 := fun V3 W3 a b c => ⟨a.trans b.symm, Or.inr (Or.inr (Or.inr (Or.inr ⟨b, c⟩)))⟩
      by_cases lg : lgI (nI v2) (nI v3) = 0
      · exact ⟨nI 66, _, _, cmE_t hx hm h3 (cm_f0 hC2 66 v2 v3 (by omega) (by omega)), rzx_of (fun K h => left2 K ⟨fun _ => rz_toI (c_Status_set _ _ _) h, fun z => absurd lg z⟩), rzx_of (fun K h => right2 K ⟨fun _ => rz_toI (c_M_fault _ _ _) h, fun z => absurd lg z⟩)⟩
      · obtain ⟨t, s, t1, t2, hs, et, es⟩ := lgI_1 lg
        have tb := sct_b t1 t2
        have et' : v2 = t := (nI_eq (by omega) (by omega)).mp et
        have es' : v3 = s := (nI_eq (by omega) (by omega)).mp es
        subst et' es'
        rcases hw with ⟨rfl, _⟩ | ⟨rfl, _⟩
        · obtain ⟨y, V3, y', W3, q1, q2, rfl, xc, id3, ex, x100, D3, f1, f2, o1, n1⟩ := PR_read (a := 49 + 4 * v1) (a' := 127) (at0 := 64 * v1) (na := 960) (s := v3) hD t1 t2 (by omega) (e49 ▸ chR hch) (by omega) rfl (by omega) (by omega) (by omega)
          have k0 : ∀ z, V3.2 (48 + 4 * v1) z = V.2 (48 + 4 * v1) z := fun z => f1.2 _ z (by omega) (by omega) (by omega)
          have k126 : ∀ q, q ≠ 127 → 122 ≤ q → W3.1 q = W.1 q := fun q a b => f2.1 q (by omega) a
          by_cases xz : xc = 0
          · subst xz
            subst ex
            obtain ⟨⟨dd, hd⟩, st⟩ := o1 rfl
            refine ⟨nI 0, rz_uI V3 (48 + 4 * v1) 2 0, rz_fA W3 128 (upd (W3.1 128) v1 0), cmE_t hx hm h3 (cm_g (c := v1) hC2 (GX_t (GX_rc v15 f1) GX_u) (GM_t (GM_k f2) (GM_g (q := 128) (by omega) (fun d hd => by simp (disch := omega) only [uI1, fA2, rz_fA_n, rz_uI_n, rz_fA_s, rz_uI_s, pk_us, pk_un]))) ⟨B, id3, Dk_mf (Dk_xu D3 (by omega)) (by omega)⟩ (Or.inl ⟨rfl, fun z => by simp (disch := omega) only [uI1, fA2, rz_fA_n, rz_uI_n, rz_fA_s, rz_uI_s, pk_us]; exact st z⟩) (fun _ => ch4 _ _ ?_ ?_ ⟨fun k hk => ?_, 0, by omega, ?_, ?_⟩)), rzx_of (fun K h => left2 K ⟨fun z => absurd z lg, fun _ => ⟨fun _ => rzx_I q1 ⟨fun _ => h, fun z => absurd rfl z⟩, fun z => absurd rfl z⟩⟩), rzx_of (fun K h => right2 K ⟨fun z => absurd z lg, fun _ => ⟨fun _ => rzx_I q2 ⟨fun _ => h, fun z => absurd rfl z⟩, fun z => absurd rfl z⟩⟩)⟩
            · simp (disch := omega) only [uI1, fA2, rz_fA_n, rz_uI_n, rz_fA_s, rz_uI_s, pk_us]; exact (k0 0).trans m4
            · simp (disch := omega) only [uI1, fA2, rz_fA_n, rz_uI_n, rz_fA_s, rz_uI_s, pk_us]; rw [k126 126 (by omega) (by omega)]; exact w4
            · simp (disch := omega) only [uI1, fA2, rz_fA_n, rz_uI_n, rz_fA_s, rz_uI_s, pk_us]; exact ⟨(hd k hk).1.trans (hd k hk).2.1.symm, dd k, (hd k hk).2.2, (hd k hk).1⟩
            · simp (disch := omega) only [uI1, fA2, rz_fA_n, rz_uI_n, rz_fA_s, rz_uI_s, pk_us]; rfl
            · simp (disch := omega) only [uI1, fA2, rz_fA_n, rz_uI_n, rz_fA_s, rz_uI_s, pk_us]; rfl
          · obtain ⟨ra, rb, hfl, h33⟩ := n1 xz
            have xne : ¬ y = 0 := by rw [ex]; exact nI_ne0 (by omega) (by omega)
            refine ⟨y, V3, W3, cmE_t hx hm h3 (cm_g (c := v1) hC2 (GX_rc v15 f1) (GM_k f2) ⟨B, id3, D3⟩ (Or.inr ⟨xc, xz, x100, ex, hfl, h33⟩) (fun _ => ch4 _ _ ((k0 0).trans m4) (by rw [k126 126 (by omega) (by omega)]; exact w4) ⟨fun k hk => by rw [ra, rb]; exact hB.1 k hk, ?_⟩)), rzx_of (fun K h => left2 K ⟨fun z => absurd z lg, fun _ => ⟨fun _ => rzx_I q1 ⟨fun z => absurd z xne, fun _ => h⟩, fun z => absurd rfl z⟩⟩), rzx_of (fun K h => right2 K ⟨fun z => absurd z lg, fun _ => ⟨fun _ => rzx_I q2 ⟨fun z => absurd z xne, fun _ => h⟩, fun z => absurd rfl z⟩⟩)⟩
            rw [k0, k126 128 (by omega) (by omega)]
            exact hB.2
        · obtain ⟨rr, hrr⟩ := row_at (o := 64 * v1) hB.1
          obtain ⟨y, V3, y', W3, q1, q2, rfl, xc, id3, B3, ex, x100, D3, f1, f2, o1, n1⟩ := PR_write (a := 49 + 4 * v1) (a' := 127) (at0 := 64 * v1) (na := 960) (s := v3) hD t1 t2 (by omega) (e49 ▸ chR hch) (by omega) rfl (by omega) (by omega) (by omega) hrr
          have an : ans V y V3 W3 := by
            by_cases z : xc = 0
            · exact Or.inl ⟨by rw [ex, z]; rfl, o1 z⟩
            · obtain ⟨hfl, h33⟩ := n1 z
              exact Or.inr ⟨xc, z, x100, ex, hfl, h33⟩
          exact ⟨y, V3, W3, cmE_t hx hm h3 (cm_of hC2 (bgX_rF (by omega) f1) (bgM_wM f2) ⟨B3, id3, D3⟩ an), rzx_of (fun K h => left2 K ⟨fun z => absurd z lg, fun _ => ⟨fun z => absurd z (by decide), fun _ => rzx_I q1 h⟩⟩), rzx_of (fun K h => right2 K ⟨fun z => absurd z lg, fun _ => ⟨fun z => absurd z (by decide), fun _ => rzx_I q2 h⟩⟩)⟩
    · rw [if_neg hb] at left
      refine ⟨nI 70, _, _, cmE_t hx hm h3 (cm_f0 hC2 70 0 0 (by omega) (by omega)), rzx_of (fun K h => left K (p_Commands_moveBlock_68 (rz_toI (c_Status_set _ _ _) h))), rzx_of (fun K h => ?_)⟩
      show rz _ 0 [(0, .ref 116), (1, .int (nI n)), (2, .int wr)] [] _ _
      have h61 : rz mM_blockOf 69 [(0, .ref 116)] [] W (rz_i K) := p_M_blockOf_69 (rz_toI (c_M_fault _ _ _) h)
      refine p_M_blockOf_0 (r _ _ ⟨fun _ => ⟨fun _ => h61, fun z => ?_⟩, fun z => absurd z73 z⟩)
      have v15 : v1 < 15 := Nat.lt_of_not_le fun y => z (nI_lt (a := 14) (by omega) (by omega))
      rw [nI_clamp (by omega)]
      exact ⟨rin v15 (by omega), fun y => absurd ⟨v15, (hC2.2.2.1 v1 v15).1.trans y⟩ hb, fun _ => h61⟩
end CM3
