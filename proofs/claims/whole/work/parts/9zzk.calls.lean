/-! the calls read, close, open, write keep the relation -/
theorem bgCp {Sx Sm : rz_S} (h : cpR Sx Sm) : cpR (st_begin Sx) (md_begins Sm) := cpR_c (V := Sx) (W := Sm) rfl (fun z => bg_3 (by omega)) rfl (fun z _ _ => mb_n (z := z) (by omega)) h
theorem bgTp {m : Nat} {Sx Sm : rz_S} (h : Tpe m Sx Sm) : Tpe m (st_begin Sx) (md_begins Sm) := Tpe_c (V := Sx) (W := Sm) rfl (bg_3 (by omega)) rfl (mb_n (z := 64) (by omega)) h
theorem bgOu {Sx Sm : rz_S} (h : ouR Sx Sm) : ouR (st_begin Sx) (md_begins Sm) := ouR_c (V := Sx) (W := Sm) rfl (fun z => bg_3 (by omega)) rfl (fun z hz => mb_n (z := z) (by omega)) h
theorem RR_up {k : Nat} {V W : rz_S} (h : RR k V W) : RR (k + 1) V W := by
  obtain ⟨m, M, B, pr, id, h1, h2, h3⟩ := h
  exact ⟨m, M, B, pr, id, h1, by omega, h3⟩
theorem rf_up {X R : rx_M} {ax am : List Value} {k : Nat} {V W : rz_S} (hR : RR k V W) (h : PCi X R ax am V W (rfE V W)) : PCi X R ax am V W (fun x V1 y W1 => x = y ∧ RR (k + 1) V1 W1) := PCi_w h (fun x V1 y W1 q => by
  obtain ⟨q1, rfl, rfl⟩ := q
  exact ⟨q1, RR_up hR⟩)
theorem PR_refR {Sx Sm : rz_S} {a b : Int32} (bad : (a < 0 ∨ 15 < a) ∨ b < 1 ∨ ¬ b ≤ 300) : PCi mX_read mM_read [.ref 0, .int a, .int b] [.ref 116, .int a, .int b] Sx Sm (rfE Sx Sm) := by
  refine PCi_of (fun K hK => ?_)
  have hR : rz_ev mM_read [.ref 116, .int a, .int b] Sm (rz_i (rfE Sx Sm (-1) Sx)) := by
    show rz _ 0 [(0, .ref 116), (1, .int a), (2, .int b)] [] _ _
    refine p_M_read_0 ⟨fun _ => ⟨rfl, rfl, rfl⟩, fun q1 => ⟨fun _ => ⟨rfl, rfl, rfl⟩, fun q2 => ⟨fun _ => ⟨rfl, rfl, rfl⟩, fun q3 => ⟨fun q4 => ?_, fun _ => ⟨rfl, rfl, rfl⟩⟩⟩⟩⟩
    rcases bad with (z | z) | z | z
    · exact absurd z q1
    · exact absurd z q2
    · exact absurd z q3
    · exact absurd q4 z
  show rz _ 0 [(0, .ref 0), (1, .int a), (2, .int b)] [] _ _
  refine p_X_read_0 (rz_toI (c_isChannel a) ?_)
  rcases bad with (z | z) | z | z
  · rw [if_pos z]; exact ⟨fun _ => hK _ _ hR, fun y => absurd rfl y⟩
  · by_cases y : a < 0
    · rw [if_pos y]; exact ⟨fun _ => hK _ _ hR, fun y => absurd rfl y⟩
    · rw [if_neg y, if_pos z]; exact ⟨fun _ => hK _ _ hR, fun y => absurd rfl y⟩
  · exact ⟨fun _ => hK _ _ hR, fun _ => ⟨fun _ => hK _ _ hR, fun y => absurd z y⟩⟩
  · exact ⟨fun _ => hK _ _ hR, fun _ => ⟨fun _ => hK _ _ hR, fun _ => ⟨fun y => absurd y z, fun _ => hK _ _ hR⟩⟩⟩
/-- a number that is a channel's, or none -/
theorem ch_or (a : Int32) : (a < 0 ∨ 15 < a) ∨ ∃ c : Nat, c ≤ 15 ∧ a = nI c := by
  rcases pk_ix a (n := 16) (by decide) with h | h | ⟨c, hc, rfl⟩
  · exact Or.inl (Or.inl h)
  · refine Or.inl (Or.inr (Int32.lt_iff_toInt_lt.mpr ?_))
    have := Int32.le_iff_toInt_le.mp h
    rw [nI_toInt (by decide)] at this
    have e : (15 : Int32).toInt = 15 := by decide
    omega
  · exact Or.inr ⟨c, by omega, rfl⟩
section JOIN
variable {k : Nat} {Sx Sm : rz_S}
theorem RR_read (h : RR k Sx Sm) (a b : Int32) : PCi mX_read mM_read [.ref 0, .int a, .int b] [.ref 116, .int a, .int b] Sx Sm (fun x V y W => x = y ∧ RR (k + 1) V W) := by
  rcases ch_or a with ha | ⟨c, hc, rfl⟩
  · exact rf_up h (PR_refR (Or.inl ha))
  · by_cases b1 : b < 1
    · exact rf_up h (PR_refR (Or.inr (Or.inl b1)))
    · by_cases b3 : b ≤ 300
      · obtain ⟨n, n1, n300, rfl⟩ : ∃ n : Nat, 1 ≤ n ∧ n ≤ 300 ∧ b = nI n := by
          have q1 : ¬ b.toInt < 1 := fun z => b1 (Int32.lt_iff_toInt_lt.mpr z)
          have q2 := Int32.le_iff_toInt_le.mp b3
          have e : (300 : Int32).toInt = 300 := by decide
          refine ⟨b.toInt.toNat, by omega, by omega, Int32.toInt_inj.mp ?_⟩
          rw [nI_toInt (by omega)]
          omega
        obtain ⟨m, M, B, pr, id, h1, h2, h3, h4, h5, h6, h7, h8, h9⟩ := h
        by_cases c15 : c = 15
        · subst c15
          refine PCi_w (PR_read15 n1 n300 h4 h5) (fun x V y W q => ?_)
          obtain ⟨q1, q2, q3, q4, ⟨V0, ⟨v1, v2⟩, v3, v4⟩, w1, w2⟩ := q
          have xa : ∀ p, p ≠ 4 → p ≠ 115 → V.1 p = Sx.1 p := fun p a b => by rw [← v3]; exact v1 p a b
          have xu : ∀ u z, u ≠ 0 → u ≠ 3 → V.2 u z = Sx.2 u z := fun u z a b => (v4 u z (by omega)).trans (v2 u z (by omega))
          exact ⟨q1, m, M, B, pr, id, Tpe_c (xa 2 (by omega) (by omega)) (xu 1 1 (by omega) (by omega)) (w1 150 (by omega) (by omega)) (w2 116 64 (by omega)) h1, by omega, Dk_m (Dk_x h3 (fun p a b => xa p (by omega) (by omega)) (fun u z hu => xu u z (by omega) (by omega))) (fun p a b => w1 p (by omega) (by omega)) (fun z hz => w2 116 z (by omega)), q3, q4, q2, cpR_c (xa 38 (by omega) (by omega)) (fun z => xu 37 z (by omega) (by omega)) (w1 155 (by omega) (by omega)) (fun z a b => w2 116 z (by omega)) h7, fun d hd => Chn_e hd (fun p a b => xa p (by omega) (by omega)) (fun u z a b => xu u z (by omega) (by omega)) (fun p a b => w1 p (by omega) (by omega)) (h8 d hd), (xu 113 1 (by omega) (by omega)).trans h9.1, by rw [xa 114 (by omega) (by omega)]; exact h9.2⟩
        · refine PCi_w (PR_readC (M := M) (c := c) (by omega) n1 n300 h3 (h8 c (by omega))) (fun x V y W q => ?_)
          obtain ⟨q1, fx, fm, ⟨B', id', D'⟩, q4, q5, q6⟩ := q
          exact ⟨q1, RR_F (T := st_begin Sx) (U := md_begins Sm) (N := M) (bgTp h1) (by omega) (Nat.le_refl M) (xb_0 (by omega)) (xb_0 (by omega)) (mb_0 (by omega)) (mb_0 (by omega)) (bgCp h7) (fun d hd => Chn_bg (h8 d hd)) ⟨(bg_3 (by omega)).trans h9.1, h9.2⟩ fx fm D' q4 q5 (fun _ => q6)⟩
      · exact rf_up h (PR_refR (Or.inr (Or.inr b3)))
theorem RR_close (h : RR k Sx Sm) (a : Int32) : PCi mX_close mM_close [.ref 0, .int a] [.ref 116, .int a] Sx Sm (fun x V y W => x = y ∧ RR (k + 1) V W) := by
  have h0 := h
  obtain ⟨m, M, B, pr, id, h1, h2, h3, h4, h5, h6, h7, h8, h9⟩ := h
  refine PCi_w (PR_close h3 (fun d _ hd => ⟨(h8 d hd).1, fun z => ?_⟩) a) (fun x V y W q => ?_)
  · rcases (h8 d hd).2 with q | ⟨q, _⟩ | ⟨_, q⟩ | ⟨q, _⟩ | ⟨q, _⟩
    · exact absurd (z.symm.trans q) (by decide)
    · exact absurd (z.symm.trans q) (by decide)
    · exact q.1
    · exact absurd (z.symm.trans q) (by decide)
    · exact absurd (z.symm.trans q) (by decide)
  · obtain ⟨q1, q⟩ := q
    refine ⟨q1, ?_⟩
    rcases q with ⟨_, rfl, rfl⟩ | ⟨⟨B', id', D'⟩, se, ⟨n, hn, en0⟩, W', en, alt⟩
    · exact RR_up h0
    · have hst : stT V W := stT_e (n := n) hn se en0
      have ou0 : ouR (st_begin Sx) (md_begins Sm) := bgOu h6
      rcases alt with ⟨c, hc, _, cx, cm, m1, m2⟩ | ⟨_, cx, cm, m1, m2⟩
      · refine RR_F (c := c) (T := st_begin Sx) (U := md_begins Sm) (N := M) (bgTp h1) (by omega) (Nat.le_refl M) (xb_0 (by omega)) (xb_0 (by omega)) (mb_0 (by omega)) (mb_0 (by omega)) (bgCp h7) (fun d hd => Chn_bg (h8 d hd)) ⟨(bg_3 (by omega)).trans h9.1, h9.2⟩ (FX_cl cx) (FM_t (FM_cl cm) (FM_en en)) D' hst (ouR_c (cx.1 115 (by omega) (by omega) (by omega) (by omega) (by omega)) (fun z => cx.2 0 z (by omega) (by omega) (by omega) (by omega) (by omega) (by omega)) (by rw [en.1]; exact cm.1 152 (by omega) (by omega)) (fun z hz => (en.2 116 z (by omega)).trans (cm.2.2.2 116 z (by omega))) ou0) (fun _ => Chn_0 m1 m2)
      · have xa : ∀ p, (p = 2 ∨ p = 5 ∨ p = 38 ∨ p = 114 ∨ p = 115) → V.1 p = Sx.1 p := fun p hp => cx.1 p (by omega) (by omega) (by omega) (by omega) (by omega)
        have xu : ∀ u z, (u ≤ 2 ∨ u = 37 ∨ u = 113 ∨ u = 3 ∧ 8 ≤ z) → V.2 u z = (st_begin Sx).2 u z := fun u z hu => cx.2 u z (by omega) (by omega) (by omega) (by omega) (by omega) (by omega)
        have wa : ∀ p, 128 ≤ p → W.1 p = Sm.1 p := fun p hp => by rw [en.1]; exact cm.1 p (by omega) (by omega)
        have wu : ∀ z, 60 ≤ z → W.2 116 z = (md_begins Sm).2 116 z := fun z hz => (en.2 116 z (by omega)).trans (cm.2 116 z (by omega))
        refine ⟨m, M, B', pr, id', Tpe_c (xa 2 (by omega)) ((xu 1 1 (by omega)).trans (bg_3 (by omega))) (wa 150 (by omega)) ((wu 64 (by omega)).trans (mb_n (by omega))) h1, by omega, D', hst, Or.inl ⟨(wu 61 (by omega)).trans (mb_0 (by omega)), (wu 62 (by omega)).trans (mb_0 (by omega)), ?_⟩, ouR_c (xa 115 (by omega)) (fun z => (xu 0 z (by omega)).trans (bg_3 (by omega))) (wa 152 (by omega)) (fun z hz => (wu z (by omega)).trans (mb_n (by omega))) h6, cpR_c (xa 38 (by omega)) (fun z => (xu 37 z (by omega)).trans (bg_3 (by omega))) (wa 155 (by omega)) (fun z _ _ => (wu z (by omega)).trans (mb_n (by omega))) h7, fun d hd => Chn_0 (m1 d hd) (m2 d hd), ((xu 113 1 (by omega)).trans (bg_3 (by omega))).trans h9.1, by rw [xa 114 (by omega)]; exact h9.2⟩
        rw [xu 3 8 (by omega), xu 3 9 (by omega), xb_0 (by omega), xb_0 (by omega)]; decide
/-- behind open or write of the channels 0 to 14 -/
theorem RR_op {c m n M N : Nat} {pr : Bool} {f : Nat → Int32} {x y : Int32} {V W : rz_S} {B : Nat → Nat → Bool} {id : Option (Nat × Nat)} (hMN : M ≤ N) (hN : N ≤ 20 * (k + 1)) (h6 : ouR Sx Sm) (h7 : cpR Sx Sm) (h8 : ∀ c, c < 15 → Chn M c Sx Sm) (h9 : Sx.2 113 1 = 1 ∧ Sx.1 114 0 = 42) (hT : Tpe 0 (st_begin (rz_uI (rz_uI Sx 1 2 (nI n)) 1 1 0)) (md_begins (rz_uI (rz_fA Sm 151 f) 116 64 0))) (q : opP c N pr (st_begin (rz_uI (rz_uI Sx 1 2 (nI n)) 1 1 0)) (md_begins (rz_uI (rz_fA Sm 151 f) 116 64 0)) x V y W) : x = y ∧ RR (k + 1) V W := by
  obtain ⟨q1, gx, fm, w152, w67, w68, ⟨B', id', D'⟩, hst, hc⟩ := q
  generalize hS1 : rz_uI (rz_uI Sx 1 2 (nI n)) 1 1 0 = S1 at hT gx
  generalize hM1 : rz_uI (rz_fA Sm 151 f) 116 64 0 = M1 at hT fm w152 w67 w68
  have sa : S1.1 = Sx.1 := by rw [← hS1]; rfl
  have su : ∀ u z, u ≠ 1 → S1.2 u z = Sx.2 u z := fun u z hu => by rw [← hS1]; simp (disch := omega) only [uI1, fA2, rz_fA_n, rz_uI_n, rz_fA_s, rz_uI_s, pk_us]
  have ma : ∀ p, p ≠ 151 → M1.1 p = Sm.1 p := fun p hp => by rw [← hM1]; simp (disch := omega) only [uI1, fA2, rz_fA_n, rz_uI_n, rz_fA_s, rz_uI_s, pk_us]
  have mu : ∀ z, z ≠ 64 → M1.2 116 z = Sm.2 116 z := fun z hz => by rw [← hM1]; simp (disch := omega) only [uI1, fA2, rz_fA_n, rz_uI_n, rz_fA_s, rz_uI_s, pk_us]
  refine ⟨q1, RR_F (c := c) (M := M) (N := N) hT (by omega) hMN (xb_0 (by omega)) (xb_0 (by omega)) (mb_0 (by omega)) (mb_0 (by omega)) (cpR_c (show (st_begin S1).1 38 = Sx.1 38 by rw [show (st_begin S1).1 = S1.1 from rfl, sa]) (fun z => (bg_3 (by omega)).trans (su 37 z (by omega))) (ma 155 (by omega)) (fun z _ _ => (mb_n (by omega)).trans (mu z (by omega))) h7) (fun d hd => Chn_bg (Chn_e hd (fun p _ _ => by rw [sa]) (fun u z _ _ => su u z (by omega)) (fun p _ _ => ma p (by omega)) (h8 d hd))) ⟨((bg_3 (by omega)).trans (su 113 1 (by omega))).trans h9.1, by rw [show (st_begin S1).1 114 = S1.1 114 from rfl, sa]; exact h9.2⟩ gx.1 fm D' hst ?_ (fun _ => hc)⟩
  refine ouR_c (V := Sx) (W := Sm) (gx.2.1.trans (by rw [show (st_begin S1).1 115 = S1.1 115 from rfl, sa])) (fun z => (gx.2.2 z).trans ((bg_3 (by omega)).trans (su 0 z (by omega)))) (w152.trans (ma 152 (by omega))) (fun z hz => ?_) h6
  rcases hz with e | e
  · subst e; exact w67.trans ((mb_n (by omega)).trans (mu 67 (by omega)))
  · subst e; exact w68.trans ((mb_n (by omega)).trans (mu 68 (by omega)))
end JOIN
