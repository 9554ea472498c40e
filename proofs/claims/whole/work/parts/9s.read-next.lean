/-! READ of a FILE: both sides -/
theorem c_unfold {S : rz_S} {c r0 r1 : Nat} (hc : c < 15) (h0 : S.1 (49 + 4 * c) 0 = nI r0) (h1 : S.1 (49 + 4 * c) 1 = nI r1) (b0 : r0 < 256) (b1 : r1 < 256) : rz_ev mChannel_unfold [.ref (48 + 4 * c)] S (rz_v (fun S1 => FX c S S1 ∧ S1.1 = S.1 ∧ (∀ u z, u ≠ 48 + 4 * c → S1.2 u z = S.2 u z) ∧ S1.2 (48 + 4 * c) 0 = S.2 (48 + 4 * c) 0 ∧ S1.2 (48 + 4 * c) 2 = nI 2 ∧ ((r0 = 0 ∧ S1.2 (48 + 4 * c) 4 = 1 ∧ S1.2 (48 + 4 * c) 3 = nI (min 63 r1 + 1)) ∨ (r0 ≠ 0 ∧ S1.2 (48 + 4 * c) 4 = 0 ∧ S1.2 (48 + 4 * c) 3 = nI 64)))) := by
  have hch : chP (48 + 4 * c) := ⟨by omega, by omega, by omega⟩
  have e49 : 48 + 4 * c + 1 = 49 + 4 * c := by omega
  show rz _ 0 [(0, .ref (48 + 4 * c))] [] _ _
  refine p_Channel_unfold_0 hch ?_
  rw [e49, h0]
  refine ⟨fun d => ?_, fun d => ?_⟩
  · have r00 : r0 = 0 := (nI_eq (b := 0) (by omega) (by omega)).mp d
    refine p_Channel_unfold_15 hch hch ⟨Or.inr rfl, fun d => ?_, fun _ => ?_⟩
    · have : (rz_uI (rz_uI S (48 + 4 * c) 4 1) (48 + 4 * c) 2 2).2 (48 + 4 * c) 4 = 1 := by simp (disch := omega) only [uI1, fA2, rz_fA_n, rz_uI_n, rz_fA_s, rz_uI_s, pk_us]
      rw [this] at d
      exact absurd d (by decide)
    · rw [e49, h1]
      have em : (if nI r1 < 63 then nI r1 else 63) + 1 = nI (min 63 r1 + 1) := by
        by_cases z : r1 < 63
        · rw [if_pos (show nI r1 < 63 from nI_lt (b := 63) z (by omega)), Nat.min_eq_right (by omega), nI_1]
        · rw [if_neg (show ¬ nI r1 < 63 from nI_nlt (b := 63) (by omega) (by omega)), Nat.min_eq_left (by omega)]; rfl
      rw [em]
      exact ⟨FX_t FX_u (FX_t FX_u FX_u), rfl, fun u z hu => by simp (disch := omega) only [uI1, fA2, rz_fA_n, rz_uI_n, rz_fA_s, rz_uI_s, pk_us], by simp (disch := omega) only [uI1, fA2, rz_fA_n, rz_uI_n, rz_fA_s, rz_uI_s, pk_us], by simp (disch := omega) only [uI1, fA2, rz_fA_n, rz_uI_n, rz_fA_s, rz_uI_s, pk_us]; rfl, Or.inl ⟨r00, by simp (disch := omega) only [uI1, fA2, rz_fA_n, rz_uI_n, rz_fA_s, rz_uI_s, pk_us], by simp (disch := omega) only [uI1, fA2, rz_fA_n, rz_uI_n, rz_fA_s, rz_uI_s, pk_us]⟩⟩
  · refine p_Channel_unfold_15 hch hch ⟨Or.inl rfl, fun _ => ?_, fun d => absurd (by simp (disch := omega) only [uI1, fA2, rz_fA_n, rz_uI_n, rz_fA_s, rz_uI_s, pk_us]) d⟩
    exact ⟨FX_t FX_u (FX_t FX_u FX_u), rfl, fun u z hu => by simp (disch := omega) only [uI1, fA2, rz_fA_n, rz_uI_n, rz_fA_s, rz_uI_s, pk_us], by simp (disch := omega) only [uI1, fA2, rz_fA_n, rz_uI_n, rz_fA_s, rz_uI_s, pk_us], by simp (disch := omega) only [uI1, fA2, rz_fA_n, rz_uI_n, rz_fA_s, rz_uI_s, pk_us]; rfl, Or.inr ⟨fun z => d (by rw [z]; rfl), by simp (disch := omega) only [uI1, fA2, rz_fA_n, rz_uI_n, rz_fA_s, rz_uI_s, pk_us], by simp (disch := omega) only [uI1, fA2, rz_fA_n, rz_uI_n, rz_fA_s, rz_uI_s, pk_us]; rfl⟩⟩
theorem c_begun {S : rz_S} {c r0 r1 : Nat} (hc : c < 15) (h0 : S.1 127 (64 * c) = nI r0) (h1 : S.1 127 (64 * c + 1) = nI r1) (b0 : r0 < 256) (b1 : r1 < 256) : rz_ev mM_begun [.ref 116, .int (nI c)] S (rz_v (fun S1 => FM c S S1 ∧ S1.2 = S.2 ∧ (∀ q, q ≠ 128 → q ≠ 129 → q ≠ 130 → S1.1 q = S.1 q) ∧ S1.1 128 c = nI 2 ∧ ((r0 = 0 ∧ S1.1 130 c = 1 ∧ S1.1 129 c = nI (max 1 (min 63 r1))) ∨ (r0 ≠ 0 ∧ S1.1 130 c = 0 ∧ S1.1 129 c = nI 63)))) := by
  have ecl : (nI c).toNatClampNeg = c := nI_clamp (by omega)
  have e64 : (64 * nI c : Int32) = nI (64 * c) := pk_mul 64 c
  show rz _ 0 [(0, .ref 116), (1, .int (nI c))] [] _ _
  refine p_M_begun_0 ?_
  rw [e64, nI_clamp (by omega), h0]
  have go : ∀ (s0 : Int32), (s0 = 1 ∧ r0 = 0 ∨ s0 = 0 ∧ r0 ≠ 0) → rz mM_begun 24 [(0, .ref 116), (1, .int (nI c)), (2, .int (nI (64 * c)))] [.int s0, .int (nI c), .ref 130] S (rz_v (fun S1 => FM c S S1 ∧ S1.2 = S.2 ∧ (∀ q, q ≠ 128 → q ≠ 129 → q ≠ 130 → S1.1 q = S.1 q) ∧ S1.1 128 c = nI 2 ∧ ((r0 = 0 ∧ S1.1 130 c = 1 ∧ S1.1 129 c = nI (max 1 (min 63 r1))) ∨ (r0 ≠ 0 ∧ S1.1 130 c = 0 ∧ S1.1 129 c = nI 63)))) := by
    intro s0 hs
    have en : vp_nar .boolean s0 = s0 := by rcases hs with ⟨rfl, _⟩ | ⟨rfl, _⟩ <;> rfl
    have fin : ∀ m : Nat, m = max 1 (min 63 r1) → rz mM_begun 67 [(0, .ref 116), (1, .int (nI c))] [.int (nI m)] (rz_fA S 130 (upd (S.1 130) c s0)) (rz_v (fun S1 => FM c S S1 ∧ S1.2 = S.2 ∧ (∀ q, q ≠ 128 → q ≠ 129 → q ≠ 130 → S1.1 q = S.1 q) ∧ S1.1 128 c = nI 2 ∧ ((r0 = 0 ∧ S1.1 130 c = 1 ∧ S1.1 129 c = nI (max 1 (min 63 r1))) ∨ (r0 ≠ 0 ∧ S1.1 130 c = 0 ∧ S1.1 129 c = nI 63)))) := by
      intro m hm
      have e130 : (rz_fA S 130 (upd (S.1 130) c s0)).1 130 c = s0 := by simp (disch := omega) only [uI1, fA2, rz_fA_n, rz_uI_n, rz_fA_s, rz_uI_s, pk_us]
      refine p_M_begun_67 ⟨rin hc (by omega), fun d => ?_, fun d => ?_⟩
      all_goals rw [ecl, e130] at d
      all_goals rw [ecl]
      · refine ⟨FM_t (FM_g (q := 130) (by omega) (fun d hd => by simp (disch := omega) only [uI1, fA2, rz_fA_n, rz_uI_n, rz_fA_s, rz_uI_s, pk_us, pk_un])) (FM_t (FM_g (q := 129) (by omega) (fun d hd => by simp (disch := omega) only [uI1, fA2, rz_fA_n, rz_uI_n, rz_fA_s, rz_uI_s, pk_us, pk_un])) (FM_g (q := 128) (by omega) (fun d hd => by simp (disch := omega) only [uI1, fA2, rz_fA_n, rz_uI_n, rz_fA_s, rz_uI_s, pk_us, pk_un]))), rfl, fun q a b e => by simp (disch := omega) only [uI1, fA2, rz_fA_n, rz_uI_n, rz_fA_s, rz_uI_s, pk_us], by simp (disch := omega) only [uI1, fA2, rz_fA_n, rz_uI_n, rz_fA_s, rz_uI_s, pk_us]; rfl, Or.inr ⟨?_, by simp (disch := omega) only [uI1, fA2, rz_fA_n, rz_uI_n, rz_fA_s, rz_uI_s, pk_us]; exact d, by simp (disch := omega) only [uI1, fA2, rz_fA_n, rz_uI_n, rz_fA_s, rz_uI_s, pk_us]; rfl⟩⟩
        rcases hs with ⟨z, _⟩ | ⟨_, z⟩
        · rw [z] at d; exact absurd d (by decide)
        · exact z
      · refine ⟨FM_t (FM_g (q := 130) (by omega) (fun d hd => by simp (disch := omega) only [uI1, fA2, rz_fA_n, rz_uI_n, rz_fA_s, rz_uI_s, pk_us, pk_un])) (FM_t (FM_g (q := 129) (by omega) (fun d hd => by simp (disch := omega) only [uI1, fA2, rz_fA_n, rz_uI_n, rz_fA_s, rz_uI_s, pk_us, pk_un])) (FM_g (q := 128) (by omega) (fun d hd => by simp (disch := omega) only [uI1, fA2, rz_fA_n, rz_uI_n, rz_fA_s, rz_uI_s, pk_us, pk_un]))), rfl, fun q a b e => by simp (disch := omega) only [uI1, fA2, rz_fA_n, rz_uI_n, rz_fA_s, rz_uI_s, pk_us], by simp (disch := omega) only [uI1, fA2, rz_fA_n, rz_uI_n, rz_fA_s, rz_uI_s, pk_us]; rfl, ?_⟩
        rcases hs with ⟨z, z1⟩ | ⟨z, _⟩
        · exact Or.inl ⟨z1, by simp (disch := omega) only [uI1, fA2, rz_fA_n, rz_uI_n, rz_fA_s, rz_uI_s, pk_us]; exact z, by simp (disch := omega) only [uI1, fA2, rz_fA_n, rz_uI_n, rz_fA_s, rz_uI_s, pk_us]; rw [hm]⟩
        · exact absurd z d
    refine p_M_begun_24 ⟨rin hc (by omega), ?_⟩
    rw [nI_1, nI_clamp (by omega), h1, ecl, en]
    refine ⟨rin (by omega) (by omega), fun d => ⟨fun e => fin r1 ?_, fun e => ?_⟩, fun d => ?_⟩
    · have := (nI_leI (a := 2) (b := r1) (by omega) (by omega)).mp d
      have := (nI_leI (a := r1) (b := 63) (by omega) (by omega)).mp e
      omega
    · refine fin 63 ?_
      have : ¬ r1 ≤ 63 := fun z => e (nI_le (b := 63) z (by omega))
      omega
    · refine fin 1 ?_
      have : ¬ 2 ≤ r1 := fun z => d (nI_le (a := 2) z (by omega))
      omega
  exact ⟨rin (by omega) (by omega), fun d => go 1 (Or.inl ⟨rfl, (nI_eq (b := 0) (by omega) (by omega)).mp d⟩), fun d => go 0 (Or.inr ⟨rfl, fun z => d (by rw [z]; rfl)⟩)⟩
/-- the next block of a FILE -/
theorem fn_next {Sx Sm V W : rz_S} {c i n M : Nat} {pr : Bool} (hc : c < 15) (hn : n ≤ 300) (hin : i < n) (hI : rcI c i pr Sx Sm V W) (m1 : V.2 (48 + 4 * c) 0 = 1) (m2 : W.1 126 c = 1) (hrow : rowE c V W) (w128 : W.1 128 c = nI 64) (w129 : W.1 129 c = nI 63) (w130 : W.1 130 c = 0) : ∃ x V1, rzx mDos_readNext [.ref 39, .ref (48 + 4 * c)] V (some (.int x)) V1 ∧
    ((x = 0 ∧ ∃ W1, (∀ Q : Int32 → rz_S → Prop, rz mM_readsFile 8 [(0, .ref 116), (1, .int (nI c)), (2, .int (nI n)), (3, .int (nI (64 * c))), (4, .int 1)] [] W1 (rz_i Q) → rz mM_readsFile 8 [(0, .ref 116), (1, .int (nI c)), (2, .int (nI n)), (3, .int (nI (64 * c))), (4, .int 1)] [] W (rz_i Q)) ∧ rcI c i pr Sx Sm V1 W1 ∧ V1.2 (48 + 4 * c) 0 = 1 ∧ W1.1 126 c = 1 ∧ ChR c V1 W1 ∧ V1.2 (48 + 4 * c) 2 = nI 2) ∨
     (¬ x = 0 ∧ ∃ W1, (∀ Q : Int32 → rz_S → Prop, Q x W1 → rz mM_readsFile 8 [(0, .ref 116), (1, .int (nI c)), (2, .int (nI n)), (3, .int (nI (64 * c))), (4, .int 1)] [] W (rz_i Q)) ∧ rcE c M pr Sx Sm (nI i) (rz_uI V1 (48 + 4 * c) 0 0) x W1)) := by
  have hch : chP (48 + 4 * c) := ⟨by omega, by omega, by omega⟩
  have ecl : (nI c).toNatClampNeg = c := nI_clamp (by omega)
  have e49 : 48 + 4 * c + 1 = 49 + 4 * c := by omega
  obtain ⟨a1, a2, ⟨B, id, a3⟩, a4, a5, a6, a7, a8, a9⟩ := hI
  obtain ⟨r0, b0, f0⟩ := (hrow 0 (by omega)).2
  obtain ⟨r1, b1, f1⟩ := (hrow 1 (by omega)).2
  have g0 : W.1 127 (64 * c) = nI r0 := (hrow 0 (by omega)).1.symm.trans f0
  have g1 : W.1 127 (64 * c + 1) = nI r1 := (hrow 1 (by omega)).1.symm.trans f1
  have nle : ¬ nI n ≤ nI i := fun d => by
    have := (nI_leI (a := n) (b := i) (by omega) (by omega)).mp d
    omega
  have lt6 : nI 63 < nI 64 := nI_lt (by omega) (by omega)
  by_cases hl : lgI (nI r0) (nI r1) = 0
  · have hL : rz_ev mDos_readNext [.ref 39, .ref (48 + 4 * c)] V (rz_i (fun x S1 => x = 71 ∧ S1 = st_set V 71 (nI r0) (nI r1))) := by
      show rz _ 0 [(0, .ref 39), (1, .ref (48 + 4 * c))] [] _ _
      refine p_Dos_readNext_0 hch ?_
      rw [e49, f0, f1]
      exact rz_toI (c_Disk_legal _ _) ⟨fun _ => rz_toI (c_Status_set _ _ _) ⟨rfl, rfl⟩, fun d => absurd hl d⟩
    obtain ⟨_, _, e, x, rfl, rfl, rfl⟩ := rzx_ev hL
    refine ⟨_, _, e, Or.inr ⟨by decide, rz_fA (rz_uI (rz_uI W 116 4 (nI r0)) 116 5 (nI r1)) 126 (upd (W.1 126) c 0), fun Q h => ?_, ?_⟩⟩
    · refine p_M_readsFile_8 ⟨fun d => absurd d (by decide), fun _ => ⟨fun d => absurd (a8 ▸ d) nle, fun _ => ⟨rin hc (by omega), ?_⟩⟩⟩
      rw [ecl, w128, w129, w130, nI_1, nI_clamp (by omega), nI_clamp (by omega), g0, g1]
      refine ⟨fun _ => ⟨fun _ => ⟨rin (by omega) (by omega), rin (by omega) (by omega), rz_toI (c_M_legal _ _) ⟨fun _ => rz_toI (c_M_fault _ _ _) (p_M_readsFile_171 ⟨fun d => absurd d (by decide), fun _ => ?_⟩), fun d => absurd hl d⟩⟩, fun d => absurd rfl d⟩, fun d => absurd lt6 d⟩
      rw [ecl]
      exact ⟨rin hc (by omega), h⟩
    · refine ⟨i, by omega, rfl, FX_t a1 (FX_t (FX_rc rF_s) FX_u), FM_t a2 (FM_t (FM_u (k := 4) (by omega)) (FM_t (FM_u (k := 5) (by omega)) (FM_g (q := 126) (by omega) (fun d hd => by simp (disch := omega) only [uI1, fA2, rz_fA_n, rz_uI_n, rz_fA_s, rz_uI_s, pk_us, pk_un])))), ⟨B, id, Dk_mf (Dk_mu (Dk_mu (Dk_xu (st_set_dk a3) (by omega)) (by omega)) (by omega)) (by omega)⟩, ans_u (by omega) (Or.inr ⟨71, by omega, by omega, rfl, ⟨r0, r1, ⟨rfl, rfl, rfl, rfl, rfl⟩, by simp (disch := omega) only [uI1, fA2, rz_fA_n, rz_uI_n, rz_fA_s, rz_uI_s, pk_us], by simp (disch := omega) only [uI1, fA2, rz_fA_n, rz_uI_n, rz_fA_s, rz_uI_s, pk_us]⟩, (show (st_set V 71 (nI r0) (nI r1)).2 3 3 = V.2 3 3 from rfl).trans (a4 3)⟩), fun z b d => ?_, ?_, fun j hj => ?_, ?_, ?_, ?_, Or.inl ?_⟩
      · simp (disch := omega) only [uI1, fA2, rz_fA_n, rz_uI_n, rz_fA_s, rz_uI_s, pk_us]; exact a5 z b d
      · simp (disch := omega) only [uI1, fA2, rz_fA_n, rz_uI_n, rz_fA_s, rz_uI_s, pk_us]; exact a8
      · have : (st_set V 71 (nI r0) (nI r1)).1 = V.1 := rfl
        simp (disch := omega) only [uI1, fA2, rz_fA_n, rz_uI_n, rz_fA_s, rz_uI_s, pk_us]; rw [this]; exact a9 j hj
      · have : (st_set V 71 (nI r0) (nI r1)).2 39 6 = V.2 39 6 := rfl
        simp (disch := omega) only [uI1, fA2, rz_fA_n, rz_uI_n, rz_fA_s, rz_uI_s, pk_us]; rw [this, a6, a7]
      · have : (st_set V 71 (nI r0) (nI r1)).2 39 6 = V.2 39 6 := rfl
        refine Or.inl ?_
        simp (disch := omega) only [uI1, fA2, rz_fA_n, rz_uI_n, rz_fA_s, rz_uI_s, pk_us]; rw [this, a6]
      · simp (disch := omega) only [uI1, fA2, rz_fA_n, rz_uI_n, rz_fA_s, rz_uI_s, pk_us]
      · simp (disch := omega) only [uI1, fA2, rz_fA_n, rz_uI_n, rz_fA_s, rz_uI_s, pk_us]
  · obtain ⟨u, v, u1, u2, v1, eu, ev⟩ := lgI_1 hl
    have e0 : r0 = u := (nI_eq (by omega) (by omega)).mp eu
    have e1 : r1 = v := (nI_eq (by omega) (by have := (sct_b u1 u2).1; omega)).mp ev
    subst e0
    subst e1
    obtain ⟨x, V1, y, W1, x1, x2, rfl, xc, id', rfl, hx, hD, fx, fm, hz, hnz⟩ := PR_read (a := 49 + 4 * c) (a' := 127) (at0 := 64 * c) (na := 960) a3 u1 u2 b1 (e49 ▸ chR hch) (by omega) rfl (by omega) (by omega) (by omega)
    have right : ∀ Q : Int32 → rz_S → Prop, rz mM_readsFile 171 [(0, .ref 116), (1, .int (nI c)), (2, .int (nI n)), (3, .int (nI (64 * c))), (4, .int 1)] [.int (nI xc)] W1 (rz_i Q) → rz mM_readsFile 8 [(0, .ref 116), (1, .int (nI c)), (2, .int (nI n)), (3, .int (nI (64 * c))), (4, .int 1)] [] W (rz_i Q) := by
      intro Q h
      refine p_M_readsFile_8 ⟨fun d => absurd d (by decide), fun _ => ⟨fun d => absurd (a8 ▸ d) nle, fun _ => ⟨rin hc (by omega), ?_⟩⟩⟩
      rw [ecl, w128, w129, w130, nI_1, nI_clamp (by omega), nI_clamp (by omega), g0, g1]
      exact ⟨fun _ => ⟨fun _ => ⟨rin (by omega) (by omega), rin (by omega) (by omega), rz_toI (c_M_legal _ _) ⟨fun d => absurd d hl, fun _ => rzx_I x2 h⟩⟩, fun d => absurd rfl d⟩, fun d => absurd lt6 d⟩
    have o115 : V1.1 115 = V.1 115 := fx.1 115 (by omega) (by omega)
    have o152 : W1.1 152 = W.1 152 := fm.1 152 (by omega) (by omega)
    have v6 : V1.2 39 6 = 0 := (fx.2 39 6 (by omega) (by omega) (by omega)).trans a6
    have v0 : V1.2 (48 + 4 * c) 0 = 1 := (fx.2 _ 0 (by omega) (by omega) (by omega)).trans m1
    have wz : ∀ z, 56 ≤ z → W1.2 116 z = W.2 116 z := fun z hz => fm.2.2 116 z (by omega)
    by_cases h0 : xc = 0
    · subst h0
      obtain ⟨⟨d, hd⟩, h3⟩ := hz rfl
      obtain ⟨_, V2, l1, rfl, l2, l3, l4, l5, l6, l7⟩ := rzx_ev (c_unfold (S := V1) hc (hd 0 (by omega)).1 (hd 1 (by omega)).1 (hd 0 (by omega)).2.2 (hd 1 (by omega)).2.2)
      obtain ⟨_, W2, k1, rfl, k2, k3, k4, k5, k6⟩ := rzx_ev (c_begun (S := W1) hc (hd 0 (by omega)).2.1 (hd 1 (by omega)).2.1 (hd 0 (by omega)).2.2 (hd 1 (by omega)).2.2)
      have hL : rz_ev mDos_readNext [.ref 39, .ref (48 + 4 * c)] V (rz_i (fun x S1 => x = 0 ∧ S1 = V2)) := by
        show rz _ 0 [(0, .ref 39), (1, .ref (48 + 4 * c))] [] _ _
        refine p_Dos_readNext_0 hch ?_
        rw [e49, f0, f1]
        exact rz_toI (c_Disk_legal _ _) ⟨fun d => absurd d hl, fun _ => rzx_I x1 ⟨fun _ => rzx_V l1 ⟨rfl, rfl⟩, fun d => absurd rfl d⟩⟩
      obtain ⟨_, _, e, x, rfl, rfl, rfl⟩ := rzx_ev hL
      refine ⟨_, _, e, Or.inl ⟨rfl, W2, fun Q h => right Q (p_M_readsFile_171 ⟨fun _ => rzx_V k1 h, fun d => absurd rfl d⟩), ⟨FX_t a1 (FX_t (FX_rc fx) l2), FM_t a2 (FM_t (FM_k fm) k2), ⟨B, id', ?_⟩, fun z => ?_, fun z b d => ?_, ?_, ?_, ?_, fun j hj => ?_⟩, ?_, ?_, ⟨fun k hk => ?_, ?_⟩, l6⟩⟩
      · exact Dk_m (Dk_x hD (fun q _ _ => by rw [l3]) (fun u z hu => l4 u z (by omega))) (fun q _ _ => k4 q (by omega) (by omega) (by omega)) (fun z _ => by rw [k3])
      · exact (l4 3 z (by omega)).trans ((h3 z).trans (a4 z))
      · rw [k3]; exact (wz z b).trans (a5 z b d)
      · exact (l4 39 6 (by omega)).trans v6
      · rw [k3]; exact (wz 68 (by omega)).trans a7
      · rw [k3]; exact (wz 67 (by omega)).trans a8
      · rw [l3, k4 152 (by omega) (by omega) (by omega), o115, o152]; exact a9 j hj
      · exact l5.trans v0
      · rw [k4 126 (by omega) (by omega) (by omega), fm.1 126 (by omega) (by omega)]; exact m2
      · rw [l3, k4 127 (by omega) (by omega) (by omega)]
        exact ⟨(hd k hk).1.trans (hd k hk).2.1.symm, d k, (hd k hk).2.2, (hd k hk).1⟩
      · rcases l7 with ⟨p1, p2, p3⟩ | ⟨p1, p2, p3⟩
        · rcases k6 with ⟨_, q2, q3⟩ | ⟨q1, _, _⟩
          · exact ⟨2, min 63 (d 1) + 1, max 1 (min 63 (d 1)), by omega, by omega, by omega, l6, k5, p3, q3, by omega, Or.inr ⟨p2, q2⟩⟩
          · exact absurd p1 q1
        · rcases k6 with ⟨q1, _, _⟩ | ⟨_, q2, q3⟩
          · exact absurd q1 p1
          · exact ⟨2, 64, 63, by omega, by omega, by omega, l6, k5, p3, q3, by omega, Or.inl ⟨p2, q2, rfl⟩⟩
    · obtain ⟨o1, o2, o3, o4⟩ := hnz h0
      have nz : ¬ nI xc = 0 := fun z => h0 ((nI_eq (b := 0) (by omega) (by omega)).mp z)
      have hL : rz_ev mDos_readNext [.ref 39, .ref (48 + 4 * c)] V (rz_i (fun x S1 => x = nI xc ∧ S1 = V1)) := by
        show rz _ 0 [(0, .ref 39), (1, .ref (48 + 4 * c))] [] _ _
        refine p_Dos_readNext_0 hch ?_
        rw [e49, f0, f1]
        exact rz_toI (c_Disk_legal _ _) ⟨fun d => absurd d hl, fun _ => rzx_I x1 ⟨fun d => absurd d nz, fun _ => ⟨rfl, rfl⟩⟩⟩
      obtain ⟨_, _, e, x, rfl, rfl, rfl⟩ := rzx_ev hL
      refine ⟨_, _, e, Or.inr ⟨nz, rz_fA W1 126 (upd (W1.1 126) c 0), fun Q h => right Q (p_M_readsFile_171 ⟨fun d => absurd d nz, fun _ => ?_⟩), ?_⟩⟩
      · rw [ecl]
        exact ⟨rin hc (by omega), h⟩
      · refine ⟨i, by omega, rfl, FX_t a1 (FX_t (FX_rc fx) FX_u), FM_t a2 (FM_t (FM_k fm) (FM_a (by omega))), ⟨B, id', Dk_mf (Dk_xu hD (by omega)) (by omega)⟩, ans_f (ans_u (k := 48 + 4 * c) (by omega) (Or.inr ⟨xc, h0, hx, rfl, o3, o4.trans (a4 3)⟩)) (fun _ => rfl) (fun _ => rfl), fun z b d => ?_, ?_, fun j hj => ?_, ?_, ?_, ?_, Or.inl ?_⟩
        · exact (wz z b).trans (a5 z b d)
        · exact (wz 67 (by omega)).trans a8
        · simp (disch := omega) only [uI1, fA2, rz_fA_n, rz_uI_n, rz_fA_s, rz_uI_s, pk_us]; rw [o115, o152]; exact a9 j hj
        · simp (disch := omega) only [uI1, fA2, rz_fA_n, rz_uI_n, rz_fA_s, rz_uI_s, pk_us]; rw [v6, wz 68 (by omega), a7]
        · refine Or.inl ?_
          simp (disch := omega) only [uI1, fA2, rz_fA_n, rz_uI_n, rz_fA_s, rz_uI_s, pk_us]; exact v6
        · simp (disch := omega) only [uI1, fA2, rz_fA_n, rz_uI_n, rz_fA_s, rz_uI_s, pk_us]
        · simp (disch := omega) only [uI1, fA2, rz_fA_n, rz_uI_n, rz_fA_s, rz_uI_s, pk_us]
