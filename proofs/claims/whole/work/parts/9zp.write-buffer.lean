/-! write: to a BUFFER -/
theorem wb_loop {c n M : Nat} {pr : Bool} {T U : rz_S} (hc : c < 15) (hT : Txt n T U) : ∀ (w i : Nat) (V W : rz_S), i + w = n → GX c T V → GM c U W → (∃ B id, Dk B pr id V W) → (∀ z, V.2 3 z = T.2 3 z) → V.2 (48 + 4 * c) 0 = 4 → W.1 126 c = 4 → ChB c V W → ∀ K : rz_S → Prop, (∀ V1, rz mM_write 66 [(0, .ref 116), (1, .int (nI c)), (2, .int (nI n)), (3, .int (nI i))] [] W (rz_i (fun y W1 => y = W1.2 116 56 ∧ opE c M pr T U 0 V1 0 W1)) → K V1) → rz mDos_sendBytes 31 [(0, .ref 39), (1, .int (nI c)), (3, .int (nI i))] [] V (rz_v K) := by
  have ecl : (nI c).toNatClampNeg = c := nI_clamp (by omega)
  have e64 : (64 * nI c : Int32) = nI (64 * c) := pk_mul 64 c
  have e49 : 48 + 4 * c + 1 = 49 + 4 * c := by omega
  obtain ⟨hn, hl, htx, _⟩ := hT
  intro w
  induction w with
  | zero =>
    intro i V W e gx gm hD h3 m1 m2 hB K hK
    have ei : i = n := by omega
    subst ei
    have lle : nI i ≤ nI i := nI_le (a := i) (b := i) (by omega) (by omega)
    refine p_Dos_sendBytes_31 ⟨fun _ => hK V (p_M_write_66 ⟨fun _ => ⟨rfl, rfl, gx, gm, hD, Or.inl ⟨rfl, h3⟩, m1.trans m2.symm, Or.inr (Or.inr (Or.inr (Or.inr ⟨m2, hB⟩)))⟩, fun z => absurd lle z⟩), fun z => absurd ?_ z⟩
    rw [gx.1.2.2.1 1 2 (by omega), hl]
    exact lle
  | succ w ih =>
    intro i V W e gx gm hD h3 m1 m2 hB K hK
    obtain ⟨hrow, pl, p64, px, pm⟩ := hB
    have hlV : V.2 1 2 = nI n := (gx.1.2.2.1 1 2 (by omega)).trans hl
    have v2 : V.1 2 = T.1 2 := gx.1.1 2 (by omega)
    have w151 : W.1 151 = U.1 151 := gm.1.1 151 (by omega)
    have nle : ¬ nI n ≤ nI i := fun d => by
      have := (nI_leI (a := n) (b := i) (by omega) (by omega)).mp d
      omega
    have hbi : V.1 2 i = W.1 151 i ∧ byt (V.1 2 i) := by rw [v2, w151]; exact htx i (by omega)
    refine p_Dos_sendBytes_31 ⟨fun z => absurd (by rw [hlV] at z; exact z) nle, fun _ => ⟨rin hc (by omega), rz_toI (c_byteAt hn hlV (by omega)) ?_⟩⟩
    rw [ecl, e49, px, an63 (by omega), Nat.mod_eq_of_lt p64, nI_clamp (by omega), if_pos (by omega), nI_1, nI_1, an63 (by omega)]
    refine ⟨rin p64 (by omega), ?_⟩
    have right : ∀ Q : Int32 → rz_S → Prop, rz mM_write 66 [(0, .ref 116), (1, .int (nI c)), (2, .int (nI n)), (3, .int (nI (i + 1)))] [] (rz_fA (rz_fA W 127 (upd (W.1 127) (64 * c + pl) (V.1 2 i))) 128 (upd (W.1 128) c (nI ((pl + 1) % 64)))) (rz_i Q) → rz mM_write 66 [(0, .ref 116), (1, .int (nI c)), (2, .int (nI n)), (3, .int (nI i))] [] W (rz_i Q) := fun Q h => by
      refine p_M_write_66 ⟨fun z => absurd z nle, fun _ => ?_⟩
      rw [ecl, pm, e64, nI_add, nI_clamp (by omega), nI_clamp (by omega), nI_1, nI_1, an63 (by omega), ← hbi.1]
      exact ⟨rin hc (by omega), rin (by omega) (by omega), rin (by omega) (by omega), h⟩
    generalize hV1 : rz_uI (rz_fA V (49 + 4 * c) (upd (V.1 (49 + 4 * c)) pl (V.1 2 i))) (48 + 4 * c) 2 (nI ((pl + 1) % 64)) = V1
    generalize hW1 : rz_fA (rz_fA W 127 (upd (W.1 127) (64 * c + pl) (V.1 2 i))) 128 (upd (W.1 128) c (nI ((pl + 1) % 64))) = W1 at right
    have g1 : GX c V V1 := by rw [← hV1]; exact GX_t (GX_f hc) GX_u
    have g2 : GM c W W1 := by
      rw [← hW1]
      exact GM_t (GM_h (fun j hj => pk_un (by omega))) (GM_g (q := 128) (by omega) (fun d hd => by simp (disch := omega) only [uI1, fA2, rz_fA_n, rz_uI_n, rz_fA_s, rz_uI_s, pk_us, pk_un]))
    obtain ⟨B, id, d⟩ := hD
    refine ih (i + 1) V1 W1 (by omega) (GX_t gx g1) (GM_t gm g2) ⟨B, id, ?_⟩ (fun z => ?_) ?_ ?_ ⟨fun k hk => ?_, (pl + 1) % 64, by omega, ?_, ?_⟩ K (fun V2 h => hK V2 (right _ h))
    · rw [← hV1, ← hW1]; exact Dk_mf (Dk_mf (Dk_xu (Dk_xf d (by omega)) (by omega)) (by omega)) (by omega)
    · rw [← hV1]; simp (disch := omega) only [uI1, fA2, rz_fA_n, rz_uI_n, rz_fA_s, rz_uI_s, pk_us]; exact h3 z
    · rw [← hV1]; simp (disch := omega) only [uI1, fA2, rz_fA_n, rz_uI_n, rz_fA_s, rz_uI_s, pk_us]; exact m1
    · rw [← hW1]; simp (disch := omega) only [uI1, fA2, rz_fA_n, rz_uI_n, rz_fA_s, rz_uI_s, pk_us]; exact m2
    · have a : V1.1 (49 + 4 * c) = upd (V.1 (49 + 4 * c)) pl (V.1 2 i) := by rw [← hV1]; simp (disch := omega) only [uI1, fA2, rz_fA_n, rz_uI_n, rz_fA_s, rz_uI_s, pk_us]
      have b : W1.1 127 = upd (W.1 127) (64 * c + pl) (V.1 2 i) := by rw [← hW1]; simp (disch := omega) only [uI1, fA2, rz_fA_n, rz_uI_n, rz_fA_s, rz_uI_s, pk_us]
      rw [a, b]
      by_cases z : k = pl
      · subst z; rw [pk_us, pk_us]; exact ⟨rfl, hbi.2⟩
      · rw [pk_un z, pk_un (by omega)]; exact hrow k hk
    · rw [← hV1]; simp (disch := omega) only [uI1, fA2, rz_fA_n, rz_uI_n, rz_fA_s, rz_uI_s, pk_us]
    · rw [← hW1]; simp (disch := omega) only [uI1, fA2, rz_fA_n, rz_uI_n, rz_fA_s, rz_uI_s, pk_us]
