/-! write: one byte to a FILE's block that has room -/
theorem fb_one {c M : Nat} {pr : Bool} {V W : rz_S} {B : Nat → Nat → Bool} {id : Option (Nat × Nat)} {b : Int32} (hc : c < 15) (hb : byt b) (hD : Dk B pr id V W) (m1 : V.2 (48 + 4 * c) 0 = 2) (m2 : W.1 126 c = 2) (hF : ChF c M V W) (hpl : V.2 (48 + 4 * c) 2 < 64) : ∃ V1 W1, (∀ K : Int32 → rz_S → Prop, K 0 V1 → rz mDos_addToFile 68 [(1, .ref (48 + 4 * c)), (2, .int b)] [] V (rz_i K)) ∧ (∀ Q : Int32 → rz_S → Prop, Q 0 W1 → rz mM_writesByte 30 [(0, .ref 116), (1, .int (nI c)), (2, .int b)] [] W (rz_i Q)) ∧ GX c V V1 ∧ GM c W W1 ∧ Dk B pr id V1 W1 ∧ (∀ z, V1.2 3 z = V.2 3 z) ∧ V1.2 (48 + 4 * c) 0 = 2 ∧ W1.1 126 c = 2 ∧ ChF c (M + 1) V1 W1 := by
  have hch : chP (48 + 4 * c) := ⟨by omega, by omega, by omega⟩
  have ecl : (nI c).toNatClampNeg = c := nI_clamp (by omega)
  have e64 : (64 * nI c : Int32) = nI (64 * c) := pk_mul 64 c
  have e49 : 48 + 4 * c + 1 = 49 + 4 * c := by omega
  obtain ⟨⟨t, s, et, es, e, cn, pl, a1, a2, a3, a4, a5, ⟨x5, x6, x9, x10, x11, x13, x2⟩, ⟨y3, y4, y5, y6, y7, y8, y9⟩, hrow⟩, ⟨ft, fs, f1, f2, f3, f4, f5, f6, f7⟩, cn', pl', g1, g2, g3, g4, g5, g6⟩ := hF
  have ep : pl' = pl := (nI_eq (by omega) (by omega)).mp (g5.symm.trans x2)
  subst ep
  have p64 : pl' < 64 := by rw [x2] at hpl; exact (nI_ltI (b := 64) (by omega) (by omega)).mp hpl
  refine ⟨rz_uI (rz_fA V (49 + 4 * c) (upd (V.1 (49 + 4 * c)) pl' b)) (48 + 4 * c) 2 (nI (pl' + 1)), rz_fA (rz_fA W 127 (upd (W.1 127) (64 * c + pl') b)) 129 (upd (W.1 129) c (nI (pl' - 2 + 1))), fun K h => ?_, fun Q h => ?_, GX_t (GX_f hc) GX_u, GM_t (GM_h (fun j hj => pk_un (by omega))) (GM_g (q := 129) (by omega) (fun d hd => by simp (disch := omega) only [uI1, fA2, rz_fA_n, rz_uI_n, rz_fA_s, rz_uI_s, pk_us, pk_un])), Dk_mf (Dk_mf (Dk_xu (Dk_xf hD (by omega)) (by omega)) (by omega)) (by omega), fun z => by simp (disch := omega) only [uI1, fA2, rz_fA_n, rz_uI_n, rz_fA_s, rz_uI_s, pk_us], by simp (disch := omega) only [uI1, fA2, rz_fA_n, rz_uI_n, rz_fA_s, rz_uI_s, pk_us]; exact m1, by simp (disch := omega) only [uI1, fA2, rz_fA_n, rz_uI_n, rz_fA_s, rz_uI_s, pk_us]; exact m2, ?_⟩
  · refine p_Dos_addToFile_68 hch ?_
    rw [e49, x2, an63 (by omega), Nat.mod_eq_of_lt p64, nI_clamp (by omega), nI_1]
    exact ⟨rin p64 (by omega), h⟩
  · refine p_M_writesByte_30 ?_
    rw [ecl, y9, e64, show (nI (64 * c) + 2 : Int32) = nI (64 * c + 2) from nI_add _ 2, nI_add, nI_clamp (by omega), show 64 * c + 2 + (pl' - 2) = 64 * c + pl' by omega, nI_1]
    exact ⟨rin hc (by omega), rin (by omega) (by omega), h⟩
  · refine ⟨⟨t, s, et, es, e, cn, pl' + 1, a1, a2, a3, a4, by omega, ⟨?_, ?_, ?_, ?_, ?_, ?_, ?_⟩, ⟨?_, ?_, ?_, ?_, ?_, ?_, ?_⟩, fun k k2 k64 => ?_⟩, ⟨ft, fs, f1, f2, f3, ?_, ?_, ?_, ?_⟩, cn', pl' + 1, g1, by omega, by omega, ?_, ?_, by omega⟩
    · simp (disch := omega) only [uI1, fA2, rz_fA_n, rz_uI_n, rz_fA_s, rz_uI_s, pk_us]; exact x5
    · simp (disch := omega) only [uI1, fA2, rz_fA_n, rz_uI_n, rz_fA_s, rz_uI_s, pk_us]; exact x6
    · simp (disch := omega) only [uI1, fA2, rz_fA_n, rz_uI_n, rz_fA_s, rz_uI_s, pk_us]; exact x9
    · simp (disch := omega) only [uI1, fA2, rz_fA_n, rz_uI_n, rz_fA_s, rz_uI_s, pk_us]; exact x10
    · simp (disch := omega) only [uI1, fA2, rz_fA_n, rz_uI_n, rz_fA_s, rz_uI_s, pk_us]; exact x11
    · simp (disch := omega) only [uI1, fA2, rz_fA_n, rz_uI_n, rz_fA_s, rz_uI_s, pk_us]; exact x13
    · simp (disch := omega) only [uI1, fA2, rz_fA_n, rz_uI_n, rz_fA_s, rz_uI_s, pk_us]
    · simp (disch := omega) only [uI1, fA2, rz_fA_n, rz_uI_n, rz_fA_s, rz_uI_s, pk_us]; exact y3
    · simp (disch := omega) only [uI1, fA2, rz_fA_n, rz_uI_n, rz_fA_s, rz_uI_s, pk_us]; exact y4
    · simp (disch := omega) only [uI1, fA2, rz_fA_n, rz_uI_n, rz_fA_s, rz_uI_s, pk_us]; exact y5
    · simp (disch := omega) only [uI1, fA2, rz_fA_n, rz_uI_n, rz_fA_s, rz_uI_s, pk_us]; exact y6
    · simp (disch := omega) only [uI1, fA2, rz_fA_n, rz_uI_n, rz_fA_s, rz_uI_s, pk_us]; exact y7
    · simp (disch := omega) only [uI1, fA2, rz_fA_n, rz_uI_n, rz_fA_s, rz_uI_s, pk_us]; exact y8
    · simp (disch := omega) only [uI1, fA2, rz_fA_n, rz_uI_n, rz_fA_s, rz_uI_s, pk_us]; rw [show pl' - 2 + 1 = pl' + 1 - 2 by omega]
    · simp (disch := omega) only [uI1, fA2, rz_fA_n, rz_uI_n, rz_fA_s, rz_uI_s, pk_us]
      by_cases z : k = pl'
      · subst z; rw [pk_us, pk_us]; exact ⟨rfl, hb⟩
      · rw [pk_un z, pk_un (by omega)]; exact hrow k k2 k64
    · simp (disch := omega) only [uI1, fA2, rz_fA_n, rz_uI_n, rz_fA_s, rz_uI_s, pk_us]; exact f4
    · simp (disch := omega) only [uI1, fA2, rz_fA_n, rz_uI_n, rz_fA_s, rz_uI_s, pk_us]; exact f5
    · simp (disch := omega) only [uI1, fA2, rz_fA_n, rz_uI_n, rz_fA_s, rz_uI_s, pk_us]; exact f6
    · simp (disch := omega) only [uI1, fA2, rz_fA_n, rz_uI_n, rz_fA_s, rz_uI_s, pk_us]; exact f7
    · simp (disch := omega) only [uI1, fA2, rz_fA_n, rz_uI_n, rz_fA_s, rz_uI_s, pk_us]; exact g4
    · simp (disch := omega) only [uI1, fA2, rz_fA_n, rz_uI_n, rz_fA_s, rz_uI_s, pk_us]
