/-! open: a channel is shut, then opened -/
theorem Chn_W {M c : Nat} {Sx Sm : rz_S} (h : Chn M c Sx Sm) (z : Sm.1 126 c = 2) : ChW c Sx Sm := by
  rcases h.2 with q | ⟨q, _⟩ | ⟨_, r⟩ | ⟨q, _⟩ | ⟨q, _⟩
  · exact absurd (q.symm.trans z) (by decide)
  · exact absurd (q.symm.trans z) (by decide)
  · exact r.1
  · exact absurd (q.symm.trans z) (by decide)
  · exact absurd (q.symm.trans z) (by decide)
theorem oc_pair {c n M : Nat} {pr : Bool} {Sx Sm : rz_S} {B : Nat → Nat → Bool} {id : Option (Nat × Nat)} (hc : c < 15) (hD : Dk B pr id Sx Sm) (hT : Txt n Sx Sm) (hall : ∀ d, d < 15 → Chn M d Sx Sm) : PCi mDos_openChannel mM_opens [.ref 39, .int (nI c)] [.ref 116, .int (nI c), .int (nI n)] Sx Sm (opE c M pr Sx Sm) := by
  have ecl : (nI c).toNatClampNeg = c := nI_clamp (by omega)
  have c0 : ¬ nI c < 0 := nI_pos (by omega)
  have cl : nI c < 15 := nI_lt (b := 15) hc (by omega)
  refine PCi_of (fun K hK => ?_)
  have hK2 : ∀ x V, rz mM_opens 0 [(0, .ref 116), (1, .int (nI c)), (2, .int (nI n))] [] Sm (rz_i (opE c M pr Sx Sm x V)) → K x V := hK
  show rz _ 0 [(0, .ref 39), (1, .int (nI c))] [] _ _
  refine p_Dos_openChannel_0 ⟨fun z => absurd z c0, fun _ => ⟨fun _ => ⟨rin hc (by omega), ?_⟩, fun z => absurd cl z⟩⟩
  by_cases hm0 : Sm.1 126 c = 0
  · have x0 : Sx.2 (48 + 4 * c) 0 = 0 := (hall c hc).1.trans hm0
    have hcl : rz_ev mDos_closeChannel [.ref 39, .int (nI c)] Sx (rz_i (fun x S1 => x = 0 ∧ S1 = rz_uI Sx (48 + 4 * c) 0 0)) := by
      show rz _ 0 [(0, .ref 39), (1, .int (nI c))] [] _ _
      refine p_Dos_closeChannel_0 ⟨fun z => absurd z c0, fun _ => ⟨fun _ => ⟨rin hc (by omega), ?_⟩, fun z => absurd cl z⟩⟩
      rw [ecl, x0]
      exact ⟨fun z => absurd z (by decide), fun _ => ⟨rfl, rfl⟩⟩
    refine rz_toI hcl ⟨fun _ => ?_, fun z => absurd rfl z⟩
    refine oc_rest (M := M) (R := fun Q => rz mM_opens 0 [(0, .ref 116), (1, .int (nI c)), (2, .int (nI n))] [] Sm (rz_i Q)) hc (Sx := Sx) (Sm := Sm) (W := Sm) GX_u (GM_r _ _) (fun z => by simp (disch := omega) only [uI1, fA2, rz_fA_n, rz_uI_n, rz_fA_s, rz_uI_s, pk_us]) (Dk_xu hD (by omega)) ⟨hT.1, by simp (disch := omega) only [uI1, fA2, rz_fA_n, rz_uI_n, rz_fA_s, rz_uI_s, pk_us]; exact hT.2.1, hT.2.2.1, hT.2.2.2⟩ (by simp (disch := omega) only [uI1, fA2, rz_fA_n, rz_uI_n, rz_fA_s, rz_uI_s, pk_us]) hm0 (fun d hd => ?_) hK2 (fun Q h => p_M_opens_0 ⟨rin hc (by omega), fun _ => h, fun z => absurd (by rw [ecl]; exact hm0) z⟩)
    by_cases e : d = c
    · subst e; simp (disch := omega) only [uI1, fA2, rz_fA_n, rz_uI_n, rz_fA_s, rz_uI_s, pk_us]; exact hm0.symm
    · simp (disch := omega) only [uI1, fA2, rz_fA_n, rz_uI_n, rz_fA_s, rz_uI_s, pk_us]; exact (hall d hd).1
  · obtain ⟨x, V, y, W, e1, e2, rfl, fx, fm, ⟨B', id', D1⟩, an, v0, w0⟩ := PR_shut (c := c) hc hD (hall c hc).1 (Chn_W (hall c hc))
    have gx : GX c Sx V := GX_cl hc fx
    have gm : GM c Sm W := GM_cl fm
    have hR : ∀ Q : Int32 → rz_S → Prop, ((x = 0 → rz mM_opens 21 [(0, .ref 116), (1, .int (nI c)), (2, .int (nI n))] [] W (rz_i Q)) ∧ (¬ x = 0 → Q x W)) → rz mM_opens 0 [(0, .ref 116), (1, .int (nI c)), (2, .int (nI n))] [] Sm (rz_i Q) := fun Q h => p_M_opens_0 ⟨rin hc (by omega), fun z => absurd (by rw [ecl] at z; exact z) hm0, fun _ => rzx_I e2 h⟩
    refine rzx_I e1 ⟨fun x0 => ?_, fun x0 => hK2 _ _ (hR _ ⟨fun z => absurd z x0, fun _ => ⟨rfl, gx, gm, ⟨B', id', D1⟩, an, Chn_0 v0 w0⟩⟩)⟩
    refine oc_rest (M := M) (R := fun Q => rz mM_opens 0 [(0, .ref 116), (1, .int (nI c)), (2, .int (nI n))] [] Sm (rz_i Q)) hc gx gm (ans_z an x0) D1 ⟨hT.1, (gx.1.2.2.1 1 2 (by omega)).trans hT.2.1, fun j hj => ?_, ?_⟩ v0 w0 (fun d hd => ?_) hK2 (fun Q h => hR Q ⟨fun _ => h, fun z => absurd x0 z⟩)
    · rw [gx.1.1 2 (by omega), gm.1.1 151 (by omega)]; exact hT.2.2.1 j hj
    · rw [gm.1.1 151 (by omega)]; exact hT.2.2.2
    · by_cases e : d = c
      · subst e; exact v0.trans w0.symm
      · exact (Chn_f (M := M) hd e gx.1 gm.1 (hall d hd)).1
