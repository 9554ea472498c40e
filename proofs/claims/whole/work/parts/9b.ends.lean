/-! a call's end: the STATUS that both tell -/
def stE (Sx Sm : rz_S) : Prop := Sx.2 3 0 = Sm.2 116 56 ∧ Sx.2 3 1 = Sm.2 116 57 ∧ Sx.2 3 2 = Sm.2 116 58 ∧ Sx.2 3 5 = 0 ∧ Sx.2 3 6 = 0 ∧ Sm.2 116 59 = 0
def enM (S S1 : rz_S) : Prop := S1.1 = S.1 ∧ ∀ u z, ¬ (u = 116 ∧ 56 ≤ z ∧ z ≤ 59) → S1.2 u z = S.2 u z
theorem s_ends {S0 Sx Sm : rz_S} {x : Int32} (h0 : S0.2 3 0 = 0 ∧ S0.2 3 1 = 0 ∧ S0.2 3 2 = 0 ∧ S0.2 3 5 = 0 ∧ S0.2 3 6 = 0) (hm : Sm.2 116 56 = 0 ∧ Sm.2 116 57 = 0 ∧ Sm.2 116 58 = 0 ∧ Sm.2 116 59 = 0) (ha : ans S0 x Sx Sm) : rz_ev mM_ends [.ref 116, .int x] Sm (rz_i (fun y Sm1 => Sx.2 3 0 = y ∧ stE Sx Sm1 ∧ enM Sm Sm1)) := by
  obtain ⟨a0, a1, a2, a5, a6⟩ := h0
  obtain ⟨b0, b1, b2, b3⟩ := hm
  show rz _ 0 [(0, .ref 116), (1, .int x)] [] _ _
  rcases ha with ⟨x0, hs⟩ | ⟨xc, c1, c2, c3, ⟨ft, fs, ⟨p0, p1, p2, p3, p4⟩, q1, q2⟩, c5⟩
  · refine p_M_ends_0 ⟨fun _ => ⟨?_, ⟨?_, ?_, ?_, (hs 5).trans a5, (hs 6).trans a6, b3⟩, rfl, fun _ _ _ => rfl⟩, fun z => absurd x0 z⟩
    · rw [hs 0, a0, b0]
    · rw [hs 0, a0, b0]
    · rw [hs 1, a1, b1]
    · rw [hs 2, a2, b2]
  · have xne : ¬ x = 0 := by rw [c3]; exact nI_ne0 (by omega) (by omega)
    refine p_M_ends_0 ⟨fun z => absurd z xne, fun _ => rz_toV (c_M_sets _ _ _) ?_⟩
    unfold md_sets
    refine ⟨?_, ⟨?_, ?_, ?_, p3, p4, ?_⟩, rfl, fun u z h => ?_⟩
    · rw [rz_uI_n (by omega), rz_uI_n (by omega), rz_uI_n (by omega), rz_uI_s, p0, c3]
    · rw [rz_uI_n (by omega), rz_uI_n (by omega), rz_uI_n (by omega), rz_uI_s, p0, c3]
    · rw [rz_uI_n (by omega), rz_uI_n (by omega), rz_uI_s, p1, q1]
    · rw [rz_uI_n (by omega), rz_uI_s, p2, q2]
    · rw [rz_uI_s]
    · rw [rz_uI_n (by omega), rz_uI_n (by omega), rz_uI_n (by omega), rz_uI_n (by omega)]
