/-! SCRATCH ends (11) -/
theorem SCR_ok : SCR := by
  intro B pr id V W m D hm hl ch c0 hs
  obtain ⟨f, g, hG, hR⟩ := dch (α := rz_S × (Nat → Nat → Bool) × Option (Nat × Nat)) (δ := (Nat × Nat × Nat) × (Nat → Nat → Bool) × (Nat → Nat) × (Nat → Nat) × (Nat → Nat) × (Nat → Nat)) (fun i a => rz_H (ch i) = rz_H a.1 ∧ Cx a.2.1 pr a.2.2 a.1 ∧ a.1.2 109 1 = nI m) (fun a a' D => StR pr a.2.1 a.2.2 a'.2.1 a'.2.2 D.1.1 D.1.2.1 D.1.2.2 D.2.1 D.2.2.1 D.2.2.2.1 D.2.2.2.2.1 D.2.2.2.2.2) (V, B, id) ((0, 0, 0), (fun _ _ => false), (fun _ => 0), (fun _ => 0), (fun _ => 0), (fun _ => 0)) ⟨by rw [c0], ⟨D.1, D.2.2.1, D.2.2.2.2.1⟩, hl⟩ 1000 (fun i hi a ha => by
    obtain ⟨h1, h2, h3⟩ := ha
    obtain ⟨U2, B2, id2, t, s, en, B1, d, rm, rm', r1, k1, k2, k3, k4⟩ := stepC hm h2 h3 h1 (hs i hi)
    exact ⟨(U2, B2, id2), ((t, s, en), B1, d, rm, rm', r1), ⟨k1, k2, k3⟩, k4⟩)
  have ids : ∀ i, i < 1000 → (f (i + 1)).2.2 = (f 1).2.2 := by
    intro i
    induction i with
    | zero => intro _; rfl
    | succ i ih =>
      intro hi
      have a := (hR i (by omega)).1
      have c := (hR (i + 1) hi).2.1 a
      exact c.trans (ih (by omega))
  have n1 := (hR 0 (by omega)).1
  have c1 := (hG 1 (by omega)).2.1.2.2
  obtain ⟨i0, j0, e1⟩ : ∃ i0 j0, (f 1).2.2 = some (i0, j0) := by
    cases q : (f 1).2.2 with
    | none => exact absurd q n1
    | some w => exact ⟨w.1, w.2, rfl⟩
  rw [e1] at c1 ids
  refine Run_no (pr := pr) (i0 := i0) (j0 := j0) (Bs := fun i => (f i).2.1) (B1 := fun i => (g i).2.1) (ts := fun i => (g i).1.1) (ss := fun i => (g i).1.2.1) (es := fun i => (g i).1.2.2) (d := fun i => (g i).2.2.1) (rm := fun i => (g i).2.2.2.1) (rm' := fun i => (g i).2.2.2.2.1) (r1 := fun i => (g i).2.2.2.2.2) ⟨c1.2.2.1, c1.2.2.2, fun i hi t t1 t2 => ((hG i hi).2.1.1 t t1 t2).1, fun i hi => ⟨(f i).2.2, ?_⟩⟩
  have := hR i hi
  rw [ids i hi] at this
  exact this
theorem law_pure_ok : law_pure := law_scr SCR_ok
