/-! the relation holds at first; the law, as long as SCRATCH ends -/
theorem fi_ring {S : rz_S} (hS : rz_first S) (t : Nat) (t1 : 1 ≤ t) (t2 : t ≤ 12) : S.2 (11 + 2 * t) 0 = nI (sct t) ∧ S.2 (11 + 2 * t) 1 = nI (8 * rgN (11 + 2 * t)) ∧ ∀ j, j < rgN (11 + 2 * t) → S.1 (12 + 2 * t) j = 0 := by
  match t, t1, t2 with
  | 1, _, _ => exact ⟨hS.2 13 _ _ 0 rfl rfl, hS.2 13 _ _ 1 rfl rfl, fun j hj => hS.1 14 _ _ rfl j hj⟩
  | 2, _, _ => exact ⟨hS.2 15 _ _ 0 rfl rfl, hS.2 15 _ _ 1 rfl rfl, fun j hj => hS.1 16 _ _ rfl j hj⟩
  | 3, _, _ => exact ⟨hS.2 17 _ _ 0 rfl rfl, hS.2 17 _ _ 1 rfl rfl, fun j hj => hS.1 18 _ _ rfl j hj⟩
  | 4, _, _ => exact ⟨hS.2 19 _ _ 0 rfl rfl, hS.2 19 _ _ 1 rfl rfl, fun j hj => hS.1 20 _ _ rfl j hj⟩
  | 5, _, _ => exact ⟨hS.2 21 _ _ 0 rfl rfl, hS.2 21 _ _ 1 rfl rfl, fun j hj => hS.1 22 _ _ rfl j hj⟩
  | 6, _, _ => exact ⟨hS.2 23 _ _ 0 rfl rfl, hS.2 23 _ _ 1 rfl rfl, fun j hj => hS.1 24 _ _ rfl j hj⟩
  | 7, _, _ => exact ⟨hS.2 25 _ _ 0 rfl rfl, hS.2 25 _ _ 1 rfl rfl, fun j hj => hS.1 26 _ _ rfl j hj⟩
  | 8, _, _ => exact ⟨hS.2 27 _ _ 0 rfl rfl, hS.2 27 _ _ 1 rfl rfl, fun j hj => hS.1 28 _ _ rfl j hj⟩
  | 9, _, _ => exact ⟨hS.2 29 _ _ 0 rfl rfl, hS.2 29 _ _ 1 rfl rfl, fun j hj => hS.1 30 _ _ rfl j hj⟩
  | 10, _, _ => exact ⟨hS.2 31 _ _ 0 rfl rfl, hS.2 31 _ _ 1 rfl rfl, fun j hj => hS.1 32 _ _ rfl j hj⟩
  | 11, _, _ => exact ⟨hS.2 33 _ _ 0 rfl rfl, hS.2 33 _ _ 1 rfl rfl, fun j hj => hS.1 34 _ _ rfl j hj⟩
  | 12, _, _ => exact ⟨hS.2 35 _ _ 0 rfl rfl, hS.2 35 _ _ 1 rfl rfl, fun j hj => hS.1 36 _ _ rfl j hj⟩
theorem fi_ch {S : rz_S} (hS : rz_first S) (c : Nat) (hc : c < 15) : S.2 (48 + 4 * c) 0 = 0 := by
  match c, hc with
  | 0, _ => exact hS.2 48 _ _ 0 rfl rfl
  | 1, _ => exact hS.2 52 _ _ 0 rfl rfl
  | 2, _ => exact hS.2 56 _ _ 0 rfl rfl
  | 3, _ => exact hS.2 60 _ _ 0 rfl rfl
  | 4, _ => exact hS.2 64 _ _ 0 rfl rfl
  | 5, _ => exact hS.2 68 _ _ 0 rfl rfl
  | 6, _ => exact hS.2 72 _ _ 0 rfl rfl
  | 7, _ => exact hS.2 76 _ _ 0 rfl rfl
  | 8, _ => exact hS.2 80 _ _ 0 rfl rfl
  | 9, _ => exact hS.2 84 _ _ 0 rfl rfl
  | 10, _ => exact hS.2 88 _ _ 0 rfl rfl
  | 11, _ => exact hS.2 92 _ _ 0 rfl rfl
  | 12, _ => exact hS.2 96 _ _ 0 rfl rfl
  | 13, _ => exact hS.2 100 _ _ 0 rfl rfl
  | 14, _ => exact hS.2 104 _ _ 0 rfl rfl
  | c + 15, h => exact absurd h (by omega)
theorem vl_z (p : Nat) : ∀ n, vl (fun _ => false) p n = 0 := by
  intro n
  induction n with
  | zero => rfl
  | succ n ih =>
    have := vl_add (fun _ => false) p n 1
    rw [ih] at this
    rw [this]
    rfl
theorem RR_first {S : rz_S} (hS : rz_first S) : RR 0 S S := by
  have o : ∀ (k ci : Nat) (fs : List (Option Value)) (j : Nat), rz_T[k]? = some (.inr (.inr (ci, fs))) → fs[j]? = some none → S.2 k j = rz_I0 k j := hS.2
  have w : ∀ z, z = 61 ∨ z = 62 ∨ z = 64 ∨ z = 67 ∨ z = 68 ∨ z = 1 ∨ z = 57 ∨ z = 58 ∨ z = 59 → S.2 116 z = 0 := fun z hz => by
    rcases hz with e | e | e | e | e | e | e | e | e <;> subst e
    · exact o 116 _ _ 61 rfl rfl
    · exact o 116 _ _ 62 rfl rfl
    · exact o 116 _ _ 64 rfl rfl
    · exact o 116 _ _ 67 rfl rfl
    · exact o 116 _ _ 68 rfl rfl
    · exact o 116 _ _ 1 rfl rfl
    · exact o 116 _ _ 57 rfl rfl
    · exact o 116 _ _ 58 rfl rfl
    · exact o 116 _ _ 59 rfl rfl
  have v1 : S.2 3 1 = 0 := o 3 _ _ 1 rfl rfl
  have v2 : S.2 3 2 = 0 := o 3 _ _ 2 rfl rfl
  have v5 : S.2 3 5 = 0 := o 3 _ _ 5 rfl rfl
  have v6 : S.2 3 6 = 0 := o 3 _ _ 6 rfl rfl
  have v8 : S.2 3 8 = 0 := o 3 _ _ 8 rfl rfl
  have v9 : S.2 3 9 = 0 := o 3 _ _ 9 rfl rfl
  have x8 : S.2 0 8 = 0 := o 0 _ _ 8 rfl rfl
  refine ⟨0, 0, fun _ _ => false, false, none, ⟨by omega, o 1 _ _ 1 rfl rfl, w 64 (by omega), fun j hj => by omega⟩, by omega, ⟨fun t t1 t2 => ⟨fun _ => rfl, (fi_ring hS t t1 t2).2.1, fun j hj => ?_⟩, fun t t1 t2 => ⟨fun _ => rfl, fun j hj => ?_⟩, o 6 _ _ 0 rfl rfl, w 1 (by omega), ⟨o 6 _ _ 1 rfl rfl, o 6 _ _ 2 rfl rfl⟩, ⟨o 116 _ _ 2 rfl rfl, o 116 _ _ 3 rfl rfl⟩, fun t t1 t2 => (fi_ring hS t t1 t2).1, fun q hq => hS.1 122 _ _ rfl q hq⟩, ⟨73, by unfold cdN; omega, o 3 _ _ 0 rfl rfl, o 116 _ _ 56 rfl rfl, v1.trans (w 57 (by omega)).symm, v2.trans (w 58 (by omega)).symm, Or.inl ⟨v5, v6, w 59 (by omega)⟩⟩, Or.inl ⟨w 61 (by omega), w 62 (by omega), by rw [v8, v9]; decide⟩, ⟨⟨0, by omega, o 0 _ _ 7 rfl rfl, w 67 (by omega), fun j hj => by omega⟩, x8.trans (w 68 (by omega)).symm, Or.inl x8⟩, ⟨fun b => ?_, fun z a b => ?_, ?_⟩, fun c hc => Chn_0 (fi_ch hS c hc) (hS.1 126 _ _ rfl c hc), o 113 _ _ 1 rfl rfl, hS.1 114 _ _ rfl 0 (by omega)⟩
  · rw [show 11 + 2 * t + 1 = 12 + 2 * t by omega, (fi_ring hS t t1 t2).2.2 j hj]
    unfold by8
    rw [vl_z]
    rfl
  · have tb := tN_b t2
    have e : S.1 117 (1000 * (t - 1) + j) = 0 := hS.1 117 _ _ rfl _ (by omega)
    rw [e]
    unfold sb8 by8
    rw [vl_z]
    rfl
  · have hb := (z6_i b).2
    have e1 : S.1 38 ((b &&& 2047).toNatClampNeg) = 0 := hS.1 38 _ _ rfl _ hb
    have e2 : S.1 155 ((b &&& 2047).toNatClampNeg) = 0 := hS.1 155 _ _ rfl _ hb
    rw [e1, e2]
    decide
  · match z, a, b with
    | 0, _, _ => exact (o 37 _ _ 0 rfl rfl).trans (o 116 _ _ 75 rfl rfl).symm
    | 1, _, _ => exact (o 37 _ _ 1 rfl rfl).trans (o 116 _ _ 76 rfl rfl).symm
    | 2, _, _ => exact (o 37 _ _ 2 rfl rfl).trans (o 116 _ _ 77 rfl rfl).symm
    | 3, _, _ => exact (o 37 _ _ 3 rfl rfl).trans (o 116 _ _ 78 rfl rfl).symm
    | 4, _, _ => exact (o 37 _ _ 4 rfl rfl).trans (o 116 _ _ 79 rfl rfl).symm
    | 5, _, b => exact absurd rfl b
    | 6, _, _ => exact (o 37 _ _ 6 rfl rfl).trans (o 116 _ _ 81 rfl rfl).symm
  · exact (o 37 _ _ 5 rfl rfl).trans (o 116 _ _ 82 rfl rfl).symm
theorem law_scr (hS : SCR) : law_pure := law_of (R := fun k S => RR k S S) (fun _ h => RR_first h) (rd_all hS)
