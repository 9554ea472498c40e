/-! SCRATCH ends (8): what the class does with the disk while it scratches -/
def Cx (B : Nat → Nat → Bool) (pr : Bool) (id : Option (Nat × Nat)) (S : rz_S) : Prop := XRs S B ∧ S.2 6 0 = nI pr.toNat ∧ IDx S id
theorem Cx_x {B : Nat → Nat → Bool} {pr : Bool} {id : Option (Nat × Nat)} {S S1 : rz_S} (hD : Cx B pr id S) (h1 : ∀ q, 13 ≤ q → q ≤ 36 → S1.1 q = S.1 q) (h2 : ∀ u z, (u = 6 ∨ 13 ≤ u ∧ u ≤ 36) → S1.2 u z = S.2 u z) : Cx B pr id S1 := by
  obtain ⟨d1, d3, d5⟩ := hD
  refine ⟨fun u u1 u2 => ?_, (h2 6 0 (by omega)).trans d3, ?_⟩
  · obtain ⟨a1, a2, a3⟩ := d1 u u1 u2
    refine ⟨a1, (h2 _ 1 (by omega)).trans a2, fun j hj => ?_⟩
    rw [h1 _ (by omega) (by omega)]
    exact a3 j hj
  · cases id with
    | none => exact ⟨(h2 6 1 (by omega)).trans d5.1, (h2 6 2 (by omega)).trans d5.2⟩
    | some q =>
      obtain ⟨i, j⟩ := q
      exact ⟨(h2 6 1 (by omega)).trans d5.1, (h2 6 2 (by omega)).trans d5.2.1, d5.2.2⟩
theorem Cx_u {B : Nat → Nat → Bool} {pr : Bool} {id : Option (Nat × Nat)} {S : rz_S} {k j : Nat} {x : Int32} (hD : Cx B pr id S) (hk : k ≠ 6 ∧ ¬ (13 ≤ k ∧ k ≤ 36)) : Cx B pr id (rz_uI S k j x) := Cx_x hD (fun _ _ _ => rfl) (fun u z hu => rz_uI_n (by omega))
theorem Cx_f {B : Nat → Nat → Bool} {pr : Bool} {id : Option (Nat × Nat)} {S : rz_S} {a : Nat} {f : Nat → Int32} (hD : Cx B pr id S) (ha : ¬ (13 ≤ a ∧ a ≤ 36)) : Cx B pr id (rz_fA S a f) := Cx_x hD (fun q h1 h2 => rz_fA_n (by omega)) (fun _ _ _ => rfl)
theorem Cx_s {B : Nat → Nat → Bool} {pr : Bool} {id : Option (Nat × Nat)} {S : rz_S} {a b c : Int32} (h : Cx B pr id S) : Cx B pr id (st_set S a b c) := Cx_u (Cx_u (Cx_u (Cx_u (Cx_u h (by omega)) (by omega)) (by omega)) (by omega)) (by omega)
/-- READ -/
theorem rdC {B : Nat → Nat → Bool} {pr : Bool} {id : Option (Nat × Nat)} {S : rz_S} {t s a : Nat} (hC : Cx B pr id S) (h1 : 1 ≤ t) (h2 : t ≤ 12) (hs : s < 256) (ha : rz_T[a]? = some (.inl (0, 64))) (ha1 : ¬ (8 ≤ a ∧ a ≤ 36)) : rz_ev mDisk_readBlock [.ref 6, .int (nI t), .int (nI s), .ref a] S (rz_i (fun x S1 => rF a S S1 ∧ ∃ id', Cx B pr id' S1 ∧ (id ≠ none → id' = id) ∧ (x = 0 → ∃ d, Hld B id' t s d ∧ ∀ k, k < 64 → S1.1 a k = nI (d k)))) := by
  obtain ⟨d1, d3, d5⟩ := hC
  refine rz_useI (c_Disk_readBlock d1 d5 h1 h2 hs ha ha1) (fun x V h => ?_)
  obtain ⟨xa, ft, fs, id1, d, j1, rfl, l1, i1, f1, o1, n1⟩ := h
  refine ⟨f1, id1, ⟨XRs_rF ha1 d1 f1, (f1.2 6 0 (by omega) (by omega) (by omega)).trans d3, i1⟩, fun hid => ?_, fun x0 => ?_⟩
  · rcases j1.1 with ⟨_, q⟩ | ⟨q, _⟩
    · exact q
    · exact absurd q hid
  · have z : xa = 0 := by
      by_cases z : xa = 0
      · exact z
      · exact absurd x0 (nI_ne0 (by omega) (by omega))
    subst z
    have hid1 : id1 ≠ none := by
      rcases j1.2 with ⟨_, q, _⟩ | ⟨i, j, q, _⟩
      · omega
      · rw [q]; exact fun z => (by cases z)
    refine ⟨d, ⟨hid1, fun k hk => ((o1 rfl).1 k hk).2, Or.inl ⟨hid1, rfl⟩, ?_⟩, fun k hk => ((o1 rfl).1 k hk).1⟩
    rcases j1.2 with ⟨_, q, _⟩ | ⟨i, j, q, r1, r2, r3⟩
    · omega
    · exact Or.inr ⟨i, j, q, rfl, rfl, r3⟩
/-- WRITE -/
theorem wrC {B : Nat → Nat → Bool} {pr : Bool} {id : Option (Nat × Nat)} {S : rz_S} {t s a : Nat} {rr : Nat → Nat} (hC : Cx B pr id S) (hid : id ≠ none) (h1 : 1 ≤ t) (h2 : t ≤ 12) (hs : s < 256) (ha : rz_T[a]? = some (.inl (0, 64))) (ha1 : ¬ (8 ≤ a ∧ a ≤ 36)) (hr : ∀ k, k < 64 → S.1 a k = nI (rr k) ∧ rr k < 256) : rz_ev mDisk_writeBlock [.ref 6, .int (nI t), .int (nI s), .ref a] S (rz_i (fun x S1 => rF (12 + 2 * t) S S1 ∧ ∃ B', Cx B' pr id S1 ∧ (x = 0 → ∃ ft fs, JW B pr id t s rr 0 ft fs id B'))) := by
  obtain ⟨d1, d3, d5⟩ := hC
  refine rz_useI (c_Disk_writeBlock d1 d5 d3 h1 h2 hs ha ha1 hr) (fun x V h => ?_)
  obtain ⟨xa, ft, fs, id1, B1, j1, rfl, l1, i1, r1, f1, o1, n1⟩ := h
  have e : id1 = id := by
    rcases j1 with ⟨_, _, _, _, q, _⟩ | ⟨_, ⟨_, q⟩ | ⟨q, _⟩, _⟩
    · exact q
    · exact q
    · exact absurd q hid
  subst e
  refine ⟨f1, B1, ⟨r1, (f1.2 6 0 (by omega) (by omega) (by omega)).trans d3, i1⟩, fun x0 => ?_⟩
  have z : xa = 0 := by
    by_cases z : xa = 0
    · exact z
    · exact absurd x0 (nI_ne0 (by omega) (by omega))
  subst z
  exact ⟨ft, fs, j1⟩
/-! find, the class alone -/
section FX
variable {B : Nat → Nat → Bool} {pr : Bool} {id0 : Option (Nat × Nat)} {S : rz_S} {m : Nat}
def fIn (B : Nat → Nat → Bool) (pr : Bool) (id0 : Option (Nat × Nat)) (S T : rz_S) : Prop := fdX S T ∧ T.2 46 5 = 0 ∧ ∃ id t s kb, (id0 ≠ none → id = id0) ∧ Cx B pr id T ∧ 1 ≤ t ∧ t ≤ 12 ∧ s < sct t ∧ T.2 46 1 = nI t ∧ T.2 46 2 = nI s ∧ T.2 46 3 = nI kb ∧ kb ≤ 6 ∧ ((T.2 46 6 = 0 ∧ T.2 46 4 + 1 = nI 0) ∨ (¬ T.2 46 6 = 0 ∧ ∃ e d, e ≤ 4 ∧ T.2 46 4 + 1 = nI e ∧ Hld B id t s d ∧ ∀ k, k < 64 → T.1 47 k = nI (d k)))
def FP (B : Nat → Nat → Bool) (pr : Bool) (id0 : Option (Nat × Nat)) (S : rz_S) (x : Int32) (S1 : rz_S) : Prop := fdX S S1 ∧ (x = 0 → S1.2 46 5 = 1 → ∃ id t s e d, (id0 ≠ none → id = id0) ∧ Cx B pr id S1 ∧ 1 ≤ t ∧ t ≤ 12 ∧ s < sct t ∧ e < 4 ∧ S1.2 46 1 = nI t ∧ S1.2 46 2 = nI s ∧ S1.2 46 4 = nI e ∧ Hld B id t s d ∧ (∀ k, k < 64 → S1.1 47 k = nI (d k)) ∧ d (16 * e + 2) ≠ 0)
theorem fx43 {i : Nat} (hm : m ≤ 10) (hl : S.2 109 1 = nI m) (ih : ∀ T', fIn B pr id0 S T' → rz mDirectory_find 7 [(0, .ref 46), (1, .int 0), (2, .ref 109), (3, .int (nI (i + 1)))] [] T' (rz_i (FP B pr id0 S))) {T : rz_S} {id : Option (Nat × Nat)} {t s kb e : Nat} {d : Nat → Nat} (fx : fdX S T) (f5 : T.2 46 5 = 0) (hid : id0 ≠ none → id = id0) (hC : Cx B pr id T) (t1 : 1 ≤ t) (t2 : t ≤ 12) (s1 : s < sct t) (x1 : T.2 46 1 = nI t) (x2 : T.2 46 2 = nI s) (x3 : T.2 46 3 = nI kb) (k6 : kb ≤ 6) (he : e ≤ 4) (x4 : T.2 46 4 + 1 = nI e) (hH : Hld B id t s d) (rows : ∀ k, k < 64 → T.1 47 k = nI (d k)) : rz mDirectory_find 43 [(0, .ref 46), (1, .int 0), (2, .ref 109), (3, .int (nI i))] [.int 0] T (rz_i (FP B pr id0 S)) := by
  have fx2 : fdX S (rz_uI (rz_uI T 46 6 1) 46 4 (nI e)) := fdX_t fx (fdX_t fdX_u fdX_u)
  have C2 : Cx B pr id (rz_uI (rz_uI T 46 6 1) 46 4 (nI e)) := Cx_u (Cx_u hC (by omega)) (by omega)
  have y1 : (rz_uI (rz_uI T 46 6 1) 46 4 (nI e)).2 46 1 = nI t := x1
  have y2 : (rz_uI (rz_uI T 46 6 1) 46 4 (nI e)).2 46 2 = nI s := x2
  have y3 : (rz_uI (rz_uI T 46 6 1) 46 4 (nI e)).2 46 3 = nI kb := x3
  have y4 : (rz_uI (rz_uI T 46 6 1) 46 4 (nI e)).2 46 4 = nI e := rz_uI_s
  have y5 : (rz_uI (rz_uI T 46 6 1) 46 4 (nI e)).2 46 5 = 0 := f5
  have y6 : (rz_uI (rz_uI T 46 6 1) 46 4 (nI e)).2 46 6 = 1 := rfl
  have y47 : (rz_uI (rz_uI T 46 6 1) 46 4 (nI e)).1 47 = T.1 47 := rfl
  have fx3 := fx2.2 109 1 (by omega) (by omega) (by omega) (by omega)
  refine p_Directory_find_43 pt109 ⟨fun _ => ⟨fun c4 => ?_, fun c4 => ?_⟩, fun z => absurd rfl z⟩
  · rw [x4] at c4 ⊢
    generalize hT2 : rz_uI (rz_uI T 46 6 1) 46 4 (nI e) = T2 at *
    refine rz_toI (c_Directory_isLast k6 y3) ⟨fun z => ?_, fun z => ⟨fx2, fun _ q => ?_⟩⟩
    · refine rz_toI (c_Disk_legal _ _) ⟨fun c => rz_toI (c_Status_set _ _ _) ⟨?_, fun q => absurd q (by decide)⟩, fun c => ?_⟩
      · exact fdX_t fx2 (fdX_rF rF_s)
      · obtain ⟨u, v, u1, u2, hv, eu, ev⟩ := lgI_1 c
        have k5 : kb < 6 := by
          refine Nat.lt_of_not_le fun q => ?_
          by_cases z0 : T2.1 47 0 = 0
          · rw [if_pos z0] at z; exact absurd z (by decide)
          · rw [if_neg z0, if_pos (by omega)] at z; exact absurd z (by decide)
        rw [eu, ev, y3]
        show rz _ 0 [(0, .ref 46), (1, .int (nI u)), (2, .int (nI v)), (3, .int (nI kb + 1)), (4, .int (-1))] [] _ _
        refine p_Directory_goTo_0 ?_
        rw [nI_1, nI_1]
        refine ih _ ⟨fdX_t fx2 (fdX_t fdX_u (fdX_t fdX_u (fdX_t fdX_u (fdX_t fdX_u fdX_u)))), y5, id, u, v, kb + 1, hid, Cx_u (Cx_u (Cx_u (Cx_u (Cx_u C2 (by omega)) (by omega)) (by omega)) (by omega)) (by omega), u1, u2, hv, rfl, rfl, rfl, by omega, Or.inl ⟨rfl, ?_⟩⟩
        show (-1 : Int32) + 1 = nI 0
        decide
    · rw [y5] at q; exact absurd q (by decide)
  · have e4 : e < 4 := by
      refine Nat.lt_of_not_le fun q => c4 ?_
      rw [x4, show e = 4 by omega]
      decide
    rw [x4]
    generalize hT2 : rz_uI (rz_uI T 46 6 1) 46 4 (nI e) = T2 at *
    refine rz_toI (c_Directory_isWanted (kd := 0) (by omega) pt109 hm (fx3.trans hl) e4 y4) ⟨fun z => ?_, fun z => ⟨fdX_t fx2 fdX_u, fun _ _ => ?_⟩⟩
    · rw [nI_1]
      refine ih _ ⟨fx2, y5, id, t, s, kb, hid, C2, t1, t2, s1, y1, y2, y3, k6, Or.inr ⟨by rw [y6]; decide, e + 1, d, by omega, ?_, hH, by rw [y47]; exact rows⟩⟩
      rw [y4]; exact nI_1 _
    · refine ⟨id, t, s, e, d, hid, Cx_u C2 (by omega), t1, t2, s1, e4, y1, y2, y4, hH, fun k hk => ?_, fun d0 => ?_⟩
      · show T2.1 47 k = nI (d k)
        rw [y47]; exact rows k hk
      · refine z ?_
        have : T2.1 47 (16 * e + 2) = 0 := by rw [y47, rows _ (by omega), d0]; rfl
        unfold wnt
        rw [if_neg (by omega), this]
        rfl
theorem fx7 (hm : m ≤ 10) (hl : S.2 109 1 = nI m) : ∀ (w i : Nat) (T : rz_S), w + i = 30 → fIn B pr id0 S T → rz mDirectory_find 7 [(0, .ref 46), (1, .int 0), (2, .ref 109), (3, .int (nI i))] [] T (rz_i (FP B pr id0 S)) := by
  intro w
  induction w with
  | zero =>
    intro i T e h
    have ei : i = 30 := by omega
    subst ei
    refine p_Directory_find_7 pt109 ⟨fun _ => ⟨h.1, fun _ q => ?_⟩, fun c => absurd (by decide) c⟩
    rw [h.2.1] at q; exact absurd q (by decide)
  | succ w ih =>
    intro i T e h
    obtain ⟨fx, f5, id, t, s, kb, hid, hC, t1, t2, s1, x1, x2, x3, k6, al⟩ := h
    have hsb := sct_b t1 t2
    refine p_Directory_find_7 pt109 ⟨fun c => ?_, fun _ => ⟨fun h6 => ?_, fun h6 => ?_⟩⟩
    · have := (nI_leI (a := 30) (b := i) (by omega) (by omega)).mp c
      omega
    · rcases al with ⟨_, x4⟩ | ⟨q, _⟩
      · rw [x1, x2]
        refine rz_useI (rdC hC t1 t2 (by omega) rfl (by omega)) (fun x V hV => ?_)
        obtain ⟨f1, id', hC', hid', hx⟩ := hV
        have v46 : ∀ z, V.2 46 z = T.2 46 z := fun z => f1.2 46 z (by omega) (by omega) (by omega)
        by_cases x0 : x = 0
        · obtain ⟨d, hH, rows⟩ := hx x0
          rw [x0]
          refine fx43 hm hl (fun T' hT' => ih (i + 1) T' (by omega) hT') (fdX_t fx (fdX_rF f1)) ((v46 5).trans f5) (fun q => ?_) hC' t1 t2 s1 ((v46 1).trans x1) ((v46 2).trans x2) ((v46 3).trans x3) k6 (e := 0) (by omega) ?_ hH rows
          · have e1 := hid q
            rw [← e1] at q
            exact (hid' q).trans e1
          · rw [v46 4]; exact x4
        · exact p_Directory_find_43 pt109 ⟨fun z => absurd z x0, fun _ => ⟨fdX_t fx (fdX_rF f1), fun z => absurd z x0⟩⟩
      · exact absurd h6 q
    · rcases al with ⟨q, _⟩ | ⟨_, e', d, e4, x4, hH, rows⟩
      · exact absurd q h6
      · exact fx43 hm hl (fun T' hT' => ih (i + 1) T' (by omega) hT') fx f5 hid hC t1 t2 s1 x1 x2 x3 k6 e4 x4 hH rows
/-- find from the begin on -/
theorem fxAll (hm : m ≤ 10) (hl : S.2 109 1 = nI m) (hC : Cx B pr id0 S) (h1 : S.2 46 1 = 7) (h2 : S.2 46 2 = 1) (h3 : S.2 46 3 = 1) (h4 : S.2 46 4 = -1) (h6 : S.2 46 6 = 0) : rz_ev mDirectory_find [.ref 46, .int 0, .ref 109] S (rz_i (FP B pr id0 S)) := by
  show rz _ 0 [(0, .ref 46), (1, .int 0), (2, .ref 109)] [] _ _
  refine p_Directory_find_0 pt109 (fx7 hm hl 30 0 _ rfl ⟨fdX_u, rz_uI_s, id0, 7, 1, 1, fun _ => rfl, Cx_u hC (by omega), by omega, by omega, by decide, h1, h2, h3, by omega, Or.inl ⟨h6, ?_⟩⟩)
  show S.2 46 4 + 1 = nI 0
  rw [h4]; decide
end FX
