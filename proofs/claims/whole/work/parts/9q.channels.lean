/-! the channels as both have them; what a work on one of them leaves alone -/
def FX (c : Nat) (S S1 : rz_S) : Prop := (∀ q, (q = 2 ∨ q = 5 ∨ q = 38 ∨ q = 114) → S1.1 q = S.1 q) ∧ (∀ d, d < 15 → d ≠ c → S1.1 (49 + 4 * d) = S.1 (49 + 4 * d) ∧ S1.1 (51 + 4 * d) = S.1 (51 + 4 * d)) ∧ (∀ u z, (u = 1 ∧ z ≤ 2 ∨ u = 37 ∨ u = 3 ∧ 8 ≤ z ∨ u = 113) → S1.2 u z = S.2 u z) ∧ ∀ d, d < 15 → d ≠ c → ∀ z, S1.2 (48 + 4 * d) z = S.2 (48 + 4 * d) z ∧ S1.2 (50 + 4 * d) z = S.2 (50 + 4 * d) z
def FM (c : Nat) (S S1 : rz_S) : Prop := (∀ q, (149 ≤ q ∧ q ≤ 151 ∨ q = 155) → S1.1 q = S.1 q) ∧ (∀ q, 126 ≤ q → q ≤ 146 → q ≠ 127 → ∀ d, d ≠ c → S1.1 q d = S.1 q d) ∧ (∀ j, ¬ (64 * c ≤ j ∧ j < 64 * c + 64) → S1.1 127 j = S.1 127 j ∧ S1.1 148 j = S.1 148 j) ∧ (∀ j, ¬ (10 * c ≤ j ∧ j < 10 * c + 10) → S1.1 147 j = S.1 147 j) ∧ ∀ z, (z = 1 ∨ 61 ≤ z ∧ z ≤ 64 ∨ 75 ≤ z) → S1.2 116 z = S.2 116 z
theorem FX_r (c : Nat) (S : rz_S) : FX c S S := ⟨fun _ _ => rfl, fun _ _ _ => ⟨rfl, rfl⟩, fun _ _ _ => rfl, fun _ _ _ _ => ⟨rfl, rfl⟩⟩
theorem FM_r (c : Nat) (S : rz_S) : FM c S S := ⟨fun _ _ => rfl, fun _ _ _ _ _ _ => rfl, fun _ _ => ⟨rfl, rfl⟩, fun _ _ => rfl, fun _ _ => rfl⟩
theorem FX_t {c : Nat} {S S1 S2 : rz_S} (h : FX c S S1) (g : FX c S1 S2) : FX c S S2 := ⟨fun q a => (g.1 q a).trans (h.1 q a), fun d a b => ⟨(g.2.1 d a b).1.trans (h.2.1 d a b).1, (g.2.1 d a b).2.trans (h.2.1 d a b).2⟩, fun u z a => (g.2.2.1 u z a).trans (h.2.2.1 u z a), fun d a b z => ⟨(g.2.2.2 d a b z).1.trans (h.2.2.2 d a b z).1, (g.2.2.2 d a b z).2.trans (h.2.2.2 d a b z).2⟩⟩
theorem FM_t {c : Nat} {S S1 S2 : rz_S} (h : FM c S S1) (g : FM c S1 S2) : FM c S S2 := ⟨fun q a => (g.1 q a).trans (h.1 q a), fun q a b e d f => (g.2.1 q a b e d f).trans (h.2.1 q a b e d f), fun j a => ⟨(g.2.2.1 j a).1.trans (h.2.2.1 j a).1, (g.2.2.1 j a).2.trans (h.2.2.1 j a).2⟩, fun j a => (g.2.2.2.1 j a).trans (h.2.2.2.1 j a), fun z a => (g.2.2.2.2 z a).trans (h.2.2.2.2 z a)⟩
theorem FX_b {c : Nat} {S S1 : rz_S} (h : bgX S S1) : FX c S S1 := ⟨fun q a => h.1 q (by omega) (by omega) (by omega) (by omega), fun d a b => ⟨h.1 _ (by omega) (by omega) (by omega) (by omega), h.1 _ (by omega) (by omega) (by omega) (by omega)⟩, fun u z a => h.2 u z (by omega) (by omega) (by omega) (by omega) (by omega), fun d a b z => ⟨h.2 _ z (by omega) (by omega) (by omega) (by omega) (by omega), h.2 _ z (by omega) (by omega) (by omega) (by omega) (by omega)⟩⟩
theorem FM_b {c : Nat} {S S1 : rz_S} (h : bgM S S1) : FM c S S1 := ⟨fun q a => h.1 q (by omega) (by omega), fun q a b e d f => by rw [h.1 q (by omega) (by omega)], fun j a => ⟨by rw [h.1 127 (by omega) (by omega)], by rw [h.1 148 (by omega) (by omega)]⟩, fun j a => by rw [h.1 147 (by omega) (by omega)], fun z a => h.2 116 z (by omega)⟩
theorem FX_cl {c : Nat} {S S1 : rz_S} (h : clX c S S1) : FX c S S1 := ⟨fun q a => h.1 q (by omega) (by omega) (by omega) (by omega) (by omega), fun d a b => ⟨h.1 _ (by omega) (by omega) (by omega) (by omega) (by omega), h.1 _ (by omega) (by omega) (by omega) (by omega) (by omega)⟩, fun u z a => h.2 u z (by omega) (by omega) (by omega) (by omega) (by omega) (by omega), fun d a b z => ⟨h.2 _ z (by omega) (by omega) (by omega) (by omega) (by omega) (by omega), h.2 _ z (by omega) (by omega) (by omega) (by omega) (by omega) (by omega)⟩⟩
theorem FM_cl {c : Nat} {S S1 : rz_S} (h : clM c S S1) : FM c S S1 := ⟨fun q a => h.1 q (by omega) (by omega), fun q a b e d f => by
  by_cases z : q = 126
  · subst z; exact h.2.1 d f
  · rw [h.1 q (by omega) (by omega)], fun j a => ⟨h.2.2.1 j (by omega), by rw [h.1 148 (by omega) (by omega)]⟩, fun j a => by rw [h.1 147 (by omega) (by omega)], fun z a => h.2.2.2 116 z (by omega)⟩
/-- a row of channel c, on the class's object and among the reference's bytes -/
theorem FX_u {c k : Nat} {S : rz_S} {x : Int32} : FX c S (rz_uI S (48 + 4 * c) k x) := ⟨fun _ _ => rfl, fun _ _ _ => ⟨rfl, rfl⟩, fun u z a => by
  by_cases e : u = 48 + 4 * c ∧ z = k
  · omega
  · exact rz_uI_n e, fun d a b z => ⟨rz_uI_n (by omega), rz_uI_n (by omega)⟩⟩
theorem FX_u2 {c u k : Nat} {S : rz_S} {x : Int32} (hu : u = 0 ∨ u = 39 ∨ u = 3 ∧ k ≤ 6 ∨ u = 44 ∨ u = 46 ∨ u = 42 ∨ u = 1 ∧ k = 3) : FX c S (rz_uI S u k x) := ⟨fun _ _ => rfl, fun _ _ _ => ⟨rfl, rfl⟩, fun v z a => rz_uI_n (by omega), fun d a b z => ⟨rz_uI_n (by omega), rz_uI_n (by omega)⟩⟩
theorem FX_f {c : Nat} {S : rz_S} {f : Nat → Int32} : FX c S (rz_fA S (49 + 4 * c) f) := ⟨fun q a => rz_fA_n (by omega), fun d a b => ⟨rz_fA_n (by omega), rz_fA_n (by omega)⟩, fun _ _ _ => rfl, fun _ _ _ _ => ⟨rfl, rfl⟩⟩
theorem FX_f2 {c q : Nat} {S : rz_S} {f : Nat → Int32} (hq : q = 115 ∨ q = 40 ∨ q = 45 ∨ q = 47 ∨ q = 43) : FX c S (rz_fA S q f) := ⟨fun p a => rz_fA_n (by omega), fun d a b => ⟨rz_fA_n (by omega), rz_fA_n (by omega)⟩, fun _ _ _ => rfl, fun _ _ _ _ => ⟨rfl, rfl⟩⟩
theorem FM_a {c q : Nat} {S : rz_S} {x : Int32} (hq : 126 ≤ q ∧ q ≤ 146 ∧ q ≠ 127) : FM c S (rz_fA S q (upd (S.1 q) c x)) := ⟨fun p a => rz_fA_n (by omega), fun p a b e d f => by
  by_cases z : p = q
  · subst z; rw [rz_fA_s, pk_un f]
  · rw [rz_fA_n z], fun j a => ⟨by rw [rz_fA_n (by omega)], by rw [rz_fA_n (by omega)]⟩, fun j a => by rw [rz_fA_n (by omega)], fun _ _ => rfl⟩
theorem FM_f2 {c q : Nat} {S : rz_S} {f : Nat → Int32} (hq : q = 152 ∨ q = 153 ∨ 123 ≤ q ∧ q ≤ 125) : FM c S (rz_fA S q f) := ⟨fun p a => rz_fA_n (by omega), fun p a b e d f => by rw [rz_fA_n (by omega)], fun j a => ⟨by rw [rz_fA_n (by omega)], by rw [rz_fA_n (by omega)]⟩, fun j a => by rw [rz_fA_n (by omega)], fun _ _ => rfl⟩
theorem FM_u {c k : Nat} {S : rz_S} {x : Int32} (hk : k ≠ 1 ∧ ¬ (61 ≤ k ∧ k ≤ 64) ∧ k < 75) : FM c S (rz_uI S 116 k x) := ⟨fun _ _ => rfl, fun _ _ _ _ _ _ => rfl, fun _ _ => ⟨rfl, rfl⟩, fun _ _ => rfl, fun z a => rz_uI_n (by omega)⟩
theorem FM_h {c : Nat} {S : rz_S} {f : Nat → Int32} (h : ∀ j, ¬ (64 * c ≤ j ∧ j < 64 * c + 64) → f j = S.1 127 j) : FM c S (rz_fA S 127 f) := ⟨fun p a => rz_fA_n (by omega), fun p a b e d f => by rw [rz_fA_n (by omega)], fun j a => ⟨by rw [rz_fA_s]; exact h j a, by rw [rz_fA_n (by omega)]⟩, fun j a => by rw [rz_fA_n (by omega)], fun _ _ => rfl⟩
theorem FM_l {c : Nat} {S : rz_S} {f : Nat → Int32} (h : ∀ j, ¬ (64 * c ≤ j ∧ j < 64 * c + 64) → f j = S.1 148 j) : FM c S (rz_fA S 148 f) := ⟨fun p a => rz_fA_n (by omega), fun p a b e d f => by rw [rz_fA_n (by omega)], fun j a => ⟨by rw [rz_fA_n (by omega)], by rw [rz_fA_s]; exact h j a⟩, fun j a => by rw [rz_fA_n (by omega)], fun _ _ => rfl⟩
theorem FM_p {c : Nat} {S : rz_S} {f : Nat → Int32} (h : ∀ j, ¬ (10 * c ≤ j ∧ j < 10 * c + 10) → f j = S.1 147 j) : FM c S (rz_fA S 147 f) := ⟨fun p a => rz_fA_n (by omega), fun p a b e d f => by rw [rz_fA_n (by omega)], fun j a => ⟨by rw [rz_fA_n (by omega)], by rw [rz_fA_n (by omega)]⟩, fun j a => by rw [rz_fA_s]; exact h j a, fun _ _ => rfl⟩
theorem FM_k {c : Nat} {S S1 : rz_S} (h : kFa 127 (64 * c) S S1) : FM c S S1 := ⟨fun q a => h.1 q (by omega) (by omega), fun q a b e d f => by rw [h.1 q (by omega) (by omega)], fun j a => ⟨h.2.1 j (by omega), by rw [h.1 148 (by omega) (by omega)]⟩, fun j a => by rw [h.1 147 (by omega) (by omega)], fun z a => h.2.2 116 z (by omega)⟩
theorem FX_rc {c : Nat} {S S1 : rz_S} (h : rF (49 + 4 * c) S S1) : FX c S S1 := ⟨fun q a => h.1 q (by omega) (by omega), fun d a b => ⟨h.1 _ (by omega) (by omega), h.1 _ (by omega) (by omega)⟩, fun u z a => h.2 u z (by omega) (by omega) (by omega), fun d a b z => ⟨h.2 _ z (by omega) (by omega) (by omega), h.2 _ z (by omega) (by omega) (by omega)⟩⟩
/-! the four kinds of open channels -/
def rowE (c : Nat) (Sx Sm : rz_S) : Prop := ∀ k, k < 64 → Sx.1 (49 + 4 * c) k = Sm.1 127 (64 * c + k) ∧ byt (Sx.1 (49 + 4 * c) k)
def ChB (c : Nat) (Sx Sm : rz_S) : Prop := rowE c Sx Sm ∧ ∃ pl : Nat, pl < 64 ∧ Sx.2 (48 + 4 * c) 2 = nI pl ∧ Sm.1 128 c = nI pl
def ChR (c : Nat) (Sx Sm : rz_S) : Prop := rowE c Sx Sm ∧ ∃ pl e l : Nat, 2 ≤ pl ∧ pl ≤ 64 ∧ e ≤ 64 ∧ Sx.2 (48 + 4 * c) 2 = nI pl ∧ Sm.1 128 c = nI pl ∧ Sx.2 (48 + 4 * c) 3 = nI e ∧ Sm.1 129 c = nI l ∧ (e = l + 1 ∨ e = 1 ∧ l = 1) ∧ ((Sx.2 (48 + 4 * c) 4 = 0 ∧ Sm.1 130 c = 0 ∧ e = 64) ∨ (Sx.2 (48 + 4 * c) 4 = 1 ∧ Sm.1 130 c = 1))
def ChF (c M : Nat) (Sx Sm : rz_S) : Prop := ChW c Sx Sm ∧ (∃ ft fs : Nat, 1 ≤ ft ∧ ft ≤ 12 ∧ fs < sct ft ∧ Sx.2 (48 + 4 * c) 7 = nI ft ∧ Sx.2 (48 + 4 * c) 8 = nI fs ∧ Sm.1 131 c = nI ft ∧ Sm.1 132 c = nI fs) ∧ ∃ cn pl : Nat, 1 ≤ cn ∧ 2 ≤ pl ∧ pl ≤ 64 ∧ Sx.2 (48 + 4 * c) 9 = nI cn ∧ Sx.2 (48 + 4 * c) 2 = nI pl ∧ 62 * (cn - 1) + (pl - 2) ≤ M
def ChL (c : Nat) (Sx Sm : rz_S) : Prop := (∃ pn : Nat, 1 ≤ pn ∧ pn ≤ 10 ∧ Sx.2 (50 + 4 * c) 1 = nI pn ∧ Sm.1 144 c = nI pn ∧ ∀ j, j < pn → Sx.1 (51 + 4 * c) j = Sm.1 147 (10 * c + j)) ∧ (∃ pl e : Nat, pl ≤ e ∧ e ≤ 40 ∧ Sx.2 (48 + 4 * c) 2 = nI pl ∧ Sm.1 146 c = nI pl ∧ Sx.2 (48 + 4 * c) 3 = nI e ∧ Sm.1 145 c = nI e ∧ ∀ j, j < e → Sx.1 (49 + 4 * c) j = Sm.1 148 (64 * c + j) ∧ byt (Sx.1 (49 + 4 * c) j)) ∧
  ((Sx.2 (48 + 4 * c) 15 = 0 ∧ Sx.2 (48 + 4 * c) 4 = 0 ∧ Sm.1 139 c = 0) ∨
   (Sx.2 (48 + 4 * c) 15 = 1 ∧ Sx.2 (48 + 4 * c) 4 = 0 ∧ Sm.1 139 c = 1 ∧ ∃ t s b e : Nat, 1 ≤ t ∧ t ≤ 12 ∧ s < sct t ∧ 1 ≤ b ∧ b ≤ 6 ∧ e ≤ 4 ∧ Sx.2 (48 + 4 * c) 10 = nI t ∧ Sx.2 (48 + 4 * c) 11 = nI s ∧ Sx.2 (48 + 4 * c) 12 = nI b ∧ Sx.2 (48 + 4 * c) 13 = nI e - 1 ∧ Sm.1 140 c = nI t ∧ Sm.1 141 c = nI s ∧ Sm.1 142 c = nI b ∧ Sm.1 143 c = nI e) ∨
   (Sx.2 (48 + 4 * c) 4 = 1 ∧ Sm.1 139 c = 3))
def Chn (M c : Nat) (Sx Sm : rz_S) : Prop := Sx.2 (48 + 4 * c) 0 = Sm.1 126 c ∧ (Sm.1 126 c = 0 ∨ Sm.1 126 c = 1 ∧ ChR c Sx Sm ∨ Sm.1 126 c = 2 ∧ ChF c M Sx Sm ∨ Sm.1 126 c = 3 ∧ ChL c Sx Sm ∨ Sm.1 126 c = 4 ∧ ChB c Sx Sm)
theorem Chn_f {M c d : Nat} {Sx Sm Sx1 Sm1 : rz_S} (hd : d < 15) (hne : d ≠ c) (fx : FX c Sx Sx1) (fm : FM c Sm Sm1) (h : Chn M d Sx Sm) : Chn M d Sx1 Sm1 := by
  have a1 := (fx.2.1 d hd hne).1
  have a2 := (fx.2.1 d hd hne).2
  have b1 : ∀ z, Sx1.2 (48 + 4 * d) z = Sx.2 (48 + 4 * d) z := fun z => (fx.2.2.2 d hd hne z).1
  have b2 : ∀ z, Sx1.2 (50 + 4 * d) z = Sx.2 (50 + 4 * d) z := fun z => (fx.2.2.2 d hd hne z).2
  have m1 : ∀ q, 126 ≤ q → q ≤ 146 → q ≠ 127 → Sm1.1 q d = Sm.1 q d := fun q x y z => fm.2.1 q x y z d hne
  have m2 : ∀ k, k < 64 → Sm1.1 127 (64 * d + k) = Sm.1 127 (64 * d + k) := fun k hk => (fm.2.2.1 _ (by omega)).1
  have m3 : ∀ k, k < 64 → Sm1.1 148 (64 * d + k) = Sm.1 148 (64 * d + k) := fun k hk => (fm.2.2.1 _ (by omega)).2
  have m4 : ∀ k, k < 10 → Sm1.1 147 (10 * d + k) = Sm.1 147 (10 * d + k) := fun k hk => fm.2.2.2.1 _ (by omega)
  have e126 := m1 126 (by omega) (by omega) (by omega)
  have e128 := m1 128 (by omega) (by omega) (by omega)
  have e129 := m1 129 (by omega) (by omega) (by omega)
  have e130 := m1 130 (by omega) (by omega) (by omega)
  have rw1 : rowE d Sx Sm → rowE d Sx1 Sm1 := fun h k hk => by rw [a1, m2 k hk]; exact h k hk
  unfold Chn
  rw [b1, e126]
  refine ⟨h.1, ?_⟩
  rcases h.2 with h | ⟨h, r⟩ | ⟨h, r⟩ | ⟨h, r⟩ | ⟨h, r⟩
  · exact Or.inl h
  · refine Or.inr (Or.inl ⟨h, rw1 r.1, ?_⟩)
    rw [b1, b1, b1, e128, e129, e130]
    exact r.2
  · refine Or.inr (Or.inr (Or.inl ⟨h, ?_, ?_, ?_⟩))
    · obtain ⟨t, s, et, es, e, cn, pl, c1, c2, c3, c4, c5, c6, c7, c8⟩ := r.1
      refine ⟨t, s, et, es, e, cn, pl, c1, c2, c3, c4, c5, ?_, ?_, fun k k2 k64 => ?_⟩
      · rw [b1, b1, b1, b1, b1, b1, b1]; exact c6
      · rw [m1 133 (by omega) (by omega) (by omega), m1 134 (by omega) (by omega) (by omega), m1 135 (by omega) (by omega) (by omega), m1 136 (by omega) (by omega) (by omega), m1 137 (by omega) (by omega) (by omega), m1 138 (by omega) (by omega) (by omega), e129]; exact c7
      · rw [a1, m2 k k64]; exact c8 k k2 k64
    · rw [b1, b1, m1 131 (by omega) (by omega) (by omega), m1 132 (by omega) (by omega) (by omega)]; exact r.2.1
    · rw [b1, b1]; exact r.2.2
  · refine Or.inr (Or.inr (Or.inr (Or.inl ⟨h, ?_, ?_, ?_⟩)))
    · obtain ⟨pn, p1, p2, p3, p4, p5⟩ := r.1
      refine ⟨pn, p1, p2, (b2 1).trans p3, (m1 144 (by omega) (by omega) (by omega)).trans p4, fun j hj => ?_⟩
      rw [a2, m4 j (by omega)]; exact p5 j hj
    · obtain ⟨pl, e, p1, p2, p3, p4, p5, p6, p7⟩ := r.2.1
      refine ⟨pl, e, p1, p2, (b1 2).trans p3, (m1 146 (by omega) (by omega) (by omega)).trans p4, (b1 3).trans p5, (m1 145 (by omega) (by omega) (by omega)).trans p6, fun j hj => ?_⟩
      rw [a1, m3 j (by omega)]; exact p7 j hj
    · rw [b1, b1, b1, b1, b1, b1, m1 139 (by omega) (by omega) (by omega), m1 140 (by omega) (by omega) (by omega), m1 141 (by omega) (by omega) (by omega), m1 142 (by omega) (by omega) (by omega), m1 143 (by omega) (by omega) (by omega)]; exact r.2.2
  · refine Or.inr (Or.inr (Or.inr (Or.inr ⟨h, rw1 r.1, ?_⟩)))
    rw [b1, e128]
    exact r.2
