/-! all channels are shut: both sides -/
def caX (S S1 : rz_S) : Prop := (∀ q, ¬ (8 ≤ q ∧ q ≤ 36) → q ≠ 40 → q ≠ 45 → q ≠ 47 → ¬ (48 ≤ q ∧ q ≤ 107 ∧ q % 4 = 1) → S1.1 q = S.1 q) ∧ ∀ u z, ¬ (13 ≤ u ∧ u ≤ 35 ∧ 3 ≤ z ∧ z ≤ 7) → ¬ (u = 6 ∧ (z = 1 ∨ z = 2)) → ¬ (u = 3 ∧ z ≤ 6) → ¬ (u = 44 ∧ (z = 1 ∨ z = 2)) → u ≠ 46 → ¬ (48 ≤ u ∧ u ≤ 107 ∧ u % 4 = 0 ∧ z = 0) → S1.2 u z = S.2 u z
def caM (S S1 : rz_S) : Prop := (∀ q, ¬ (117 ≤ q ∧ q ≤ 121) → ¬ (123 ≤ q ∧ q ≤ 127) → S1.1 q = S.1 q) ∧ ∀ u z, ¬ (u = 116 ∧ (2 ≤ z ∧ z ≤ 15 ∨ z = 20 ∨ 25 ≤ z ∧ z ≤ 32)) → S1.2 u z = S.2 u z
theorem caX_t {S S1 S2 : rz_S} (h1 : caX S S1) (h2 : caX S1 S2) : caX S S2 := ⟨fun q a b d e f => (h2.1 q a b d e f).trans (h1.1 q a b d e f), fun u z a b d e f g => (h2.2 u z a b d e f g).trans (h1.2 u z a b d e f g)⟩
theorem caM_t {S S1 S2 : rz_S} (h1 : caM S S1) (h2 : caM S1 S2) : caM S S2 := ⟨fun q a b => (h2.1 q a b).trans (h1.1 q a b), fun u z a => (h2.2 u z a).trans (h1.2 u z a)⟩
theorem caX_r (S : rz_S) : caX S S := ⟨fun _ _ _ _ _ _ => rfl, fun _ _ _ _ _ _ _ _ => rfl⟩
theorem caM_r (S : rz_S) : caM S S := ⟨fun _ _ _ => rfl, fun _ _ _ => rfl⟩
theorem caX_c {c : Nat} {S S1 : rz_S} (hc : c < 15) (h : clX c S S1) : caX S S1 := ⟨fun q a b d e f => h.1 q a b d e (by omega), fun u z a b d e f g => h.2 u z a b d e f (by omega)⟩
theorem caM_c {c : Nat} {S S1 : rz_S} (h : clM c S S1) : caM S S1 := ⟨h.1, h.2.2.2⟩
theorem ChW_k {c c' : Nat} {Sx Sm Sx1 Sm1 : rz_S} (hne : c' ≠ c) (hc : c' < 15) (h : ChW c' Sx Sm) (hx : clX c Sx Sx1) (hm : clM c Sm Sm1) : ChW c' Sx1 Sm1 := by
  obtain ⟨t, s, et, es, e, cn, pl, a1, a2, a3, a4, a5, ⟨x5, x6, x9, x10, x11, x13, xp⟩, ⟨y3, y4, y5, y6, y7, y8, yp⟩, hr⟩ := h
  have fx : ∀ z, z ≠ 0 → Sx1.2 (48 + 4 * c') z = Sx.2 (48 + 4 * c') z := fun z hz => hx.2 _ z (by omega) (by omega) (by omega) (by omega) (by omega) (by omega)
  have fm : ∀ q, 128 ≤ q → Sm1.1 q = Sm.1 q := fun q hq => hm.1 q (by omega) (by omega)
  refine ⟨t, s, et, es, e, cn, pl, a1, a2, a3, a4, a5, ⟨(fx 5 (by omega)).trans x5, (fx 6 (by omega)).trans x6, (fx 9 (by omega)).trans x9, (fx 10 (by omega)).trans x10, (fx 11 (by omega)).trans x11, (fx 13 (by omega)).trans x13, (fx 2 (by omega)).trans xp⟩, ⟨?_, ?_, ?_, ?_, ?_, ?_, ?_⟩, fun k k2 k64 => ?_⟩
  · rw [fm 133 (by omega)]; exact y3
  · rw [fm 134 (by omega)]; exact y4
  · rw [fm 135 (by omega)]; exact y5
  · rw [fm 136 (by omega)]; exact y6
  · rw [fm 137 (by omega)]; exact y7
  · rw [fm 138 (by omega)]; exact y8
  · rw [fm 129 (by omega)]; exact yp
  · rw [hx.1 (49 + 4 * c') (by omega) (by omega) (by omega) (by omega) (by omega), hm.2.2.1 (64 * c' + k) (by omega)]
    exact hr k k2 k64
/-- the channels ahead: modes alike, and what a channel that WRITES has -/
def ChA (c : Nat) (Sx Sm : rz_S) : Prop := ∀ d, c ≤ d → d < 15 → Sx.2 (48 + 4 * d) 0 = Sm.1 126 d ∧ (Sm.1 126 d = 2 → ChW d Sx Sm)
def caE (pr : Bool) (Sx Sm : rz_S) (x : Int32) (Sx1 Sm1 : rz_S) : Prop := caX Sx Sx1 ∧ caM Sm Sm1 ∧ (∃ B' id', Dk B' pr id' Sx1 Sm1) ∧ ans Sx x Sx1 Sm1 ∧ (∀ d, d < 15 → Sx1.2 (48 + 4 * d) 0 = 0) ∧ ∀ d, d < 15 → Sm1.1 126 d = 0
/-- from a fault on the reference only drops -/
theorem z_close {x : Int32} (hx : ¬ x = 0) {R : Int32 → rz_S → Prop} : ∀ (w c : Nat) (T T' : rz_S), w + c = 15 → T' = rz_fA T 126 (fun i => if c ≤ i ∧ i < 15 then 0 else T.1 126 i) → rz mM_close 36 [(0, .ref 116), (2, .int x), (3, .int (nI 15))] [] T' (rz_i R) → rz mM_close 36 [(0, .ref 116), (2, .int x), (3, .int (nI c))] [] T (rz_i R) := by
  intro w
  induction w with
  | zero =>
    intro c T T' hc he h
    have e : c = 15 := by omega
    subst e
    have : (fun i => if 15 ≤ i ∧ i < 15 then 0 else T.1 126 i) = T.1 126 := by
      funext i
      rw [if_neg (by omega)]
    rw [this, rz_fA_id] at he
    rw [← he]
    exact h
  | succ w ih =>
    intro c T T' hc he h
    refine p_M_close_36 ⟨fun z => ?_, fun _ => ⟨fun z => absurd z hx, fun _ => ⟨rin (by omega) (by omega), ?_⟩⟩⟩
    · have := (nI_leI (a := 15) (by omega) (by omega)).mp z
      omega
    rw [nI_clamp (by omega), nI_1]
    refine ih (c + 1) _ T' (by omega) ?_ h
    rw [he, rz_fA_s, rz_fAA]
    congr 1
    funext i
    by_cases e : i = c
    · subst e
      rw [if_pos ⟨by omega, by omega⟩, if_neg (by omega), pk_us]
    · rw [pk_un e]
      by_cases q : c + 1 ≤ i ∧ i < 15
      · rw [if_pos q, if_pos ⟨by omega, q.2⟩]
      · rw [if_neg q, if_neg (by omega)]
theorem dr_u {S : rz_S} {u z : Nat} (h : ¬ (48 ≤ u ∧ u ≤ 107 ∧ u % 4 = 0 ∧ z = 0)) : (dr_to S 15).2 u z = S.2 u z := by
  show (if z = 0 ∧ 48 ≤ u ∧ u < 48 + 4 * 15 ∧ (u - 48) % 4 = 0 then 0 else S.2 u z) = _
  rw [if_neg (by omega)]
theorem dr_z0 {S : rz_S} {d : Nat} (h : d < 15) : (dr_to S 15).2 (48 + 4 * d) 0 = 0 := by
  show (if 0 = 0 ∧ 48 ≤ 48 + 4 * d ∧ 48 + 4 * d < 48 + 4 * 15 ∧ (48 + 4 * d - 48) % 4 = 0 then 0 else S.2 (48 + 4 * d) 0) = _
  rw [if_pos (by omega)]
theorem ans_f {Sx Sx1 Sm1 Sx2 Sm2 : rz_S} {x : Int32} (h : ans Sx x Sx1 Sm1) (h1 : ∀ z, Sx2.2 3 z = Sx1.2 3 z) (h2 : ∀ z, Sm2.2 116 z = Sm1.2 116 z) : ans Sx x Sx2 Sm2 := by
  rcases h with ⟨a, b⟩ | ⟨xc, a, b, d, ⟨ft, fs, ⟨p0, p1, p2, p3, p4⟩, q1, q2⟩, e⟩
  · exact Or.inl ⟨a, fun z => (h1 z).trans (b z)⟩
  · exact Or.inr ⟨xc, a, b, d, ⟨ft, fs, ⟨(h1 0).trans p0, (h1 1).trans p1, (h1 2).trans p2, (h1 5).trans p3, (h1 6).trans p4⟩, (h2 4).trans q1, (h2 5).trans q2⟩, (h1 3).trans e⟩
theorem ca_loop {pr : Bool} {Sx Sm : rz_S} : ∀ (w c : Nat) (Tx Tm : rz_S), w + c = 15 → caX Sx Tx → caM Sm Tm → (∃ B' id', Dk B' pr id' Tx Tm) → (∀ z, Tx.2 3 z = Sx.2 3 z) → ChA c Tx Tm → (∀ d, d < c → Tm.1 126 d = 0) → ∀ K : rz_S → Prop, (∀ x Sx1 Sm1, caE pr Sx Sm x Sx1 Sm1 → (∀ R : Int32 → rz_S → Prop, rz mM_close 36 [(0, .ref 116), (2, .int x), (3, .int (nI 15))] [] Sm1 (rz_i R) → rz mM_close 36 [(0, .ref 116), (2, .int 0), (3, .int (nI c))] [] Tm (rz_i R)) → K Sx1) → rz mDos_closeAll 4 [(0, .ref 39), (1, .int 0), (2, .int (nI c))] [] Tx (rz_v K) := by
  have drop : ∀ (x : Int32) (Tx Tm : rz_S), caX Sx Tx → caM Sm Tm → (∃ B' id', Dk B' pr id' Tx Tm) → ans Sx x Tx Tm → (∀ d, d < 15 → Tm.1 126 d = 0) → caE pr Sx Sm x (dr_to Tx 15) Tm := by
    intro x Tx Tm fx fm hD ha hz
    obtain ⟨B', id', d⟩ := hD
    exact ⟨caX_t fx ⟨fun _ _ _ _ _ _ => rfl, fun u z _ _ _ _ _ h => dr_u h⟩, fm, ⟨B', id', Dk_x d (fun _ _ _ => rfl) (fun u z hu => dr_u (by omega))⟩, ans_f ha (fun z => dr_u (by omega)) (fun _ => rfl), fun d hd => dr_z0 hd, hz⟩
  intro w
  induction w with
  | zero =>
    intro c Tx Tm hc fx fm hD hst hA hz K hK
    have e : c = 15 := by omega
    subst e
    exact p_Dos_closeAll_4 ⟨fun _ => p_Dos_closeAll_26 (rz_toV c_Dos_dropAll (hK 0 _ Tm (drop 0 Tx Tm fx fm hD (Or.inl ⟨rfl, hst⟩) hz) (fun R h => h))), fun z => absurd (by decide) z⟩
  | succ w ih =>
    intro c Tx Tm hc fx fm hD hst hA hz K hK
    obtain ⟨B', id', d⟩ := hD
    obtain ⟨x, Vx, y, Vm, e1, e2, rfl, gx, gm, D2, ga, m1, m2⟩ := PR_shut (c := c) (by omega) d (hA c (by omega) (by omega)).1 (hA c (by omega) (by omega)).2
    have hA2 : ChA (c + 1) Vx Vm := fun q h1 h2 => by
      obtain ⟨a1, a2⟩ := hA q (by omega) h2
      have e3 : Vm.1 126 q = Tm.1 126 q := gm.2.1 q (by omega)
      refine ⟨(gx.2 (48 + 4 * q) 0 (by omega) (by omega) (by omega) (by omega) (by omega) (by omega)).trans (a1.trans e3.symm), fun z => ChW_k (by omega) h2 (a2 (e3 ▸ z)) gx gm⟩
    have hz2 : ∀ q, q < c + 1 → Vm.1 126 q = 0 := fun q hq => by
      by_cases e : q = c
      · subst e; exact m2
      · rw [gm.2.1 q e]; exact hz q (by omega)
    have fx2 := caX_t fx (caX_c (by omega) gx)
    have fm2 := caM_t fm (caM_c gm)
    have idf : rz_fA Vm 126 (upd (Vm.1 126) c 0) = Vm := by
      have : upd (Vm.1 126) c 0 = Vm.1 126 := by
        funext i
        by_cases e : i = c
        · subst e; rw [pk_us, m2]
        · rw [pk_un e]
      rw [this, rz_fA_id]
    have right : ∀ R : Int32 → rz_S → Prop, rz mM_close 36 [(0, .ref 116), (2, .int x), (3, .int (nI (c + 1)))] [] Vm (rz_i R) → rz mM_close 36 [(0, .ref 116), (2, .int 0), (3, .int (nI c))] [] Tm (rz_i R) := fun R h => by
      refine p_M_close_36 ⟨fun z => ?_, fun _ => ⟨fun _ => rzx_I e2 ⟨rin (by omega) (by omega), ?_⟩, fun z => absurd rfl z⟩⟩
      · have := (nI_leI (a := 15) (by omega) (by omega)).mp z
        omega
      · rw [nI_clamp (by omega), nI_1, idf]
        exact h
    refine p_Dos_closeAll_4 ⟨fun z => ?_, fun _ => ⟨fun _ => rzx_I e1 ?_, fun z => absurd rfl z⟩⟩
    · have := (nI_leI (a := 15) (by omega) (by omega)).mp z
      omega
    rw [nI_1]
    by_cases x0 : x = 0
    · subst x0
      have hst2 : ∀ z, Vx.2 3 z = Sx.2 3 z := by
        rcases ga with ⟨_, b⟩ | ⟨xc, c1, c2, c3, _⟩
        · exact fun z => (b z).trans (hst z)
        · exact absurd c3.symm (nI_ne0 (by omega) (by omega))
      exact ih (c + 1) Vx Vm (by omega) fx2 fm2 D2 hst2 hA2 hz2 K (fun y Sx1 Sm1 hE hR => hK y Sx1 Sm1 hE (fun R h => right R (hR R h)))
    · have hcl : ∀ T, T = dr_to Vx 15 → K T → rz mDos_closeAll 26 [(0, .ref 39)] [] Vx (rz_v K) := fun T hT h => p_Dos_closeAll_26 (rz_toV c_Dos_dropAll (hT ▸ h))
      have fin : K (dr_to Vx 15) := by
        refine hK x _ (rz_fA Vm 126 (fun i => if c + 1 ≤ i ∧ i < 15 then 0 else Vm.1 126 i)) ?_ (fun R h => right R (z_close x0 (14 - c) (c + 1) Vm _ (by omega) rfl h))
        refine drop x Vx _ fx2 (caM_t fm2 ⟨fun q _ b => rz_fA_n (by omega), fun _ _ _ => rfl⟩) ?_ (ans_f (ans_t hst ga) (fun _ => rfl) (fun _ => rfl)) (fun q hq => ?_)
        · obtain ⟨B3, id3, d3⟩ := D2
          exact ⟨B3, id3, Dk_mf d3 (by omega)⟩
        · rw [rz_fA_s]
          by_cases e : c + 1 ≤ q ∧ q < 15
          · rw [if_pos e]
          · rw [if_neg e]
            exact hz2 q (by omega)
      refine p_Dos_closeAll_4 ⟨fun _ => hcl _ rfl fin, fun _ => ⟨fun z => absurd z x0, fun _ => hcl _ rfl fin⟩⟩
