/-! commands: what they begin and end with; INITIALISE, UI, M-W, M-R, M-E -/
def hX (S S1 : rz_S) : Prop := S1.1 2 = S.1 2 ∧ (S1.1 115 = S.1 115 ∧ S1.1 114 = S.1 114) ∧ (∀ z, z ≤ 2 → S1.2 1 z = S.2 1 z) ∧ ∀ u z, (u = 0 ∨ u = 113) → S1.2 u z = S.2 u z
def hM (S S1 : rz_S) : Prop := S1.1 150 = S.1 150 ∧ S1.1 152 = S.1 152 ∧ ∀ z, (56 ≤ z ∧ z ≤ 59 ∨ z = 64 ∨ z = 67 ∨ z = 68) → S1.2 116 z = S.2 116 z
def cpR (Sx Sm : rz_S) : Prop := (∀ b : Int32, Sx.1 38 ((b &&& 2047).toNatClampNeg) = Sm.1 155 ((b &&& 2047).toNatClampNeg) &&& 255) ∧ (∀ z, z ≤ 6 → z ≠ 5 → Sx.2 37 z = Sm.2 116 (75 + z)) ∧ Sx.2 37 5 = Sm.2 116 82
def anW (Sx : rz_S) (x : Int32) (Sx1 Sm1 : rz_S) : Prop := (x = 0 ∧ ∀ z, z ≤ 6 → Sx1.2 3 z = Sx.2 3 z) ∨ ∃ xc : Nat, xc ≠ 0 ∧ (xc < 100 ∧ (xc = 0 ∨ xc = 1 ∨ 20 ≤ xc ∧ xc ≤ 26 ∨ xc = 28 ∨ 30 ≤ xc ∧ xc ≤ 34 ∨ 60 ≤ xc ∧ xc ≤ 66 ∨ 70 ≤ xc ∧ xc ≤ 74)) ∧ x = nI xc ∧ flt xc Sx1 Sm1 ∧ Sx1.2 3 3 = Sx.2 3 3
theorem anW_a {T V W : rz_S} {x : Int32} (h : ans T x V W) : anW T x V W := by
  rcases h with ⟨a, b⟩ | h
  · exact Or.inl ⟨a, fun z _ => b z⟩
  · exact Or.inr h
/-- what a command begins with -/
def cmC (M n : Nat) (B : Nat → Nat → Bool) (pr : Bool) (id : Option (Nat × Nat)) (T U : rz_S) : Prop := Txt n T U ∧ Dk B pr id T U ∧ (∀ d, d < 15 → Chn M d T U) ∧ (T.2 3 8 = 0 ∧ T.2 3 9 = 0 ∧ U.2 116 61 = 0 ∧ U.2 116 62 = 0) ∧ cpR T U
/-- what a command ends with -/
def cmE (M : Nat) (pr : Bool) (T U : rz_S) (x : Int32) (V W : rz_S) : Prop := hX T V ∧ hM U W ∧ (∃ B id, Dk B pr id V W) ∧ anW T x V W ∧ (∀ d, d < 15 → Chn M d V W) ∧ rpR V W ∧ cpR V W
def CM (M : Nat) (pr : Bool) (T U : rz_S) (X R : rx_M) (ax am : List Value) : Prop := ∃ x V W, cmE M pr T U x V W ∧ rzx X ax T (some (.int x)) V ∧ rzx R am U (some (.int x)) W
theorem Chn_e {M d : Nat} {T U V W : rz_S} (hd : d < 15) (a : ∀ q, 48 ≤ q → q < 108 → V.1 q = T.1 q) (b : ∀ u z, 48 ≤ u → u < 108 → V.2 u z = T.2 u z) (c : ∀ q, 126 ≤ q → q ≤ 148 → W.1 q = U.1 q) (h : Chn M d T U) : Chn M d V W := by
  unfold Chn ChR ChF ChL ChB ChW rowE at h ⊢
  simp (disch := omega) only [a, b, c]
  exact h
section CMO
variable {M n : Nat} {B : Nat → Nat → Bool} {pr : Bool} {id : Option (Nat × Nat)} {T U V W : rz_S} {x : Int32}
theorem cm_of (hC : cmC M n B pr id T U) (gx : bgX T V) (gm : bgM U W) (hD : ∃ B id, Dk B pr id V W) (an : ans T x V W) : cmE M pr T U x V W := by
  obtain ⟨_, _, hc, ⟨r1, r2, r3, r4⟩, c1, c2, c3⟩ := hC
  have k3 : ∀ z, 7 ≤ z → V.2 3 z = T.2 3 z := fun z hz => gx.2 3 z (by omega) (by omega) (by omega) (by omega) (by omega)
  have k37 : ∀ z, V.2 37 z = T.2 37 z := fun z => gx.2 37 z (by omega) (by omega) (by omega) (by omega) (by omega)
  have km : ∀ z, 33 ≤ z → W.2 116 z = U.2 116 z := fun z hz => gm.2 116 z (by omega)
  refine ⟨⟨gx.1 2 (by omega) (by omega) (by omega) (by omega), ⟨gx.1 115 (by omega) (by omega) (by omega) (by omega), gx.1 114 (by omega) (by omega) (by omega) (by omega)⟩, fun z _ => gx.2 1 z (by omega) (by omega) (by omega) (by omega) (by omega), fun u z hu => gx.2 u z (by omega) (by omega) (by omega) (by omega) (by omega)⟩, ⟨gm.1 150 (by omega) (by omega), gm.1 152 (by omega) (by omega), fun z hz => km z (by omega)⟩, hD, anW_a an, fun d hd => Chn_e hd (fun q a b => gx.1 q (by omega) (by omega) (by omega) (by omega)) (fun u z a b => gx.2 u z (by omega) (by omega) (by omega) (by omega) (by omega)) (fun q a b => gm.1 q (by omega) (by omega)) (hc d hd), Or.inl ⟨(km 61 (by omega)).trans r3, (km 62 (by omega)).trans r4, ?_⟩, fun b => ?_, fun z a b => ?_, ?_⟩
  · rw [k3 8 (by omega), k3 9 (by omega), r1, r2]; decide
  · rw [gx.1 38 (by omega) (by omega) (by omega) (by omega), gm.1 155 (by omega) (by omega)]; exact c1 b
  · rw [k37, km _ (by omega)]; exact c2 z a b
  · rw [k37, km _ (by omega)]; exact c3
theorem ans_fl (xc t s : Nat) (h0 : xc ≠ 0) (hx : xc < 100 ∧ (xc = 0 ∨ xc = 1 ∨ 20 ≤ xc ∧ xc ≤ 26 ∨ xc = 28 ∨ 30 ≤ xc ∧ xc ≤ 34 ∨ 60 ≤ xc ∧ xc ≤ 66 ∨ 70 ≤ xc ∧ xc ≤ 74)) (h3 : V.2 3 3 = T.2 3 3) : ans T (nI xc) (st_set V (nI xc) (nI t) (nI s)) (rz_uI (rz_uI W 116 4 (nI t)) 116 5 (nI s)) := Or.inr ⟨xc, h0, hx, rfl, ⟨t, s, st_set_is, by simp (disch := omega) only [uI1, fA2, rz_fA_n, rz_uI_n, rz_fA_s, rz_uI_s, pk_us], by simp (disch := omega) only [uI1, fA2, rz_fA_n, rz_uI_n, rz_fA_s, rz_uI_s, pk_us]⟩, (show (st_set V (nI xc) (nI t) (nI s)).2 3 3 = V.2 3 3 from rfl).trans h3⟩
theorem cm_flt (hC : cmC M n B pr id T U) (xc t s : Nat) (h0 : xc ≠ 0) (hx : xc < 100 ∧ (xc = 0 ∨ xc = 1 ∨ 20 ≤ xc ∧ xc ≤ 26 ∨ xc = 28 ∨ 30 ≤ xc ∧ xc ≤ 34 ∨ 60 ≤ xc ∧ xc ≤ 66 ∨ 70 ≤ xc ∧ xc ≤ 74)) (gx : bgX T V) (gm : bgM U W) (hD : ∃ B id, Dk B pr id V W) (h3 : V.2 3 3 = T.2 3 3) : cmE M pr T U (nI xc) (st_set V (nI xc) (nI t) (nI s)) (rz_uI (rz_uI W 116 4 (nI t)) 116 5 (nI s)) := by
  obtain ⟨B', id', d⟩ := hD
  exact cm_of hC (bgX_t gx (bgX_rF (a := 40) (by omega) rF_s)) (bgM_t gm (bgM_t (bgM_u (by omega)) (bgM_u (by omega)))) ⟨B', id', Dk_mu (Dk_mu (st_set_dk d) (by omega)) (by omega)⟩ (ans_fl xc t s h0 hx h3)
/-- a fault told at once -/
theorem cm_f0 (hC : cmC M n B pr id T U) (xc t s : Nat) (h0 : xc ≠ 0) (hx : xc < 100 ∧ (xc = 0 ∨ xc = 1 ∨ 20 ≤ xc ∧ xc ≤ 26 ∨ xc = 28 ∨ 30 ≤ xc ∧ xc ≤ 34 ∨ 60 ≤ xc ∧ xc ≤ 66 ∨ 70 ≤ xc ∧ xc ≤ 74)) : cmE M pr T U (nI xc) (st_set T (nI xc) (nI t) (nI s)) (rz_uI (rz_uI U 116 4 (nI t)) 116 5 (nI s)) := cm_flt hC xc t s h0 hx (bgX_r T) (bgM_r U) ⟨B, id, hC.2.1⟩ rfl
/-- what the processor's commands change -/
def eX (S S1 : rz_S) : Prop := (∀ q, q ≠ 38 → S1.1 q = S.1 q) ∧ ∀ u z, u ≠ 37 → ¬ (u = 3 ∧ z ≤ 6) → S1.2 u z = S.2 u z
theorem cm_z (hC : cmC M n B pr id T U) (gx : eX T V) (gm : z6gM U W) (cp : cpR V W) (an : anW T x V W) : cmE M pr T U x V W := by
  obtain ⟨_, hD, hc, ⟨r1, r2, r3, r4⟩, _⟩ := hC
  refine ⟨⟨gx.1 2 (by omega), ⟨gx.1 115 (by omega), gx.1 114 (by omega)⟩, fun z _ => gx.2 1 z (by omega) (by omega), fun u z hu => gx.2 u z (by omega) (by omega)⟩, ⟨gm.1 150 (by omega), gm.1 152 (by omega), fun z hz => gm.2 116 z (by omega)⟩, ⟨B, id, Dk_m (Dk_x hD (fun q a b => gx.1 q (by omega)) (fun u z hu => gx.2 u z (by omega) (by omega))) (fun q a b => gm.1 q (by omega)) (fun z hz => gm.2 116 z (by omega))⟩, an, fun d hd => Chn_e hd (fun q a b => gx.1 q (by omega)) (fun u z a b => gx.2 u z (by omega) (by omega)) (fun q a b => gm.1 q (by omega)) (hc d hd), Or.inl ⟨(gm.2 116 61 (by omega)).trans r3, (gm.2 116 62 (by omega)).trans r4, ?_⟩, cp⟩
  rw [gx.2 3 8 (by omega) (by omega), gx.2 3 9 (by omega) (by omega), r1, r2]; decide
end CMO
/-- the ID, both sides -/
theorem PR_takeId {B : Nat → Nat → Bool} {pr : Bool} {id : Option (Nat × Nat)} {Sx Sm : rz_S} (hD : Dk B pr id Sx Sm) : ∃ x V W, rzx mDisk_takeId [.ref 6] Sx (some (.int x)) V ∧ rzx mM_takeId [.ref 116] Sm (some (.int x)) W ∧ chX Sx V ∧ chM Sm W ∧ (∃ id', Dk B pr id' V W) ∧ ans Sx x V W ∧ (x = 0 → ∃ i j, Dk B pr (some (i, j)) V W) := by
  obtain ⟨d1, d2, d3, d4, d5, d6, d7, d8⟩ := hD
  obtain ⟨b7, r7⟩ := d1 7 (by omega) (by omega)
  obtain ⟨_, q7⟩ := d2 7 (by omega) (by omega)
  obtain ⟨_, V, e1, x, rfl, id1, t1, i1, o1⟩ := rzx_ev (c_Disk_takeId (S := Sx) (b := B 7) b7 r7)
  obtain ⟨_, W, e2, y, rfl, f2, id2, t2, i2, o2⟩ := rzx_ev (c_M_takeId (S := Sm) (b := B 7) b7 q7)
  have : id1 = id2 := TI_u t1 t2
  subst this
  have mk : ∀ V0, iF Sx V0 → IDx V0 id1 → Dk B pr id1 V0 W := fun V0 hf hi => by
    refine ⟨fun u u1 u2 => ?_, fun u u1 u2 => ?_, (hf.2 6 0 (by omega) (by omega)).trans d3, (f2.2 116 1 (by omega)).trans d4, hi, i2, fun t h1 h2 => (hf.2 _ 0 (by omega) (by omega)).trans (d7 t h1 h2), fun k hk => by rw [f2.1 122 (by omega)]; exact d8 k hk⟩
    · obtain ⟨a1, a2⟩ := d1 u u1 u2
      refine ⟨a1, (hf.2 _ 1 (by omega) (by omega)).trans a2.1, fun j hj => ?_⟩
      rw [hf.1 _ (by omega)]
      exact a2.2 j hj
    · obtain ⟨a1, a2⟩ := d2 u u1 u2
      refine ⟨a1, fun j hj => ?_⟩
      rw [f2.1 117 (by omega)]
      exact a2 j hj
  have cm : chM Sm W := ⟨fun q a b c => f2.1 q a, f2.2⟩
  rcases o1 with ⟨n1, rfl, hf⟩ | ⟨n1, rfl, T, hf, rfl⟩
  · rcases o2 with ⟨_, rfl⟩ | ⟨z, _⟩
    · refine ⟨0, V, W, e1, e2, ⟨fun q a b c => hf.1 q a, fun u z a b c => hf.2 u z a b⟩, cm, ⟨id1, mk V hf i1⟩, Or.inl ⟨rfl, fun z => hf.2 3 z (by omega) (by omega)⟩, fun _ => ?_⟩
      cases id1 with
      | none => exact absurd rfl n1
      | some q => exact ⟨q.1, q.2, mk V hf i1⟩
    · exact absurd z n1
  · rcases o2 with ⟨z, _⟩ | ⟨_, rfl, w4, w5⟩
    · exact absurd n1 z
    · have i1' : IDx T id1 := by
        subst n1
        exact i1
      refine ⟨74, st_set T 74 7 0, W, e1, e2, chX_t ⟨fun q a b c => hf.1 q a, fun u z a b c => hf.2 u z a b⟩ (chX_rF (Or.inl rfl) rF_s), cm, ⟨id1, st_set_dk (mk T hf i1')⟩, Or.inr ⟨74, by omega, by omega, rfl, ⟨7, 0, st_set_is, w4, w5⟩, (show (st_set T 74 7 0).2 3 3 = T.2 3 3 from rfl).trans (hf.2 3 3 (by omega) (by omega))⟩, fun z => absurd z (by decide)⟩
section CMD
variable {M n : Nat} {B : Nat → Nat → Bool} {pr : Bool} {id : Option (Nat × Nat)} {T U : rz_S}
theorem in_pair (hC : cmC M n B pr id T U) : CM M pr T U mCommands_initialise mM_again [.ref 108] [.ref 116] := by
  obtain ⟨x, V, W, e1, e2, cx, cm, hD, an, hi⟩ := PR_takeId hC.2.1
  have left : ∀ K : Int32 → rz_S → Prop, ((x = 0 → rz_ev mBlockMap_load [.ref 44] V (rz_i K)) ∧ (¬ x = 0 → K x V)) → rz_ev mCommands_initialise [.ref 108] T (rz_i K) := fun K h => by
    show rz _ 0 [(0, .ref 108)] [] _ _
    exact p_Commands_initialise_0 (rzx_I e1 h)
  have right : ∀ K : Int32 → rz_S → Prop, ((x = 0 → rz_ev mM_loads [.ref 116] W (rz_i K)) ∧ (¬ x = 0 → K x W)) → rz_ev mM_again [.ref 116] U (rz_i K) := fun K h => by
    show rz _ 0 [(0, .ref 116)] [] _ _
    exact p_M_again_0 (rzx_I e2 h)
  by_cases x0 : x = 0
  · obtain ⟨id1, d1⟩ := hD
    obtain ⟨y, V2, y', W2, g1, g2, rfl, lx, lm, ⟨id2, D2⟩, la, _⟩ := PR_load d1
    exact ⟨y, V2, W2, cm_of hC (bgX_t (bgX_ch cx) (bgX_ch lx)) (bgM_t (bgM_ch cm) (bgM_ch lm)) ⟨B, id2, D2⟩ (ans_t (ans_z an x0) la), rzx_of (fun K h => left K ⟨fun _ => rzx_I g1 h, fun z => absurd x0 z⟩), rzx_of (fun K h => right K ⟨fun _ => rzx_I g2 h, fun z => absurd x0 z⟩)⟩
  · obtain ⟨id1, d1⟩ := hD
    exact ⟨x, V, W, cm_of hC (bgX_ch cx) (bgM_ch cm) ⟨B, id1, d1⟩ an, rzx_of (fun K h => left K ⟨fun z => absurd z x0, fun _ => h⟩), rzx_of (fun K h => right K ⟨fun z => absurd z x0, fun _ => h⟩)⟩
theorem byt_max {b : Int32} (h : byt b) : (if 0 < b then b else 0) = b := by
  obtain ⟨k, hk, rfl⟩ := h
  by_cases z : k = 0
  · subst z; rfl
  · rw [if_pos (show (0 : Int32) < nI k from nI_lt (a := 0) (by omega) (by omega))]
/-- an argument of a command of the processor -/
theorem c_arg {S : rz_S} {i : Nat} (hn : n ≤ 400) (hl : S.2 1 2 = nI n) (hb : ∀ j, j < n → byt (S.1 2 j)) (hi : i < 1000) : rz_ev mCommands_argument [.ref 108, .int (nI i)] S (rz_i (fun x S1 => x = (if i < n then S.1 2 i else 0) ∧ S1 = S)) := by
  show rz _ 0 [(0, .ref 108), (1, .int (nI i))] [] _ _
  refine p_Commands_argument_0 (rz_toI (c_byteAt hn hl hi) ?_)
  by_cases z : i < n
  · rw [if_pos z, if_pos z]; exact ⟨byt_max (hb i z), rfl⟩
  · rw [if_neg z, if_neg z]; exact ⟨by decide, rfl⟩
end CMD
