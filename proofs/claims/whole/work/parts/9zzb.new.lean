/-! commands: NEW -/
def fmB (B : Nat → Nat → Bool) (t i j : Nat) : Nat → Nat → Bool := fun u => if u = t then fmb t i j else B u
theorem fmB_s {B : Nat → Nat → Bool} {t i j : Nat} : fmB B t i j t = fmb t i j := if_pos rfl
theorem fmB_n {B : Nat → Nat → Bool} {t i j u : Nat} (h : ¬ u = t) : fmB B t i j u = B u := if_neg h
/-- a track is FORMATTED, both sides -/
theorem PR_format {B : Nat → Nat → Bool} {pr : Bool} {id : Option (Nat × Nat)} {V W : rz_S} {t i j : Nat} (hD : Dk B pr id V W) (h1 : 1 ≤ t) (h2 : t ≤ 12) (hi : i < 256) (hj : j < 256) : ∃ x V1 W1, rzx mDisk_format [.ref 6, .int (nI t), .int (nI i), .int (nI j)] V (some (.int x)) V1 ∧ rzx mM_format [.ref 116, .int (nI t), .int (nI i), .int (nI j)] W (some (.int x)) W1 ∧ bgX V V1 ∧ bgM W W1 ∧ (∃ B', Dk B' pr id V1 W1) ∧ ans V x V1 W1 := by
  have hD0 := hD
  obtain ⟨d1, d2, d3, d4, d5, d6, d7, d8⟩ := hD
  obtain ⟨_, V1, e1, x, rfl, o1⟩ := rzx_ev (c_Disk_format (i := i) (j := j) d1 d3 h1 h2 (d7 t h1 h2) hi hj)
  obtain ⟨_, W1, e2, y, rfl, o2⟩ := rzx_ev (c_M_format (i := i) (j := j) d2 d4 h1 h2 d8 hi hj)
  rcases o1 with ⟨p, rfl, rfl⟩ | ⟨p, rfl, f1, r1⟩
  · rcases o2 with ⟨_, rfl, rfl⟩ | ⟨q, _⟩
    · exact ⟨nI 26, _, _, e1, e2, bgX_rF (a := 40) (by omega) rF_s, bgM_t (bgM_u (by omega)) (bgM_u (by omega)), ⟨B, Dk_mu (Dk_mu (st_set_dk hD0) (by omega)) (by omega)⟩, ans_fl 26 t 0 (by omega) (by omega) rfl⟩
    · rw [p] at q; cases q
  · rcases o2 with ⟨q, _⟩ | ⟨_, rfl, f2, r2⟩
    · rw [p] at q; cases q
    · refine ⟨nI 0, V1, W1, e1, e2, ⟨fun q a b c d => f1.1 q (by omega) (by omega), fun u z a b c d e => f1.2 u z (by omega)⟩, ⟨fun q a b => f2.1 q (by omega) (by omega), fun u z a => f2.2.2 u z (by omega)⟩, ⟨fmB B t i j, fun u u1 u2 => ?_, fun u u1 u2 => ?_, (f1.2 6 0 (by omega)).trans d3, (f2.2.2 116 1 (by omega)).trans d4, ?_, ?_, fun u u1 u2 => (f1.2 _ 0 (by omega)).trans (d7 u u1 u2), fun k hk => by rw [f2.1 122 (by omega) (by omega)]; exact d8 k hk⟩, Or.inl ⟨rfl, fun z => f1.2 3 z (by omega)⟩⟩
      · by_cases e : u = t
        · subst e
          rw [fmB_s]
          exact ⟨fmb_r u i j, r1⟩
        · rw [fmB_n e]
          obtain ⟨a1, a2, a3⟩ := d1 u u1 u2
          refine ⟨a1, (f1.2 _ 1 (by omega)).trans a2, fun k hk => ?_⟩
          rw [f1.1 _ (by omega) (by omega)]
          exact a3 k hk
      · by_cases e : u = t
        · subst e
          rw [fmB_s]
          exact ⟨fmb_r u i j, r2⟩
        · rw [fmB_n e]
          obtain ⟨a1, a2⟩ := d2 u u1 u2
          have tb := tN_b u2
          refine ⟨a1, fun k hk => ?_⟩
          rw [f2.2.1 _ (by omega)]
          exact a2 k hk
      · cases id with
        | none => exact ⟨(f1.2 6 1 (by omega)).trans d5.1, (f1.2 6 2 (by omega)).trans d5.2⟩
        | some q => exact ⟨(f1.2 6 1 (by omega)).trans d5.1, (f1.2 6 2 (by omega)).trans d5.2.1, d5.2.2⟩
      · cases id with
        | none => exact ⟨(f2.2.2 116 2 (by omega)).trans d6.1, (f2.2.2 116 3 (by omega)).trans d6.2⟩
        | some q => exact ⟨(f2.2.2 116 2 (by omega)).trans d6.1, (f2.2.2 116 3 (by omega)).trans d6.2.1, d6.2.2⟩
theorem Dk_id {B : Nat → Nat → Bool} {pr : Bool} {id : Option (Nat × Nat)} {V W : rz_S} {i j : Nat} (h : Dk B pr id V W) (hi : i < 256) (hj : j < 256) : Dk B pr (some (i, j)) (rz_uI (rz_uI V 6 1 (nI i)) 6 2 (nI j)) (rz_uI (rz_uI W 116 2 (nI i)) 116 3 (nI j)) := by
  obtain ⟨d1, d2, d3, d4, d5, d6, d7, d8⟩ := h
  refine ⟨fun u u1 u2 => ?_, fun u u1 u2 => ?_, by simp (disch := omega) only [uI1, fA2, rz_fA_n, rz_uI_n, rz_fA_s, rz_uI_s, pk_us]; exact d3, by simp (disch := omega) only [uI1, fA2, rz_fA_n, rz_uI_n, rz_fA_s, rz_uI_s, pk_us]; exact d4, ⟨by simp (disch := omega) only [uI1, fA2, rz_fA_n, rz_uI_n, rz_fA_s, rz_uI_s, pk_us], by simp (disch := omega) only [uI1, fA2, rz_fA_n, rz_uI_n, rz_fA_s, rz_uI_s, pk_us], hi, hj⟩, ⟨by simp (disch := omega) only [uI1, fA2, rz_fA_n, rz_uI_n, rz_fA_s, rz_uI_s, pk_us], by simp (disch := omega) only [uI1, fA2, rz_fA_n, rz_uI_n, rz_fA_s, rz_uI_s, pk_us], hi, hj⟩, fun t h1 h2 => by simp (disch := omega) only [uI1, fA2, rz_fA_n, rz_uI_n, rz_fA_s, rz_uI_s, pk_us]; exact d7 t h1 h2, d8⟩
  · obtain ⟨a1, a2⟩ := d1 u u1 u2
    exact ⟨a1, by simp (disch := omega) only [uI1, fA2, rz_fA_n, rz_uI_n, rz_fA_s, rz_uI_s, pk_us]; exact a2.1, a2.2⟩
  · exact d2 u u1 u2
theorem bgX_u6 {S : rz_S} {k : Nat} {x : Int32} (hk : k = 1 ∨ k = 2) : bgX S (rz_uI S 6 k x) := ⟨fun _ _ _ _ _ => rfl, fun u z a b c d e => rz_uI_n (by omega)⟩
theorem bgM_u2 {S : rz_S} {k : Nat} {x : Int32} (hk : k = 2 ∨ k = 3) : bgM S (rz_uI S 116 k x) := ⟨fun _ _ _ => rfl, fun u z a => rz_uI_n fun e => a ⟨e.1, by omega⟩⟩
/-- all tracks, both sides -/
theorem fa_loop {pr : Bool} {id : Option (Nat × Nat)} {T U : rz_S} {i j : Nat} {a3 : Int32} (hi : i < 256) (hj : j < 256) : ∀ (t : Nat) (V W : rz_S), t ≤ 12 → bgX T V → bgM U W → (∃ B, Dk B pr id V W) → (∀ z, V.2 3 z = T.2 3 z) → ∃ x V1 W1, bgX T V1 ∧ bgM U W1 ∧ (∃ B id, Dk B pr id V1 W1) ∧ ans T x V1 W1 ∧ (x = 0 → ∃ B, Dk B pr (some (i, j)) V1 W1) ∧ (∀ K : Int32 → rz_S → Prop, K x V1 → rz mCommands_formatAll 10 [(0, .ref 108), (1, .int (nI i)), (2, .int (nI j)), (3, .int (nI t))] [] V (rz_i K)) ∧ ∀ K : Int32 → rz_S → Prop, ((x = 0 → rz mM_news 167 [(0, .ref 116), (3, .int a3)] [] W1 (rz_i K)) ∧ (¬ x = 0 → K x W1)) → rz mM_news 123 [(0, .ref 116), (3, .int a3), (5, .int (nI i)), (6, .int (nI j)), (7, .int (nI t))] [] W (rz_i K) := by
  intro t
  induction t with
  | zero =>
    intro V W _ gx gm hD st
    obtain ⟨B, D⟩ := hD
    have D2 := Dk_id D hi hj
    exact ⟨0, _, _, bgX_t gx (bgX_t (bgX_u6 (by omega)) (bgX_u6 (by omega))), bgM_t gm (bgM_t (bgM_u2 (by omega)) (bgM_u2 (by omega))), ⟨B, _, D2⟩, Or.inl ⟨rfl, fun z => by simp (disch := omega) only [uI1, fA2, rz_fA_n, rz_uI_n, rz_fA_s, rz_uI_s, pk_us]; exact st z⟩, fun _ => ⟨B, D2⟩, fun K h => p_Commands_formatAll_10 ⟨fun _ => rz_toV (c_Disk_setId _ _) h, fun z => absurd (by decide) z⟩, fun K h => p_M_news_123 ⟨fun _ => h.1 rfl, fun z => absurd (by decide) z⟩⟩
  | succ t ih =>
    intro V W ht gx gm hD st
    obtain ⟨B, D⟩ := hD
    obtain ⟨x, V1, W1, e1, e2, fx, fm, hD1, an⟩ := PR_format (t := t + 1) D (by omega) ht hi hj
    have nlt : ¬ nI (t + 1) < 1 := nI_nlt (b := 1) (by omega) (by omega)
    have em : nI (t + 1) + (-1) = nI t := by
      rw [← nI_1, Int32.add_assoc, show (1 + -1 : Int32) = 0 from by decide, Int32.add_zero]
    by_cases x0 : x = 0
    · subst x0
      obtain ⟨y, V2, W2, q1, q2, q3, q4, q5, l, r⟩ := ih V1 W1 (by omega) (bgX_t gx fx) (bgM_t gm fm) hD1 (fun z => (ans_z an rfl z).trans (st z))
      refine ⟨y, V2, W2, q1, q2, q3, q4, q5, fun K h => p_Commands_formatAll_10 ⟨fun z => absurd z nlt, fun _ => rzx_I e1 ⟨fun _ => ?_, fun z => absurd rfl z⟩⟩, fun K h => p_M_news_123 ⟨fun z => absurd z nlt, fun _ => rzx_I e2 ⟨fun _ => ?_, fun z => absurd rfl z⟩⟩⟩
      · rw [em]; exact l K h
      · rw [em]; exact r K h
    · obtain ⟨B1, D1⟩ := hD1
      exact ⟨x, V1, W1, bgX_t gx fx, bgM_t gm fm, ⟨B1, id, D1⟩, ans_t st an, fun z => absurd z x0, fun K h => p_Commands_formatAll_10 ⟨fun z => absurd z nlt, fun _ => rzx_I e1 ⟨fun z => absurd z x0, fun _ => h⟩⟩, fun K h => p_M_news_123 ⟨fun z => absurd z nlt, fun _ => rzx_I e2 ⟨fun z => absurd z x0, fun _ => h.2 x0⟩⟩⟩
/-! the new MAP -/
def zR (F : Nat → Int32) : Nat → Int32 := fun i => if i < 64 then 0 else F i
def nwF (F : Nat → Int32) : Nat → Int32 := faR 12 1 (upd (upd (upd F 0 7) 1 1) 2 68)
theorem nw17 (F : Nat → Int32) : nwF F 17 = 63 := rfl
theorem nw_fr0 (F : Nat → Int32) : fr (nwF F) 7 0 = true := by
  unfold fr
  rw [show 3 + 2 * 7 = 17 from rfl, nw17]
  decide
theorem nw_fr1 (F : Nat → Int32) : fr (tkR (nwF F) 7 0) 7 1 = true := by
  unfold fr
  rw [show tkR (nwF F) 7 0 (3 + 2 * 7) = (63 : Int32) &&& ((1 <<< (nI 0 &&& 31)) ^^^ (-1)) from rfl]
  decide
/-- the order of the writings does not matter -/
theorem nw_row {F nm : Nat → Int32} {m : Nat} {a b : Int32} : ∀ k, k < 64 → tkR (tkR (upd (upd (nmR F nm m 28) 38 a) 39 b) 7 0) 7 1 k = upd (upd (nmR (tkR (tkR F 7 0) 7 1) nm m 28) 38 a) 39 b k := by
  intro k hk
  have n17 : nmR F nm m 28 17 = F 17 := by unfold nmR; rw [if_neg (by omega)]
  have n16 : nmR F nm m 28 16 = F 16 := by unfold nmR; rw [if_neg (by omega)]
  by_cases k17 : k = 17
  · subst k17
    show ((nmR F nm m 28 17) &&& _) &&& _ = _
    rw [n17]
    unfold nmR
    rfl
  · by_cases k16 : k = 16
    · subst k16
      show (((nmR F nm m 28 16) - 1 &&& 255) - 1) &&& 255 = _
      rw [n16]
      unfold nmR
      rfl
    · have t1 : ∀ (G : Nat → Int32) (s : Nat), tkR G 7 s k = G k := fun G s => by
        unfold tkR
        rw [pk_un (by omega), pk_un (by omega)]
      rw [t1, t1]
      by_cases k39 : k = 39
      · subst k39; rw [pk_us, pk_us]
      · rw [pk_un k39, pk_un k39]
        by_cases k38 : k = 38
        · subst k38; rw [pk_us, pk_us]
        · rw [pk_un k38, pk_un k38]
          unfold nmR
          by_cases q : 28 ≤ k ∧ k < 28 + 10
          · rw [if_pos q, if_pos q]
          · rw [if_neg q, if_neg q, t1, t1]
theorem m21 {S : rz_S} {a1 : Int32} {K : Int32 → rz_S → Prop} : ∀ (w i : Nat) (F : Nat → Int32), w + i = 64 → (∀ j, F j = if j < i then 0 else S.1 123 j) → rz_ev mM_freesAll [.ref 116] (rz_fA S 123 (upd (upd (upd (zR (S.1 123)) 0 7) 1 1) 2 68)) (rz_v (fun Sq2 => rz mM_maps 69 [(0, .ref 116), (1, .int a1), (2, .int 0)] [] Sq2 (rz_i K))) → rz mM_maps 21 [(0, .ref 116), (1, .int a1), (2, .int (nI i))] [] (rz_fA S 123 F) (rz_i K) := by
  intro w
  induction w with
  | zero =>
    intro i F e hF h
    have ei : i = 64 := by omega
    subst ei
    refine p_M_maps_21 ⟨fun _ => ?_, fun z => absurd (by decide) z⟩
    rw [rz_fA_s, rz_fAA, rz_fAA, rz_fAA, show F = zR (S.1 123) from funext hF]
    exact h
  | succ w ih =>
    intro i F e hF h
    refine p_M_maps_21 ⟨fun z => ?_, fun _ => ⟨rin (by omega) (by omega), ?_⟩⟩
    · have := (nI_leI (a := 64) (b := i) (by omega) (by omega)).mp z
      omega
    · rw [nI_clamp (by omega), nI_1, rz_fA_s, rz_fAA]
      refine ih (i + 1) _ (by omega) (fun j => ?_) h
      by_cases z : j = i
      · subst z; rw [pk_us, if_pos (by omega)]
      · rw [pk_un z, hF j]
        by_cases q : j < i
        · rw [if_pos q, if_pos (by omega)]
        · rw [if_neg q, if_neg (by omega)]
theorem m69 {S : rz_S} {m : Nat} {K : Int32 → rz_S → Prop} (hm : m ≤ 10) (h : rz_ev mM_takes [.ref 116, .int 7, .int 0] (rz_fA S 123 (upd (upd (nmR (S.1 123) (fun i => S.1 151 (2 + i)) m 28) 38 (S.2 116 2)) 39 (S.2 116 3))) (rz_v (fun Sq2 => rz_ev mM_takes [.ref 116, .int 7, .int 1] Sq2 (rz_v (fun Sq3 => rz_ev mM_stores [.ref 116] Sq3 (rz_i (fun xq4 Sq4 => ((xq4 = 0 → rz mM_maps 158 [(0, .ref 116), (3, .int 0)] [] Sq4 (rz_i K)) ∧ (¬ xq4 = 0 → K xq4 Sq4)))))))) ) : ∀ (w i : Nat) (F : Nat → Int32), w + i = 10 → (∀ j, F j = if 28 ≤ j ∧ j < 28 + i then pd (fun i => S.1 151 (2 + i)) m (j - 28) else S.1 123 j) → rz mM_maps 69 [(0, .ref 116), (1, .int (nI m)), (2, .int (nI i))] [] (rz_fA S 123 F) (rz_i K) := by
  intro w
  induction w with
  | zero =>
    intro i F e hF
    have ei : i = 10 := by omega
    subst ei
    refine p_M_maps_69 ⟨fun _ => ?_, fun z => absurd (by decide) z⟩
    rw [rz_fA_s, rz_fAA, rz_fAA, show F = nmR (S.1 123) (fun i => S.1 151 (2 + i)) m 28 from funext hF]
    exact h
  | succ w ih =>
    intro i F e hF
    have e28 : (28 : Int32) + nI i = nI (28 + i) := nI_add 28 i
    have e2 : (2 : Int32) + nI i = nI (2 + i) := nI_add 2 i
    have nx : ∀ v : Int32, v = pd (fun i => S.1 151 (2 + i)) m i → rz mM_maps 69 [(0, .ref 116), (1, .int (nI m)), (2, .int (nI (i + 1)))] [] (rz_fA S 123 (upd F (28 + i) v)) (rz_i K) := fun v hv => by
      refine ih (i + 1) _ (by omega) (fun j => ?_)
      by_cases z : j = 28 + i
      · subst z
        rw [pk_us, if_pos ⟨by omega, by omega⟩, hv, show 28 + i - 28 = i by omega]
      · rw [pk_un z, hF j]
        by_cases q : 28 ≤ j ∧ j < 28 + i
        · rw [if_pos q, if_pos ⟨q.1, by omega⟩]
        · rw [if_neg q, if_neg (by omega)]
    refine p_M_maps_69 ⟨fun z => ?_, fun _ => ⟨fun z => ?_, fun z => ?_⟩⟩
    · have := (nI_leI (a := 10) (b := i) (by omega) (by omega)).mp z
      omega
    · have him : m ≤ i := (nI_leI (by omega) (by omega)).mp z
      rw [e28, nI_clamp (by omega), nI_1, rz_fA_s, rz_fAA]
      refine ⟨rin (by omega) (by omega), nx 160 ?_⟩
      unfold pd; rw [if_neg (by omega)]
    · have him : i < m := Decidable.byContradiction fun y => z (nI_le (by omega) (by omega))
      rw [e28, e2, nI_clamp (by omega), nI_clamp (by omega), nI_1, rz_fA_s, rz_fAA, rz_fA_n (by omega)]
      refine ⟨rin (by omega) (by omega), rin (by omega) (by omega), nx _ ?_⟩
      unfold pd; rw [if_pos him]
theorem m158 {S : rz_S} {K : Int32 → rz_S → Prop} (h : rz_ev mM_writeBlock [.ref 116, .int 7, .int 1, .ref 125, .int 0] (rz_fA S 125 (upd (zR (S.1 125)) 1 255)) (rz_i K)) : ∀ (w i : Nat) (F : Nat → Int32), w + i = 64 → (∀ j, F j = if j < i then (if j = 1 then 255 else 0) else S.1 125 j) → rz mM_maps 158 [(0, .ref 116), (3, .int (nI i))] [] (rz_fA S 125 F) (rz_i K) := by
  intro w
  induction w with
  | zero =>
    intro i F e hF
    have ei : i = 64 := by omega
    subst ei
    refine p_M_maps_158 ⟨fun _ => ?_, fun z => absurd (by decide) z⟩
    rw [show F = upd (zR (S.1 125)) 1 255 from funext fun j => by
      rw [hF j]
      unfold upd zR
      by_cases z : j = 1
      · subst z; rfl
      · rw [if_neg z, if_neg z]]
    exact h
  | succ w ih =>
    intro i F e hF
    have nx : ∀ v : Int32, v = (if i = 1 then 255 else 0) → rz mM_maps 158 [(0, .ref 116), (3, .int (nI (i + 1)))] [] (rz_fA S 125 (upd F i v)) (rz_i K) := fun v hv => by
      refine ih (i + 1) _ (by omega) (fun j => ?_)
      by_cases z : j = i
      · subst z; rw [pk_us, if_pos (show j < j + 1 by omega)]; exact hv
      · rw [pk_un z, hF j]
        by_cases q : j < i
        · rw [if_pos q, if_pos (show j < i + 1 by omega)]
        · rw [if_neg q, if_neg (show ¬ j < i + 1 by omega)]
    refine p_M_maps_158 ⟨fun z => ?_, fun _ => ⟨fun z => ?_, fun z => ?_⟩⟩
    · have := (nI_leI (a := 64) (b := i) (by omega) (by omega)).mp z
      omega
    · have i1 : i = 1 := (nI_eq (b := 1) (by omega) (by omega)).mp z
      rw [nI_clamp (by omega), nI_1, rz_fA_s, rz_fAA]
      exact ⟨rin (by omega) (by omega), nx 255 (by rw [if_pos i1])⟩
    · have i1 : ¬ i = 1 := fun y => z (by rw [y]; rfl)
      rw [nI_clamp (by omega), nI_1, rz_fA_s, rz_fAA]
      exact ⟨rin (by omega) (by omega), nx 0 (by rw [if_neg i1])⟩
