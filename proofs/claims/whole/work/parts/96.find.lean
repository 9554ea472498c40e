/-! an ENTRY is looked for: both sides -/
def wnt (kd : Nat) (nm : Nat → Int32) (n : Nat) (F : Nat → Int32) (e : Nat) : Bool := if kd = 2 then decide (F (16 * e + 2) = 0) else !decide (F (16 * e + 2) = 0) && (if kd = 0 then ftF nm (fun i => F (16 * e + 5 + i)) n n 0 else smF nm (fun i => F (16 * e + 5 + i)) n 10 0)
theorem wnt_c {kd n e : Nat} {nm nm' F F' : Nat → Int32} (he : e < 4) (hn : n ≤ 10) (h1 : kd ≠ 2 → ∀ i, i < n → nm i = nm' i) (h2 : ∀ i, i < 64 → F i = F' i) : wnt kd nm n F e = wnt kd nm' n F' e := by
  unfold wnt
  rw [h2 (16 * e + 2) (by omega)]
  by_cases k2 : kd = 2
  · rw [if_pos k2, if_pos k2]
  · rw [if_neg k2, if_neg k2, ftF_c hn (h1 k2) (fun i hi => h2 (16 * e + 5 + i) (by omega)) n 0 (by omega), smF_c (h1 k2) (fun i hi => h2 (16 * e + 5 + i) (by omega)) 10 0 rfl]
theorem c_Directory_base {S : rz_S} {e : Nat} (he : e < 4) (h : S.2 46 4 = nI e) : rz_ev mDirectory_base [.ref 46] S (rz_i (fun x S1 => x = nI (16 * e) ∧ S1 = S)) := by
  show rz _ 0 [(0, .ref 46)] [] _ _
  refine p_Directory_base_0 ?_
  rw [h]
  refine ⟨fun c => absurd c (nI_pos (by omega)), fun _ => ⟨fun c => ?_, fun _ => ⟨pk_mul 16 e, rfl⟩⟩⟩
  have := (nI_leI (a := 4) (by omega) (by omega)).mp c
  omega
theorem c_Directory_type {S : rz_S} {e : Nat} (he : e < 4) (h : S.2 46 4 = nI e) : rz_ev mDirectory_type [.ref 46] S (rz_i (fun x S1 => x = S.1 47 (16 * e + 2) ∧ S1 = S)) := by
  show rz _ 0 [(0, .ref 46)] [] _ _
  refine p_Directory_type_0 (rz_toI (c_Directory_base he h) ?_)
  rw [show (nI (16 * e) + 2 : Int32) = nI (16 * e + 2) from nI_add _ 2, nI_clamp (by omega)]
  exact ⟨rin (by omega) (by omega), rfl, rfl⟩
theorem c_Directory_isWanted {S : rz_S} {kd p n e : Nat} (hkd : kd < 3) (hp : ptP p) (hn : n ≤ 10) (hl : S.2 p 1 = nI n) (he : e < 4) (h : S.2 46 4 = nI e) : rz_ev mDirectory_isWanted [.ref 46, .int (nI kd), .ref p] S (rz_i (fun x S1 => x = nI (wnt kd (S.1 (p + 1)) n (S.1 47) e).toNat ∧ S1 = S)) := by
  have hc := c_Directory_type he h
  show rz _ 0 [(0, .ref 46), (1, .int (nI kd)), (2, .ref p)] [] _ _
  refine p_Directory_isWanted_0 hp (rz_toI (c_Directory_base he h) ?_)
  rw [show (nI (16 * e) + 5 : Int32) = nI (16 * e + 5) from nI_add _ 5]
  refine ⟨fun c => ?_, fun c => ?_, fun c1 c2 => ?_⟩
  · have k1 : kd = 1 := (nI_eq (b := 1) (by omega) (by omega)).mp c
    subst k1
    refine rz_toI hc ⟨fun d => ⟨?_, rfl⟩, fun d => rz_toI (c_Pattern_isSame (n := n) hp rfl hn hl (by omega)) ?_⟩
    · unfold wnt
      rw [if_neg (by omega), decide_eq_true d]
      rfl
    · have e1 : wnt 1 (S.1 (p + 1)) n (S.1 47) e = smF (S.1 (p + 1)) (fun i => S.1 47 (16 * e + 5 + i)) n 10 0 := by
        unfold wnt
        rw [if_neg (by omega), decide_eq_false d, if_neg (by omega)]
        rfl
      rw [e1]
      cases smF (S.1 (p + 1)) (fun i => S.1 47 (16 * e + 5 + i)) n 10 0
      · exact ⟨fun _ => ⟨rfl, rfl⟩, fun z => absurd rfl z⟩
      · exact ⟨fun z => absurd z (by decide), fun _ => ⟨rfl, rfl⟩⟩
  · have k2 : kd = 2 := (nI_eq (b := 2) (by omega) (by omega)).mp c
    subst k2
    refine rz_toI hc ⟨fun d => ⟨?_, rfl⟩, fun d => ⟨?_, rfl⟩⟩
    · unfold wnt
      rw [if_pos rfl, decide_eq_true d]
      rfl
    · unfold wnt
      rw [if_pos rfl, decide_eq_false d]
      rfl
  · have k0 : kd = 0 := by
      have : ¬ kd = 1 := fun z => c1 (by rw [z]; rfl)
      have : ¬ kd = 2 := fun z => c2 (by rw [z]; rfl)
      omega
    subst k0
    refine rz_toI hc ⟨fun d => ⟨?_, rfl⟩, fun d => rz_toI (c_Pattern_fits (n := n) hp rfl hn hl (by omega)) ?_⟩
    · unfold wnt
      rw [if_neg (by omega), decide_eq_true d]
      rfl
    · have e1 : wnt 0 (S.1 (p + 1)) n (S.1 47) e = ftF (S.1 (p + 1)) (fun i => S.1 47 (16 * e + 5 + i)) n n 0 := by
        unfold wnt
        rw [if_neg (by omega), decide_eq_false d, if_pos rfl]
        rfl
      rw [e1]
      cases ftF (S.1 (p + 1)) (fun i => S.1 47 (16 * e + 5 + i)) n n 0
      · exact ⟨fun _ => ⟨rfl, rfl⟩, fun z => absurd rfl z⟩
      · exact ⟨fun z => absurd z (by decide), fun _ => ⟨rfl, rfl⟩⟩
/-- one ENTRY of the reference's block -/
theorem s_M_finds {S : rz_S} {K : Int32 → rz_S → Prop} {kd b nb q n e : Nat} {t s : Int32} (hkd : kd < 3) (hb : rz_T[b]? = some (.inl (0, nb))) (hnb : nb < 2 ^ 20) (hn : kd ≠ 2 → n ≤ 10 ∧ q + n ≤ nb) (he : e < 4) (w : rz mM_finds 177 [(0, .ref 116), (1, .int (nI kd)), (2, .ref b), (3, .int (nI q)), (4, .int (nI n)), (5, .int t), (6, .int s), (8, .int (nI e))] [.int (nI (wnt kd (fun i => S.1 b (q + i)) n (S.1 124) e).toNat)] S (rz_i K)) : rz mM_finds 80 [(0, .ref 116), (1, .int (nI kd)), (2, .ref b), (3, .int (nI q)), (4, .int (nI n)), (5, .int t), (6, .int s), (8, .int (nI e))] [] S (rz_i K) := by
  refine p_M_finds_80 hb ⟨fun c => ?_, fun _ => ?_⟩
  · have := (nI_leI (a := 4) (by omega) (by omega)).mp c
    omega
  have i1 : (16 * nI e : Int32) = nI (16 * e) := pk_mul 16 e
  rw [i1, show (nI (16 * e) + 2 : Int32) = nI (16 * e + 2) from nI_add _ 2, show (nI (16 * e) + 5 : Int32) = nI (16 * e + 5) from nI_add _ 5, nI_clamp (by omega)]
  refine ⟨rin (by omega) (by omega), fun c => ?_, fun c => ?_⟩
  · have k2 : kd = 2 := (nI_eq (b := 2) (by omega) (by omega)).mp c
    subst k2
    unfold wnt at w
    rw [if_pos rfl] at w
    refine ⟨fun d => ?_, fun d => ?_⟩
    · rw [decide_eq_true d] at w; exact w
    · rw [decide_eq_false d] at w; exact w
  · have k2 : ¬ kd = 2 := fun z => c (by rw [z]; rfl)
    unfold wnt at w
    rw [if_neg k2] at w
    refine ⟨fun d => ?_, fun d => ⟨fun c0 => ?_, fun c0 => ?_⟩⟩
    · rw [decide_eq_true d] at w
      exact p_M_finds_176 hb w
    · have k0 : kd = 0 := (nI_eq (b := 0) (by omega) (by omega)).mp c0
      rw [decide_eq_false d, if_pos k0] at w
      refine rz_toI (c_M_fits (n := n) hb hnb rfl (by omega) (hn k2).1 (hn k2).2 (by omega)) ?_
      cases z : ftF (fun i => S.1 b (q + i)) (fun i => S.1 124 (16 * e + 5 + i)) n n 0
      · rw [z] at w
        exact ⟨fun _ => p_M_finds_176 hb w, fun z => absurd rfl z⟩
      · rw [z] at w
        exact ⟨fun z => absurd z (by decide), fun _ => p_M_finds_172 hb w⟩
    · have k0 : ¬ kd = 0 := fun z => c0 (by rw [z]; rfl)
      rw [decide_eq_false d, if_neg k0] at w
      refine rz_toI (c_M_same (n := n) hb hnb rfl (by omega) (hn k2).1 (hn k2).2 (by omega)) ?_
      cases z : smF (fun i => S.1 b (q + i)) (fun i => S.1 124 (16 * e + 5 + i)) n 10 0
      · rw [z] at w
        exact ⟨fun _ => p_M_finds_176 hb w, fun z => absurd rfl z⟩
      · rw [z] at w
        exact ⟨fun z => absurd z (by decide), fun _ => p_M_finds_172 hb w⟩
/-! what else changes -/
def fdX (S S1 : rz_S) : Prop := (∀ q, ¬ (8 ≤ q ∧ q ≤ 12) → q ≠ 47 → S1.1 q = S.1 q) ∧ ∀ u z, ¬ (13 ≤ u ∧ u ≤ 35 ∧ 3 ≤ z ∧ z ≤ 7) → ¬ (u = 6 ∧ (z = 1 ∨ z = 2)) → ¬ (u = 3 ∧ z ≤ 6) → u ≠ 46 → S1.2 u z = S.2 u z
def fdM (S S1 : rz_S) : Prop := (∀ q, ¬ (118 ≤ q ∧ q ≤ 121) → q ≠ 124 → S1.1 q = S.1 q) ∧ ∀ u z, ¬ (u = 116 ∧ (2 ≤ z ∧ z ≤ 15 ∨ z = 20 ∨ 27 ≤ z ∧ z ≤ 32)) → S1.2 u z = S.2 u z
theorem fdX_t {S S1 S2 : rz_S} (h1 : fdX S S1) (h2 : fdX S1 S2) : fdX S S2 := ⟨fun q h h' => (h2.1 q h h').trans (h1.1 q h h'), fun u z a b c d => (h2.2 u z a b c d).trans (h1.2 u z a b c d)⟩
theorem fdM_t {S S1 S2 : rz_S} (h1 : fdM S S1) (h2 : fdM S1 S2) : fdM S S2 := ⟨fun q h h' => (h2.1 q h h').trans (h1.1 q h h'), fun u z a => (h2.2 u z a).trans (h1.2 u z a)⟩
theorem fdX_r (S : rz_S) : fdX S S := ⟨fun _ _ _ => rfl, fun _ _ _ _ _ _ => rfl⟩
theorem fdM_r (S : rz_S) : fdM S S := ⟨fun _ _ _ => rfl, fun _ _ _ => rfl⟩
theorem fdX_u {S : rz_S} {j : Nat} {x : Int32} : fdX S (rz_uI S 46 j x) := ⟨fun _ _ _ => rfl, fun u z _ _ _ h => rz_uI_n fun e => h e.1⟩
theorem fdM_u {S : rz_S} {j : Nat} {x : Int32} (hj : 27 ≤ j ∧ j ≤ 32 ∨ j = 4 ∨ j = 5) : fdM S (rz_uI S 116 j x) := ⟨fun _ _ _ => rfl, fun u z h => rz_uI_n fun e => h ⟨e.1, by omega⟩⟩
theorem fdX_rF {S S1 : rz_S} (h : rF 47 S S1) : fdX S S1 := ⟨h.1, fun u z a b c _ => h.2 u z a b c⟩
theorem fdM_kFa {S S1 : rz_S} (h : kFa 124 0 S S1) : fdM S S1 := ⟨h.1, fun u z a => h.2.2 u z fun e => a ⟨e.1, by omega⟩⟩
theorem Dk_x {B : Nat → Nat → Bool} {pr : Bool} {id : Option (Nat × Nat)} {Sx Sx1 Sm : rz_S} (hD : Dk B pr id Sx Sm) (h1 : ∀ q, 13 ≤ q → q ≤ 36 → Sx1.1 q = Sx.1 q) (h2 : ∀ u z, (u = 6 ∨ 13 ≤ u ∧ u ≤ 36) → Sx1.2 u z = Sx.2 u z) : Dk B pr id Sx1 Sm := by
  obtain ⟨d1, d2, d3, d4, d5, d6, d7, d8⟩ := hD
  refine ⟨fun u u1 u2 => ?_, d2, (h2 6 0 (by omega)).trans d3, d4, ?_, d6, fun t t1 t2 => (h2 _ 0 (by omega)).trans (d7 t t1 t2), d8⟩
  · obtain ⟨a1, a2, a3⟩ := d1 u u1 u2
    refine ⟨a1, (h2 _ 1 (by omega)).trans a2, fun j hj => ?_⟩
    rw [h1 _ (by omega) (by omega)]
    exact a3 j hj
  · cases id with
    | none => exact ⟨(h2 6 1 (by omega)).trans d5.1, (h2 6 2 (by omega)).trans d5.2⟩
    | some q =>
      obtain ⟨i, j⟩ := q
      exact ⟨(h2 6 1 (by omega)).trans d5.1, (h2 6 2 (by omega)).trans d5.2.1, d5.2.2⟩
theorem Dk_m {B : Nat → Nat → Bool} {pr : Bool} {id : Option (Nat × Nat)} {Sx Sm Sm1 : rz_S} (hD : Dk B pr id Sx Sm) (h1 : ∀ q, 117 ≤ q → q ≤ 122 → Sm1.1 q = Sm.1 q) (h2 : ∀ z, z ≤ 3 → Sm1.2 116 z = Sm.2 116 z) : Dk B pr id Sx Sm1 := by
  obtain ⟨d1, d2, d3, d4, d5, d6, d7, d8⟩ := hD
  refine ⟨d1, fun u u1 u2 => ?_, d3, (h2 1 (by omega)).trans d4, d5, ?_, d7, fun k hk => by rw [h1 122 (by omega) (by omega)]; exact d8 k hk⟩
  · obtain ⟨a1, a2⟩ := d2 u u1 u2
    refine ⟨a1, fun j hj => ?_⟩
    rw [h1 117 (by omega) (by omega)]
    exact a2 j hj
  · cases id with
    | none => exact ⟨(h2 2 (by omega)).trans d6.1, (h2 3 (by omega)).trans d6.2⟩
    | some q =>
      obtain ⟨i, j⟩ := q
      exact ⟨(h2 2 (by omega)).trans d6.1, (h2 3 (by omega)).trans d6.2.1, d6.2.2⟩
theorem Dk_xu {B : Nat → Nat → Bool} {pr : Bool} {id : Option (Nat × Nat)} {Sx Sm : rz_S} {k j : Nat} {x : Int32} (hD : Dk B pr id Sx Sm) (hk : k ≠ 6 ∧ ¬ (13 ≤ k ∧ k ≤ 36)) : Dk B pr id (rz_uI Sx k j x) Sm := Dk_x hD (fun _ _ _ => rfl) (fun u z hu => rz_uI_n (by omega))
theorem Dk_mu {B : Nat → Nat → Bool} {pr : Bool} {id : Option (Nat × Nat)} {Sx Sm : rz_S} {j : Nat} {x : Int32} (hD : Dk B pr id Sx Sm) (hj : 4 ≤ j) : Dk B pr id Sx (rz_uI Sm 116 j x) := Dk_m hD (fun _ _ _ => rfl) (fun z hz => rz_uI_n (by omega))
/-- both rows of the DIRECTORY are one and the same, of bytes -/
def Dr (Sx Sm : rz_S) : Prop := ∀ k, k < 64 → Sx.1 47 k = Sm.1 124 k ∧ byt (Sx.1 47 k)
/-- what a search ends with: a fault, an ENTRY, or none -/
def fdE (B : Nat → Nat → Bool) (pr : Bool) (Sx Sm : rz_S) (x : Int32) (Sx1 : rz_S) (y : Int32) (Sm1 : rz_S) : Prop := fdX Sx Sx1 ∧ fdM Sm Sm1 ∧ (∃ id', Dk B pr id' Sx1 Sm1) ∧
  ((∃ xc : Nat, xc ≠ 0 ∧ (xc < 100 ∧ (xc = 0 ∨ xc = 1 ∨ 20 ≤ xc ∧ xc ≤ 26 ∨ xc = 28 ∨ 30 ≤ xc ∧ xc ≤ 34 ∨ 60 ≤ xc ∧ xc ≤ 66 ∨ 70 ≤ xc ∧ xc ≤ 74)) ∧ x = nI xc ∧ y = nI xc ∧ flt xc Sx1 Sm1 ∧ Sx1.2 46 5 = 0 ∧ Sx1.2 3 3 = Sx.2 3 3) ∨
   ((∀ z, Sx1.2 3 z = Sx.2 3 z) ∧ x = 0 ∧ Dr Sx1 Sm1 ∧ ∃ t s k : Nat, 1 ≤ t ∧ t ≤ 12 ∧ s < sct t ∧ 1 ≤ k ∧ k ≤ 6 ∧ Sx1.2 46 1 = nI t ∧ Sx1.2 46 2 = nI s ∧ Sx1.2 46 3 = nI k ∧ Sm1.2 116 30 = nI t ∧ Sm1.2 116 31 = nI s ∧ Sm1.2 116 32 = nI k ∧
     ((y = 0 ∧ Sx1.2 46 5 = 1 ∧ Sm1.2 116 27 = nI t ∧ Sm1.2 116 28 = nI s ∧ ∃ e, e < 4 ∧ Sx1.2 46 4 = nI e ∧ Sm1.2 116 29 = nI e) ∨
      (y = -1 ∧ Sx1.2 46 5 = 0 ∧ (Sx1.1 47 0 = 0 ∨ k = 6)))))
/-- where a search stands, within a block -/
def fdS (B : Nat → Nat → Bool) (pr : Bool) (Sx Sm : rz_S) (t s k : Nat) (Tx Tm : rz_S) : Prop := (fdX Sx Tx) ∧ (fdM Sm Tm) ∧ (∃ id', Dk B pr id' Tx Tm) ∧ (∀ z, Tx.2 3 z = Sx.2 3 z) ∧ (Tx.2 46 5 = 0) ∧ (Tx.2 46 1 = nI t) ∧ (Tx.2 46 2 = nI s) ∧ (Tx.2 46 3 = nI k) ∧ (Tm.2 116 32 = nI k) ∧ (1 ≤ t) ∧ (t ≤ 12) ∧ (s < sct t) ∧ (1 ≤ k) ∧ (k ≤ 6)
theorem fdS.fx {B : Nat → Nat → Bool} {pr : Bool} {Sx Sm : rz_S} {t s k : Nat} {Tx Tm : rz_S} (h : fdS B pr Sx Sm t s k Tx Tm) : fdX Sx Tx := h.1
theorem fdS.fm {B : Nat → Nat → Bool} {pr : Bool} {Sx Sm : rz_S} {t s k : Nat} {Tx Tm : rz_S} (h : fdS B pr Sx Sm t s k Tx Tm) : fdM Sm Tm := h.2.1
theorem fdS.dk {B : Nat → Nat → Bool} {pr : Bool} {Sx Sm : rz_S} {t s k : Nat} {Tx Tm : rz_S} (h : fdS B pr Sx Sm t s k Tx Tm) : ∃ id', Dk B pr id' Tx Tm := h.2.2.1
theorem fdS.st {B : Nat → Nat → Bool} {pr : Bool} {Sx Sm : rz_S} {t s k : Nat} {Tx Tm : rz_S} (h : fdS B pr Sx Sm t s k Tx Tm) : ∀ z, Tx.2 3 z = Sx.2 3 z := h.2.2.2.1
theorem fdS.f5 {B : Nat → Nat → Bool} {pr : Bool} {Sx Sm : rz_S} {t s k : Nat} {Tx Tm : rz_S} (h : fdS B pr Sx Sm t s k Tx Tm) : Tx.2 46 5 = 0 := h.2.2.2.2.1
theorem fdS.x1 {B : Nat → Nat → Bool} {pr : Bool} {Sx Sm : rz_S} {t s k : Nat} {Tx Tm : rz_S} (h : fdS B pr Sx Sm t s k Tx Tm) : Tx.2 46 1 = nI t := h.2.2.2.2.2.1
theorem fdS.x2 {B : Nat → Nat → Bool} {pr : Bool} {Sx Sm : rz_S} {t s k : Nat} {Tx Tm : rz_S} (h : fdS B pr Sx Sm t s k Tx Tm) : Tx.2 46 2 = nI s := h.2.2.2.2.2.2.1
theorem fdS.x3 {B : Nat → Nat → Bool} {pr : Bool} {Sx Sm : rz_S} {t s k : Nat} {Tx Tm : rz_S} (h : fdS B pr Sx Sm t s k Tx Tm) : Tx.2 46 3 = nI k := h.2.2.2.2.2.2.2.1
theorem fdS.m3 {B : Nat → Nat → Bool} {pr : Bool} {Sx Sm : rz_S} {t s k : Nat} {Tx Tm : rz_S} (h : fdS B pr Sx Sm t s k Tx Tm) : Tm.2 116 32 = nI k := h.2.2.2.2.2.2.2.2.1
theorem fdS.t1 {B : Nat → Nat → Bool} {pr : Bool} {Sx Sm : rz_S} {t s k : Nat} {Tx Tm : rz_S} (h : fdS B pr Sx Sm t s k Tx Tm) : 1 ≤ t := h.2.2.2.2.2.2.2.2.2.1
theorem fdS.t2 {B : Nat → Nat → Bool} {pr : Bool} {Sx Sm : rz_S} {t s k : Nat} {Tx Tm : rz_S} (h : fdS B pr Sx Sm t s k Tx Tm) : t ≤ 12 := h.2.2.2.2.2.2.2.2.2.2.1
theorem fdS.s1 {B : Nat → Nat → Bool} {pr : Bool} {Sx Sm : rz_S} {t s k : Nat} {Tx Tm : rz_S} (h : fdS B pr Sx Sm t s k Tx Tm) : s < sct t := h.2.2.2.2.2.2.2.2.2.2.2.1
theorem fdS.k1 {B : Nat → Nat → Bool} {pr : Bool} {Sx Sm : rz_S} {t s k : Nat} {Tx Tm : rz_S} (h : fdS B pr Sx Sm t s k Tx Tm) : 1 ≤ k := h.2.2.2.2.2.2.2.2.2.2.2.2.1
theorem fdS.k6 {B : Nat → Nat → Bool} {pr : Bool} {Sx Sm : rz_S} {t s k : Nat} {Tx Tm : rz_S} (h : fdS B pr Sx Sm t s k Tx Tm) : k ≤ 6 := h.2.2.2.2.2.2.2.2.2.2.2.2.2
section FIND
variable {B : Nat → Nat → Bool} {pr : Bool} {Sx Sm : rz_S} {kd p n b nb q : Nat}
theorem fdS_u {t s k j : Nat} {x : Int32} {Tx Tm : rz_S} (h : fdS B pr Sx Sm t s k Tx Tm) (hj : j = 4 ∨ j = 6) : fdS B pr Sx Sm t s k (rz_uI Tx 46 j x) Tm := by
  obtain ⟨id', d⟩ := h.dk
  exact ⟨fdX_t h.fx fdX_u, h.fm, ⟨id', Dk_xu d (by omega)⟩, fun z => (rz_uI_n (by omega)).trans (h.st z), (rz_uI_n (by omega)).trans h.f5, (rz_uI_n (by omega)).trans h.x1, (rz_uI_n (by omega)).trans h.x2, (rz_uI_n (by omega)).trans h.x3, h.m3, h.t1, h.t2, h.s1, h.k1, h.k6⟩
theorem fdS_go {t s k u v : Nat} {Tx Tm : rz_S} (h : fdS B pr Sx Sm t s k Tx Tm) (hk : k < 6) (u1 : 1 ≤ u) (u2 : u ≤ 12) (hv : v < sct u) : fdS B pr Sx Sm u v (k + 1) (rz_uI (rz_uI (rz_uI (rz_uI (rz_uI Tx 46 1 (nI u)) 46 2 (nI v)) 46 3 (nI (k + 1))) 46 4 (-1)) 46 6 0) (rz_uI Tm 116 32 (nI (k + 1))) := by
  obtain ⟨id', d⟩ := h.dk
  refine ⟨fdX_t h.fx (fdX_t fdX_u (fdX_t fdX_u (fdX_t fdX_u (fdX_t fdX_u fdX_u)))), fdM_t h.fm (fdM_u (by omega)), ⟨id', Dk_mu (Dk_xu (Dk_xu (Dk_xu (Dk_xu (Dk_xu d (by omega)) (by omega)) (by omega)) (by omega)) (by omega)) (by omega)⟩, fun z => ?_, ?_, ?_, ?_, ?_, rz_uI_s, u1, u2, hv, by omega, by omega⟩
  · rw [rz_uI_n (by omega), rz_uI_n (by omega), rz_uI_n (by omega), rz_uI_n (by omega), rz_uI_n (by omega)]
    exact h.st z
  · rw [rz_uI_n (by omega), rz_uI_n (by omega), rz_uI_n (by omega), rz_uI_n (by omega), rz_uI_n (by omega)]
    exact h.f5
  · rw [rz_uI_n (by omega), rz_uI_n (by omega), rz_uI_n (by omega), rz_uI_n (by omega), rz_uI_s]
  · rw [rz_uI_n (by omega), rz_uI_n (by omega), rz_uI_n (by omega), rz_uI_s]
  · rw [rz_uI_n (by omega), rz_uI_n (by omega), rz_uI_s]
theorem c_Directory_isLast {S : rz_S} {k : Nat} (hk : k ≤ 6) (h : S.2 46 3 = nI k) : rz_ev mDirectory_isLast [.ref 46] S (rz_i (fun x S1 => x = (if S.1 47 0 = 0 then 1 else if k = 6 then 1 else 0) ∧ S1 = S)) := by
  show rz _ 0 [(0, .ref 46)] [] _ _
  refine p_Directory_isLast_0 ⟨fun c => ⟨by rw [if_pos c], rfl⟩, fun c => ?_⟩
  rw [if_neg c]
  show rz_ev _ _ _ _
  have hf : rz_ev mDirectory_isFull [.ref 46] S (rz_i (fun x S1 => x = (if k = 6 then 1 else 0) ∧ S1 = S)) := by
    show rz _ 0 [(0, .ref 46)] [] _ _
    refine p_Directory_isFull_0 ?_
    rw [h]
    refine ⟨fun c => ⟨?_, rfl⟩, fun c => ⟨?_, rfl⟩⟩
    · have := (nI_ltI (b := 6) (by omega) (by omega)).mp c
      rw [if_neg (by omega)]
    · have : ¬ k < 6 := fun z => c (nI_lt (b := 6) z (by omega))
      rw [if_pos (by omega)]
  refine rz_toI hf ?_
  by_cases e : k = 6
  · rw [if_pos e]
    exact ⟨fun z => absurd z (by decide), fun _ => ⟨rfl, rfl⟩⟩
  · rw [if_neg e]
    exact ⟨fun _ => ⟨rfl, rfl⟩, fun z => absurd rfl z⟩
/-- what a search asks of the two PATTERNs -/
def fdP (Sx Sm : rz_S) (kd p n b nb q : Nat) : Prop := (kd < 3) ∧ (ptP p) ∧ (n ≤ 10) ∧ (Sx.2 p 1 = nI n) ∧ (rz_T[b]? = some (.inl (0, nb))) ∧ (nb < 2 ^ 20) ∧ (kd ≠ 2 → q + n ≤ nb) ∧ (kd ≠ 2 → ∀ i, i < n → Sx.1 (p + 1) i = Sm.1 b (q + i)) ∧ (38 < p ∧ p ≠ 46) ∧ (¬ (118 ≤ b ∧ b ≤ 121) ∧ b ≠ 124)
theorem fdP.kd3 {Sx Sm : rz_S} {kd p n b nb q : Nat} (h : fdP Sx Sm kd p n b nb q) : kd < 3 := h.1
theorem fdP.pt {Sx Sm : rz_S} {kd p n b nb q : Nat} (h : fdP Sx Sm kd p n b nb q) : ptP p := h.2.1
theorem fdP.n10 {Sx Sm : rz_S} {kd p n b nb q : Nat} (h : fdP Sx Sm kd p n b nb q) : n ≤ 10 := h.2.2.1
theorem fdP.len {Sx Sm : rz_S} {kd p n b nb q : Nat} (h : fdP Sx Sm kd p n b nb q) : Sx.2 p 1 = nI n := h.2.2.2.1
theorem fdP.bT {Sx Sm : rz_S} {kd p n b nb q : Nat} (h : fdP Sx Sm kd p n b nb q) : rz_T[b]? = some (.inl (0, nb)) := h.2.2.2.2.1
theorem fdP.bN {Sx Sm : rz_S} {kd p n b nb q : Nat} (h : fdP Sx Sm kd p n b nb q) : nb < 2 ^ 20 := h.2.2.2.2.2.1
theorem fdP.qn {Sx Sm : rz_S} {kd p n b nb q : Nat} (h : fdP Sx Sm kd p n b nb q) : kd ≠ 2 → q + n ≤ nb := h.2.2.2.2.2.2.1
theorem fdP.same {Sx Sm : rz_S} {kd p n b nb q : Nat} (h : fdP Sx Sm kd p n b nb q) : kd ≠ 2 → ∀ i, i < n → Sx.1 (p + 1) i = Sm.1 b (q + i) := h.2.2.2.2.2.2.2.1
theorem fdP.p1 {Sx Sm : rz_S} {kd p n b nb q : Nat} (h : fdP Sx Sm kd p n b nb q) : 38 < p ∧ p ≠ 46 := h.2.2.2.2.2.2.2.2.1
theorem fdP.b1 {Sx Sm : rz_S} {kd p n b nb q : Nat} (h : fdP Sx Sm kd p n b nb q) : ¬ (118 ≤ b ∧ b ≤ 121) ∧ b ≠ 124 := h.2.2.2.2.2.2.2.2.2
theorem fd_in (hP : fdP Sx Sm kd p n b nb q) {t s k : Nat} (hOut : k < 6 → ∀ (t' s' : Nat) (Tx Tm : rz_S), fdS B pr Sx Sm t' s' (k + 1) Tx Tm → Tx.2 46 4 = -1 → Tx.2 46 6 = 0 → ∀ K : Int32 → rz_S → Prop, (∀ x Sx1, rz mM_finds 12 [(0, .ref 116), (1, .int (nI kd)), (2, .ref b), (3, .int (nI q)), (4, .int (nI n)), (5, .int (nI t')), (6, .int (nI s'))] [] Tm (rz_i (fdE B pr Sx Sm x Sx1)) → K x Sx1) → rz mDirectory_find 7 [(0, .ref 46), (1, .int (nI kd)), (2, .ref p), (3, .int (nI (5 * k)))] [] Tx (rz_i K)) :
    ∀ (w e : Nat) (Tx Tm : rz_S), w + e = 4 → fdS B pr Sx Sm t s k Tx Tm → Dr Tx Tm → Tx.2 46 4 + 1 = nI e → Tm.2 116 30 = nI t → Tm.2 116 31 = nI s → ∀ K : Int32 → rz_S → Prop, (∀ x Sx1, rz mM_finds 80 [(0, .ref 116), (1, .int (nI kd)), (2, .ref b), (3, .int (nI q)), (4, .int (nI n)), (5, .int (nI t)), (6, .int (nI s)), (8, .int (nI e))] [] Tm (rz_i (fdE B pr Sx Sm x Sx1)) → K x Sx1) → rz mDirectory_find 43 [(0, .ref 46), (1, .int (nI kd)), (2, .ref p), (3, .int (nI (5 * (k - 1) + e)))] [.int 0] Tx (rz_i K) := by
  have hp := hP.pt
  intro w
  induction w with
  | zero =>
    intro e Tx Tm he hS hR h4 m30 m31 K hK
    have e4 : e = 4 := by omega
    subst e4
    have hk6 := hS.k6
    have hk1 := hS.k1
    have hS2 : fdS B pr Sx Sm t s k (rz_uI (rz_uI Tx 46 6 1) 46 4 (nI 4)) Tm := fdS_u (fdS_u hS (Or.inr rfl)) (Or.inl rfl)
    refine p_Directory_find_43 hp ⟨fun _ => ⟨fun _ => ?_, fun c => absurd (by rw [h4]; decide) c⟩, fun z => absurd rfl z⟩
    rw [h4]
    refine rz_toI (c_Directory_isLast hk6 hS2.x3) ?_
    show (_ → _) ∧ (_ → _)
    have r0 : (rz_uI (rz_uI Tx 46 6 1) 46 4 (nI 4)).1 47 = Tx.1 47 := rfl
    have r1 := hR 0 (by omega)
    have r2 := hR 1 (by omega)
    rw [r0]
    by_cases z0 : Tx.1 47 0 = 0
    · rw [if_pos z0]
      refine ⟨fun z => absurd z (by decide), fun _ => hK 0 _ (p_M_finds_80 hP.bT ⟨fun _ => ⟨fun _ => ?_, fun c => absurd (r1.1 ▸ z0) c⟩, fun c => absurd (by decide) c⟩)⟩
      exact ⟨hS2.fx, hS2.fm, hS2.dk, Or.inr ⟨hS2.st, rfl, hR, t, s, k, hS.t1, hS.t2, hS.s1, hk1, hk6, hS2.x1, hS2.x2, hS2.x3, m30, m31, hS.m3, Or.inr ⟨rfl, hS2.f5, Or.inl z0⟩⟩⟩
    · rw [if_neg z0]
      have z1 : ¬ Tm.1 124 0 = 0 := fun c => z0 (r1.1.trans c)
      by_cases k6 : k = 6
      · rw [if_pos k6]
        refine ⟨fun z => absurd z (by decide), fun _ => hK 0 _ (p_M_finds_80 hP.bT ⟨fun _ => ⟨fun c => absurd c z1, fun _ => p_M_finds_12 hP.bT ⟨fun _ => ?_, fun c => absurd ?_ c⟩⟩, fun c => absurd (by decide) c⟩)⟩
        · obtain ⟨id', d⟩ := hS2.dk
          refine ⟨hS2.fx, fdM_t (fdM_t hS2.fm (fdM_u (by omega))) (fdM_u (by omega)), ⟨id', Dk_mu (Dk_mu d (by omega)) (by omega)⟩, Or.inr ⟨hS2.st, rfl, hR, t, s, k, hS.t1, hS.t2, hS.s1, hk1, hk6, hS2.x1, hS2.x2, hS2.x3, m30, m31, ?_, Or.inr ⟨rfl, hS2.f5, Or.inr k6⟩⟩⟩
          rw [k6]
          exact rz_uI_s
        · rw [rz_uI_s, hS.m3, k6]
          decide
      · rw [if_neg k6]
        have hk5 : k < 6 := by omega
        have m32 : (rz_uI Tm 116 32 (Tm.2 116 32 + 1)).2 116 32 = nI (k + 1) := by rw [rz_uI_s, hS.m3, nI_1]
        refine ⟨fun _ => rz_toI (c_Disk_legal _ _) ?_, fun z => absurd rfl z⟩
        have hK2 : ∀ x Sx1, rz mM_finds 12 [(0, .ref 116), (1, .int (nI kd)), (2, .ref b), (3, .int (nI q)), (4, .int (nI n)), (5, .int (Tm.1 124 0)), (6, .int (Tm.1 124 1))] [] (rz_uI Tm 116 32 (Tm.2 116 32 + 1)) (rz_i (fdE B pr Sx Sm x Sx1)) → K x Sx1 := fun x Sx1 h => hK x Sx1 (p_M_finds_80 hP.bT ⟨fun _ => ⟨fun c => absurd c z1, fun _ => h⟩, fun c => absurd (by decide) c⟩)
        rw [← r1.1, ← r2.1] at hK2
        show (lgI (Tx.1 47 0) (Tx.1 47 1) = 0 → _) ∧ (¬ lgI (Tx.1 47 0) (Tx.1 47 1) = 0 → _)
        refine ⟨fun c => rz_toI (c_Status_set _ _ _) (hK2 _ _ (p_M_finds_12 hP.bT ⟨fun d => ?_, fun _ => rz_toI (c_M_legal _ _) ⟨fun _ => rz_toI (c_M_fault _ _ _) ?_, fun d => absurd c d⟩⟩)), fun c => ?_⟩
        · rw [m32] at d
          have := (nI_ltI (a := 6) (by omega) (by omega)).mp d
          omega
        · obtain ⟨id', d⟩ := hS2.dk
          obtain ⟨_, b1⟩ := r1
          obtain ⟨_, b2⟩ := r2
          obtain ⟨u, hu, eu⟩ := b1
          obtain ⟨v, hv, ev⟩ := b2
          refine ⟨fdX_t hS2.fx (fdX_rF rF_s), fdM_t (fdM_t (fdM_t hS2.fm (fdM_u (by omega))) (fdM_u (by omega))) (fdM_u (by omega)), ⟨id', Dk_mu (Dk_mu (Dk_mu ?_ (by omega)) (by omega)) (by omega)⟩, Or.inl ⟨71, by omega, by omega, rfl, rfl, ⟨u, v, ?_, ?_, ?_⟩, ?_, ?_⟩⟩
          · exact Dk_xu (Dk_xu (Dk_xu (Dk_xu (Dk_xu d (by omega)) (by omega)) (by omega)) (by omega)) (by omega)
          · show stIs (st_set _ 71 (Tx.1 47 0) (Tx.1 47 1)) 71 u v
            rw [eu, ev]
            exact st_set_is
          · rw [rz_uI_n (by omega), rz_uI_s]
            exact eu
          · rw [rz_uI_s]
            exact ev
          · exact hS2.f5
          · exact hS2.st 3
        · obtain ⟨u, v, u1, u2, hv, eu, ev⟩ := lgI_1 c
          have hgo : ∀ S a1 a2 a3 a4, rz_ev mDirectory_goTo [.ref 46, .int a1, .int a2, .int a3, .int a4] S (rz_v (fun S1 => S1 = rz_uI (rz_uI (rz_uI (rz_uI (rz_uI S 46 1 a1) 46 2 a2) 46 3 a3) 46 4 a4) 46 6 0)) := fun S a1 a2 a3 a4 => by
            show rz _ 0 [(0, .ref 46), (1, .int a1), (2, .int a2), (3, .int a3), (4, .int a4)] [] _ _
            exact p_Directory_goTo_0 rfl
          refine rz_toV (hgo _ _ _ _ _) ?_
          show rz mDirectory_find 7 [(0, .ref 46), (1, .int (nI kd)), (2, .ref p), (3, .int (nI (5 * (k - 1) + 4) + 1))] [] (rz_uI (rz_uI (rz_uI (rz_uI (rz_uI (rz_uI (rz_uI Tx 46 6 1) 46 4 (nI 4)) 46 1 (Tx.1 47 0)) 46 2 (Tx.1 47 1)) 46 3 ((rz_uI (rz_uI Tx 46 6 1) 46 4 (nI 4)).2 46 3 + 1)) 46 4 (-1)) 46 6 0) (rz_i K)
          have e5 : nI (5 * (k - 1) + 4) + 1 = nI (5 * k) := by rw [nI_1, show 5 * (k - 1) + 4 + 1 = 5 * k by omega]
          have e3 : (rz_uI (rz_uI Tx 46 6 1) 46 4 (nI 4)).2 46 3 + 1 = nI (k + 1) := by rw [hS2.x3, nI_1]
          have e6 : Tm.2 116 32 + 1 = nI (k + 1) := by rw [hS.m3, nI_1]
          rw [e5, e3, eu, ev]
          rw [eu, ev, e6] at hK2
          exact hOut hk5 u v _ _ (fdS_go hS2 hk5 u1 u2 hv) (by rw [rz_uI_n (by omega), rz_uI_s]) rz_uI_s K hK2
  | succ w ih =>
    intro e Tx Tm he hS hR h4 m30 m31 K hK
    have hk6 := hS.k6
    have hk1 := hS.k1
    have hS2 : fdS B pr Sx Sm t s k (rz_uI (rz_uI Tx 46 6 1) 46 4 (nI e)) Tm := fdS_u (fdS_u hS (Or.inr rfl)) (Or.inl rfl)
    refine p_Directory_find_43 hp ⟨fun _ => ⟨fun c => ?_, fun _ => ?_⟩, fun z => absurd rfl z⟩
    · rw [h4] at c
      have := (nI_leI (a := 4) (by omega) (by omega)).mp c
      omega
    rw [h4]
    have hl : (rz_uI (rz_uI Tx 46 6 1) 46 4 (nI e)).2 p 1 = nI n := (hS2.fx.2 p 1 (by have := hP.p1; omega) (by have := hP.p1; omega) (by have := hP.p1; omega) (by have := hP.p1; omega)).trans hP.len
    refine rz_toI (c_Directory_isWanted hP.kd3 hp hP.n10 hl (by omega) rz_uI_s) ?_
    have hw : wnt kd ((rz_uI (rz_uI Tx 46 6 1) 46 4 (nI e)).1 (p + 1)) n ((rz_uI (rz_uI Tx 46 6 1) 46 4 (nI e)).1 47) e = wnt kd (fun i => Tm.1 b (q + i)) n (Tm.1 124) e := by
      refine wnt_c (by omega) hP.n10 (fun k2 i hi => ?_) (fun i hi => (hR i hi).1)
      show Tx.1 (p + 1) i = Tm.1 b (q + i)
      rw [hS.fx.1 (p + 1) (by have := hP.p1; omega) (by have := hP.p1; omega), hS.fm.1 b hP.b1.1 hP.b1.2]
      exact hP.same k2 i hi
    rw [hw]
    have hK2 : ∀ x Sx1, rz mM_finds 177 [(0, .ref 116), (1, .int (nI kd)), (2, .ref b), (3, .int (nI q)), (4, .int (nI n)), (5, .int (nI t)), (6, .int (nI s)), (8, .int (nI e))] [.int (nI (wnt kd (fun i => Tm.1 b (q + i)) n (Tm.1 124) e).toNat)] Tm (rz_i (fdE B pr Sx Sm x Sx1)) → K x Sx1 := fun x Sx1 h => hK x Sx1 (s_M_finds hP.kd3 hP.bT hP.bN (fun k2 => ⟨hP.n10, hP.qn k2⟩) (by omega) h)
    cases hz : wnt kd (fun i => Tm.1 b (q + i)) n (Tm.1 124) e with
    | false =>
      rw [hz] at hK2
      refine ⟨fun _ => ?_, fun c => absurd rfl c⟩
      rw [show (nI (5 * (k - 1) + e) + 1 : Int32) = nI (5 * (k - 1) + (e + 1)) from nI_1 _]
      refine p_Directory_find_7 hp ⟨fun c => ?_, fun _ => ⟨fun c => ?_, fun _ => ?_⟩⟩
      · have := (nI_leI (a := 30) (by omega) (by omega)).mp c
        omega
      · exact absurd c (by rw [rz_uI_n (by omega), rz_uI_s]; decide)
      · refine ih (e + 1) _ Tm (by omega) hS2 hR ?_ m30 m31 K (fun x Sx1 h => hK2 x Sx1 (p_M_finds_177 hP.bT ⟨fun _ => ?_, fun c => absurd rfl c⟩))
        · rw [rz_uI_s, nI_1]
        · rw [nI_1]
          exact h
    | true =>
      rw [hz] at hK2
      refine ⟨fun c => absurd c (by decide), fun _ => hK2 0 _ (p_M_finds_177 hP.bT ⟨fun c => absurd c (by decide), fun _ => ?_⟩)⟩
      obtain ⟨id', d⟩ := hS2.dk
      refine ⟨fdX_t hS2.fx fdX_u, fdM_t (fdM_t (fdM_t hS2.fm (fdM_u (by omega))) (fdM_u (by omega))) (fdM_u (by omega)), ⟨id', Dk_mu (Dk_mu (Dk_mu (Dk_xu d (by omega)) (by omega)) (by omega)) (by omega)⟩, Or.inr ⟨fun z => (rz_uI_n (by omega)).trans (hS2.st z), rfl, hR, t, s, k, hS.t1, hS.t2, hS.s1, hk1, hk6, (rz_uI_n (by omega)).trans hS2.x1, (rz_uI_n (by omega)).trans hS2.x2, (rz_uI_n (by omega)).trans hS2.x3, m30, m31, hS.m3, Or.inl ⟨rfl, rz_uI_s, rfl, rfl, e, by omega, rfl, rz_uI_s⟩⟩⟩
theorem fd_out (hP : fdP Sx Sm kd p n b nb q) : ∀ (w k t s : Nat) (Tx Tm : rz_S), w + k = 7 → fdS B pr Sx Sm t s k Tx Tm → Tx.2 46 4 = -1 → Tx.2 46 6 = 0 → ∀ K : Int32 → rz_S → Prop, (∀ x Sx1, rz mM_finds 12 [(0, .ref 116), (1, .int (nI kd)), (2, .ref b), (3, .int (nI q)), (4, .int (nI n)), (5, .int (nI t)), (6, .int (nI s))] [] Tm (rz_i (fdE B pr Sx Sm x Sx1)) → K x Sx1) → rz mDirectory_find 7 [(0, .ref 46), (1, .int (nI kd)), (2, .ref p), (3, .int (nI (5 * (k - 1))))] [] Tx (rz_i K) := by
  have hp := hP.pt
  intro w
  induction w with
  | zero => intro k t s Tx Tm h hS; have := hS.k6; omega
  | succ w ih =>
    intro k t s Tx Tm h hS h4 h6 K hK
    have hk6 := hS.k6
    have hk1 := hS.k1
    have hsb := sct_b hS.t1 hS.t2
    obtain ⟨id', d⟩ := hS.dk
    obtain ⟨x, Ux, y, Um, e1, e2, rfl, xc, id2, ex, x100, D2, f1, f2, o1, n1⟩ := PR_read (a := 47) (a' := 124) (at0 := 0) (na := 64) (s := s) d hS.t1 hS.t2 (by have := hS.s1; omega) rfl (by omega) rfl (by omega) (by omega) (by omega)
    refine p_Directory_find_7 hp ⟨fun c => ?_, fun _ => ⟨fun _ => ?_, fun c => absurd h6 c⟩⟩
    · have := (nI_leI (a := 30) (by omega) (by omega)).mp c
      omega
    rw [hS.x1, hS.x2]
    refine rzx_I e1 ?_
    have hK2 : ∀ z Sx1, ((x = 0 → rz mM_finds 80 [(0, .ref 116), (1, .int (nI kd)), (2, .ref b), (3, .int (nI q)), (4, .int (nI n)), (5, .int (nI t)), (6, .int (nI s)), (8, .int 0)] [] (rz_uI (rz_uI Um 116 30 (nI t)) 116 31 (nI s)) (rz_i (fdE B pr Sx Sm z Sx1))) ∧ (¬ x = 0 → fdE B pr Sx Sm z Sx1 x Um)) → K z Sx1 := fun z Sx1 hh => hK z Sx1 (p_M_finds_12 hP.bT ⟨fun c => by
        rw [hS.m3] at c
        have := (nI_ltI (a := 6) (by omega) (by omega)).mp c
        omega, fun _ => rz_toI (c_M_legal _ _) ⟨fun c => absurd c (by rw [lgI_y hS.t1 hS.t2 hS.s1]; decide), fun _ => rzx_I e2 hh⟩⟩)
    have gx : fdX Sx Ux := fdX_t hS.fx (fdX_rF f1)
    have gm : fdM Sm Um := fdM_t hS.fm (fdM_kFa f2)
    have f46 : ∀ z, Ux.2 46 z = Tx.2 46 z := fun z => f1.2 46 z (by omega) (by omega) (by omega)
    have m32 : Um.2 116 32 = nI k := (f2.2.2 116 32 (by omega)).trans hS.m3
    by_cases x0 : xc = 0
    · subst x0
      subst ex
      obtain ⟨⟨dd, hd⟩, hst⟩ := o1 rfl
      have hS2 : fdS B pr Sx Sm t s k Ux (rz_uI (rz_uI Um 116 30 (nI t)) 116 31 (nI s)) := ⟨gx, fdM_t (fdM_t gm (fdM_u (by omega))) (fdM_u (by omega)), ⟨id2, Dk_mu (Dk_mu D2 (by omega)) (by omega)⟩, fun z => (hst z).trans (hS.st z), (f46 5).trans hS.f5, (f46 1).trans hS.x1, (f46 2).trans hS.x2, (f46 3).trans hS.x3, m32, hS.t1, hS.t2, hS.s1, hk1, hk6⟩
      have := fd_in hP (t := t) (s := s) (k := k) (B := B) (pr := pr) (fun k5 t' s' Vx Vm hV v4 v6 K' hK' => by
        have q := ih (k + 1) t' s' Vx Vm (by omega) hV v4 v6 K' hK'
        rw [show 5 * (k + 1 - 1) = 5 * k by omega] at q
        exact q) 4 0 Ux _ rfl hS2 (fun i hi => ⟨by
          have := hd i hi
          rw [Nat.zero_add] at this
          exact this.1.trans this.2.1.symm, ⟨dd i, (hd i hi).2.2, (hd i hi).1⟩⟩) (by rw [f46, h4]; rfl) rfl rfl K (fun z Sx1 hh => hK2 z Sx1 ⟨fun _ => hh, fun c => absurd rfl c⟩)
      exact this
    · have xne : ¬ x = 0 := by rw [ex]; exact nI_ne0 (by omega) (by omega)
      obtain ⟨_, _, hfl, h33⟩ := n1 x0
      refine p_Directory_find_43 hp ⟨fun c => absurd c xne, fun _ => hK2 x Ux ⟨fun c => absurd c xne, fun _ => ?_⟩⟩
      exact ⟨gx, gm, ⟨id2, D2⟩, Or.inl ⟨xc, x0, x100, ex, ex, hfl, (f46 5).trans hS.f5, h33.trans (hS.st 3)⟩⟩
/-- the search from the DIRECTORY's start -/
theorem PR_find (hP : fdP Sx Sm kd p n b nb q) {id : Option (Nat × Nat)} (hD : Dk B pr id Sx Sm) (h1 : Sx.2 46 1 = 7) (h2 : Sx.2 46 2 = 1) (h3 : Sx.2 46 3 = 1) (h4 : Sx.2 46 4 = -1) (h6 : Sx.2 46 6 = 0) : PCi mDirectory_find mM_finds [.ref 46, .int (nI kd), .ref p] [.ref 116, .int (nI kd), .ref b, .int (nI q), .int (nI n)] Sx Sm (fdE B pr Sx Sm) := by
  refine PCi_of (fun K hK => ?_)
  show rz _ 0 [(0, .ref 46), (1, .int (nI kd)), (2, .ref p)] [] _ _
  refine p_Directory_find_0 hP.pt ?_
  refine fd_out hP 6 1 7 1 (rz_uI Sx 46 5 0) (rz_uI Sm 116 32 1) rfl ⟨fdX_u, fdM_u (by omega), ⟨id, Dk_mu (Dk_xu hD (by omega)) (by omega)⟩, fun z => rz_uI_n (by omega), rz_uI_s, (rz_uI_n (by omega)).trans h1, (rz_uI_n (by omega)).trans h2, (rz_uI_n (by omega)).trans h3, rz_uI_s, by omega, by omega, by decide, by omega, by omega⟩ ((rz_uI_n (by omega)).trans h4) ((rz_uI_n (by omega)).trans h6) K (fun x Sx1 hh => hK x Sx1 ?_)
  show rz _ 0 [(0, .ref 116), (1, .int (nI kd)), (2, .ref b), (3, .int (nI q)), (4, .int (nI n))] [] _ _
  exact p_M_finds_0 hP.bT hh
end FIND
