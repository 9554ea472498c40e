/-! every call keeps the relation -/
theorem feed2 {S : rz_S} {P : rz_S → Prop} {n : Nat} (hn : n ≤ 400) (e1 : sTape_count S = nI n) (e2 : sM_taped S = nI n) (h : ∀ j, j < n → aTape_row S j = aM_tape S j &&& 255) (hP0 : P S) (hP : ∀ a b c d e, n + 20 ≤ 400 → R_tape (feedM (feedX S n a b c d e) n a b c d e) → P (feedM (feedX S n a b c d e) n a b c d e)) (a b c d e : Int32) : rd_two mX_feed mM_feed [.int a, .int b, .int c, .int d, .int e] S P := by
  refine rz_weak (c_X_feed hn e1 a b c d e) (fun r S1 q => ?_)
  obtain ⟨x, rfl, ⟨h1, rfl, rfl⟩ | ⟨h1, rfl, rfl⟩⟩ := q
  · refine ⟨_, rfl, rz_weak (c_M_feed hn e2 a b c d e) (fun r S2 q => ?_)⟩
    obtain ⟨y, rfl, ⟨h2, rfl, rfl⟩ | ⟨h2, rfl, rfl⟩⟩ := q
    · exact ⟨_, rfl, rfl, hP0⟩
    · omega
  · refine ⟨_, rfl, rz_weak (c_M_feed (S := feedX S n a b c d e) hn e2 a b c d e) (fun r S2 q => ?_)⟩
    obtain ⟨y, rfl, ⟨h2, rfl, rfl⟩ | ⟨h2, rfl, rfl⟩⟩ := q
    · omega
    · exact ⟨_, rfl, rfl, hP a b c d e h1 (fd_tape h1 h a b c d e)⟩
/-- a state that agrees with another one but for the TAPE -/
theorem RR_tape {k m m' M : Nat} {S S' : rz_S} {B : Nat → Nat → Bool} {pr : Bool} {id : Option (Nat × Nat)} (hb : M + m' ≤ 20 * k) (hT : Tpe m' S' S') (a : ∀ p, p ≠ 2 → p ≠ 150 → S'.1 p = S.1 p) (b : ∀ u z, ¬ (u = 1 ∧ z = 1) → ¬ (u = 116 ∧ z = 64) → S'.2 u z = S.2 u z) (h3 : Dk B pr id S S) (h4 : stT S S) (h5 : rpR S S) (h6 : ouR S S) (h7 : cpR S S) (h8 : ∀ c, c < 15 → Chn M c S S) (h9 : S.2 113 1 = 1 ∧ S.1 114 0 = 42) : RR k S' S' := ⟨m', M, B, pr, id, hT, hb, Dk_m (Dk_x h3 (fun q _ _ => a q (by omega) (by omega)) (fun u z hu => b u z (by omega) (by omega))) (fun q _ _ => a q (by omega) (by omega)) (fun z hz => b 116 z (by omega) (by omega)), stT_c (V := S) (W := S) (a 4 (by omega) (by omega)) (fun z _ => b 3 z (by omega) (by omega)) (fun z _ _ => b 116 z (by omega) (by omega)) h4, rpR_c (V := S) (W := S) (a 5 (by omega) (by omega)) (fun z _ _ => b 3 z (by omega) (by omega)) (a 149 (by omega) (by omega)) (fun z _ _ => b 116 z (by omega) (by omega)) h5, ouR_c (V := S) (W := S) (a 115 (by omega) (by omega)) (fun z => b 0 z (by omega) (by omega)) (a 152 (by omega) (by omega)) (fun z _ => b 116 z (by omega) (by omega)) h6, cpR_c (V := S) (W := S) (a 38 (by omega) (by omega)) (fun z => b 37 z (by omega) (by omega)) (a 155 (by omega) (by omega)) (fun z _ _ => b 116 z (by omega) (by omega)) h7, fun d hd => Chn_e hd (fun p _ _ => a p (by omega) (by omega)) (fun u z _ _ => b u z (by omega) (by omega)) (fun p _ _ => a p (by omega) (by omega)) (h8 d hd), (b 113 1 (by omega) (by omega)).trans h9.1, by rw [a 114 (by omega) (by omega)]; exact h9.2⟩
theorem fX_a {S : rz_S} {n p : Nat} {a b c d e : Int32} (hp : p ≠ 2) (hp2 : p ≠ 150) : (feedM (feedX S n a b c d e) n a b c d e).1 p = S.1 p := by
  unfold feedM feedX types4 tape4
  simp (disch := omega) only [uI1, fA2, rz_fA_n, rz_uI_n, rz_fA_s, rz_uI_s, pk_us]
theorem fX_u {S : rz_S} {n u z : Nat} {a b c d e : Int32} (h1 : ¬ (u = 1 ∧ z = 1)) (h2 : ¬ (u = 116 ∧ z = 64)) : (feedM (feedX S n a b c d e) n a b c d e).2 u z = S.2 u z := by
  unfold feedM feedX types4 tape4
  simp only [uI1, fA2, rz_uI_n h1, rz_uI_n h2]
theorem fX_c {S : rz_S} {n : Nat} {a b c d e : Int32} : (feedM (feedX S n a b c d e) n a b c d e).2 1 1 = nI (n + 20) := rfl
section STEP
variable {k : Nat} {S : rz_S}
theorem st_feed (h : RR k S S) (a b c d e : Int32) : rd_two mX_feed mM_feed [.int a, .int b, .int c, .int d, .int e] S (fun S' => RR (k + 1) S' S') := by
  have h0 := h
  obtain ⟨m, M, B, pr, id, h1, h2, h3, h4, h5, h6, h7, h8, h9⟩ := h
  refine feed2 (P := fun S' => RR (k + 1) S' S') (n := m) h1.1 h1.2.1 h1.2.2.1 h1.2.2.2 (RR_up h0) (fun a b c d e hm hR => ?_) a b c d e
  obtain ⟨n, n4, q1, q2, q3⟩ := hR
  have en : n = m + 20 := by
    have : nI n = nI (m + 20) := q1.symm.trans fX_c
    exact (nI_eq (by omega) (by omega)).mp this
  subst en
  exact RR_tape (m := m) (m' := m + 20) (by omega) ⟨n4, q1, q2, q3⟩ (fun p x y => fX_a x y) (fun u z x y => fX_u x y) h3 h4 h5 h6 h7 h8 h9
theorem st_out (h : RR k S S) (a : Int32) : rd_two mX_out mM_out [.int a] S (fun S' => RR (k + 1) S' S') := by
  have h0 := h
  obtain ⟨m, M, B, pr, id, h1, h2, h3, h4, h5, h6, h7, h8, h9⟩ := h
  exact rd_out (P := fun S' => RR (k + 1) S' S') h6.1 (RR_up h0) a
theorem st_memory (h : RR k S S) (a : Int32) : rd_two mX_memory mM_memory [.int a] S (fun S' => RR (k + 1) S' S') := by
  have h0 := h
  obtain ⟨m, M, B, pr, id, h1, h2, h3, h4, h5, h6, h7, h8, h9⟩ := h
  refine rd_memory (P := fun S' => RR (k + 1) S' S') (fun j hj => ?_) (RR_up h0) a
  have := h7.1 (nI j)
  have e : (nI j &&& 2047).toNatClampNeg = j := by
    rw [show nI j &&& 2047 = nI (j % 2 ^ 11) from pk_andN (by omega) 11 (by decide), nI_clamp (by omega)]
    omega
  rw [e] at this
  exact this
theorem st_look (h : RR k S S) (a : Int32) : rd_two mX_look mM_look [.int a] S (fun S' => RR (k + 1) S' S') := by
  have h0 := h
  obtain ⟨m, M, B, pr, id, h1, h2, h3, h4, h5, h6, h7, h8, h9⟩ := h
  obtain ⟨n, _, s0, s1, s2, s3, _⟩ := h4
  refine rd_look (P := fun S' => RR (k + 1) S' S') (fun j hj => ?_) (RR_up h0) a
  match j, hj with
  | 0, _ => exact s0.trans s1.symm
  | 1, _ => exact s2
  | 2, _ => exact s3
  | 3, _ =>
    show (if S.2 0 8 = 0 then (0 : Int32) else 1) = S.2 116 68
    rw [← h6.2.1]
    rcases h6.2.2 with q | q
    · rw [q]; rfl
    · rw [q]; rfl
  | 4, _ => exact h1.2.1.trans h1.2.2.1.symm
  | 5, _ =>
    show S.2 6 1 = S.2 116 2
    have a1 := h3.2.2.2.2.1
    have a2 := h3.2.2.2.2.2.1
    cases id with
    | none => exact a1.1.trans a2.1.symm
    | some q => exact a1.1.trans a2.1.symm
  | 6, _ =>
    show S.2 6 2 = S.2 116 3
    have a1 := h3.2.2.2.2.1
    have a2 := h3.2.2.2.2.2.1
    cases id with
    | none => exact a1.2.trans a2.2.symm
    | some q => exact a1.2.1.trans a2.2.1.symm
  | 7, _ => exact cn_ext (fun c hc => (h8 c hc).1)
  | 8, _ => exact h7.2.1 0 (by omega) (by omega)
  | 9, _ => exact h7.2.1 1 (by omega) (by omega)
  | 10, _ => exact h7.2.1 2 (by omega) (by omega)
  | 11, _ => exact h7.2.1 3 (by omega) (by omega)
  | 12, _ => exact h7.2.1 4 (by omega) (by omega)
  | 13, _ => exact h7.2.2
  | 14, _ => exact h7.2.1 6 (by omega) (by omega)
theorem st_rings (h : RR k S S) : R_rings S := by
  obtain ⟨m, M, B, pr, id, h1, h2, h3, _⟩ := h
  exact ⟨B, fun t t1 t2 => ⟨(h3.1 t t1 t2).1, (h3.1 t t1 t2).2, (h3.2.1 t t1 t2).2⟩⟩
theorem st_bits (h : RR k S S) (a b : Int32) : rd_two mX_bits mM_bits [.int a, .int b] S (fun S' => RR (k + 1) S' S') := rd_bits (P := fun S' => RR (k + 1) S' S') (st_rings h) (RR_up h) a b
theorem st_turn (h : RR k S S) (a b c : Int32) : rd_two mX_turn mM_turn [.int a, .int b, .int c] S (fun S' => RR (k + 1) S' S') := by
  refine rd_turn (P := fun S' => RR (k + 1) S' S') (st_rings h) (RR_up h) (fun t f g t1 t2 hR => ?_) a b c
  obtain ⟨m, M, B, pr, id, h1, h2, h3, h4, h5, h6, h7, h8, h9⟩ := h
  obtain ⟨B', hB⟩ := hR
  generalize hS : rz_fA (rz_fA S (12 + 2 * t) f) 117 g = S' at hB
  have a : ∀ p, ¬ (14 ≤ p ∧ p ≤ 36) → p ≠ 117 → S'.1 p = S.1 p := fun p x y => by rw [← hS]; simp (disch := omega) only [uI1, fA2, rz_fA_n, rz_uI_n, rz_fA_s, rz_uI_s, pk_us]
  have b : S'.2 = S.2 := by rw [← hS]; rfl
  have bb : ∀ u z, S'.2 u z = S.2 u z := fun u z => by rw [b]
  obtain ⟨d1, d2, d3, d4, d5, d6, d7, d8⟩ := h3
  refine ⟨m, M, B', pr, id, Tpe_c (V := S) (W := S) (a 2 (by omega) (by omega)) (bb 1 1) (a 150 (by omega) (by omega)) (bb 116 64) h1, by omega, ⟨fun t t1 t2 => ⟨(hB t t1 t2).1, (hB t t1 t2).2.1⟩, fun t t1 t2 => ⟨(hB t t1 t2).1, (hB t t1 t2).2.2⟩, (bb 6 0).trans d3, (bb 116 1).trans d4, ?_, ?_, fun t t1 t2 => (bb _ 0).trans (d7 t t1 t2), fun q hq => by rw [a 122 (by omega) (by omega)]; exact d8 q hq⟩, stT_c (V := S) (W := S) (a 4 (by omega) (by omega)) (fun z _ => bb 3 z) (fun z _ _ => bb 116 z) h4, rpR_c (V := S) (W := S) (a 5 (by omega) (by omega)) (fun z _ _ => bb 3 z) (a 149 (by omega) (by omega)) (fun z _ _ => bb 116 z) h5, ouR_c (V := S) (W := S) (a 115 (by omega) (by omega)) (fun z => bb 0 z) (a 152 (by omega) (by omega)) (fun z _ => bb 116 z) h6, cpR_c (V := S) (W := S) (a 38 (by omega) (by omega)) (fun z => bb 37 z) (a 155 (by omega) (by omega)) (fun z _ _ => bb 116 z) h7, fun d hd => Chn_e hd (fun p _ _ => a p (by omega) (by omega)) (fun u z _ _ => bb u z) (fun p _ _ => a p (by omega) (by omega)) (h8 d hd), (bb 113 1).trans h9.1, by rw [a 114 (by omega) (by omega)]; exact h9.2⟩
  · cases id with
    | none => exact ⟨(bb 6 1).trans d5.1, (bb 6 2).trans d5.2⟩
    | some q => exact ⟨(bb 6 1).trans d5.1, (bb 6 2).trans d5.2.1, d5.2.2⟩
  · cases id with
    | none => exact ⟨(bb 116 2).trans d6.1, (bb 116 3).trans d6.2⟩
    | some q => exact ⟨(bb 116 2).trans d6.1, (bb 116 3).trans d6.2.1, d6.2.2⟩
theorem st_protect (h : RR k S S) (a : Int32) (ha : a = 0 ∨ a = 1) : rd_twov mX_protect mM_protect [.int a] S (fun S' => RR (k + 1) S' S') := by
  refine rd_protect ha ?_
  obtain ⟨m, M, B, pr, id, h1, h2, h3, h4, h5, h6, h7, h8, h9⟩ := h
  show RR (k + 1) (rz_uI (rz_uI S 6 0 a) 116 1 a) (rz_uI (rz_uI S 6 0 a) 116 1 a)
  generalize hS : rz_uI (rz_uI S 6 0 a) 116 1 a = S'
  have sa : S'.1 = S.1 := by rw [← hS]; rfl
  have b : ∀ u z, ¬ (u = 6 ∧ z = 0) → ¬ (u = 116 ∧ z = 1) → S'.2 u z = S.2 u z := fun u z x y => by rw [← hS, rz_uI_n y, rz_uI_n x]
  have p6 : S'.2 6 0 = a := by rw [← hS]; simp (disch := omega) only [uI1, fA2, rz_fA_n, rz_uI_n, rz_fA_s, rz_uI_s, pk_us]
  have p1 : S'.2 116 1 = a := by rw [← hS]; simp (disch := omega) only [uI1, fA2, rz_fA_n, rz_uI_n, rz_fA_s, rz_uI_s, pk_us]
  obtain ⟨pr', hp⟩ : ∃ pr' : Bool, a = nI pr'.toNat := by
    rcases ha with e | e
    · exact ⟨false, e⟩
    · exact ⟨true, e⟩
  obtain ⟨d1, d2, d3, d4, d5, d6, d7, d8⟩ := h3
  refine ⟨m, M, B, pr', id, Tpe_c (V := S) (W := S) (by rw [sa]) (b 1 1 (by omega) (by omega)) (by rw [sa]) (b 116 64 (by omega) (by omega)) h1, by omega, ⟨fun t t1 t2 => ⟨(d1 t t1 t2).1, (b _ 1 (by omega) (by omega)).trans (d1 t t1 t2).2.1, by rw [sa]; exact (d1 t t1 t2).2.2⟩, fun t t1 t2 => ⟨(d2 t t1 t2).1, fun j hj => by rw [sa]; exact (d2 t t1 t2).2 j hj⟩, p6.trans hp, p1.trans hp, ?_, ?_, fun t t1 t2 => (b _ 0 (by omega) (by omega)).trans (d7 t t1 t2), fun q hq => by rw [sa]; exact d8 q hq⟩, stT_c (V := S) (W := S) (by rw [sa]) (fun z _ => b 3 z (by omega) (by omega)) (fun z _ _ => b 116 z (by omega) (by omega)) h4, rpR_c (V := S) (W := S) (by rw [sa]) (fun z _ _ => b 3 z (by omega) (by omega)) (by rw [sa]) (fun z _ _ => b 116 z (by omega) (by omega)) h5, ouR_c (V := S) (W := S) (by rw [sa]) (fun z => b 0 z (by omega) (by omega)) (by rw [sa]) (fun z _ => b 116 z (by omega) (by omega)) h6, cpR_c (V := S) (W := S) (by rw [sa]) (fun z => b 37 z (by omega) (by omega)) (by rw [sa]) (fun z _ _ => b 116 z (by omega) (by omega)) h7, fun d hd => Chn_e hd (fun p _ _ => by rw [sa]) (fun u z _ _ => b u z (by omega) (by omega)) (fun p _ _ => by rw [sa]) (h8 d hd), (b 113 1 (by omega) (by omega)).trans h9.1, by rw [sa]; exact h9.2⟩
  · cases id with
    | none => exact ⟨(b 6 1 (by omega) (by omega)).trans d5.1, (b 6 2 (by omega) (by omega)).trans d5.2⟩
    | some q => exact ⟨(b 6 1 (by omega) (by omega)).trans d5.1, (b 6 2 (by omega) (by omega)).trans d5.2.1, d5.2.2⟩
  · cases id with
    | none => exact ⟨(b 116 2 (by omega) (by omega)).trans d6.1, (b 116 3 (by omega) (by omega)).trans d6.2⟩
    | some q => exact ⟨(b 116 2 (by omega) (by omega)).trans d6.1, (b 116 3 (by omega) (by omega)).trans d6.2.1, d6.2.2⟩
/-- what power leaves, the class's cells and the reference's -/
theorem pw_x {S : rz_S} : (∀ p, p < 116 → p ≠ 38 → (mp_power (xp_power S)).1 p = S.1 p) ∧ (∀ j, j < 2048 → (mp_power (xp_power S)).1 38 j = 0) ∧ (∀ u z, u < 116 → u ≠ 0 → u ≠ 3 → u ≠ 37 → ¬ (u = 6 ∧ (z = 1 ∨ z = 2)) → (u < 48 ∨ 108 ≤ u) → (mp_power (xp_power S)).2 u z = S.2 u z) ∧ (∀ d, d < 15 → (mp_power (xp_power S)).2 (48 + 4 * d) 0 = 0) := by
  refine ⟨fun p h1 h2 => ?_, fun j hj => ?_, fun u z h1 h2 h3 h4 h5 h6 => ?_, fun d hd => ?_⟩
  · unfold mp_power xp_power md_sets st_set st_begin pr_reset pr_begin fl_to st_set
    simp (disch := omega) only [uI1, fA2, rz_fA_n, rz_uI_n, rz_fA_s, rz_uI_s, pk_us]
    rfl
  · unfold mp_power xp_power md_sets st_set st_begin pr_reset pr_begin fl_to st_set
    simp (disch := omega) only [uI1, fA2, rz_fA_n, rz_uI_n, rz_fA_s, rz_uI_s, pk_us]
    rw [if_pos hj]
  · unfold mp_power xp_power md_sets st_set st_begin pr_reset pr_begin fl_to st_set
    simp (disch := omega) only [uI1, fA2, rz_fA_n, rz_uI_n, rz_fA_s, rz_uI_s, pk_us]
    exact dr_qn h6
  · unfold mp_power xp_power md_sets st_set st_begin pr_reset pr_begin fl_to st_set
    simp (disch := omega) only [uI1, fA2, rz_fA_n, rz_uI_n, rz_fA_s, rz_uI_s, pk_us]
    exact dr_q0 hd
theorem pw_m {S : rz_S} : (∀ p, 116 ≤ p → p ≠ 126 → p ≠ 155 → (mp_power (xp_power S)).1 p = S.1 p) ∧ (∀ j, j < 2048 → (mp_power (xp_power S)).1 155 j = 0) ∧ (∀ d, d < 15 → (mp_power (xp_power S)).1 126 d = 0) ∧ (∀ z, (z = 1 ∨ z = 64) → (mp_power (xp_power S)).2 116 z = S.2 116 z) := by
  refine ⟨fun p h1 h2 h3 => ?_, fun j hj => ?_, fun d hd => ?_, fun z hz => ?_⟩
  · unfold mp_power xp_power md_sets st_set st_begin pr_reset pr_begin fl_to st_set
    simp (disch := omega) only [uI1, fA2, rz_fA_n, rz_uI_n, rz_fA_s, rz_uI_s, pk_us]
    rfl
  · unfold mp_power xp_power md_sets st_set st_begin pr_reset pr_begin fl_to st_set
    simp (disch := omega) only [uI1, fA2, rz_fA_n, rz_uI_n, rz_fA_s, rz_uI_s, pk_us]
    rw [if_pos hj]
  · unfold mp_power xp_power md_sets st_set st_begin pr_reset pr_begin fl_to st_set
    simp (disch := omega) only [uI1, fA2, rz_fA_n, rz_uI_n, rz_fA_s, rz_uI_s, pk_us]
    rw [if_pos hd]
  · unfold mp_power xp_power md_sets st_set st_begin pr_reset pr_begin fl_to st_set
    simp (disch := omega) only [uI1, fA2, rz_fA_n, rz_uI_n, rz_fA_s, rz_uI_s, pk_us]
    exact dr_qn (by omega)
theorem st_power (h : RR k S S) : rd_twov mX_power mM_power [] S (fun S' => RR (k + 1) S' S') := by
  refine rd_power ?_
  obtain ⟨m, M, B, pr, id, h1, h2, h3, h4, h5, h6, h7, h8, h9⟩ := h
  obtain ⟨xa, x38, xu, x48⟩ := pw_x (S := S)
  obtain ⟨ma, m155, m126, mu⟩ := pw_m (S := S)
  obtain ⟨d1, d2, d3, d4, d5, d6, d7, d8⟩ := h3
  have v0 : (mp_power (xp_power S)).2 3 0 = 73 ∧ (mp_power (xp_power S)).2 3 1 = 0 ∧ (mp_power (xp_power S)).2 3 2 = 0 ∧ (mp_power (xp_power S)).2 3 5 = 0 ∧ (mp_power (xp_power S)).2 3 6 = 0 ∧ (mp_power (xp_power S)).2 3 8 = 0 ∧ (mp_power (xp_power S)).2 3 9 = 0 ∧ (mp_power (xp_power S)).2 0 7 = 0 ∧ (mp_power (xp_power S)).2 0 8 = 0 ∧ (mp_power (xp_power S)).2 6 1 = -1 ∧ (mp_power (xp_power S)).2 6 2 = -1 := ⟨rfl, rfl, rfl, rfl, rfl, rfl, rfl, rfl, rfl, rfl, rfl⟩
  have w0 : (mp_power (xp_power S)).2 116 56 = 73 ∧ (mp_power (xp_power S)).2 116 57 = 0 ∧ (mp_power (xp_power S)).2 116 58 = 0 ∧ (mp_power (xp_power S)).2 116 59 = 0 ∧ (mp_power (xp_power S)).2 116 61 = 0 ∧ (mp_power (xp_power S)).2 116 62 = 0 ∧ (mp_power (xp_power S)).2 116 67 = 0 ∧ (mp_power (xp_power S)).2 116 68 = 0 ∧ (mp_power (xp_power S)).2 116 2 = -1 ∧ (mp_power (xp_power S)).2 116 3 = -1 := ⟨rfl, rfl, rfl, rfl, rfl, rfl, rfl, rfl, rfl, rfl⟩
  have c0 : ∀ z, z ≤ 6 → z ≠ 5 → (mp_power (xp_power S)).2 37 z = 0 ∧ (mp_power (xp_power S)).2 116 (75 + z) = 0 := fun z a b => by
    match z, a, b with
    | 0, _, _ => exact ⟨rfl, rfl⟩
    | 1, _, _ => exact ⟨rfl, rfl⟩
    | 2, _, _ => exact ⟨rfl, rfl⟩
    | 3, _, _ => exact ⟨rfl, rfl⟩
    | 4, _, _ => exact ⟨rfl, rfl⟩
    | 5, _, b => exact absurd rfl b
    | 6, _, _ => exact ⟨rfl, rfl⟩
  have c5 : (mp_power (xp_power S)).2 37 5 = 0 ∧ (mp_power (xp_power S)).2 116 82 = 0 := ⟨rfl, rfl⟩
  generalize mp_power (xp_power S) = S' at xa x38 xu x48 ma m155 m126 mu v0 w0 c0 c5
  obtain ⟨v1, v2, v3, v4, v5, v6, v7, v8, v9, v10, v11⟩ := v0
  obtain ⟨w1, w2, w3, w4, w5, w6, w7, w8, w9, w10⟩ := w0
  refine ⟨m, M, B, pr, none, Tpe_c (V := S) (W := S) (xa 2 (by omega) (by omega)) (xu 1 1 (by omega) (by omega) (by omega) (by omega) (by omega) (by omega)) (ma 150 (by omega) (by omega) (by omega)) (mu 64 (by omega)) h1, by omega, ⟨fun t t1 t2 => ⟨(d1 t t1 t2).1, (xu _ 1 (by omega) (by omega) (by omega) (by omega) (by omega) (by omega)).trans (d1 t t1 t2).2.1, by rw [xa _ (by omega) (by omega)]; exact (d1 t t1 t2).2.2⟩, fun t t1 t2 => ⟨(d2 t t1 t2).1, fun j hj => by rw [ma 117 (by omega) (by omega) (by omega)]; exact (d2 t t1 t2).2 j hj⟩, (xu 6 0 (by omega) (by omega) (by omega) (by omega) (by omega) (by omega)).trans d3, (mu 1 (by omega)).trans d4, ⟨v10, v11⟩, ⟨w9, w10⟩, fun t t1 t2 => (xu _ 0 (by omega) (by omega) (by omega) (by omega) (by omega) (by omega)).trans (d7 t t1 t2), fun q hq => by rw [ma 122 (by omega) (by omega) (by omega)]; exact d8 q hq⟩, ⟨73, by unfold cdN; omega, v1, w1, v2.trans w2.symm, v3.trans w3.symm, Or.inl ⟨v4, v5, w4⟩⟩, Or.inl ⟨w5, w6, by rw [v6, v7]; decide⟩, ⟨⟨0, by omega, v8, w7, fun j hj => by omega⟩, v9.trans w8.symm, Or.inl v9⟩, ⟨fun b => ?_, fun z a b => (c0 z a b).1.trans (c0 z a b).2.symm, c5.1.trans c5.2.symm⟩, fun c hc => Chn_0 (x48 c hc) (m126 c hc), (xu 113 1 (by omega) (by omega) (by omega) (by omega) (by omega) (by omega)).trans h9.1, by rw [xa 114 (by omega) (by omega)]; exact h9.2⟩
  have hb := (z6_i b).2
  rw [x38 _ hb, m155 _ hb]
  decide
end STEP
theorem rd_all (hS : SCR) : rd_step (fun k S => RR k S S) := by
  intro i S hi h
  exact ⟨RR_up h, st_feed h, fun a b => two_of ⟨rfl, rfl⟩ ⟨rfl, rfl⟩ (svX in2) (svM in2) (RR_open hS h a b), fun a b => two_of ⟨rfl, rfl⟩ ⟨rfl, rfl⟩ (svX in2) (svM in2) (RR_write hS hi h a b), fun a => two_of ⟨rfl, rfl⟩ ⟨rfl, rfl⟩ (svX in1) (svM in1) (RR_close h a), fun a b => two_of ⟨rfl, rfl⟩ ⟨rfl, rfl⟩ (svX in2) (svM in2) (RR_read h a b), st_out h, st_look h, st_bits h, st_turn h, st_protect h, st_power h, st_memory h⟩
