/-! commands: UI, M-W, M-R, M-E -/
theorem c_M_shutsAll {S : rz_S} : rz_ev mM_shutsAll [.ref 116] S (rz_v (fun S1 => ∃ f, S1 = rz_fA S 126 f ∧ ∀ d, d < 15 → f d = 0)) := by
  have lp : ∀ (w i : Nat) (f : Nat → Int32), w + i = 15 → (∀ d, d < i → f d = 0) → rz mM_shutsAll 2 [(0, .ref 116), (1, .int (nI i))] [] (rz_fA S 126 f) (rz_v (fun S1 => ∃ f, S1 = rz_fA S 126 f ∧ ∀ d, d < 15 → f d = 0)) := by
    intro w
    induction w with
    | zero =>
      intro i f e hf
      have e15 : i = 15 := by omega
      subst e15
      exact p_M_shutsAll_2 ⟨fun _ => ⟨f, rfl, hf⟩, fun z => absurd (by decide) z⟩
    | succ w ih =>
      intro i f e hf
      refine p_M_shutsAll_2 ⟨fun z => ?_, fun _ => ⟨rin (by omega) (by omega), ?_⟩⟩
      · have := (nI_leI (a := 15) (b := i) (by omega) (by omega)).mp z
        omega
      · rw [nI_clamp (by omega), nI_1, rz_fAA, rz_fA_s]
        refine ih (i + 1) _ (by omega) (fun d hd => ?_)
        by_cases z : d = i
        · subst z; rw [pk_us]
        · rw [pk_un z]; exact hf d (by omega)
  show rz _ 0 [(0, .ref 116)] [] _ _
  have := lp 15 0 (S.1 126) rfl (fun d hd => by omega)
  rw [rz_fA_self] at this
  exact p_M_shutsAll_0 this
theorem dr_q0 {S : rz_S} {d : Nat} (hd : d < 15) : (dr_to S 15).2 (48 + 4 * d) 0 = 0 := by
  unfold dr_to
  exact if_pos ⟨rfl, by omega, by omega, by omega⟩
theorem dr_qn {S : rz_S} {u z : Nat} (h : u < 48 ∨ 108 ≤ u) : (dr_to S 15).2 u z = S.2 u z := by
  unfold dr_to
  exact if_neg (by omega)
section CM2
variable {M n : Nat} {B : Nat → Nat → Bool} {pr : Bool} {id : Option (Nat × Nat)} {T U : rz_S}
/-- all channels dropped, on both sides -/
theorem Dk_dr {V W : rz_S} {f : Nat → Int32} (h : Dk B pr id V W) : Dk B pr id (dr_to V 15) (rz_fA W 126 f) := Dk_mf (Dk_x h (fun _ _ _ => rfl) (fun u z hu => dr_qn (by omega))) (by omega)
theorem Dk_no {V W : rz_S} (h : Dk B pr id V W) : Dk B pr none (rz_uI (rz_uI V 6 1 (-1)) 6 2 (-1)) (rz_uI (rz_uI W 116 2 (-1)) 116 3 (-1)) := by
  obtain ⟨d1, d2, d3, d4, d5, d6, d7, d8⟩ := h
  refine ⟨fun u u1 u2 => ?_, fun u u1 u2 => ?_, by simp (disch := omega) only [uI1, fA2, rz_fA_n, rz_uI_n, rz_fA_s, rz_uI_s, pk_us]; exact d3, by simp (disch := omega) only [uI1, fA2, rz_fA_n, rz_uI_n, rz_fA_s, rz_uI_s, pk_us]; exact d4, ⟨by simp (disch := omega) only [uI1, fA2, rz_fA_n, rz_uI_n, rz_fA_s, rz_uI_s, pk_us], by simp (disch := omega) only [uI1, fA2, rz_fA_n, rz_uI_n, rz_fA_s, rz_uI_s, pk_us]⟩, ⟨by simp (disch := omega) only [uI1, fA2, rz_fA_n, rz_uI_n, rz_fA_s, rz_uI_s, pk_us], by simp (disch := omega) only [uI1, fA2, rz_fA_n, rz_uI_n, rz_fA_s, rz_uI_s, pk_us]⟩, fun t h1 h2 => by simp (disch := omega) only [uI1, fA2, rz_fA_n, rz_uI_n, rz_fA_s, rz_uI_s, pk_us]; exact d7 t h1 h2, d8⟩
  · obtain ⟨a1, a2⟩ := d1 u u1 u2
    exact ⟨a1, by simp (disch := omega) only [uI1, fA2, rz_fA_n, rz_uI_n, rz_fA_s, rz_uI_s, pk_us]; exact a2.1, a2.2⟩
  · exact d2 u u1 u2
theorem ui_pair (hC : cmC M n B pr id T U) : ∃ x V W, cmE M pr T U x V W ∧ rzx mCommands_restart [.ref 108] T (some (.int x)) V ∧ ∀ R : Int32 → rz_S → Prop, R x W → rz_ev mM_shutsAll [.ref 116] U (rz_v (fun Sq4 => rz_ev mM_fault [.ref 116, .int 73, .int 0, .int 0] (rz_uI (rz_uI Sq4 116 2 (-1)) 116 3 (-1)) (rz_i R))) := by
  obtain ⟨hT, hD, hc, ⟨r1, r2, r3, r4⟩, c1, c2, c3⟩ := hC
  obtain ⟨_, U1, e1, rfl, f, rfl, hf⟩ := rzx_ev (c_M_shutsAll (S := U))
  refine ⟨nI 73, st_set (rz_uI (rz_uI (dr_to T 15) 6 1 (-1)) 6 2 (-1)) (nI 73) (nI 0) (nI 0), rz_uI (rz_uI (rz_uI (rz_uI (rz_fA U 126 f) 116 2 (-1)) 116 3 (-1)) 116 4 (nI 0)) 116 5 (nI 0), ⟨⟨rfl, ⟨rfl, rfl⟩, fun z hz => ?_, fun u z hu => ?_⟩, ⟨rfl, rfl, fun z hz => by simp (disch := omega) only [uI1, fA2, rz_fA_n, rz_uI_n, rz_fA_s, rz_uI_s, pk_us]⟩, ⟨B, none, Dk_mu (Dk_mu (st_set_dk (Dk_no (Dk_dr hD))) (by omega)) (by omega)⟩, anW_a (ans_fl 73 0 0 (by omega) (by omega) ?_), fun d hd => Chn_0 ?_ ?_, Or.inl ⟨by simp (disch := omega) only [uI1, fA2, rz_fA_n, rz_uI_n, rz_fA_s, rz_uI_s, pk_us]; exact r3, by simp (disch := omega) only [uI1, fA2, rz_fA_n, rz_uI_n, rz_fA_s, rz_uI_s, pk_us]; exact r4, ?_⟩, fun b => c1 b, fun z a b => ?_, ?_⟩, rzx_of (fun K h => ?_), fun R h => rzx_V e1 (rz_toI (c_M_fault _ _ _) h)⟩
  · unfold st_set; simp (disch := omega) only [uI1, fA2, rz_fA_n, rz_uI_n, rz_fA_s, rz_uI_s, pk_us]; exact dr_qn (by omega)
  · unfold st_set; simp (disch := omega) only [uI1, fA2, rz_fA_n, rz_uI_n, rz_fA_s, rz_uI_s, pk_us]; exact dr_qn (by omega)
  · simp (disch := omega) only [uI1, fA2, rz_fA_n, rz_uI_n, rz_fA_s, rz_uI_s, pk_us]; exact dr_qn (by omega)
  · unfold st_set; simp (disch := omega) only [uI1, fA2, rz_fA_n, rz_uI_n, rz_fA_s, rz_uI_s, pk_us]; exact dr_q0 hd
  · simp (disch := omega) only [uI1, fA2, rz_fA_n, rz_uI_n, rz_fA_s, rz_uI_s, pk_us]; exact hf d hd
  · have q8 : (st_set (rz_uI (rz_uI (dr_to T 15) 6 1 (-1)) 6 2 (-1)) (nI 73) (nI 0) (nI 0)).2 3 8 = 0 := by unfold st_set; simp (disch := omega) only [uI1, fA2, rz_fA_n, rz_uI_n, rz_fA_s, rz_uI_s, pk_us]; rw [dr_qn (by omega)]; exact r1
    have q9 : (st_set (rz_uI (rz_uI (dr_to T 15) 6 1 (-1)) 6 2 (-1)) (nI 73) (nI 0) (nI 0)).2 3 9 = 0 := by unfold st_set; simp (disch := omega) only [uI1, fA2, rz_fA_n, rz_uI_n, rz_fA_s, rz_uI_s, pk_us]; rw [dr_qn (by omega)]; exact r2
    rw [q8, q9]; decide
  · have := c2 z a b
    unfold st_set; simp (disch := omega) only [uI1, fA2, rz_fA_n, rz_uI_n, rz_fA_s, rz_uI_s, pk_us]; rw [dr_qn (by omega)]; exact this
  · unfold st_set; simp (disch := omega) only [uI1, fA2, rz_fA_n, rz_uI_n, rz_fA_s, rz_uI_s, pk_us]; rw [dr_qn (by omega)]; exact c3
  · show rz _ 0 [(0, .ref 108)] [] _ _
    exact p_Commands_restart_0 (rz_toV c_Dos_dropAll (rz_toV c_Disk_dropId (rz_toI (c_Status_set _ _ _) h)))
def mR (V W : rz_S) : Prop := ∀ b : Int32, V.1 38 ((b &&& 2047).toNatClampNeg) = W.1 155 ((b &&& 2047).toNatClampNeg) &&& 255
theorem mR_set {V W : rz_S} {a v : Int32} (h : mR V W) : mR (rz_fA V 38 (upd (V.1 38) ((a &&& 2047).toNatClampNeg) (v &&& 255))) (rz_fA W 155 (upd (W.1 155) ((a &&& 2047).toNatClampNeg) (vp_nar .byte v.toInt8.toInt32))) := fun b => by
  rw [rz_fA_s, rz_fA_s]
  unfold upd
  by_cases e : (b &&& 2047).toNatClampNeg = (a &&& 2047).toNatClampNeg
  · simp only [if_pos e]; exact (fd_nar v).symm
  · simp only [if_neg e]; exact h b
def mX (S S1 : rz_S) : Prop := (∀ q, q ≠ 38 → S1.1 q = S.1 q) ∧ S1.2 = S.2
def mW (S S1 : rz_S) : Prop := (∀ q, q ≠ 155 → S1.1 q = S.1 q) ∧ S1.2 = S.2
theorem mw_loop (hT : Txt n T U) {a : Int32} {many : Nat} (hm : many ≤ 255) : ∀ (w k : Nat) (V W : rz_S), w + k = many → mX T V → mW U W → mR V W → ∃ V1 W1, mX T V1 ∧ mW U W1 ∧ mR V1 W1 ∧ (∀ K : Int32 → rz_S → Prop, K 0 V1 → rz mCommands_program 66 [(0, .ref 108), (1, .int a), (2, .int (nI many)), (3, .int (nI k))] [] V (rz_i K)) ∧ ∀ K : Int32 → rz_S → Prop, K 0 W1 → rz mM_memories 72 [(0, .ref 116), (1, .int (nI n)), (4, .int (nI many)), (5, .int a), (6, .int (nI k))] [] W (rz_i K) := by
  obtain ⟨hn, hl, htx, _⟩ := hT
  intro w
  induction w with
  | zero =>
    intro k V W e fx fm hR
    have le : nI many ≤ nI k := nI_le (by omega) (by omega)
    exact ⟨V, W, fx, fm, hR, fun K q => p_Commands_program_66 ⟨fun _ => q, fun z => absurd le z⟩, fun K q => p_M_memories_72 ⟨fun _ => q, fun z => absurd le z⟩⟩
  | succ w ih =>
    intro k V W e fx fm hR
    have nle : ¬ nI many ≤ nI k := fun z => by have := (nI_leI (a := many) (b := k) (by omega) (by omega)).mp z; omega
    have e6 : (6 : Int32) + nI k = nI (6 + k) := nI_add 6 k
    have hlV : V.2 1 2 = nI n := by rw [fx.2]; exact hl
    by_cases hs : n ≤ 6 + k
    · have le2 : nI n ≤ nI (6 + k) := nI_le hs (by omega)
      refine ⟨V, W, fx, fm, hR, fun K q => p_Commands_program_66 ⟨fun z => absurd z nle, fun _ => ⟨fun _ => q, fun z => absurd ?_ z⟩⟩, fun K q => p_M_memories_72 ⟨fun z => absurd z nle, fun _ => ⟨fun _ => q, fun z => absurd ?_ z⟩⟩⟩
      · rw [hlV, e6]; exact le2
      · rw [e6]; exact le2
    · have nle2 : ¬ nI n ≤ nI (6 + k) := fun z => by have := (nI_leI (a := n) (b := 6 + k) (by omega) (by omega)).mp z; omega
      have v2 : V.1 2 = T.1 2 := fx.1 2 (by omega)
      have w151 : W.1 151 = U.1 151 := fm.1 151 (by omega)
      have hb : V.1 2 (6 + k) = W.1 151 (6 + k) := by rw [v2, w151]; exact (htx _ (by omega)).1
      obtain ⟨V1, W1, f1, f2, f3, l1, l2⟩ := ih (k + 1) _ _ (by omega) ⟨fun q hq => (rz_fA_n hq).trans (fx.1 q hq), fx.2⟩ ⟨fun q hq => (rz_fA_n hq).trans (fm.1 q hq), fm.2⟩ (mR_set (a := a + nI k) (v := V.1 2 (6 + k)) hR)
      refine ⟨V1, W1, f1, f2, f3, fun K q => p_Commands_program_66 ⟨fun z => absurd z nle, fun _ => ⟨fun z => absurd ?_ nle2, fun _ => ?_⟩⟩, fun K q => p_M_memories_72 ⟨fun z => absurd z nle, fun _ => ⟨fun z => absurd ?_ nle2, fun _ => ?_⟩⟩⟩
      · rw [hlV, e6] at z; exact z
      · rw [e6, nI_1]
        refine rz_toI (c_arg hn hlV (fun j hj => by rw [v2]; exact (htx j hj).2) (by omega)) ?_
        rw [if_pos (by omega)]
        exact rz_toV (c6_set _ _) (l1 K q)
      · rw [e6] at z; exact z
      · rw [e6, nI_1, nI_clamp (by omega), ← hb]
        exact ⟨rin (by omega) (by omega), rz_toV (d6_put _ _) (l2 K q)⟩
theorem mr_loop {a : Int32} {many : Nat} (hm : many ≤ 32) (hR : mR T U) : ∀ (w k : Nat) (f g : Nat → Int32), w + k = many → (∀ j, j < k → f j = g j) → ∃ f1 g1 : Nat → Int32, (∀ j, j < many → f1 j = g1 j) ∧ (∀ K : Int32 → rz_S → Prop, K 0 (rz_uI (rz_fA T 5 f1) 3 8 (nI many)) → rz mCommands_program 131 [(0, .ref 108), (1, .int a), (2, .int (nI many)), (3, .int (nI k))] [] (rz_uI (rz_fA T 5 f) 3 8 (nI k)) (rz_i K)) ∧ ∀ K : Int32 → rz_S → Prop, K 0 (rz_fA (rz_uI U 116 61 (nI many)) 149 g1) → rz mM_memories 151 [(0, .ref 116), (5, .int a), (6, .int (nI k))] [] (rz_fA (rz_uI U 116 61 (nI many)) 149 g) (rz_i K) := by
  have u61 : ∀ g, (rz_fA (rz_uI U 116 61 (nI many)) 149 g).2 116 61 = nI many := fun g => by simp (disch := omega) only [uI1, fA2, rz_fA_n, rz_uI_n, rz_fA_s, rz_uI_s, pk_us]
  intro w
  induction w with
  | zero =>
    intro k f g e hf
    have ek : k = many := by omega
    subst ek
    have le : nI k ≤ nI k := nI_le (by omega) (by omega)
    refine ⟨f, g, hf, fun K q => p_Commands_program_131 ⟨fun _ => q, fun z => absurd le z⟩, fun K q => p_M_memories_151 ⟨fun _ => q, fun z => absurd ?_ z⟩⟩
    rw [u61]; exact le
  | succ w ih =>
    intro k f g e hf
    have nle : ¬ nI many ≤ nI k := fun z => by have := (nI_leI (a := many) (b := k) (by omega) (by omega)).mp z; omega
    obtain ⟨f1, g1, h1, l1, l2⟩ := ih (k + 1) (upd f k (T.1 38 ((a + nI k &&& 2047).toNatClampNeg))) (upd g k (T.1 38 ((a + nI k &&& 2047).toNatClampNeg))) (by omega) (fun j hj => by
      by_cases z : j = k
      · subst z; rw [pk_us, pk_us]
      · rw [pk_un z, pk_un z]; exact hf j (by omega))
    have e8 : (rz_uI (rz_fA T 5 f) 3 8 (nI k)).2 3 8 = nI k := rz_uI_s
    have n32 : ¬ (32 : Int32) ≤ nI k := fun z => by have := (nI_leI (a := 32) (b := k) (by omega) (by omega)).mp z; omega
    refine ⟨f1, g1, h1, fun K q => p_Commands_program_131 ⟨fun z => absurd z nle, fun _ => rz_toI (c_Processor_get _) ?_⟩, fun K q => p_M_memories_151 ⟨fun z => absurd (by rw [u61] at z; exact z) nle, fun _ => ?_⟩⟩
    · show rz_ev mStatus_addReply [.ref 3, .int (T.1 38 ((a + nI k &&& 2047).toNatClampNeg))] (rz_uI (rz_fA T 5 f) 3 8 (nI k)) _
      show rz _ 0 [(0, .ref 3), (1, .int (T.1 38 ((a + nI k &&& 2047).toNatClampNeg)))] [] _ _
      refine p_Status_addReply_0 ?_
      rw [e8, nI_clamp (by omega), nI_1]
      refine ⟨fun z => absurd z n32, fun _ => ⟨rin (by omega) (by omega), ?_⟩⟩
      have es : rz_uI (rz_fA (rz_uI (rz_fA T 5 f) 3 8 (nI k)) 5 (upd ((rz_uI (rz_fA T 5 f) 3 8 (nI k)).1 5) k (T.1 38 ((a + nI k &&& 2047).toNatClampNeg)))) 3 8 (nI (k + 1)) = rz_uI (rz_fA T 5 (upd f k (T.1 38 ((a + nI k &&& 2047).toNatClampNeg)))) 3 8 (nI (k + 1)) := by
        rw [show (rz_uI (rz_fA T 5 f) 3 8 (nI k)).1 5 = f from (by simp (disch := omega) only [uI1, fA2, rz_fA_n, rz_uI_n, rz_fA_s, rz_uI_s, pk_us]), show rz_fA (rz_uI (rz_fA T 5 f) 3 8 (nI k)) 5 (upd f k (T.1 38 ((a + nI k &&& 2047).toNatClampNeg))) = rz_uI (rz_fA (rz_fA T 5 f) 5 (upd f k (T.1 38 ((a + nI k &&& 2047).toNatClampNeg)))) 3 8 (nI k) from rfl, rz_fAA, rz_uIU]
      rw [es]
      exact l1 K q
    · have hg : (rz_fA (rz_uI U 116 61 (nI many)) 149 g).1 155 ((a + nI k &&& 2047).toNatClampNeg) &&& 255 = T.1 38 ((a + nI k &&& 2047).toNatClampNeg) := by
        rw [rz_fA_n (by omega)]; exact (hR (a + nI k)).symm
      show rz _ 0 [(0, .ref 116), (1, .int (a + nI k))] [] _ _
      refine p_M_get_0 ⟨(z6_i _).1, ?_⟩
      rw [hg, nI_clamp (by omega), nI_1, rz_fAA, rz_fA_s]
      exact ⟨rin (by omega) (by omega), l2 K q⟩
theorem pg_pair (hC : cmC M n B pr id T U) (h3 : 3 ≤ n) (hn40 : n ≤ 40) (hk : T.1 2 2 = 69 ∨ T.1 2 2 = 82 ∨ T.1 2 2 = 87) : CM M pr T U mCommands_program mM_memories [.ref 108] [.ref 116, .int (nI n)] := by
  have hC0 := hC
  obtain ⟨hT, hD, hc, ⟨r1, r2, r3, r4⟩, c1, c2, c3⟩ := hC
  have hT0 := hT
  obtain ⟨hn, hl, htx, _⟩ := hT
  have hbt : ∀ j, j < n → byt (T.1 2 j) := fun j hj => (htx j hj).2
  generalize har : (fun i => if i < n then T.1 2 i else 0) = ar
  have ha : ∀ i, (if i < n then T.1 2 i else 0) = ar i := fun i => by rw [← har]
  have arb : ∀ i, byt (ar i) := fun i => by
    rw [← ha]
    by_cases z : i < n
    · rw [if_pos z]; exact hbt i z
    · rw [if_neg z]; exact ⟨0, by omega, rfl⟩
  have e2 : U.1 151 2 = T.1 2 2 := (htx 2 (by omega)).1.symm
  have left : ∀ K : Int32 → rz_S → Prop, ((T.1 2 2 = 69 → rz_ev mProcessor_run [.ref 37, .int (ar 3 + (256 * ar 4))] T (rz_i (fun xq6 Sq6 => ((xq6 = 0 → K 0 Sq6) ∧ (¬ xq6 = 0 → rz_ev mStatus_set [.ref 3, .int 28, .int xq6, .int 0] Sq6 (rz_i (fun xq8 Sq8 => K xq8 Sq8))))))) ∧ (T.1 2 2 = 82 → ((ar 5 ≤ 32 → rz mCommands_program 131 [(0, .ref 108), (1, .int (ar 3 + (256 * ar 4))), (2, .int (ar 5)), (3, .int 0)] [] T (rz_i K)) ∧ (¬ ar 5 ≤ 32 → rz_ev mStatus_set [.ref 3, .int 32, .int 0, .int 0] T (rz_i (fun xq11 Sq11 => K xq11 Sq11))))) ∧ (T.1 2 2 = 87 → rz mCommands_program 66 [(0, .ref 108), (1, .int (ar 3 + (256 * ar 4))), (2, .int (ar 5)), (3, .int 0)] [] T (rz_i K))) → rz_ev mCommands_program [.ref 108] T (rz_i K) := fun K h => by
    show rz _ 0 [(0, .ref 108)] [] _ _
    refine p_Commands_program_0 (rz_toI (c_arg (i := 3) hn hl hbt (by omega)) (rz_toI (c_arg (i := 4) hn hl hbt (by omega)) (rz_toI (c_arg (i := 5) hn hl hbt (by omega)) (rz_toI (c_byteAt (i := 2) hn hl (by omega)) ?_))))
    rw [ha 3, ha 4, ha 5, if_pos (by omega)]
    exact ⟨h.1, h.2.1, h.2.2, fun a b c => by rcases hk with z | z | z <;> contradiction⟩
  have arU : ∀ i, i < n → U.1 151 i = ar i := fun i hi => by rw [← ha, if_pos hi]; exact (htx i hi).1.symm
  have ar0 : ∀ i, n ≤ i → ar i = 0 := fun i hi => by rw [← ha, if_neg (by omega)]
  have right : ∀ K : Int32 → rz_S → Prop, rz mM_memories 47 [(0, .ref 116), (1, .int (nI n)), (2, .int (ar 3)), (3, .int (ar 4))] [.int (ar 5)] U (rz_i K) → rz_ev mM_memories [.ref 116, .int (nI n)] U (rz_i K) := fun K h => by
    show rz _ 0 [(0, .ref 116), (1, .int (nI n))] [] _ _
    have h31 : rz mM_memories 31 [(0, .ref 116), (1, .int (nI n)), (2, .int (ar 3))] [.int (ar 4)] U (rz_i K) := p_M_memories_31 ⟨fun c => by
      have := (nI_leI (a := n) (b := 5) (by omega) (by omega)).mp c
      rw [ar0 5 (by omega)] at h; exact h, fun c => by
      have : ¬ n ≤ 5 := fun z => c (nI_le (a := n) (b := 5) z (by omega))
      rw [arU 5 (by omega)]; exact h⟩
    have h15 : rz mM_memories 15 [(0, .ref 116), (1, .int (nI n))] [.int (ar 3)] U (rz_i K) := p_M_memories_15 ⟨fun c => by
      have := (nI_leI (a := n) (b := 4) (by omega) (by omega)).mp c
      rw [ar0 4 (by omega)] at h31; exact h31, fun c => by
      have : ¬ n ≤ 4 := fun z => c (nI_le (a := n) (b := 4) z (by omega))
      rw [arU 4 (by omega)]; exact h31⟩
    exact p_M_memories_0 ⟨fun c => by
      have := (nI_leI (a := n) (b := 3) (by omega) (by omega)).mp c
      rw [ar0 3 (by omega)] at h15; exact h15, fun c => by
      have : ¬ n ≤ 3 := fun z => c (nI_le (a := n) (b := 3) z (by omega))
      rw [arU 3 (by omega)]; exact h15⟩
  obtain ⟨many, m256, em⟩ := arb 5
  rw [em] at left right
  rcases hk with hk | hk | hk
  · obtain ⟨x, V, y, W, q1, q2, r, G, zx, zm, z82, fx, fm, ho⟩ := PR_run (Sx := T) (Sm := U) (ar 3 + (256 * ar 4)) c1
    have cp : ∀ V0 : rz_S, V0.1 = V.1 → (∀ z, V0.2 37 z = V.2 37 z) → cpR V0 W := fun V0 h1 h2 => ⟨fun b => by rw [h1]; exact (zx.2 b).trans (zm.2 b).symm, fun z a b => by rw [h2]; exact (zx.1 z a).trans (zm.1 z a).symm, by rw [h2]; exact (zx.1 5 (by omega)).trans z82.symm⟩
    have right2 : ∀ K : Int32 → rz_S → Prop, K y W → rz_ev mM_memories [.ref 116, .int (nI n)] U (rz_i K) := fun K h => right K (p_M_memories_47 ⟨fun z => by rw [e2, hk] at z; exact absurd z (by decide), fun _ => ⟨fun z => by rw [e2, hk] at z; exact absurd z (by decide), fun _ => rzx_I q2 h⟩⟩)
    rcases ho with ⟨rfl, rfl⟩ | ⟨h, h1, h2, rfl, rfl, w4, w5⟩
    · refine ⟨0, V, W, cm_z hC0 ⟨fx.1, fun u z a _ => fx.2 u z a⟩ fm (cp V rfl (fun _ => rfl)) (Or.inl ⟨rfl, fun z _ => fx.2 3 z (by omega)⟩), rzx_of (fun K q => left K ⟨fun _ => rzx_I q1 ⟨fun _ => q, fun z => absurd rfl z⟩, fun z => absurd (hk.symm.trans z) (by decide), fun z => absurd (hk.symm.trans z) (by decide)⟩), rzx_of (fun K q => right2 K q)⟩
    · have hne : ¬ nI h = 0 := nI_ne0 (by omega) (by omega)
      refine ⟨nI 28, st_set V (nI 28) (nI h) (nI 0), W, cm_z hC0 ⟨fx.1, fun u z a b => ?_⟩ fm (cp _ rfl (fun z => ?_)) (Or.inr ⟨28, by omega, by omega, rfl, ⟨h, 0, st_set_is, w4, w5⟩, (show (st_set V (nI 28) (nI h) (nI 0)).2 3 3 = V.2 3 3 from rfl).trans (fx.2 3 3 (by omega))⟩), rzx_of (fun K q => left K ⟨fun _ => rzx_I q1 ⟨fun z => absurd z hne, fun _ => rz_toI (c_Status_set _ _ _) q⟩, fun z => absurd (hk.symm.trans z) (by decide), fun z => absurd (hk.symm.trans z) (by decide)⟩), rzx_of (fun K q => right2 K q)⟩
      · unfold st_set; simp (disch := omega) only [uI1, fA2, rz_fA_n, rz_uI_n, rz_fA_s, rz_uI_s, pk_us]; exact fx.2 u z a
      · unfold st_set; simp (disch := omega) only [uI1, fA2, rz_fA_n, rz_uI_n, rz_fA_s, rz_uI_s, pk_us]
  · by_cases m32 : many ≤ 32
    · have le : nI many ≤ 32 := nI_le (b := 32) m32 (by omega)
      obtain ⟨f1, g1, hfg, l1, l2⟩ := mr_loop (a := ar 3 + (256 * ar 4)) m32 c1 many 0 (T.1 5) (U.1 149) rfl (fun j hj => by omega)
      have eT : rz_uI (rz_fA T 5 (T.1 5)) 3 8 (nI 0) = T := by
        rw [rz_fA_self, show nI 0 = T.2 3 8 from r1.symm, rz_uI_self]
      have eU : rz_fA (rz_uI U 116 61 (nI many)) 149 (U.1 149) = rz_uI U 116 61 (nI many) := rz_fA_self _ _
      rw [eT] at l1
      rw [eU] at l2
      refine ⟨0, rz_uI (rz_fA T 5 f1) 3 8 (nI many), rz_fA (rz_uI U 116 61 (nI many)) 149 g1, ⟨⟨by simp (disch := omega) only [uI1, fA2, rz_fA_n, rz_uI_n, rz_fA_s, rz_uI_s, pk_us], ⟨by simp (disch := omega) only [uI1, fA2, rz_fA_n, rz_uI_n, rz_fA_s, rz_uI_s, pk_us], by simp (disch := omega) only [uI1, fA2, rz_fA_n, rz_uI_n, rz_fA_s, rz_uI_s, pk_us]⟩, fun z hz => by simp (disch := omega) only [uI1, fA2, rz_fA_n, rz_uI_n, rz_fA_s, rz_uI_s, pk_us], fun u z hu => by simp (disch := omega) only [uI1, fA2, rz_fA_n, rz_uI_n, rz_fA_s, rz_uI_s, pk_us]⟩, ⟨by simp (disch := omega) only [uI1, fA2, rz_fA_n, rz_uI_n, rz_fA_s, rz_uI_s, pk_us], by simp (disch := omega) only [uI1, fA2, rz_fA_n, rz_uI_n, rz_fA_s, rz_uI_s, pk_us], fun z hz => by simp (disch := omega) only [uI1, fA2, rz_fA_n, rz_uI_n, rz_fA_s, rz_uI_s, pk_us]⟩, ⟨B, id, Dk_mf (Dk_mu (Dk_xu (Dk_xf hD (by omega)) (by omega)) (by omega)) (by omega)⟩, Or.inl ⟨rfl, fun z hz => by simp (disch := omega) only [uI1, fA2, rz_fA_n, rz_uI_n, rz_fA_s, rz_uI_s, pk_us]⟩, fun d hd => Chn_e hd (fun q a b => by simp (disch := omega) only [uI1, fA2, rz_fA_n, rz_uI_n, rz_fA_s, rz_uI_s, pk_us]) (fun u z a b => by simp (disch := omega) only [uI1, fA2, rz_fA_n, rz_uI_n, rz_fA_s, rz_uI_s, pk_us]) (fun q a b => ?_) (hc d hd), ?_, fun b => ?_, fun z a b => by simp (disch := omega) only [uI1, fA2, rz_fA_n, rz_uI_n, rz_fA_s, rz_uI_s, pk_us]; exact c2 z a b, by simp (disch := omega) only [uI1, fA2, rz_fA_n, rz_uI_n, rz_fA_s, rz_uI_s, pk_us]; exact c3⟩, rzx_of (fun K q => left K ⟨fun z => absurd (hk.symm.trans z) (by decide), fun _ => ⟨fun _ => l1 K q, fun z => absurd le z⟩, fun z => absurd (hk.symm.trans z) (by decide)⟩), rzx_of (fun K q => right K (p_M_memories_47 ⟨fun z => by rw [e2, hk] at z; exact absurd z (by decide), fun _ => ⟨fun _ => ⟨fun _ => l2 K q, fun z => absurd le z⟩, fun z => by rw [e2, hk] at z; exact absurd rfl z⟩⟩))⟩
      · simp (disch := omega) only [uI1, fA2, rz_fA_n, rz_uI_n, rz_fA_s, rz_uI_s, pk_us]
      · by_cases m0 : many = 0
        · subst m0
          refine Or.inl ⟨by simp (disch := omega) only [uI1, fA2, rz_fA_n, rz_uI_n, rz_fA_s, rz_uI_s, pk_us]; rfl, by simp (disch := omega) only [uI1, fA2, rz_fA_n, rz_uI_n, rz_fA_s, rz_uI_s, pk_us]; exact r4, ?_⟩
          simp (disch := omega) only [uI1, fA2, rz_fA_n, rz_uI_n, rz_fA_s, rz_uI_s, pk_us]
          rw [r2]
          decide
        · exact Or.inr ⟨many, 0, by omega, m32, by simp (disch := omega) only [uI1, fA2, rz_fA_n, rz_uI_n, rz_fA_s, rz_uI_s, pk_us], by simp (disch := omega) only [uI1, fA2, rz_fA_n, rz_uI_n, rz_fA_s, rz_uI_s, pk_us]; exact r2, by simp (disch := omega) only [uI1, fA2, rz_fA_n, rz_uI_n, rz_fA_s, rz_uI_s, pk_us], by simp (disch := omega) only [uI1, fA2, rz_fA_n, rz_uI_n, rz_fA_s, rz_uI_s, pk_us]; exact r4, fun j hj => by simp (disch := omega) only [uI1, fA2, rz_fA_n, rz_uI_n, rz_fA_s, rz_uI_s, pk_us]; exact hfg j hj⟩
      · simp (disch := omega) only [uI1, fA2, rz_fA_n, rz_uI_n, rz_fA_s, rz_uI_s, pk_us]; exact c1 b
    · have nle : ¬ nI many ≤ 32 := fun z => by have := (nI_leI (a := many) (b := 32) (by omega) (by omega)).mp z; omega
      exact ⟨nI 32, _, _, cm_f0 hC0 32 0 0 (by omega) (by omega), rzx_of (fun K q => left K ⟨fun z => absurd (hk.symm.trans z) (by decide), fun _ => ⟨fun z => absurd z nle, fun _ => rz_toI (c_Status_set _ _ _) q⟩, fun z => absurd (hk.symm.trans z) (by decide)⟩), rzx_of (fun K q => right K (p_M_memories_47 ⟨fun z => by rw [e2, hk] at z; exact absurd z (by decide), fun _ => ⟨fun _ => ⟨fun z => absurd z nle, fun _ => rz_toI (c_M_fault _ _ _) q⟩, fun z => by rw [e2, hk] at z; exact absurd rfl z⟩⟩))⟩
  · obtain ⟨V1, W1, f1, f2, f3, l1, l2⟩ := mw_loop (a := ar 3 + (256 * ar 4)) hT0 (by omega) many 0 T U rfl ⟨fun _ _ => rfl, rfl⟩ ⟨fun _ _ => rfl, rfl⟩ c1
    refine ⟨0, V1, W1, cm_z hC0 ⟨f1.1, fun u z _ _ => by rw [f1.2]⟩ ⟨f2.1, fun u z _ => by rw [f2.2]⟩ ⟨f3, fun z a b => by rw [f1.2, f2.2]; exact c2 z a b, by rw [f1.2, f2.2]; exact c3⟩ (Or.inl ⟨rfl, fun z _ => by rw [f1.2]⟩), rzx_of (fun K q => left K ⟨fun z => absurd (hk.symm.trans z) (by decide), fun z => absurd (hk.symm.trans z) (by decide), fun _ => l1 K q⟩), rzx_of (fun K q => right K (p_M_memories_47 ⟨fun _ => l2 K q, fun z => by rw [e2, hk] at z; exact absurd rfl z⟩))⟩
end CM2
