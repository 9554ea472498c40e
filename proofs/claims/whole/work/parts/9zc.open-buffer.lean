/-! open: a BUFFER, a LIST -/
/-- rows of zeros -/
theorem lp_zero {c : Nat} (hc : c < 15) {K : Int32 → rz_S → Prop} : ∀ (w j : Nat) (S : rz_S), w + j = 64 → (∀ f, (∀ i, 64 * c + j ≤ i → i < 64 * c + 64 → f i = 0) → (∀ i, ¬ (64 * c + j ≤ i ∧ i < 64 * c + 64) → f i = S.1 127 i) → K 0 (rz_fA (rz_fA (rz_fA S 127 f) 128 (upd (S.1 128) c 0)) 126 (upd (S.1 126) c 4))) → rz mM_opens 69 [(0, .ref 116), (1, .int (nI c)), (3, .int (nI j))] [] S (rz_i K) := by
  have ecl : (nI c).toNatClampNeg = c := nI_clamp (by omega)
  have e64 : (64 * nI c : Int32) = nI (64 * c) := pk_mul 64 c
  intro w
  induction w with
  | zero =>
    intro j S hj hK
    have ej : j = 64 := by omega
    subst ej
    have := hK (S.1 127) (fun i a b => by omega) (fun _ _ => rfl)
    rw [rz_fA_self] at this
    refine p_M_opens_69 ⟨fun _ => ⟨rin hc (by omega), ?_⟩, fun d => absurd (by decide) d⟩
    rw [ecl]
    exact this
  | succ w ih =>
    intro j S hj hK
    refine p_M_opens_69 ⟨fun d => ?_, fun _ => ?_⟩
    · have := (nI_leI (a := 64) (by omega) (by omega)).mp d
      omega
    rw [e64, nI_add, nI_clamp (by omega), nI_1]
    refine ⟨rin (by omega) (by omega), ih (j + 1) _ (by omega) (fun f f1 f2 => ?_)⟩
    have g127 : (rz_fA S 127 (upd (S.1 127) (64 * c + j) 0)).1 127 = upd (S.1 127) (64 * c + j) 0 := by simp (disch := omega) only [uI1, fA2, rz_fA_n, rz_uI_n, rz_fA_s, rz_uI_s, pk_us]
    have g128 : (rz_fA S 127 (upd (S.1 127) (64 * c + j) 0)).1 128 = S.1 128 := by simp (disch := omega) only [uI1, fA2, rz_fA_n, rz_uI_n, rz_fA_s, rz_uI_s, pk_us]
    have g126 : (rz_fA S 127 (upd (S.1 127) (64 * c + j) 0)).1 126 = S.1 126 := by simp (disch := omega) only [uI1, fA2, rz_fA_n, rz_uI_n, rz_fA_s, rz_uI_s, pk_us]
    rw [g127] at f2
    rw [g128, g126, rz_fAA]
    refine hK f (fun i a b => ?_) (fun i a => ?_)
    · by_cases z : i = 64 * c + j
      · subst z; rw [f2 _ (by omega), pk_us]
      · exact f1 i (by omega) b
    · rw [f2 i (by omega), pk_un (by omega)]
theorem ob_pair {c n M : Nat} {pr : Bool} {Sx Sm : rz_S} {B : Nat → Nat → Bool} {id : Option (Nat × Nat)} (hc : c < 15) (hT : Txt n Sx Sm) (hD : Dk B pr id Sx Sm) (hC : Chn M c Sx Sm) : ∃ x V y W, rzx mDos_openBuffer [.ref 39, .ref (48 + 4 * c)] Sx (some (.int x)) V ∧ opE c M pr Sx Sm x V y W ∧ ∀ Q : Int32 → rz_S → Prop, Q y W → ((nI n ≤ 1 → rz mM_opens 69 [(0, .ref 116), (1, .int (nI c)), (3, .int 0)] [] Sm (rz_i Q)) ∧ (¬ nI n ≤ 1 → rz_ev mM_fault [.ref 116, .int 30, .int 0, .int 0] Sm (rz_i (fun xq6 Sq6 => Q xq6 Sq6)))) := by
  have hch : chP (48 + 4 * c) := ⟨by omega, by omega, by omega⟩
  by_cases h1 : nI n ≤ 1
  · have hL : rz_ev mDos_openBuffer [.ref 39, .ref (48 + 4 * c)] Sx (rz_i (fun x V => x = 0 ∧ GX c Sx V ∧ (∀ q, q ≠ 49 + 4 * c → V.1 q = Sx.1 q) ∧ (∀ u z, u ≠ 48 + 4 * c → V.2 u z = Sx.2 u z) ∧ (∀ k, k < 64 → V.1 (49 + 4 * c) k = 0) ∧ V.2 (48 + 4 * c) 0 = 4 ∧ V.2 (48 + 4 * c) 2 = 0 ∧ V.2 (48 + 4 * c) 3 = 0 ∧ V.2 (48 + 4 * c) 4 = 0 ∧ V.2 (48 + 4 * c) 15 = 0)) := by
      show rz _ 0 [(0, .ref 39), (1, .ref (48 + 4 * c))] [] _ _
      refine p_Dos_openBuffer_0 hch ?_
      rw [hT.2.1]
      exact ⟨fun _ => rz_useV (c_begin hc) (fun S1 q => ⟨rfl, q⟩), fun d => absurd h1 d⟩
    obtain ⟨_, V, e1, x, rfl, rfl, gx, va, vu, vr, v0, v2, v3, v4, v15⟩ := rzx_ev hL
    have hR : rz mM_opens 69 [(0, .ref 116), (1, .int (nI c)), (3, .int 0)] [] Sm (rz_i (fun y W => y = 0 ∧ ∃ f, W = rz_fA (rz_fA (rz_fA Sm 127 f) 128 (upd (Sm.1 128) c 0)) 126 (upd (Sm.1 126) c 4) ∧ (∀ i, 64 * c ≤ i → i < 64 * c + 64 → f i = 0) ∧ ∀ i, ¬ (64 * c ≤ i ∧ i < 64 * c + 64) → f i = Sm.1 127 i)) := lp_zero hc 64 0 Sm (by omega) (fun f f1 f2 => ⟨rfl, f, rfl, f1, f2⟩)
    obtain ⟨f, f1, f2, hRx⟩ : ∃ f : Nat → Int32, (∀ i, 64 * c ≤ i → i < 64 * c + 64 → f i = 0) ∧ (∀ i, ¬ (64 * c ≤ i ∧ i < 64 * c + 64) → f i = Sm.1 127 i) ∧ ∀ Q : Int32 → rz_S → Prop, Q 0 (rz_fA (rz_fA (rz_fA Sm 127 f) 128 (upd (Sm.1 128) c 0)) 126 (upd (Sm.1 126) c 4)) → rz mM_opens 69 [(0, .ref 116), (1, .int (nI c)), (3, .int 0)] [] Sm (rz_i Q) := by
      refine ⟨fun i => if 64 * c ≤ i ∧ i < 64 * c + 64 then 0 else Sm.1 127 i, fun i a b => if_pos ⟨a, b⟩, fun i a => if_neg a, fun Q h => lp_zero hc 64 0 Sm (by omega) (fun f f1 f2 => ?_)⟩
      have : f = fun i => if 64 * c ≤ i ∧ i < 64 * c + 64 then 0 else Sm.1 127 i := by
        funext i
        by_cases z : 64 * c ≤ i ∧ i < 64 * c + 64
        · rw [if_pos z]; exact f1 i z.1 z.2
        · rw [if_neg z]; exact f2 i z
      rw [this]
      exact h
    have gm : GM c Sm (rz_fA (rz_fA (rz_fA Sm 127 f) 128 (upd (Sm.1 128) c 0)) 126 (upd (Sm.1 126) c 4)) := GM_t (GM_h f2) (GM_t (GM_g (q := 128) (by omega) (fun d hd => by simp (disch := omega) only [uI1, fA2, rz_fA_n, rz_uI_n, rz_fA_s, rz_uI_s, pk_us, pk_un])) (GM_g (q := 126) (by omega) (fun d hd => by simp (disch := omega) only [uI1, fA2, rz_fA_n, rz_uI_n, rz_fA_s, rz_uI_s, pk_us, pk_un])))
    refine ⟨0, V, 0, _, e1, ⟨rfl, gx, gm, ⟨B, id, Dk_mf (Dk_mf (Dk_mf (Dk_x hD (fun q a b => va q (by omega)) (fun u z hu => vu u z (by omega))) (by omega)) (by omega)) (by omega)⟩, Or.inl ⟨rfl, fun z => vu 3 z (by omega)⟩, v0.trans (by simp (disch := omega) only [uI1, fA2, rz_fA_n, rz_uI_n, rz_fA_s, rz_uI_s, pk_us]), Or.inr (Or.inr (Or.inr (Or.inr ⟨by simp (disch := omega) only [uI1, fA2, rz_fA_n, rz_uI_n, rz_fA_s, rz_uI_s, pk_us], fun k hk => ⟨?_, ?_⟩, 0, by omega, v2, by simp (disch := omega) only [uI1, fA2, rz_fA_n, rz_uI_n, rz_fA_s, rz_uI_s, pk_us]; rfl⟩)))⟩, fun Q h => ⟨fun _ => hRx Q h, fun d => absurd h1 d⟩⟩
    · rw [vr k hk]; simp (disch := omega) only [uI1, fA2, rz_fA_n, rz_uI_n, rz_fA_s, rz_uI_s, pk_us]; exact (f1 _ (by omega) (by omega)).symm
    · rw [vr k hk]; exact ⟨0, by omega, rfl⟩
  · have hL : rz_ev mDos_openBuffer [.ref 39, .ref (48 + 4 * c)] Sx (rz_i (fun x V => x = nI 30 ∧ V = st_set Sx (nI 30) (nI 0) (nI 0))) := by
      show rz _ 0 [(0, .ref 39), (1, .ref (48 + 4 * c))] [] _ _
      refine p_Dos_openBuffer_0 hch ?_
      rw [hT.2.1]
      exact ⟨fun d => absurd d h1, fun _ => rz_toI (c_Status_set _ _ _) ⟨rfl, rfl⟩⟩
    obtain ⟨_, _, e1, _, rfl, rfl, rfl⟩ := rzx_ev hL
    exact ⟨_, _, _, _, e1, op_flt 30 0 0 (by omega) (by omega) (GX_r _ _) (GM_r _ _) (fun _ => rfl) hD hC, fun Q h => ⟨fun d => absurd d h1, fun _ => rz_toI (c_M_fault _ _ _) h⟩⟩
/-- the PATTERN of a LIST, the reference's -/
theorem lp_olist {c L : Nat} (hc : c < 15) (hL : L ≤ 10) {K : Int32 → rz_S → Prop} : ∀ (w j : Nat) (S : rz_S), w + j = L → (∀ f, (∀ i, 10 * c + j ≤ i → i < 10 * c + L → f i = S.1 151 (2 + (i - 10 * c))) → (∀ i, ¬ (10 * c + j ≤ i ∧ i < 10 * c + L) → f i = S.1 147 i) → K 0 (rz_fA (rz_fA (rz_fA (rz_fA (rz_fA (rz_fA S 147 (if L = 0 then upd f (10 * c) 42 else f)) 144 (upd (S.1 144) c (nI (if L = 0 then 1 else L)))) 139 (upd (S.1 139) c 0)) 145 (upd (S.1 145) c 0)) 146 (upd (S.1 146) c 0)) 126 (upd (S.1 126) c 3))) → rz mM_opensList 47 [(0, .ref 116), (1, .int (nI c)), (3, .int (nI L)), (4, .int (nI j))] [] S (rz_i K) := by
  have ecl : (nI c).toNatClampNeg = c := nI_clamp (by omega)
  have e10 : (10 * nI c : Int32) = nI (10 * c) := pk_mul 10 c
  intro w
  induction w with
  | zero =>
    intro j S hj hK
    have ej : j = L := by omega
    subst ej
    have hk := hK (S.1 147) (fun i a b => by omega) (fun _ _ => rfl)
    refine p_M_opensList_47 ⟨fun _ => ⟨fun d => ?_, fun d => ?_⟩, fun d => absurd (nI_le (a := j) (b := j) (by omega) (by omega)) d⟩
    · have j0 : j = 0 := (nI_eq (b := 0) (by omega) (by omega)).mp d
      subst j0
      rw [if_pos rfl, if_pos rfl] at hk
      rw [e10, nI_clamp (by omega)]
      refine ⟨rin (by omega) (by omega), p_M_opensList_95 ⟨fun _ => p_M_opensList_109 ⟨rin hc (by omega), rin hc (by omega), ?_⟩, fun d => absurd rfl d⟩⟩
      rw [ecl]
      have q : ∀ q, q ≠ 147 → (rz_fA S 147 (upd (S.1 147) (10 * c) 42)).1 q = S.1 q := fun q hq => rz_fA_n hq
      rw [q 144 (by omega), q 139 (by omega), q 145 (by omega), q 146 (by omega), q 126 (by omega)]
      exact hk
    · have j0 : ¬ j = 0 := fun z => d (by rw [z]; rfl)
      rw [if_neg j0, if_neg j0, rz_fA_self] at hk
      refine p_M_opensList_95 ⟨fun z => absurd z d, fun _ => p_M_opensList_109 ⟨rin hc (by omega), rin hc (by omega), ?_⟩⟩
      rw [ecl]
      exact hk
  | succ w ih =>
    intro j S hj hK
    refine p_M_opensList_47 ⟨fun d => ?_, fun _ => ?_⟩
    · have := (nI_leI (a := L) (b := j) (by omega) (by omega)).mp d
      omega
    rw [e10, nI_add, show (2 : Int32) + nI j = nI (2 + j) from nI_add 2 j, nI_clamp (by omega), nI_clamp (by omega), nI_1]
    refine ⟨rin (by omega) (by omega), rin (by omega) (by omega), ih (j + 1) _ (by omega) (fun f f1 f2 => ?_)⟩
    have g : ∀ q, q ≠ 147 → (rz_fA S 147 (upd (S.1 147) (10 * c + j) (S.1 151 (2 + j)))).1 q = S.1 q := fun q hq => rz_fA_n hq
    rw [g 144 (by omega), g 139 (by omega), g 145 (by omega), g 146 (by omega), g 126 (by omega), rz_fAA]
    rw [g 151 (by omega)] at f1
    rw [rz_fA_s] at f2
    refine hK f (fun i a b => ?_) (fun i a => ?_)
    · by_cases z : i = 10 * c + j
      · subst z; rw [f2 _ (by omega), pk_us, show 10 * c + j - 10 * c = j by omega]
      · exact f1 i (by omega) b
    · rw [f2 i (by omega), pk_un (by omega)]
