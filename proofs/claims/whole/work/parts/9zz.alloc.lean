/-! commands: B-A, B-F -/
theorem tn_loop {V W : rz_S} (hM : Mp V W) : ∀ (w t s : Nat), 9 * (12 - t) + (9 - s) ≤ w → 1 ≤ t → t ≤ 12 → s ≤ 8 → ∃ t' s' : Nat, t' ≤ 255 ∧ s' ≤ 255 ∧ (∀ K : Int32 → rz_S → Prop, K (nI 65) (st_set V (nI 65) (nI t') (nI s')) → rz mCommands_tellNextFree 17 [(0, .ref 108), (4, .int (nI t)), (5, .int (nI s))] [] V (rz_i K)) ∧ ∀ K : Int32 → rz_S → Prop, K (nI 65) (rz_uI (rz_uI W 116 4 (nI t')) 116 5 (nI s')) → rz mM_allocates 104 [(0, .ref 116), (5, .int (nI t)), (6, .int (nI s))] [] W (rz_i K) := by
  intro w
  induction w with
  | zero => intro t s h _ _ _; omega
  | succ w ih =>
    intro t s h t1 t2 s8
    have tb := sct_b t1 t2
    have l12 : ¬ (12 : Int32) < nI t := nI_nlt (a := 12) (b := t) (by omega) (by omega)
    by_cases hs : sct t ≤ s
    · have le : nI (sct t) ≤ nI s := nI_le hs (by omega)
      by_cases h12 : t = 12
      · subst h12
        refine ⟨0, 0, by omega, by omega, fun K q => p_Commands_tellNextFree_17 (rz_toI (c_Disk_sectorsOf t1 t2) ⟨fun _ => p_Commands_tellNextFree_7 ⟨fun _ => rz_toI (c_Status_set _ _ _) q, fun z => absurd (by decide) z⟩, fun z => absurd le z⟩), fun K q => p_M_allocates_104 ⟨fun z => absurd z l12, fun _ => rz_toI (c_M_sect t1 t2) ⟨fun _ => p_M_allocates_104 ⟨fun _ => rz_toI (c_M_fault _ _ _) q, fun z => absurd (by decide) z⟩, fun z => absurd le z⟩⟩⟩
      · obtain ⟨t', s', b1, b2, l, r⟩ := ih (t + 1) 0 (by omega) (by omega) (by omega) (by omega)
        have l13 : ¬ (12 : Int32) < nI (t + 1) := nI_nlt (a := 12) (b := t + 1) (by omega) (by omega)
        refine ⟨t', s', b1, b2, fun K q => p_Commands_tellNextFree_17 (rz_toI (c_Disk_sectorsOf t1 t2) ⟨fun _ => ?_, fun z => absurd le z⟩), fun K q => p_M_allocates_104 ⟨fun z => absurd z l12, fun _ => rz_toI (c_M_sect t1 t2) ⟨fun _ => ?_, fun z => absurd le z⟩⟩⟩
        · rw [nI_1]
          exact p_Commands_tellNextFree_7 ⟨fun z => absurd z l13, fun _ => l K q⟩
        · rw [nI_1]
          exact r K q
    · have nle : ¬ nI (sct t) ≤ nI s := fun z => by have := (nI_leI (a := sct t) (b := s) (by omega) (by omega)).mp z; omega
      have ef : fr (W.1 123) t s = fr (V.1 45) t s := (fr_c t2 hM).symm
      by_cases hf : fr (V.1 45) t s = true
      · refine ⟨t, s, by omega, by omega, fun K q => p_Commands_tellNextFree_17 (rz_toI (c_Disk_sectorsOf t1 t2) ⟨fun z => absurd z nle, fun _ => rz_toI (c_BlockMap_isFree t1 t2 (by omega)) ⟨fun z => ?_, fun _ => rz_toI (c_Status_set _ _ _) q⟩⟩), fun K q => p_M_allocates_104 ⟨fun z => absurd z l12, fun _ => rz_toI (c_M_sect t1 t2) ⟨fun z => absurd z nle, fun _ => rz_toI (c_M_isFree t2 (by omega)) ⟨fun z => ?_, fun _ => rz_toI (c_M_fault _ _ _) q⟩⟩⟩⟩
        · rw [hf] at z; exact absurd z (by decide)
        · rw [ef, hf] at z; exact absurd z (by decide)
      · have hf0 : fr (V.1 45) t s = false := by
          cases h0 : fr (V.1 45) t s with
          | true => exact absurd h0 hf
          | false => rfl
        obtain ⟨t', s', b1, b2, l, r⟩ := ih t (s + 1) (by omega) t1 t2 (by omega)
        refine ⟨t', s', b1, b2, fun K q => p_Commands_tellNextFree_17 (rz_toI (c_Disk_sectorsOf t1 t2) ⟨fun z => absurd z nle, fun _ => rz_toI (c_BlockMap_isFree t1 t2 (by omega)) ⟨fun _ => ?_, fun z => ?_⟩⟩), fun K q => p_M_allocates_104 ⟨fun z => absurd z l12, fun _ => rz_toI (c_M_sect t1 t2) ⟨fun z => absurd z nle, fun _ => rz_toI (c_M_isFree t2 (by omega)) ⟨fun _ => ?_, fun z => ?_⟩⟩⟩⟩
        · rw [nI_1]; exact l K q
        · rw [hf0] at z; exact absurd rfl z
        · rw [nI_1]; exact r K q
        · rw [ef, hf0] at z; exact absurd rfl z
section CM4
variable {M n : Nat} {B : Nat → Nat → Bool} {pr : Bool} {id : Option (Nat × Nat)} {T U : rz_S}
/-- what stands behind the MAP was read and one block of it changed -/
theorem al_store {V W V1 W1 : rz_S} {B1 : Nat → Nat → Bool} {id1 : Option (Nat × Nat)} (hC : cmC M n B pr id V W) (gx : bgX V V1) (gm : bgM W W1) (st : ∀ z, V1.2 3 z = V.2 3 z) (D : Dk B1 pr id1 V1 W1) (hM : Mp V1 W1) : ∃ x V2 W2, cmE M pr V W x V2 W2 ∧ rzx mBlockMap_store [.ref 44] V1 (some (.int x)) V2 ∧ rzx mM_stores [.ref 116] W1 (some (.int x)) W2 := by
  obtain ⟨x, V2, y, W2, b1, b2, rfl, fx, fm, hD, an⟩ := PR_store D hM
  exact ⟨x, V2, W2, cm_of hC (bgX_t gx (bgX_rF (by omega) fx)) (bgM_t gm (bgM_wM fm)) hD (ans_t st an), b1, b2⟩
theorem ba_pair (hC : cmC M n B pr id T U) : CM M pr T U mCommands_allocate mM_allocates [.ref 108, .int 1] [.ref 116, .int (nI n)] := by
  obtain ⟨V, W, hC2, hx, hm, h3, alt⟩ := nums2 hC
  rcases alt with ⟨l, r⟩ | ⟨v1, v2, b1, b2, z73, l, r⟩
  · refine ⟨nI 30, _, _, cmE_t hx hm h3 (cm_f0 hC2 30 0 0 (by omega) (by omega)), rzx_of (fun K h => ?_), rzx_of (fun K h => ?_)⟩
    · show rz _ 0 [(0, .ref 108), (1, .int 1)] [] _ _
      have h33 : rz mCommands_allocate 33 [(0, .ref 108)] [] V (rz_i K) := p_Commands_allocate_33 (rz_toI (c_Status_set _ _ _) h)
      exact p_Commands_allocate_0 (l _ (fun a b ab => ⟨fun _ => h33, fun z => ⟨fun _ => h33, fun z2 => by rcases ab with y | y <;> contradiction⟩⟩))
    · show rz _ 0 [(0, .ref 116), (1, .int (nI n))] [] _ _
      exact p_M_allocates_0 (r _ _ (rz_toI (c_M_fault _ _ _) h) (fun a b z => ⟨fun y => absurd y z, fun _ => rz_toI (c_M_fault _ _ _) h⟩))
  · have hD := hC2.2.1
    have left : ∀ K : Int32 → rz_S → Prop, ((lgI (nI v1) (nI v2) = 0 → rz_ev mStatus_set [.ref 3, .int 66, .int (nI v1), .int (nI v2)] V (rz_i K)) ∧ (¬ lgI (nI v1) (nI v2) = 0 → rz_ev mBlockMap_load [.ref 44] V (rz_i (fun xq8 Sq8 => ((xq8 = 0 → rz_ev mBlockMap_isFree [.ref 44, .int (nI v1), .int (nI v2)] Sq8 (rz_i (fun xq11 Sq11 => ((xq11 = 0 → rz_ev mCommands_tellNextFree [.ref 108, .int (nI v1), .int (nI v2)] Sq11 (rz_i K)) ∧ (¬ xq11 = 0 → rz_ev mBlockMap_takeBlock [.ref 44, .int (nI v1), .int (nI v2)] Sq11 (rz_v (fun Sq3 => rz_ev mBlockMap_store [.ref 44] Sq3 (rz_i K)))))))) ∧ (¬ xq8 = 0 → K xq8 Sq8)))))) → rz_ev mCommands_allocate [.ref 108, .int 1] T (rz_i K) := fun K h => by
      show rz _ 0 [(0, .ref 108), (1, .int 1)] [] _ _
      exact p_Commands_allocate_0 (l _ ⟨fun z => absurd z (nI_m1 (by omega)), fun _ => ⟨fun z => absurd z (nI_m1 (by omega)), fun _ => rz_toI (c_Disk_legal _ _) ⟨h.1, fun lg => rz_useI (h.2 lg) (fun a S q => ⟨fun a0 => ⟨fun z => absurd z (by decide), fun _ => rz_useI (q.1 a0) (fun b S2 q2 => ⟨q2.1, fun b0 => p_Commands_allocate_105 ⟨fun z => absurd z (by decide), fun _ => rz_useV (q2.2 b0) (fun S3 q3 => p_Commands_allocate_130 q3)⟩⟩)⟩, q.2⟩)⟩⟩⟩)
    have right : ∀ K : Int32 → rz_S → Prop, ((lgI (nI v1) (nI v2) = 0 → rz_ev mM_fault [.ref 116, .int 66, .int (nI v1), .int (nI v2)] W (rz_i K)) ∧ (¬ lgI (nI v1) (nI v2) = 0 → rz_ev mM_loads [.ref 116] W (rz_i (fun xq8 Sq8 => ((xq8 = 0 → rz_ev mM_isFree [.ref 116, .int (nI v1), .int (nI v2)] Sq8 (rz_i (fun xq10 Sq10 => ((xq10 = 0 → rz mM_allocates 104 [(0, .ref 116), (5, .int (nI v1)), (6, .int (nI v2 + 1))] [] Sq10 (rz_i K)) ∧ (¬ xq10 = 0 → rz_ev mM_takes [.ref 116, .int (nI v1), .int (nI v2)] Sq10 (rz_v (fun Sq12 => rz_ev mM_stores [.ref 116] Sq12 (rz_i K)))))))) ∧ (¬ xq8 = 0 → K xq8 Sq8)))))) → rz_ev mM_allocates [.ref 116, .int (nI n)] U (rz_i K) := fun K h => by
      show rz _ 0 [(0, .ref 116), (1, .int (nI n))] [] _ _
      exact p_M_allocates_0 (r _ _ ⟨fun _ => rz_toI (c_M_legal _ _) h, fun z => absurd z73 z⟩)
    by_cases lg : lgI (nI v1) (nI v2) = 0
    · exact ⟨nI 66, _, _, cmE_t hx hm h3 (cm_f0 hC2 66 v1 v2 (by omega) (by omega)), rzx_of (fun K h => left K ⟨fun _ => rz_toI (c_Status_set _ _ _) h, fun z => absurd lg z⟩), rzx_of (fun K h => right K ⟨fun _ => rz_toI (c_M_fault _ _ _) h, fun z => absurd lg z⟩)⟩
    · obtain ⟨t, s, t1, t2, hs, et, es⟩ := lgI_1 lg
      have tb := sct_b t1 t2
      have et' : v1 = t := (nI_eq (by omega) (by omega)).mp et
      have es' : v2 = s := (nI_eq (by omega) (by omega)).mp es
      subst et' es'
      obtain ⟨x, V1, y, W1, l1, l2, rfl, lx, lm, ⟨id1, D1⟩, la, lM⟩ := PR_load hD
      by_cases x0 : x = 0
      · subst x0
        have hM := lM rfl
        have st := ans_z la rfl
        have ef : fr (W1.1 123) v1 v2 = fr (V1.1 45) v1 v2 := (fr_c t2 hM).symm
        cases hf : fr (V1.1 45) v1 v2 with
        | true =>
          have hmp2 : Mp (rz_fA V1 45 (tkR (V1.1 45) v1 v2)) (rz_uI (rz_uI (rz_fA W1 123 (tkR (W1.1 123) v1 v2)) 116 25 (nI v1)) 116 26 (nI v2)) := fun k hk => by
            have := tkR_c (t := v1) (s := v2) t2 hM k hk
            simp (disch := omega) only [uI1, fA2, rz_fA_n, rz_uI_n, rz_fA_s, rz_uI_s, pk_us]
            exact this
          obtain ⟨y, V2, W2, hE, s1, s2⟩ := al_store hC2 (bgX_t (bgX_ch lx) (bgX_f (by omega))) (bgM_t (bgM_ch lm) (bgM_t (bgM_f (by omega)) (bgM_t (bgM_u (by omega)) (bgM_u (by omega))))) st (Dk_mu (Dk_mu (Dk_mf (Dk_xf D1 (by omega)) (by omega)) (by omega)) (by omega)) hmp2
          refine ⟨y, V2, W2, cmE_t hx hm h3 hE, rzx_of (fun K h => left K ⟨fun z => absurd z lg, fun _ => rzx_I l1 ⟨fun _ => rz_toI (c_BlockMap_isFree t1 t2 hs) ⟨fun z => ?_, fun _ => rz_toV (c_BlockMap_takeBlock t1 t2 hs) ?_⟩, fun z => absurd rfl z⟩⟩), rzx_of (fun K h => right K ⟨fun z => absurd z lg, fun _ => rzx_I l2 ⟨fun _ => rz_toI (c_M_isFree t2 (by omega)) ⟨fun z => ?_, fun _ => rz_toV (c_M_takes t2) (rzx_I s2 h)⟩, fun z => absurd rfl z⟩⟩)⟩
          · rw [hf] at z; exact absurd z (by decide)
          · rw [if_pos hf]; exact rzx_I s1 h
          · rw [ef, hf] at z; exact absurd z (by decide)
        | false =>
          obtain ⟨t', s', q1, q2, tl, tr⟩ := tn_loop hM 200 v1 (v2 + 1) (by omega) t1 t2 (by omega)
          refine ⟨nI 65, _, _, cmE_t hx hm h3 (cm_flt hC2 65 t' s' (by omega) (by omega) (bgX_ch lx) (bgM_ch lm) ⟨B, id1, D1⟩ (st 3)), rzx_of (fun K h => left K ⟨fun z => absurd z lg, fun _ => rzx_I l1 ⟨fun _ => rz_toI (c_BlockMap_isFree t1 t2 hs) ⟨fun _ => ?_, fun z => ?_⟩, fun z => absurd rfl z⟩⟩), rzx_of (fun K h => right K ⟨fun z => absurd z lg, fun _ => rzx_I l2 ⟨fun _ => rz_toI (c_M_isFree t2 (by omega)) ⟨fun _ => ?_, fun z => ?_⟩, fun z => absurd rfl z⟩⟩)⟩
          · show rz _ 0 [(0, .ref 108), (1, .int (nI v1)), (2, .int (nI v2))] [] _ _
            refine p_Commands_tellNextFree_0 ?_
            rw [nI_1]
            exact p_Commands_tellNextFree_7 ⟨fun z => absurd z (nI_nlt (a := 12) (b := v1) (by omega) (by omega)), fun _ => tl K h⟩
          · rw [hf] at z; exact absurd rfl z
          · rw [nI_1]; exact tr K h
          · rw [ef, hf] at z; exact absurd rfl z
      · exact ⟨x, V1, W1, cmE_t hx hm h3 (cm_of hC2 (bgX_ch lx) (bgM_ch lm) ⟨B, id1, D1⟩ la), rzx_of (fun K h => left K ⟨fun z => absurd z lg, fun _ => rzx_I l1 ⟨fun z => absurd z x0, fun _ => h⟩⟩), rzx_of (fun K h => right K ⟨fun z => absurd z lg, fun _ => rzx_I l2 ⟨fun z => absurd z x0, fun _ => h⟩⟩)⟩
theorem bf_pair (hC : cmC M n B pr id T U) : CM M pr T U mCommands_allocate mM_frees [.ref 108, .int 0] [.ref 116, .int (nI n)] := by
  obtain ⟨V, W, hC2, hx, hm, h3, alt⟩ := nums2 hC
  rcases alt with ⟨l, r⟩ | ⟨v1, v2, b1, b2, z73, l, r⟩
  · refine ⟨nI 30, _, _, cmE_t hx hm h3 (cm_f0 hC2 30 0 0 (by omega) (by omega)), rzx_of (fun K h => ?_), rzx_of (fun K h => ?_)⟩
    · show rz _ 0 [(0, .ref 108), (1, .int 0)] [] _ _
      have h33 : rz mCommands_allocate 33 [(0, .ref 108)] [] V (rz_i K) := p_Commands_allocate_33 (rz_toI (c_Status_set _ _ _) h)
      exact p_Commands_allocate_0 (l _ (fun a b ab => ⟨fun _ => h33, fun z => ⟨fun _ => h33, fun z2 => by rcases ab with y | y <;> contradiction⟩⟩))
    · show rz _ 0 [(0, .ref 116), (1, .int (nI n))] [] _ _
      exact p_M_frees_0 (r _ _ (rz_toI (c_M_fault _ _ _) h) (fun a b z => ⟨fun y => absurd y z, fun _ => rz_toI (c_M_fault _ _ _) h⟩))
  · have hD := hC2.2.1
    have left : ∀ K : Int32 → rz_S → Prop, ((lgI (nI v1) (nI v2) = 0 → rz_ev mStatus_set [.ref 3, .int 66, .int (nI v1), .int (nI v2)] V (rz_i K)) ∧ (¬ lgI (nI v1) (nI v2) = 0 → rz_ev mBlockMap_load [.ref 44] V (rz_i (fun xq8 Sq8 => ((xq8 = 0 → rz_ev mBlockMap_giveBack [.ref 44, .int (nI v1), .int (nI v2)] Sq8 (rz_v (fun Sq3 => rz_ev mBlockMap_store [.ref 44] Sq3 (rz_i K)))) ∧ (¬ xq8 = 0 → K xq8 Sq8)))))) → rz_ev mCommands_allocate [.ref 108, .int 0] T (rz_i K) := fun K h => by
      show rz _ 0 [(0, .ref 108), (1, .int 0)] [] _ _
      exact p_Commands_allocate_0 (l _ ⟨fun z => absurd z (nI_m1 (by omega)), fun _ => ⟨fun z => absurd z (nI_m1 (by omega)), fun _ => rz_toI (c_Disk_legal _ _) ⟨h.1, fun lg => rz_useI (h.2 lg) (fun a S q => ⟨fun a0 => ⟨fun _ => p_Commands_allocate_105 ⟨fun _ => rz_useV (q.1 a0) (fun S3 q3 => p_Commands_allocate_130 q3), fun z => absurd rfl z⟩, fun z => absurd rfl z⟩, q.2⟩)⟩⟩⟩)
    have right : ∀ K : Int32 → rz_S → Prop, ((lgI (nI v1) (nI v2) = 0 → rz_ev mM_fault [.ref 116, .int 66, .int (nI v1), .int (nI v2)] W (rz_i K)) ∧ (¬ lgI (nI v1) (nI v2) = 0 → rz_ev mM_loads [.ref 116] W (rz_i (fun xq8 Sq8 => ((xq8 = 0 → rz_ev mM_givesBack [.ref 116, .int (nI v1), .int (nI v2)] Sq8 (rz_v (fun Sq12 => rz_ev mM_stores [.ref 116] Sq12 (rz_i K)))) ∧ (¬ xq8 = 0 → K xq8 Sq8)))))) → rz_ev mM_frees [.ref 116, .int (nI n)] U (rz_i K) := fun K h => by
      show rz _ 0 [(0, .ref 116), (1, .int (nI n))] [] _ _
      exact p_M_frees_0 (r _ _ ⟨fun _ => rz_toI (c_M_legal _ _) h, fun z => absurd z73 z⟩)
    by_cases lg : lgI (nI v1) (nI v2) = 0
    · exact ⟨nI 66, _, _, cmE_t hx hm h3 (cm_f0 hC2 66 v1 v2 (by omega) (by omega)), rzx_of (fun K h => left K ⟨fun _ => rz_toI (c_Status_set _ _ _) h, fun z => absurd lg z⟩), rzx_of (fun K h => right K ⟨fun _ => rz_toI (c_M_fault _ _ _) h, fun z => absurd lg z⟩)⟩
    · obtain ⟨x, V1, y, W1, l1, l2, rfl, lx, lm, ⟨id1, D1⟩, la, lM⟩ := PR_load hD
      by_cases x0 : x = 0
      · subst x0
        obtain ⟨Ux, Um, g1, g2, f, g, rfl, rfl, hM2⟩ := PR_giveBack (lM rfl) (nI v1) (nI v2)
        obtain ⟨y, V2, W2, hE, s1, s2⟩ := al_store hC2 (bgX_t (bgX_ch lx) (bgX_f (by omega))) (bgM_t (bgM_ch lm) (bgM_f (by omega))) (ans_z la rfl) (Dk_mf (Dk_xf D1 (by omega)) (by omega)) hM2
        exact ⟨y, V2, W2, cmE_t hx hm h3 hE, rzx_of (fun K h => left K ⟨fun z => absurd z lg, fun _ => rzx_I l1 ⟨fun _ => rzx_V g1 (rzx_I s1 h), fun z => absurd rfl z⟩⟩), rzx_of (fun K h => right K ⟨fun z => absurd z lg, fun _ => rzx_I l2 ⟨fun _ => rzx_V g2 (rzx_I s2 h), fun z => absurd rfl z⟩⟩)⟩
      · exact ⟨x, V1, W1, cmE_t hx hm h3 (cm_of hC2 (bgX_ch lx) (bgM_ch lm) ⟨B, id1, D1⟩ la), rzx_of (fun K h => left K ⟨fun z => absurd z lg, fun _ => rzx_I l1 ⟨fun z => absurd z x0, fun _ => h⟩⟩), rzx_of (fun K h => right K ⟨fun z => absurd z lg, fun _ => rzx_I l2 ⟨fun z => absurd z x0, fun _ => h⟩⟩)⟩
end CM4
