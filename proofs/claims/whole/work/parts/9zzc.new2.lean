/-! commands: NEW, its end and the whole of it -/
theorem zR_c (a b : Nat → Int32) : ∀ j, j < 64 → zR a j = zR b j ∧ byt (zR a j) := fun j hj => by
  unfold zR
  rw [if_pos hj, if_pos hj]
  exact ⟨rfl, 0, by omega, rfl⟩
theorem nw_c (a b : Nat → Int32) : ∀ j, j < 64 → nwF (zR a) j = nwF (zR b) j ∧ byt (nwF (zR a) j) := faR_c 12 1 rfl (by omega) (eqb_upd (eqb_upd (eqb_upd (zR_c a b) rfl ⟨7, by omega, rfl⟩) rfl ⟨1, by omega, rfl⟩) rfl ⟨68, by omega, rfl⟩)
/-- the MAP begun, on the class's side -/
theorem c_mapBegin {V : rz_S} {m : Nat} (hm : m ≤ 10) (len : V.2 109 1 = nI m) : rz_ev mBlockMap_begin [.ref 44, .ref 109] V (rz_v (fun S1 => S1 = rz_fA V 45 (upd (upd (nmR (tkR (tkR (nwF (zR (V.1 45))) 7 0) 7 1) (V.1 110) m 28) 38 (V.2 6 1)) 39 (V.2 6 2)))) := by
  have tk : ∀ (F : Nat → Int32) (s : Nat), s < 6 → fr F 7 s = true → rz_ev mBlockMap_takeBlock [.ref 44, .int (nI 7), .int (nI s)] (rz_fA V 45 F) (rz_v (fun S1 => S1 = rz_fA V 45 (tkR F 7 s))) := fun F s hs hf => by
    refine rz_toV (c_BlockMap_takeBlock (t := 7) (s := s) (by omega) (by omega) (by unfold sct; omega)) ?_
    rw [rz_fA_s, if_pos hf, rz_fAA]
  show rz _ 0 [(0, .ref 44), (1, .ref 109)] [] _ _
  refine p_BlockMap_begin_0 pt109 (rz_toV (c_Arr_fill (n := 64) rfl (by omega) 0) ?_)
  show rz_ev mBlockMap_freeAll [.ref 44] (rz_fA (rz_fA (rz_fA (rz_fA V 45 (zR (V.1 45))) 45 (upd ((rz_fA V 45 (zR (V.1 45))).1 45) 0 7)) 45 (upd (upd ((rz_fA V 45 (zR (V.1 45))).1 45) 0 7) 1 1)) 45 (upd (upd (upd ((rz_fA V 45 (zR (V.1 45))).1 45) 0 7) 1 1) 2 68)) _
  rw [rz_fA_s, rz_fAA, rz_fAA, rz_fAA]
  refine rz_toV c_BlockMap_freeAll ?_
  rw [rz_fA_s, rz_fAA]
  refine rz_toV (tk (nwF (zR (V.1 45))) 0 (by omega) (nw_fr0 _)) (rz_toV (tk _ 1 (by omega) (nw_fr1 _)) (rz_toV (c_Pattern_putInto (n := m) (at0 := 28) pt109 rfl (by omega) hm len (by omega)) ?_))
  rw [rz_fA_s, rz_fAA, rz_fAA, rz_fAA, rz_fA_s, show (109 : Nat) + 1 = 110 from rfl, rz_fA_n (by omega)]
  rfl
section CM6
variable {M n : Nat} {B : Nat → Nat → Bool} {pr : Bool} {id : Option (Nat × Nat)} {T U : rz_S}
theorem mp_tail {V W : rz_S} {m i j : Nat} {B1 : Nat → Nat → Bool} (hC : cmC M n B pr id T U) (gx : GX 99 T V) (gm : GM 99 U W) (st : ∀ z, V.2 3 z = T.2 3 z) (D : Dk B1 pr (some (i, j)) V W) (len : V.2 109 1 = nI m) (hm : m ≤ 10) (rows : ∀ k, k < m → V.1 110 k = W.1 151 (2 + k) ∧ byt (V.1 110 k)) : ∃ x V1 W1, cmE M pr T U x V1 W1 ∧ (∀ K : Int32 → rz_S → Prop, K x V1 → rz mCommands_newDisk 185 [(0, .ref 108), (4, .int 0)] [] V (rz_i K)) ∧ ∀ K : Int32 → rz_S → Prop, K x W1 → rz mM_maps 21 [(0, .ref 116), (1, .int (nI m)), (2, .int 0)] [] W (rz_i K) := by
  have v61 : V.2 6 1 = nI i := D.2.2.2.2.1.1
  have v62 : V.2 6 2 = nI j := D.2.2.2.2.1.2.1
  have w2 : W.2 116 2 = nI i := D.2.2.2.2.2.1.1
  have w3 : W.2 116 3 = nI j := D.2.2.2.2.2.1.2.1
  have ib : i < 256 := D.2.2.2.2.1.2.2.1
  have jb : j < 256 := D.2.2.2.2.1.2.2.2
  have hb := c_mapBegin (V := V) hm len
  rw [v61, v62] at hb
  obtain ⟨_, V0, e0, rfl, hV0⟩ := rzx_ev hb
  -- the reference's MAP
  generalize hG0 : nwF (zR (W.1 123)) = G0
  generalize hG1 : upd (upd (nmR G0 (fun k => W.1 151 (2 + k)) m 28) 38 (nI i)) 39 (nI j) = G1
  have rt1 : rz_ev mM_takes [.ref 116, .int 7, .int 0] (rz_fA W 123 G1) (rz_v (fun S1 => S1 = rz_uI (rz_uI (rz_fA W 123 (tkR G1 7 0)) 116 25 (nI 7)) 116 26 (nI 0))) := by
    refine rz_toV (c_M_takes (t := 7) (s := 0) (by omega)) ?_
    rw [rz_fA_s, rz_fAA]
  obtain ⟨_, W1, q1, rfl, hW1⟩ := rzx_ev rt1
  obtain ⟨_, W2, q2, rfl, hW2⟩ := rzx_ev (c_M_takes (S := W1) (t := 7) (s := 1) (by omega))
  have w123 : W2.1 123 = tkR (tkR G1 7 0) 7 1 := by rw [hW2, hW1]; simp (disch := omega) only [uI1, fA2, rz_fA_n, rz_uI_n, rz_fA_s, rz_uI_s, pk_us]
  have wn : ∀ q, q ≠ 123 → W2.1 q = W.1 q := fun q hq => by rw [hW2, hW1]; simp (disch := omega) only [uI1, fA2, rz_fA_n, rz_uI_n, rz_fA_s, rz_uI_s, pk_us]
  have wu : ∀ z, z ≠ 25 → z ≠ 26 → W2.2 116 z = W.2 116 z := fun z a b => by rw [hW2, hW1]; simp (disch := omega) only [uI1, fA2, rz_fA_n, rz_uI_n, rz_fA_s, rz_uI_s, pk_us]
  have right : ∀ K : Int32 → rz_S → Prop, rz_ev mM_stores [.ref 116] W2 (rz_i (fun xq4 Sq4 => ((xq4 = 0 → rz mM_maps 158 [(0, .ref 116), (3, .int 0)] [] Sq4 (rz_i K)) ∧ (¬ xq4 = 0 → K xq4 Sq4)))) → rz mM_maps 21 [(0, .ref 116), (1, .int (nI m)), (2, .int 0)] [] W (rz_i K) := fun K h => by
    have a21 := m21 (S := W) (a1 := nI m) (K := K) 64 0 (W.1 123) rfl (fun j => by rw [if_neg (by omega)])
    rw [rz_fA_self] at a21
    refine a21 (rz_toV c_M_freesAll ?_)
    rw [rz_fA_s, rz_fAA, show faR 12 1 (upd (upd (upd (zR (W.1 123)) 0 7) 1 1) 2 68) = G0 from hG0]
    have a69 := m69 (S := rz_fA W 123 G0) (m := m) (K := K) hm
    rw [rz_fA_s, rz_fAA, show (rz_fA W 123 G0).2 = W.2 from rfl, w2, w3, show (rz_fA W 123 G0).1 151 = W.1 151 from rz_fA_n (by omega), hG1] at a69
    have := a69 (rzx_V q1 (rzx_V q2 h)) 10 0 G0 rfl (fun j => by rw [if_neg (by omega)])
    rw [rz_fAA] at this
    exact this
  have hmp : Mp V0 W2 := fun k hk => by
    have c1 := eqb_upd (eqb_upd (nmR_c (at0 := 28) (tkR_c (t := 7) (s := 1) (by omega) (tkR_c (t := 7) (s := 0) (by omega) (nw_c (V.1 45) (W.1 123)))) (nm := V.1 110) (nm' := fun k => W.1 151 (2 + k)) (n := m) rows) (k := 38) (show nI i = nI i from rfl) ⟨i, ib, rfl⟩) (k := 39) (show nI j = nI j from rfl) ⟨j, jb, rfl⟩ k hk
    rw [hV0, rz_fA_s, w123, ← hG1, ← hG0, nw_row k hk]
    exact c1
  have D0 : Dk B1 pr (some (i, j)) V0 W2 := Dk_m (Dk_x D (fun q a b => by rw [hV0]; simp (disch := omega) only [uI1, fA2, rz_fA_n, rz_uI_n, rz_fA_s, rz_uI_s, pk_us]) (fun u z hu => by rw [hV0]; rfl)) (fun q a b => wn q (by omega)) (fun z hz => wu z (by omega) (by omega))
  have gV0 : GX 99 T V0 := GX_t gx (by rw [hV0]; exact GX_f2 (by omega))
  have gW2 : GM 99 U W2 := GM_t gm (by rw [hW2, hW1]; exact GM_t (GM_b (bgM_f (by omega))) (GM_t (GM_b (bgM_u (by omega))) (GM_t (GM_b (bgM_u (by omega))) (GM_t (GM_b (bgM_f (by omega))) (GM_t (GM_b (bgM_u (by omega))) (GM_b (bgM_u (by omega))))))))
  obtain ⟨x, V3, y, W3, b1, b2, rfl, fx, fm, ⟨B3, id3, D3⟩, an⟩ := PR_store D0 hmp
  have gV3 : GX 99 T V3 := GX_t gV0 (GX_b (bgX_rF (by omega) fx))
  have gW3 : GM 99 U W3 := GM_t gW2 (GM_b (bgM_wM fm))
  have st0 : ∀ z, V0.2 3 z = T.2 3 z := fun z => by rw [hV0]; exact st z
  have left : ∀ K : Int32 → rz_S → Prop, rz mCommands_newDisk 210 [(0, .ref 108), (4, .int x)] [] V3 (rz_i K) → rz mCommands_newDisk 185 [(0, .ref 108), (4, .int 0)] [] V (rz_i K) := fun K h => p_Commands_newDisk_185 ⟨fun _ => rzx_V e0 (rzx_I b1 h), fun z => absurd rfl z⟩
  by_cases x0 : x = 0
  · subst x0
    have s3 := ans_z an rfl
    have rowE : ∀ k, k < 64 → upd (zR (V3.1 47)) 1 255 k = upd (zR (W3.1 125)) 1 255 k ∧ byt (upd (zR (V3.1 47)) 1 255 k) := eqb_upd (zR_c _ _) rfl ⟨255, by omega, rfl⟩
    obtain ⟨rr, hr⟩ := row_nat rowE
    obtain ⟨y, V4, y', W4, j1, j2, rfl, xc, id4, B4, ex, x100, D4, h1, h2, o2, n2⟩ := PR_write (Sx := rz_uI (rz_fA V3 47 (upd (zR (V3.1 47)) 1 255)) 46 6 0) (Sm := rz_fA W3 125 (upd (zR (W3.1 125)) 1 255)) (t := 7) (s := 1) (a := 47) (a' := 125) (at0 := 0) (na := 64) (Dk_mf (Dk_xu (Dk_xf D3 (by omega)) (by omega)) (by omega)) (by omega) (by omega) (by omega) rfl (by omega) rfl (by omega) (by omega) (by omega) (fun k hk => by simp (disch := omega) only [uI1, fA2, rz_fA_n, rz_uI_n, rz_fA_s, rz_uI_s, pk_us]; exact hr k hk)
    have an4 : ans T y V4 W4 := by
      refine ans_t (Tx := rz_uI (rz_fA V3 47 (upd (zR (V3.1 47)) 1 255)) 46 6 0) (fun z => by simp (disch := omega) only [uI1, fA2, rz_fA_n, rz_uI_n, rz_fA_s, rz_uI_s, pk_us]; exact (s3 z).trans (st0 z)) ?_
      by_cases z : xc = 0
      · exact Or.inl ⟨by rw [ex, z]; rfl, o2 z⟩
      · obtain ⟨hfl, h33⟩ := n2 z
        exact Or.inr ⟨xc, z, x100, ex, hfl, h33⟩
    refine ⟨y, V4, W4, cm_g (c := 99) hC (GX_t gV3 (GX_t (GX_f2 (by omega)) (GX_t (GX_u2 (by omega)) (GX_b (bgX_rF (by omega) h1))))) (GM_t gW3 (GM_t (GM_b (bgM_f (by omega))) (GM_b (bgM_wM h2)))) ⟨B4, id4, D4⟩ an4 (fun z => absurd z (by decide)), fun K h => left K (p_Commands_newDisk_210 ⟨fun _ => ?_, fun z => absurd rfl z⟩), fun K h => right K (rzx_I b2 ⟨fun _ => ?_, fun z => absurd rfl z⟩)⟩
    · show rz _ 0 [(0, .ref 46), (1, .int 7), (2, .int 1)] [] _ _
      refine p_Directory_writeEmpty_0 (rz_toV (c_Arr_fill (n := 64) rfl (by omega) 0) ?_)
      show rz_ev mDisk_writeBlock [.ref 6, .int 7, .int 1, .ref 47] (rz_uI (rz_fA (rz_fA V3 47 (zR (V3.1 47))) 47 (upd ((rz_fA V3 47 (zR (V3.1 47))).1 47) 1 255)) 46 6 0) _
      rw [rz_fA_s, rz_fAA]
      exact rzx_I j1 h
    · have := m158 (S := W3) (K := K) (rzx_I j2 h) 64 0 (W3.1 125) rfl (fun j => by rw [if_neg (by omega)])
      rw [rz_fA_self] at this
      exact this
  · exact ⟨x, V3, W3, cm_g (c := 99) hC gV3 gW3 ⟨B3, id3, D3⟩ (ans_t st0 an) (fun z => absurd z (by decide)), fun K h => left K (p_Commands_newDisk_210 ⟨fun z => absurd z x0, fun _ => h⟩), fun K h => right K (rzx_I b2 ⟨fun z => absurd z x0, fun _ => h⟩)⟩
theorem nw_pair (hC : cmC M n B pr id T U) (hn2 : 2 ≤ n) (hn40 : n ≤ 40) (hc : T.1 2 1 = 58) : CM M pr T U mCommands_newDisk mM_news [.ref 108] [.ref 116, .int (nI n)] := by
  obtain ⟨hn, hl, htx, _⟩ := hC.1
  have hD := hC.2.1
  have lp : ∀ (w j : Nat) (K : Int32 → rz_S → Prop), j + w = n → rz mM_news 25 [(0, .ref 116), (1, .int (nI n)), (2, .int (nI ((fnd (T.1 2) 44 n j).getD n)))] [] U (rz_i K) → rz mM_news 2 [(0, .ref 116), (1, .int (nI n)), (2, .int (nI j))] [] U (rz_i K) := by
    intro w
    induction w with
    | zero =>
      intro j K e h
      rw [fnd_e (by omega)] at h
      have ej : j = n := by omega
      subst ej
      exact p_M_news_2 ⟨fun _ => h, fun z => absurd (nI_le (by omega) (by omega)) z⟩
    | succ w ih =>
      intro j K e h
      refine p_M_news_2 ⟨fun z => ?_, fun _ => ?_⟩
      · have := (nI_leI (a := n) (b := j) (by omega) (by omega)).mp z
        omega
      · rw [nI_clamp (by omega), ← (htx j (by omega)).1, nI_1]
        rw [fnd_s (by omega)] at h
        refine ⟨rin (by omega) (by omega), fun z => ?_, fun z => ?_⟩
        · rw [if_pos z] at h; exact h
        · rw [if_neg z] at h; exact ih (j + 1) K (by omega) h
  -- where the NAME ends
  obtain ⟨q, ab, hq2, hqn, hq, hab⟩ : ∃ (q : Nat) (ab : Bool), 2 ≤ q ∧ q ≤ n ∧ (fnd (T.1 2) 44 n 2).getD n = q ∧ ((ab = true ∧ q < n ∧ oI (fnd (T.1 2) 44 n 2) = nI q) ∨ (ab = false ∧ q = n ∧ oI (fnd (T.1 2) 44 n 2) = -1)) := by
    cases hf : fnd (T.1 2) 44 n 2 with
    | none => exact ⟨n, false, hn2, by omega, rfl, Or.inr ⟨rfl, rfl, rfl⟩⟩
    | some q =>
      obtain ⟨a, b, _⟩ := fnd_lt hf
      exact ⟨q, true, a, by omega, rfl, Or.inl ⟨rfl, b, rfl⟩⟩
  have right : ∀ K : Int32 → rz_S → Prop, rz mM_news 39 [(0, .ref 116), (1, .int (nI n)), (2, .int (nI q)), (3, .int (nI (q - 2)))] [.int (nI ab.toNat)] U (rz_i K) → rz_ev mM_news [.ref 116, .int (nI n)] U (rz_i K) := fun K h => by
    show rz _ 0 [(0, .ref 116), (1, .int (nI n))] [] _ _
    refine p_M_news_0 (lp (n - 2) 2 K (by omega) ?_)
    rw [hq]
    refine p_M_news_25 ?_
    rw [show (nI q - 2 : Int32) = nI (q - 2) from pk_sub (b := 2) (by omega)]
    rcases hab with ⟨rfl, a, _⟩ | ⟨rfl, a, _⟩
    · exact ⟨fun z => by have := (nI_leI (a := n) (b := q) (by omega) (by omega)).mp z; omega, fun _ => h⟩
    · exact ⟨fun _ => h, fun z => absurd (nI_le (by omega) (by omega)) z⟩
  have left : ∀ K : Int32 → rz_S → Prop, rz_ev mPattern_take [.ref 109, .ref 1, .int (nI 2), .int (nI q)] T (rz_i (fun xq3 Sq3 => ((xq3 = 0 → rz mCommands_newDisk 71 [(0, .ref 108), (1, .int (oI (fnd (T.1 2) 44 n 2)))] [] Sq3 (rz_i K)) ∧ (¬ xq3 = 0 → rz_ev mPattern_isEmpty [.ref 109] Sq3 (rz_i (fun xq5 Sq5 => ((xq5 = 0 → rz mCommands_newDisk 72 [(0, .ref 108), (1, .int (oI (fnd (T.1 2) 44 n 2)))] [.int 1] Sq5 (rz_i K)) ∧ (¬ xq5 = 0 → rz mCommands_newDisk 71 [(0, .ref 108), (1, .int (oI (fnd (T.1 2) 44 n 2)))] [] Sq5 (rz_i K))))))))) → rz_ev mCommands_newDisk [.ref 108] T (rz_i K) := fun K h => by
    show rz _ 0 [(0, .ref 108)] [] _ _
    refine p_Commands_newDisk_0 (rz_toI (c_find (i := 2) hn hl (by omega)) ?_)
    have h27 : rz mCommands_newDisk 27 [(0, .ref 108), (1, .int (oI (fnd (T.1 2) 44 n 2)))] [.int (nI q)] T (rz_i K) := by
      refine p_Commands_newDisk_27 (rz_toI (c_byteAt (i := 1) hn hl (by omega)) ?_)
      rw [if_pos (by omega), hc]
      exact ⟨fun _ => h, fun z => absurd rfl z⟩
    rcases hab with ⟨_, a, b⟩ | ⟨_, a, b⟩
    · rw [b] at h27 ⊢
      exact ⟨fun z => absurd z (nI_m1 (by omega)), fun _ => h27⟩
    · rw [b] at h27 ⊢
      refine ⟨fun _ => ?_, fun z => absurd rfl z⟩
      rw [hl, ← a]
      exact h27
  have no30 : ∀ V : rz_S, GX 99 T V → Dk B pr id V U → V.2 3 3 = T.2 3 3 → (∀ K : Int32 → rz_S → Prop, rz mCommands_newDisk 95 [(0, .ref 108)] [] V (rz_i K) → rz_ev mCommands_newDisk [.ref 108] T (rz_i K)) → (∀ K : Int32 → rz_S → Prop, rz mM_news 63 [(0, .ref 116)] [] U (rz_i K) → rz_ev mM_news [.ref 116, .int (nI n)] U (rz_i K)) → CM M pr T U mCommands_newDisk mM_news [.ref 108] [.ref 116, .int (nI n)] := fun V gx d h3 l r => ⟨nI 30, _, _, cm_fg hC 30 0 0 (by omega) (by omega) gx (GM_r 99 U) ⟨B, id, d⟩ h3, rzx_of (fun K h => l K (p_Commands_newDisk_95 (rz_toI (c_Status_set _ _ _) h))), rzx_of (fun K h => r K (p_M_news_63 (rz_toI (c_M_fault _ _ _) h)))⟩
  obtain ⟨_, V1, e1, x1, rfl, h1⟩ := rzx_ev (c_take (S := T) (p := 109) (n := n) (f := 2) (t := q) pt109 (by omega) hn hl (by omega) (by omega))
  rcases h1 with ⟨rfl, rfl, hlt⟩ | ⟨rfl, hle, g1, hV1, hg1⟩
  · exact no30 V1 (GX_r 99 V1) hD rfl (fun K h => left K (rzx_I e1 ⟨fun _ => p_Commands_newDisk_71 (p_Commands_newDisk_72 ⟨fun _ => h, fun z => absurd rfl z⟩), fun z => absurd rfl z⟩)) (fun K h => right K (p_M_news_39 ⟨fun _ => h, fun _ => ⟨fun _ => h, fun z => absurd (nI_lt (a := 10) (by omega) (by omega)) z⟩⟩))
  · have gV1 : GX 99 T V1 := by rw [hV1]; exact GX_t (GX_p (by omega)) (GX_pf (by omega))
    have uV1 : ∀ u z, u ≠ 109 → V1.2 u z = T.2 u z := fun u z hu => by rw [hV1]; simp (disch := omega) only [uI1, fA2, rz_fA_n, rz_uI_n, rz_fA_s, rz_uI_s, pk_us]
    have aV1 : ∀ p, p ≠ 110 → V1.1 p = T.1 p := fun p hp => by rw [hV1]; simp (disch := omega) only [uI1, fA2, rz_fA_n, rz_uI_n, rz_fA_s, rz_uI_s, pk_us]
    have DV1 : Dk B pr id V1 U := Dk_x hD (fun q a b => aV1 q (by omega)) (fun u z hu => uV1 u z (by omega))
    have hl1 : V1.2 1 2 = nI n := (uV1 1 2 (by omega)).trans hl
    have l109 : V1.2 109 1 = nI (q - 2) := by rw [hV1]; simp (disch := omega) only [uI1, fA2, rz_fA_n, rz_uI_n, rz_fA_s, rz_uI_s, pk_us]
    have r110 : ∀ k, k < q - 2 → V1.1 110 k = U.1 151 (2 + k) ∧ byt (V1.1 110 k) := fun k hk => by
      have : V1.1 110 k = T.1 2 (2 + k) := by
        rw [hV1]; simp (disch := omega) only [uI1, fA2, rz_fA_n, rz_uI_n, rz_fA_s, rz_uI_s, pk_us]
        rw [hg1 k hk, if_pos (by omega)]
      rw [this]
      exact htx _ (by omega)
    have s1 : ∀ z, V1.2 3 z = T.2 3 z := fun z => uV1 3 z (by omega)
    by_cases hem : q - 2 = 0
    · refine no30 V1 gV1 DV1 (s1 3) (fun K h => left K (rzx_I e1 ⟨fun z => absurd z (by decide), fun _ => ?_⟩)) (fun K h => right K (p_M_news_39 ⟨fun _ => h, fun z => absurd (by rw [hem]; rfl) z⟩))
      show rz _ 0 [(0, .ref 109)] [] _ _
      refine p_Pattern_isEmpty_0 pt109 ⟨fun _ => ⟨fun z => absurd z (by decide), fun _ => p_Commands_newDisk_71 (p_Commands_newDisk_72 ⟨fun _ => h, fun z => absurd rfl z⟩)⟩, fun z => absurd ?_ z⟩
      rw [l109, hem]; rfl
    · have qne : ¬ nI (q - 2) = 0 := nI_ne0 (by omega) (by omega)
      have left2 : ∀ K : Int32 → rz_S → Prop, rz mCommands_newDisk 72 [(0, .ref 108), (1, .int (oI (fnd (T.1 2) 44 n 2)))] [.int 1] V1 (rz_i K) → rz_ev mCommands_newDisk [.ref 108] T (rz_i K) := fun K h => left K (rzx_I e1 ⟨fun z => absurd z (by decide), fun _ => by
        show rz _ 0 [(0, .ref 109)] [] _ _
        refine p_Pattern_isEmpty_0 pt109 ?_
        rw [l109]
        exact ⟨fun z => absurd z qne, fun _ => ⟨fun _ => h, fun z => absurd rfl z⟩⟩⟩)
      have right2 : ∀ K : Int32 → rz_S → Prop, ((nI ab.toNat = 0 → rz mM_news 72 [(0, .ref 116), (2, .int (nI q)), (3, .int (nI (q - 2))), (4, .int (nI ab.toNat))] [] U (rz_i K)) ∧ (¬ nI ab.toNat = 0 → ((nI n - nI q = 3 → rz mM_news 72 [(0, .ref 116), (2, .int (nI q)), (3, .int (nI (q - 2))), (4, .int (nI ab.toNat))] [] U (rz_i K)) ∧ (¬ nI n - nI q = 3 → rz mM_news 63 [(0, .ref 116)] [] U (rz_i K))))) → rz_ev mM_news [.ref 116, .int (nI n)] U (rz_i K) := fun K h => right K (p_M_news_39 ⟨fun z => absurd z qne, fun _ => ⟨fun z => absurd z (nI_nlt (a := 10) (b := q - 2) (by omega) (by omega)), fun _ => h⟩⟩)
      by_cases bad : ab = true ∧ ¬ n - q = 3
      · obtain ⟨rfl, b3⟩ := bad
        rcases hab with ⟨_, a, b⟩ | ⟨z, _⟩
        · have b3' : ¬ nI n - nI q = 3 := fun z => by
            rw [pk_sub (by omega)] at z
            exact b3 ((nI_eq (b := 3) (by omega) (by omega)).mp z)
          refine no30 V1 gV1 DV1 (s1 3) (fun K h => left2 K (p_Commands_newDisk_72 ⟨fun z => absurd z (by decide), fun _ => ⟨fun z => absurd (b.symm.trans z) (nI_m1 (by omega)), fun _ => ⟨fun z => absurd ?_ b3', fun _ => h⟩⟩⟩)) (fun K h => right2 K ⟨fun z => absurd z (by decide), fun _ => ⟨fun z => absurd z b3', fun _ => h⟩⟩)
          rw [hl1, b] at z
          exact z
        · cases z
      · have left3 : ∀ K : Int32 → rz_S → Prop, rz mCommands_newDisk 107 [(0, .ref 108), (1, .int (oI (fnd (T.1 2) 44 n 2)))] [] V1 (rz_i K) → rz_ev mCommands_newDisk [.ref 108] T (rz_i K) := fun K h => left2 K (p_Commands_newDisk_72 ⟨fun z => absurd z (by decide), fun _ => ⟨fun _ => h, fun z => ⟨fun _ => h, fun z2 => ?_⟩⟩⟩)
        · have right3 : ∀ K : Int32 → rz_S → Prop, rz mM_news 72 [(0, .ref 116), (2, .int (nI q)), (3, .int (nI (q - 2))), (4, .int (nI ab.toNat))] [] U (rz_i K) → rz_ev mM_news [.ref 116, .int (nI n)] U (rz_i K) := fun K h => right2 K ⟨fun _ => h, fun z => ⟨fun _ => h, fun z2 => ?_⟩⟩
          · have w1 : wlF (V1.1 110) (q - 2) 0 = wlF (fun i => U.1 151 (2 + i)) (q - 2) 0 := wlF_c (fun k hk => (r110 k hk).1) _ 0 (by omega)
            have cw1 := c_Pattern_isWild (S := V1) (p := 109) (n := q - 2) pt109 (by omega) l109
            have cm1 := c_M_isWild (S := U) (n := q - 2) (q := 2) (by omega)
            rw [w1] at cw1
            generalize wlF (fun i => U.1 151 (2 + i)) (q - 2) 0 = k1 at cw1 cm1
            cases k1 with
            | true => exact ⟨nI 33, _, _, cm_fg hC 33 0 0 (by omega) (by omega) gV1 (GM_r 99 U) ⟨B, id, DV1⟩ (s1 3), rzx_of (fun K h => left3 K (p_Commands_newDisk_107 (rz_toI cw1 ⟨fun z => absurd z (by decide), fun _ => rz_toI (c_Status_set _ _ _) h⟩))), rzx_of (fun K h => right3 K (p_M_news_72 (rz_toI cm1 ⟨fun z => absurd z (by decide), fun _ => rz_toI (c_M_fault _ _ _) h⟩)))⟩
            | false =>
              rcases hab with ⟨rfl, a, b⟩ | ⟨rfl, a, b⟩
              · -- with FORMAT
                have n3 : n = q + 3 := by
                  have : n - q = 3 := Decidable.byContradiction fun z => bad ⟨rfl, z⟩
                  omega
                obtain ⟨i, ib, ei⟩ := (htx (q + 1) (by omega)).2
                obtain ⟨j, jb, ej⟩ := (htx (q + 2) (by omega)).2
                obtain ⟨_, U1, e3, rfl, f, hU1, hf⟩ := rzx_ev (c_M_shutsAll (S := U))
                have hC2 : cmC M n B pr id (dr_to T 15) U1 := by
                  obtain ⟨⟨t1, t2, t3, t4⟩, hD, hc, ⟨r1, r2, r3, r4⟩, c1, c2, c3⟩ := hC
                  rw [hU1]
                  refine ⟨⟨t1, (dr_qn (by omega)).trans t2, fun j hj => by simp (disch := omega) only [uI1, fA2, rz_fA_n, rz_uI_n, rz_fA_s, rz_uI_s, pk_us]; exact t3 j hj, by simp (disch := omega) only [uI1, fA2, rz_fA_n, rz_uI_n, rz_fA_s, rz_uI_s, pk_us]; exact t4⟩, Dk_dr hD, fun d hd => Chn_0 (dr_q0 hd) (by simp (disch := omega) only [uI1, fA2, rz_fA_n, rz_uI_n, rz_fA_s, rz_uI_s, pk_us]; exact hf d hd), ⟨(dr_qn (by omega)).trans r1, (dr_qn (by omega)).trans r2, r3, r4⟩, fun b => by simp (disch := omega) only [uI1, fA2, rz_fA_n, rz_uI_n, rz_fA_s, rz_uI_s, pk_us]; exact c1 b, fun z a b => (dr_qn (by omega)).trans (c2 z a b), (dr_qn (by omega)).trans c3⟩
                have hxT : hX T (dr_to T 15) := ⟨rfl, ⟨rfl, rfl⟩, fun z _ => dr_qn (by omega), fun u z hu => dr_qn (by omega)⟩
                have hmU : hM U U1 := by rw [hU1]; exact ⟨by simp (disch := omega) only [uI1, fA2, rz_fA_n, rz_uI_n, rz_fA_s, rz_uI_s, pk_us], by simp (disch := omega) only [uI1, fA2, rz_fA_n, rz_uI_n, rz_fA_s, rz_uI_s, pk_us], fun z _ => rfl⟩
                obtain ⟨x, V2, W2, fx, fm, hD2, an, hid, l, r⟩ := fa_loop (pr := pr) (id := id) (T := dr_to V1 15) (U := U1) (a3 := nI (q - 2)) ib jb 12 (dr_to V1 15) U1 (by omega) (bgX_r _) (bgM_r _) ⟨B, by rw [hU1]; exact Dk_dr DV1⟩ (fun _ => rfl)
                have left4 : ∀ K : Int32 → rz_S → Prop, rz mCommands_newDisk 185 [(0, .ref 108), (4, .int x)] [] V2 (rz_i K) → rz_ev mCommands_newDisk [.ref 108] T (rz_i K) := fun K h => left3 K (p_Commands_newDisk_107 (rz_toI cw1 ⟨fun _ => ⟨fun z => absurd (b.symm.trans z) (nI_m1 (by omega)), fun _ => by
                  rw [b, nI_1, show (nI q + 2 : Int32) = nI (q + 2) from nI_add _ 2]
                  refine rz_toI (c_byteAt (i := q + 1) hn hl1 (by omega)) (rz_toI (c_byteAt (i := q + 2) hn hl1 (by omega)) ?_)
                  rw [if_pos (by omega), if_pos (by omega), aV1 2 (by omega), ei, ej]
                  show rz _ 0 [(0, .ref 108), (1, .int (nI i)), (2, .int (nI j))] [] _ _
                  exact p_Commands_formatAll_0 (rz_toV c_Dos_dropAll (l _ h))⟩, fun z => absurd rfl z⟩))
                have right4 : ∀ K : Int32 → rz_S → Prop, ((x = 0 → rz mM_news 167 [(0, .ref 116), (3, .int (nI (q - 2)))] [] W2 (rz_i K)) ∧ (¬ x = 0 → K x W2)) → rz_ev mM_news [.ref 116, .int (nI n)] U (rz_i K) := fun K h => right3 K (p_M_news_72 (rz_toI cm1 ⟨fun _ => ⟨fun z => absurd z (by decide), fun _ => rzx_V e3 (by
                  rw [nI_1, show (nI q + 2 : Int32) = nI (q + 2) from nI_add _ 2, nI_clamp (by omega), nI_clamp (by omega), show U1.1 151 = U.1 151 from (by rw [hU1]; simp (disch := omega) only [uI1, fA2, rz_fA_n, rz_uI_n, rz_fA_s, rz_uI_s, pk_us]), ← (htx (q + 1) (by omega)).1, ← (htx (q + 2) (by omega)).1, ei, ej]
                  exact ⟨rin (by omega) (by omega), rin (by omega) (by omega), r K h⟩)⟩, fun z => absurd rfl z⟩))
                -- the pattern, taken before, beside the channels that are dropped
                have gdr : GX 99 (dr_to T 15) (dr_to V1 15) := by
                  refine ⟨⟨fun q a => ?_, fun d a b => ⟨?_, ?_⟩, fun u z a => ?_, fun d a b z => ?_⟩, ?_, fun z => ?_⟩
                  · exact aV1 q (by omega)
                  · exact aV1 _ (by omega)
                  · exact aV1 _ (by omega)
                  · rw [dr_qn (by omega), dr_qn (by omega)]; exact uV1 u z (by omega)
                  · unfold dr_to
                    simp only [uV1 (48 + 4 * d) z (by omega), uV1 (50 + 4 * d) z (by omega)]
                    exact ⟨trivial, trivial⟩
                  · exact aV1 115 (by omega)
                  · rw [dr_qn (by omega), dr_qn (by omega)]; exact uV1 0 z (by omega)
                have sd : ∀ z, (dr_to V1 15).2 3 z = (dr_to T 15).2 3 z := fun z => by rw [dr_qn (by omega), dr_qn (by omega)]; exact s1 z
                have gV2 : GX 99 (dr_to T 15) V2 := GX_t gdr (GX_b fx)
                have gW2 : GM 99 U1 W2 := GM_b fm
                by_cases x0 : x = 0
                · obtain ⟨B2, D2⟩ := hid x0
                  obtain ⟨y, V3, W3, hE, l3, r3⟩ := mp_tail (m := q - 2) hC2 gV2 gW2 (fun z => (ans_z an x0 z).trans (sd z)) D2 ((fx.2 109 1 (by omega) (by omega) (by omega) (by omega) (by omega)).trans ((dr_qn (by omega)).trans l109)) (by omega) (fun k hk => by
                    rw [fx.1 110 (by omega) (by omega) (by omega) (by omega), fm.1 151 (by omega) (by omega), show U1.1 151 = U.1 151 from (by rw [hU1]; simp (disch := omega) only [uI1, fA2, rz_fA_n, rz_uI_n, rz_fA_s, rz_uI_s, pk_us])]
                    exact r110 k hk)
                  have w2ne : ¬ W2.2 116 2 = -1 := by rw [D2.2.2.2.2.2.1.1]; exact nI_m1 (by omega)
                  refine ⟨y, V3, W3, cmE_t hxT hmU (fun z => dr_qn (by omega)) hE, rzx_of (fun K h => left4 K ?_), rzx_of (fun K h => right4 K ⟨fun _ => p_M_news_167 ?_, fun z => absurd x0 z⟩)⟩
                  · rw [x0]; exact l3 K h
                  · show rz _ 0 [(0, .ref 116), (1, .int (nI (q - 2)))] [] _ _
                    exact p_M_maps_0 ⟨fun z => absurd z w2ne, fun _ => r3 K h⟩
                · exact ⟨x, V2, W2, cmE_t hxT hmU (fun z => dr_qn (by omega)) (cm_g (c := 99) hC2 gV2 gW2 hD2 (ans_t sd an) (fun z => absurd z (by decide))), rzx_of (fun K h => left4 K (p_Commands_newDisk_185 ⟨fun z => absurd z x0, fun _ => p_Commands_newDisk_210 ⟨fun z => absurd z x0, fun _ => h⟩⟩)), rzx_of (fun K h => right4 K ⟨fun z => absurd z x0, fun _ => h⟩)⟩
              · -- without
                have left4 : ∀ K : Int32 → rz_S → Prop, rz_ev mDisk_hasId [.ref 6] V1 (rz_i (fun xq4 Sq4 => ((xq4 = 0 → rz_ev mDisk_takeId [.ref 6] Sq4 (rz_i (fun xq6 Sq6 => rz mCommands_newDisk 185 [(0, .ref 108), (4, .int xq6)] [] Sq6 (rz_i K)))) ∧ (¬ xq4 = 0 → rz mCommands_newDisk 185 [(0, .ref 108), (4, .int 0)] [] Sq4 (rz_i K))))) → rz_ev mCommands_newDisk [.ref 108] T (rz_i K) := fun K h => left3 K (p_Commands_newDisk_107 (rz_toI cw1 ⟨fun _ => ⟨fun _ => h, fun z => absurd b z⟩, fun z => absurd rfl z⟩))
                have right4 : ∀ K : Int32 → rz_S → Prop, ((U.2 116 2 = (-1) → rz_ev mM_takeId [.ref 116] U (rz_i (fun xq2 Sq2 => ((xq2 = 0 → rz mM_maps 21 [(0, .ref 116), (1, .int (nI (q - 2))), (2, .int 0)] [] Sq2 (rz_i K)) ∧ (¬ xq2 = 0 → K xq2 Sq2))))) ∧ (¬ U.2 116 2 = (-1) → rz mM_maps 21 [(0, .ref 116), (1, .int (nI (q - 2))), (2, .int 0)] [] U (rz_i K))) → rz_ev mM_news [.ref 116, .int (nI n)] U (rz_i K) := fun K h => right3 K (p_M_news_72 (rz_toI cm1 ⟨fun _ => ⟨fun _ => p_M_news_167 (by
                  show rz _ 0 [(0, .ref 116), (1, .int (nI (q - 2)))] [] _ _
                  exact p_M_maps_0 h), fun z => absurd rfl z⟩, fun z => absurd rfl z⟩))
                cases id with
                | none =>
                  obtain ⟨x, V2, W2, t1, t2, cx, cm, ⟨id2, D2⟩, an, hid⟩ := PR_takeId DV1
                  have u2 : U.2 116 2 = -1 := DV1.2.2.2.2.2.1.1
                  have left5 : ∀ K : Int32 → rz_S → Prop, rz mCommands_newDisk 185 [(0, .ref 108), (4, .int x)] [] V2 (rz_i K) → rz_ev mCommands_newDisk [.ref 108] T (rz_i K) := fun K h => left4 K (rz_toI (c_Disk_hasId DV1.2.2.2.2.1) ⟨fun _ => rzx_I t1 h, fun z => absurd rfl z⟩)
                  have gV2 : GX 99 T V2 := GX_t gV1 (GX_b (bgX_ch cx))
                  have gW2 : GM 99 U W2 := GM_b (bgM_ch cm)
                  by_cases x0 : x = 0
                  · obtain ⟨i, j, D3⟩ := hid x0
                    obtain ⟨y, V3, W3, hE, l3, r3⟩ := mp_tail (m := q - 2) hC gV2 gW2 (fun z => (ans_z an x0 z).trans (s1 z)) D3 ((cx.2 109 1 (by omega) (by omega) (by omega)).trans l109) (by omega) (fun k hk => by
                      rw [cx.1 110 (by omega) (by omega) (by omega), cm.1 151 (by omega) (by omega) (by omega)]
                      exact r110 k hk)
                    refine ⟨y, V3, W3, hE, rzx_of (fun K h => left5 K ?_), rzx_of (fun K h => right4 K ⟨fun _ => rzx_I t2 ⟨fun _ => r3 K h, fun z => absurd x0 z⟩, fun z => absurd u2 z⟩)⟩
                    rw [x0]; exact l3 K h
                  · exact ⟨x, V2, W2, cm_g (c := 99) hC gV2 gW2 ⟨B, id2, D2⟩ (ans_t s1 an) (fun z => absurd z (by decide)), rzx_of (fun K h => left5 K (p_Commands_newDisk_185 ⟨fun z => absurd z x0, fun _ => p_Commands_newDisk_210 ⟨fun z => absurd z x0, fun _ => h⟩⟩)), rzx_of (fun K h => right4 K ⟨fun _ => rzx_I t2 ⟨fun z => absurd z x0, fun _ => h⟩, fun z => absurd u2 z⟩)⟩
                | some ij =>
                  obtain ⟨i, j⟩ := ij
                  have u2 : ¬ U.2 116 2 = -1 := by rw [DV1.2.2.2.2.2.1.1]; exact nI_m1 (by have := DV1.2.2.2.2.2.1.2.2.1; omega)
                  obtain ⟨y, V3, W3, hE, l3, r3⟩ := mp_tail (m := q - 2) hC gV1 (GM_r 99 U) s1 DV1 l109 (by omega) r110
                  exact ⟨y, V3, W3, hE, rzx_of (fun K h => left4 K (rz_toI (c_Disk_hasId DV1.2.2.2.2.1) ⟨fun z => (by rw [if_neg (fun e => by cases e)] at z; exact absurd z (by decide)), fun _ => l3 K h⟩)), rzx_of (fun K h => right4 K ⟨fun z => absurd z u2, fun _ => r3 K h⟩)⟩
          · refine absurd ⟨?_, fun y => z2 ?_⟩ bad
            · cases ab with
              | true => rfl
              | false => exact absurd rfl z
            · rw [pk_sub (by omega), y]; rfl
        · refine absurd ⟨?_, fun y => z2 ?_⟩ bad
          · rcases hab with ⟨a, _⟩ | ⟨_, _, b⟩
            · exact a
            · exact absurd b z
          · rcases hab with ⟨_, _, b⟩ | ⟨_, _, b⟩
            · rw [hl1, b, pk_sub (by omega), y]; rfl
            · exact absurd b z
end CM6
