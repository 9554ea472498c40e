/-! write: a byte to a FILE, its next block too; the loop -/
theorem rzx_of {Z : rx_M} {as : List Value} {S S1 : rz_S} {x : Int32} (h : ∀ K : Int32 → rz_S → Prop, K x S1 → rz_ev Z as S (rz_i K)) : rzx Z as S (some (.int x)) S1 := by
  obtain ⟨_, S', e, x', rfl, h1, h2⟩ := rzx_ev (h (fun x' S' => x' = x ∧ S' = S1) ⟨rfl, rfl⟩)
  rw [h1, h2] at e
  exact e
theorem rzx_ofv {Z : rx_M} {as : List Value} {S S1 : rz_S} (h : ∀ K : rz_S → Prop, K S1 → rz_ev Z as S (rz_v K)) : rzx Z as S none S1 := by
  obtain ⟨_, S', e, rfl, h2⟩ := rzx_ev (h (fun S' => S' = S1) rfl)
  rw [h2] at e
  exact e
def afE (c M : Nat) (pr : Bool) (V W : rz_S) (x : Int32) (V1 : rz_S) (W1 : rz_S) : Prop := GX c V V1 ∧ GM c W W1 ∧ (∃ B id, Dk B pr id V1 W1) ∧ ans V x V1 W1 ∧ ((x = 0 ∧ V1.2 (48 + 4 * c) 0 = 2 ∧ W1.1 126 c = 2 ∧ ChF c (M + 1) V1 W1) ∨ (x ≠ 0 ∧ V1.2 (48 + 4 * c) 0 = 0 ∧ W1.1 126 c = 0))
theorem af_end {c M : Nat} {pr : Bool} {V W V3 W3 : rz_S} {x : Int32} (x0 : x ≠ 0) (gx : GX c V V3) (gm : GM c W W3) (hD : ∃ B id, Dk B pr id V3 W3) (an : ans V x V3 W3) : afE c M pr V W x (rz_uI V3 (48 + 4 * c) 0 0) (rz_fA W3 126 (upd (W3.1 126) c 0)) := by
  obtain ⟨B, id, d⟩ := hD
  refine ⟨GX_t gx GX_u, GM_t gm (GM_g (q := 126) (by omega) (fun d hd => by simp (disch := omega) only [uI1, fA2, rz_fA_n, rz_uI_n, rz_fA_s, rz_uI_s, pk_us, pk_un])), ⟨B, id, Dk_mf (Dk_xu d (by omega)) (by omega)⟩, ?_, Or.inr ⟨x0, rz_uI_s, by simp (disch := omega) only [uI1, fA2, rz_fA_n, rz_uI_n, rz_fA_s, rz_uI_s, pk_us]⟩⟩
  have := ans_u (k := 48 + 4 * c) (y := 0) (by omega) an
  exact this
theorem af_pair {c M : Nat} {pr : Bool} {V W : rz_S} {b : Int32} {B : Nat → Nat → Bool} {id : Option (Nat × Nat)} (hc : c < 15) (hM : M ≤ 12000) (hb : byt b) (hD : Dk B pr id V W) (m1 : V.2 (48 + 4 * c) 0 = 2) (m2 : W.1 126 c = 2) (hF : ChF c M V W) : ∃ x V1 W1, afE c M pr V W x V1 W1 ∧ rzx mDos_addToFile [.ref 39, .ref (48 + 4 * c), .int b] V (some (.int x)) V1 ∧ rzx mM_writesByte [.ref 116, .int (nI c), .int b] W (some (.int x)) W1 := by
  have hch : chP (48 + 4 * c) := ⟨by omega, by omega, by omega⟩
  have ecl : (nI c).toNatClampNeg = c := nI_clamp (by omega)
  have hF0 := hF
  obtain ⟨⟨t, s, et, es, e, cn, pl, a1, a2, a3, a4, a5, ⟨x5, x6, x9, x10, x11, x13, x2⟩, ⟨y3, y4, y5, y6, y7, y8, y9⟩, hrow⟩, ⟨ft, fs, f1, f2, f3, f4, f5, f6, f7⟩, _⟩ := hF0
  have tb := sct_b a1.1 a1.2.1
  have fb := sct_b f1 f2
  by_cases p64 : pl < 64
  · have hpl : V.2 (48 + 4 * c) 2 < 64 := by rw [x2]; exact nI_lt (b := 64) p64 (by omega)
    obtain ⟨V1, W1, hl, hr, gx, gm, d, h3, n1, n2, hF1⟩ := fb_one hc hb hD m1 m2 hF hpl
    refine ⟨0, V1, W1, ⟨gx, gm, ⟨B, id, d⟩, Or.inl ⟨rfl, h3⟩, Or.inl ⟨rfl, n1, n2, hF1⟩⟩, rzx_of (fun K h => ?_), rzx_of (fun K h => ?_)⟩
    · show rz _ 0 [(0, .ref 39), (1, .ref (48 + 4 * c)), (2, .int b)] [] _ _
      exact p_Dos_addToFile_0 hch ⟨fun _ => hl K h, fun z => absurd hpl z⟩
    · show rz _ 0 [(0, .ref 116), (1, .int (nI c)), (2, .int b)] [] _ _
      refine p_M_writesByte_0 ⟨rin hc (by omega), ?_⟩
      rw [ecl, y9]
      refine ⟨fun z => ?_, fun _ => hr K h⟩
      have := (nI_eq (b := 62) (by omega) (by omega)).mp z
      omega
  · have ep : pl = 64 := by omega
    subst ep
    have hpl : ¬ V.2 (48 + 4 * c) 2 < 64 := by rw [x2]; decide
    obtain ⟨x, V1, y, W1, l1, l2, rfl, lx, lm, ⟨id1, D1⟩, la, lM⟩ := PR_load hD
    have kx : ∀ u z, (u = 48 + 4 * c) → V1.2 u z = V.2 u z := fun u z hu => lx.2 u z (by omega) (by omega) (by omega)
    have km : ∀ q, 126 ≤ q → W1.1 q = W.1 q := fun q hq => lm.1 q (by omega) (by omega) (by omega)
    have gV1 : GX c V V1 := GX_b (bgX_ch lx)
    have gW1 : GM c W W1 := GM_b (bgM_ch lm)
    have left1 : ∀ K : Int32 → rz_S → Prop, ((x = 0 → rz_ev mBlockMap_pickBehind [.ref 44, .int (nI t), .int (nI s)] V1 (rz_i (fun xq4 Sq4 => ((xq4 = 0 → rz_ev mDos_giveUpFile [.ref 39, .ref (48 + 4 * c)] Sq4 (rz_i (fun xq6 Sq6 => rz mDos_addToFile 57 [(1, .ref (48 + 4 * c)), (2, .int b), (3, .int xq6)] [] Sq6 (rz_i K)))) ∧ (¬ xq4 = 0 → rz_ev mDos_goToNextBlock [.ref 39, .ref (48 + 4 * c)] Sq4 (rz_i (fun xq7 Sq7 => rz mDos_addToFile 57 [(1, .ref (48 + 4 * c)), (2, .int b), (3, .int xq7)] [] Sq7 (rz_i K)))))))) ∧ (¬ x = 0 → K x (rz_uI V1 (48 + 4 * c) 0 0))) → rz_ev mDos_addToFile [.ref 39, .ref (48 + 4 * c), .int b] V (rz_i K) := fun K h => by
      show rz _ 0 [(0, .ref 39), (1, .ref (48 + 4 * c)), (2, .int b)] [] _ _
      refine p_Dos_addToFile_0 hch ⟨fun z => absurd z hpl, fun _ => rzx_I l1 ⟨fun x0 => ?_, fun x0 => p_Dos_addToFile_57 hch ⟨fun z => absurd z x0, fun _ => h.2 x0⟩⟩⟩
      rw [kx _ 5 rfl, kx _ 6 rfl, x5, x6]
      refine rz_useI (h.1 x0) (fun xq Sq q => ⟨fun z => rz_useI (q.1 z) (fun _ _ w => p_Dos_addToFile_56 hch w), fun z => rz_useI (q.2 z) (fun _ _ w => p_Dos_addToFile_56 hch w)⟩)
    have right1 : ∀ K : Int32 → rz_S → Prop, ((x = 0 → rz_ev mM_takesNext [.ref 116, .int (nI t), .int (nI s)] W1 (rz_i (fun xq3 Sq3 => ((xq3 = 0 → gnR c Sq3 (fun xq2 Sq2 => ((xq2 = 0 → rz mM_writesByte 30 [(0, .ref 116), (1, .int (nI c)), (2, .int b)] [] Sq2 (rz_i K)) ∧ (¬ xq2 = 0 → K xq2 (rz_fA Sq2 126 (upd (Sq2.1 126) c 0)))))) ∧ (¬ xq3 = 0 → rz_ev mM_isFull [.ref 116, .int (nI c)] Sq3 (rz_i (fun xq2 Sq2 => ((xq2 = 0 → rz mM_writesByte 30 [(0, .ref 116), (1, .int (nI c)), (2, .int b)] [] Sq2 (rz_i K)) ∧ (¬ xq2 = 0 → K xq2 (rz_fA Sq2 126 (upd (Sq2.1 126) c 0)))))))))) ) ∧ (¬ x = 0 → K x (rz_fA W1 126 (upd (W1.1 126) c 0)))) → rz_ev mM_writesByte [.ref 116, .int (nI c), .int b] W (rz_i K) := fun K h => by
      show rz _ 0 [(0, .ref 116), (1, .int (nI c)), (2, .int b)] [] _ _
      refine p_M_writesByte_0 ⟨rin hc (by omega), ?_⟩
      rw [ecl, y9]
      refine ⟨fun _ => ?_, fun z => absurd rfl z⟩
      show rz _ 0 [(0, .ref 116), (1, .int (nI c))] [] _ _
      refine p_M_goesOn_0 (rzx_I l2 ⟨fun x0 => ⟨rin hc (by omega), ?_⟩, fun x0 => ⟨fun z => absurd z x0, fun _ => h.2 x0⟩⟩)
      rw [ecl, km 133 (by omega), km 134 (by omega), y3, y4]
      refine rz_useI (h.1 x0) (fun xq Sq q => ⟨fun z => ?_, fun z => q.2 z⟩)
      have := q.1 z
      unfold gnR at this
      rw [ecl] at this
      exact this
    by_cases x0 : x = 0
    · subst x0
      have hmp := lM rfl
      have st1 := ans_z la rfl
      have epk : pkB (W1.1 123) t s = pkB (V1.1 45) t s := (pkB_c a1.2.1 (fun k hk => (hmp k hk).1)).symm
      have lp := c_BlockMap_pickBehind (S := V1) (t := t) (s := s) a1.1 a1.2.1 (by omega)
      have rp := c_M_takesNext (S := W1) (t := t) (s := s) a1.1 a1.2.1 (by omega)
      rw [epk] at rp
      cases hpk : pkB (V1.1 45) t s with
      | none =>
        rw [hpk] at lp rp
        obtain ⟨y, V2, W2, hg, hl, hr⟩ := gu_loop (B := B) (pr := pr) (V := V1) (W := rz_uI (rz_uI W1 116 4 0) 116 5 0) (t0 := t) (s0 := s) (et := et) (es := es) (e := e) hc a2.1 a2.2.1 a2.2.2 a3 ((kx _ 5 rfl).trans x5) ((kx _ 6 rfl).trans x6) ((kx _ 10 rfl).trans x10) ((kx _ 11 rfl).trans x11) ((kx _ 13 rfl).trans x13) (by simp (disch := omega) only [uI1, fA2, rz_fA_n, rz_uI_n, rz_fA_s, rz_uI_s, pk_us]; rw [km 133 (by omega)]; exact y3) (by simp (disch := omega) only [uI1, fA2, rz_fA_n, rz_uI_n, rz_fA_s, rz_uI_s, pk_us]; rw [km 134 (by omega)]; exact y4) (by simp (disch := omega) only [uI1, fA2, rz_fA_n, rz_uI_n, rz_fA_s, rz_uI_s, pk_us]; rw [km 136 (by omega)]; exact y6) (by simp (disch := omega) only [uI1, fA2, rz_fA_n, rz_uI_n, rz_fA_s, rz_uI_s, pk_us]; rw [km 137 (by omega)]; exact y7) (by simp (disch := omega) only [uI1, fA2, rz_fA_n, rz_uI_n, rz_fA_s, rz_uI_s, pk_us]; rw [km 138 (by omega)]; exact y8) 72 0 (nI ft) (nI fs) V1 (rz_uI (rz_uI W1 116 4 0) 116 5 0) rfl ⟨ft, by omega, rfl⟩ ⟨fs, by omega, rfl⟩ (chX_r _) (chM_r _) ⟨id1, Dk_mu (Dk_mu D1 (by omega)) (by omega)⟩ hmp (fun _ => rfl)
        obtain ⟨y0, gx2, gm2, D2, an2⟩ := hg
        refine ⟨y, rz_uI V2 (48 + 4 * c) 0 0, rz_fA W2 126 (upd (W2.1 126) c 0), af_end y0 (GX_t gV1 gx2) (GM_t (GM_t gW1 (GM_t (GM_u (by omega)) (GM_u (by omega)))) gm2) D2 (ans_t st1 an2), rzx_of (fun K h => left1 K ⟨fun _ => rz_useI lp (fun xq Sq q => ?_), fun z => absurd rfl z⟩), rzx_of (fun K h => right1 K ⟨fun _ => rz_useI rp (fun xq Sq q => ?_), fun z => absurd rfl z⟩)⟩
        · obtain ⟨rfl, rfl⟩ := q
          refine ⟨fun _ => ?_, fun z => absurd rfl z⟩
          show rz _ 0 [(0, .ref 39), (1, .ref (48 + 4 * c))] [] _ _
          refine p_Dos_giveUpFile_0 hch ?_
          rw [kx _ 7 rfl, kx _ 8 rfl, f4, f5]
          exact hl _ (p_Dos_addToFile_57 hch ⟨fun z => absurd z y0, fun _ => h⟩)
        · obtain ⟨rfl, rfl⟩ := q
          refine ⟨fun z => absurd z (by decide), fun _ => ?_⟩
          show rz _ 0 [(0, .ref 116), (1, .int (nI c))] [] _ _
          refine p_M_isFull_0 ⟨rin hc (by omega), ?_⟩
          rw [ecl, show (rz_uI (rz_uI W1 116 4 0) 116 5 0).1 131 c = nI ft from (by rw [show (rz_uI (rz_uI W1 116 4 0) 116 5 0).1 131 = W1.1 131 from rfl, km 131 (by omega)]; exact f6), show (rz_uI (rz_uI W1 116 4 0) 116 5 0).1 132 c = nI fs from (by rw [show (rz_uI (rz_uI W1 116 4 0) 116 5 0).1 132 = W1.1 132 from rfl, km 132 (by omega)]; exact f7)]
          exact hr _ ⟨fun z => absurd z y0, fun _ => h⟩
      | some q =>
        obtain ⟨pt, ps⟩ := q
        rw [hpk] at lp rp
        obtain ⟨p1, p2, p3, _⟩ := pkB_lt a1.1 a1.2.1 hpk
        have hmp2 : Mp (xpk V1 pt ps) (mpk W1 pt ps) := fun k hk => by
          have := tkR_c (t := pt) (s := ps) p2 hmp k hk
          unfold xpk mpk
          simp (disch := omega) only [uI1, fA2, rz_fA_n, rz_uI_n, rz_fA_s, rz_uI_s, pk_us]
          exact this
        have D2 : Dk B pr id1 (xpk V1 pt ps) (mpk W1 pt ps) := Dk_mu (Dk_mu (Dk_mf (Dk_xu (Dk_xu (Dk_xf D1 (by omega)) (by omega)) (by omega)) (by omega)) (by omega)) (by omega)
        have g2x : GX c V (xpk V1 pt ps) := GX_t gV1 (GX_t (GX_f2 (by omega)) (GX_t (GX_u2 (by omega)) (GX_u2 (by omega))))
        have g2m : GM c W (mpk W1 pt ps) := GM_t gW1 (GM_t (GM_b (bgM_f (by omega))) (GM_t (GM_b (bgM_u (by omega))) (GM_b (bgM_u (by omega)))))
        have xu : ∀ z, (xpk V1 pt ps).2 (48 + 4 * c) z = V.2 (48 + 4 * c) z := fun z => by unfold xpk; simp (disch := omega) only [uI1, fA2, rz_fA_n, rz_uI_n, rz_fA_s, rz_uI_s, pk_us]; exact kx _ z rfl
        have x3 : ∀ z, (xpk V1 pt ps).2 3 z = V.2 3 z := fun z => by unfold xpk; simp (disch := omega) only [uI1, fA2, rz_fA_n, rz_uI_n, rz_fA_s, rz_uI_s, pk_us]; exact st1 z
        have xa : (xpk V1 pt ps).1 (49 + 4 * c) = V.1 (49 + 4 * c) := by unfold xpk; simp (disch := omega) only [uI1, fA2, rz_fA_n, rz_uI_n, rz_fA_s, rz_uI_s, pk_us]; exact lx.1 _ (by omega) (by omega) (by omega)
        have wm : ∀ q, 126 ≤ q → (mpk W1 pt ps).1 q = W.1 q := fun q hq => by unfold mpk; simp (disch := omega) only [uI1, fA2, rz_fA_n, rz_uI_n, rz_fA_s, rz_uI_s, pk_us]; exact km q hq
        have hF2 : ChF c M (xpk V1 pt ps) (mpk W1 pt ps) := by
          have := hF
          unfold ChF ChW at this ⊢
          simp only [xu, xa, wm 126 (by omega), wm 127 (by omega), wm 129 (by omega), wm 131 (by omega), wm 132 (by omega), wm 133 (by omega), wm 134 (by omega), wm 135 (by omega), wm 136 (by omega), wm 137 (by omega), wm 138 (by omega)]
          exact this
        obtain ⟨y, V3, W3, el, gx3, gm3, hD3, an3, n3, hr⟩ := gn_pair hc hM D2 hmp2 p1 p2 p3 (by unfold xpk; simp (disch := omega) only [uI1, fA2, rz_fA_n, rz_uI_n, rz_fA_s, rz_uI_s, pk_us]) (by unfold xpk; simp (disch := omega) only [uI1, fA2, rz_fA_n, rz_uI_n, rz_fA_s, rz_uI_s, pk_us]) (by unfold mpk; simp (disch := omega) only [uI1, fA2, rz_fA_n, rz_uI_n, rz_fA_s, rz_uI_s, pk_us]) (by unfold mpk; simp (disch := omega) only [uI1, fA2, rz_fA_n, rz_uI_n, rz_fA_s, rz_uI_s, pk_us]) ((xu 0).trans m1) (by rw [wm 126 (by omega)]; exact m2) hF2 ((xu 2).trans x2)
        by_cases y0 : y = 0
        · subst y0
          obtain ⟨n1, n2, hF3, pl3⟩ := n3 rfl
          obtain ⟨B3, id3, D3⟩ := hD3
          obtain ⟨V4, W4, hl4, hr4, gx4, gm4, d4, h34, k1, k2, hF4⟩ := fb_one hc hb D3 n1 n2 hF3 (by rw [pl3]; decide)
          have st3 := ans_z an3 rfl
          refine ⟨0, V4, W4, ⟨GX_t g2x (GX_t gx3 gx4), GM_t g2m (GM_t gm3 gm4), ⟨B3, id3, d4⟩, Or.inl ⟨rfl, fun z => (h34 z).trans ((st3 z).trans (x3 z))⟩, Or.inl ⟨rfl, k1, k2, hF4⟩⟩, rzx_of (fun K h => left1 K ⟨fun _ => rz_useI lp (fun xq Sq q => ?_), fun z => absurd rfl z⟩), rzx_of (fun K h => right1 K ⟨fun _ => rz_useI rp (fun xq Sq q => ?_), fun z => absurd rfl z⟩)⟩
          · obtain ⟨rfl, rfl⟩ := q
            exact ⟨fun z => absurd z (by decide), fun _ => rzx_I el (p_Dos_addToFile_57 hch ⟨fun _ => hl4 K h, fun z => absurd rfl z⟩)⟩
          · obtain ⟨rfl, rfl⟩ := q
            exact ⟨fun _ => hr _ ⟨fun _ => hr4 K h, fun z => absurd rfl z⟩, fun z => absurd rfl z⟩
        · refine ⟨y, rz_uI V3 (48 + 4 * c) 0 0, rz_fA W3 126 (upd (W3.1 126) c 0), af_end y0 (GX_t g2x gx3) (GM_t g2m gm3) hD3 (ans_t x3 an3), rzx_of (fun K h => left1 K ⟨fun _ => rz_useI lp (fun xq Sq q => ?_), fun z => absurd rfl z⟩), rzx_of (fun K h => right1 K ⟨fun _ => rz_useI rp (fun xq Sq q => ?_), fun z => absurd rfl z⟩)⟩
          · obtain ⟨rfl, rfl⟩ := q
            exact ⟨fun z => absurd z (by decide), fun _ => rzx_I el (p_Dos_addToFile_57 hch ⟨fun z => absurd z y0, fun _ => h⟩)⟩
          · obtain ⟨rfl, rfl⟩ := q
            exact ⟨fun _ => hr _ ⟨fun z => absurd z y0, fun _ => h⟩, fun z => absurd rfl z⟩
    · exact ⟨x, rz_uI V1 (48 + 4 * c) 0 0, rz_fA W1 126 (upd (W1.1 126) c 0), af_end x0 gV1 gW1 ⟨B, id1, D1⟩ la, rzx_of (fun K h => left1 K ⟨fun z => absurd z x0, fun _ => h⟩), rzx_of (fun K h => right1 K ⟨fun z => absurd z x0, fun _ => h⟩)⟩
theorem ChF_le {c M N : Nat} {V W : rz_S} (h : M ≤ N) (hF : ChF c M V W) : ChF c N V W := by
  obtain ⟨a, b, cn, pl, g1, g2, g3, g4, g5, g6⟩ := hF
  exact ⟨a, b, cn, pl, g1, g2, g3, g4, g5, by omega⟩
theorem Chn_le {c M N : Nat} {V W : rz_S} (h : M ≤ N) (hF : Chn M c V W) : Chn N c V W := by
  obtain ⟨a, b⟩ := hF
  refine ⟨a, ?_⟩
  rcases b with b | b | ⟨b, d⟩ | b | b
  · exact Or.inl b
  · exact Or.inr (Or.inl b)
  · exact Or.inr (Or.inr (Or.inl ⟨b, ChF_le h d⟩))
  · exact Or.inr (Or.inr (Or.inr (Or.inl b)))
  · exact Or.inr (Or.inr (Or.inr (Or.inr b)))
theorem fw_loop {c n : Nat} {pr : Bool} {T U : rz_S} (hc : c < 15) (hT : Txt n T U) : ∀ (w i M : Nat) (V W : rz_S), i + w = n → M + w ≤ 12000 → GX c T V → GM c U W → (∃ B id, Dk B pr id V W) → (∀ z, V.2 3 z = T.2 3 z) → V.2 (48 + 4 * c) 0 = 2 → W.1 126 c = 2 → ChF c M V W → ∃ x V1 W1, opE c (M + w) pr T U x V1 x W1 ∧ (∀ K : rz_S → Prop, K V1 → rz mDos_sendBytes 114 [(0, .ref 39), (1, .int (nI c)), (3, .int 0), (4, .int (nI i))] [] V (rz_v K)) ∧ ∀ Q : Int32 → rz_S → Prop, rz mM_write 178 [(0, .ref 116), (3, .int x)] [] W1 (rz_i Q) → rz mM_write 149 [(0, .ref 116), (1, .int (nI c)), (2, .int (nI n)), (3, .int 0), (4, .int (nI i))] [] W (rz_i Q) := by
  have ecl : (nI c).toNatClampNeg = c := nI_clamp (by omega)
  obtain ⟨hn, hl, htx, _⟩ := hT
  intro w
  induction w with
  | zero =>
    intro i M V W e hMw gx gm hD h3 m1 m2 hF
    have ei : i = n := by omega
    subst ei
    have lle : nI i ≤ nI i := nI_le (a := i) (b := i) (by omega) (by omega)
    refine ⟨0, V, W, ⟨rfl, gx, gm, hD, Or.inl ⟨rfl, h3⟩, m1.trans m2.symm, Or.inr (Or.inr (Or.inl ⟨m2, hF⟩))⟩, fun K h => p_Dos_sendBytes_114 ⟨fun _ => h, fun z => absurd ?_ z⟩, fun Q h => p_M_write_149 ⟨fun _ => h, fun z => absurd lle z⟩⟩
    rw [gx.1.2.2.1 1 2 (by omega), hl]
    exact lle
  | succ w ih =>
    intro i M V W e hMw gx gm hD h3 m1 m2 hF
    have hlV : V.2 1 2 = nI n := (gx.1.2.2.1 1 2 (by omega)).trans hl
    have v2 : V.1 2 = T.1 2 := gx.1.1 2 (by omega)
    have w151 : W.1 151 = U.1 151 := gm.1.1 151 (by omega)
    have nle : ¬ nI n ≤ nI i := fun d => by
      have := (nI_leI (a := n) (b := i) (by omega) (by omega)).mp d
      omega
    have hbi : V.1 2 i = W.1 151 i ∧ byt (V.1 2 i) := by rw [v2, w151]; exact htx i (by omega)
    obtain ⟨B, id, d⟩ := hD
    obtain ⟨x, V1, W1, ⟨gx1, gm1, hD1, an1, hh⟩, r1, r2⟩ := af_pair (M := M) (b := V.1 2 i) hc (by omega) hbi.2 d m1 m2 hF
    have left : ∀ K : rz_S → Prop, rz mDos_sendBytes 114 [(0, .ref 39), (1, .int (nI c)), (3, .int x), (4, .int (nI (i + 1)))] [] V1 (rz_v K) → rz mDos_sendBytes 114 [(0, .ref 39), (1, .int (nI c)), (3, .int 0), (4, .int (nI i))] [] V (rz_v K) := fun K h => by
      refine p_Dos_sendBytes_114 ⟨fun z => absurd (by rw [hlV] at z; exact z) nle, fun _ => ⟨fun _ => ⟨rin hc (by omega), rz_toI (c_byteAt hn hlV (by omega)) ?_⟩, fun z => absurd rfl z⟩⟩
      rw [ecl, if_pos (by omega), nI_1]
      exact rzx_I r1 h
    have right : ∀ Q : Int32 → rz_S → Prop, rz mM_write 149 [(0, .ref 116), (1, .int (nI c)), (2, .int (nI n)), (3, .int x), (4, .int (nI (i + 1)))] [] W1 (rz_i Q) → rz mM_write 149 [(0, .ref 116), (1, .int (nI c)), (2, .int (nI n)), (3, .int 0), (4, .int (nI i))] [] W (rz_i Q) := fun Q h => by
      refine p_M_write_149 ⟨fun z => absurd z nle, fun _ => ⟨fun _ => ?_, fun z => absurd rfl z⟩⟩
      rw [nI_clamp (by omega), nI_1, ← hbi.1]
      exact ⟨rin (by omega) (by omega), rzx_I r2 h⟩
    rcases hh with ⟨rfl, k1, k2, hF1⟩ | ⟨x0, k1, k2⟩
    · obtain ⟨y, V2, W2, hE, h1, h2⟩ := ih (i + 1) (M + 1) V1 W1 (by omega) (by omega) (GX_t gx gx1) (GM_t gm gm1) hD1 (fun z => (ans_z an1 rfl z).trans (h3 z)) k1 k2 hF1
      rw [show M + 1 + w = M + (w + 1) by omega] at hE
      exact ⟨y, V2, W2, hE, fun K h => left K (h1 K h), fun Q h => right Q (h2 Q h)⟩
    · refine ⟨x, V1, W1, ⟨rfl, GX_t gx gx1, GM_t gm gm1, hD1, ans_t h3 an1, k1.trans k2.symm, Or.inl k2⟩, fun K h => left K (p_Dos_sendBytes_114 ⟨fun _ => h, fun _ => ⟨fun z => absurd z x0, fun _ => h⟩⟩), fun Q h => right Q (p_M_write_149 ⟨fun _ => h, fun _ => ⟨fun z => absurd z x0, fun _ => h⟩⟩)⟩
