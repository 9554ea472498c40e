/-! write: a FILE goes on in its next block -/
def gnR (c : Nat) (W : rz_S) (Q : Int32 → rz_S → Prop) : Prop := rz_ev mM_stores [.ref 116] W (rz_i (fun xq5 Sq5 => ((xq5 = 0 → rx_in (64 * nI c) 960 = true ∧ rx_in ((64 * nI c) + 1) 960 = true ∧ rz_ev mM_writeBlock [.ref 116, .int (Sq5.1 133 (nI c).toNatClampNeg), .int (Sq5.1 134 (nI c).toNatClampNeg), .ref 127, .int (64 * nI c)] (rz_fA (rz_fA Sq5 127 (upd (Sq5.1 127) ((64 * nI c).toNatClampNeg) (W.2 116 25))) 127 (upd (upd (Sq5.1 127) ((64 * nI c).toNatClampNeg) (W.2 116 25)) (((64 * nI c) + 1).toNatClampNeg) (W.2 116 26))) (rz_i (fun xq7 Sq7 => ((xq7 = 0 → rz_ev mM_clears [.ref 116, .int (nI c)] (rz_fA (rz_fA (rz_fA Sq7 133 (upd (Sq7.1 133) (nI c).toNatClampNeg (W.2 116 25))) 134 (upd (Sq7.1 134) (nI c).toNatClampNeg (W.2 116 26))) 135 (upd (Sq7.1 135) (nI c).toNatClampNeg ((Sq7.1 135 (nI c).toNatClampNeg) + 1))) (rz_v (fun Sq9 => Q 0 Sq9))) ∧ (¬ xq7 = 0 → Q xq7 Sq7))))) ∧ (¬ xq5 = 0 → Q xq5 Sq5))))
theorem gn_pair {c M pt ps : Nat} {pr : Bool} {V W : rz_S} {B : Nat → Nat → Bool} {id : Option (Nat × Nat)} (hc : c < 15) (hM : M ≤ 12000) (hD : Dk B pr id V W) (hmp : Mp V W) (p1 : 1 ≤ pt) (p2 : pt ≤ 12) (p3 : ps < sct pt) (v1 : V.2 44 1 = nI pt) (v2 : V.2 44 2 = nI ps) (w1 : W.2 116 25 = nI pt) (w2 : W.2 116 26 = nI ps) (m1 : V.2 (48 + 4 * c) 0 = 2) (m2 : W.1 126 c = 2) (hF : ChF c M V W) (hpl : V.2 (48 + 4 * c) 2 = nI 64) : ∃ x V1 W1, rzx mDos_goToNextBlock [.ref 39, .ref (48 + 4 * c)] V (some (.int x)) V1 ∧ GX c V V1 ∧ GM c W W1 ∧ (∃ B id, Dk B pr id V1 W1) ∧ ans V x V1 W1 ∧ (x = 0 → V1.2 (48 + 4 * c) 0 = 2 ∧ W1.1 126 c = 2 ∧ ChF c M V1 W1 ∧ V1.2 (48 + 4 * c) 2 = nI 2) ∧ ∀ Q : Int32 → rz_S → Prop, Q x W1 → gnR c W Q := by
  have hch : chP (48 + 4 * c) := ⟨by omega, by omega, by omega⟩
  have ecl : (nI c).toNatClampNeg = c := nI_clamp (by omega)
  have e64 : (64 * nI c : Int32) = nI (64 * c) := pk_mul 64 c
  have n64 : (nI (64 * c)).toNatClampNeg = 64 * c := nI_clamp (by omega)
  have n65 : (nI (64 * c + 1)).toNatClampNeg = 64 * c + 1 := nI_clamp (by omega)
  have e49 : 48 + 4 * c + 1 = 49 + 4 * c := by omega
  have hpb := sct_b p1 p2
  obtain ⟨⟨t, s, et, es, e, cn, pl, a1, a2, a3, a4, a5, ⟨x5, x6, x9, x10, x11, x13, x2⟩, ⟨y3, y4, y5, y6, y7, y8, y9⟩, hrow⟩, ⟨ft, fs, f1, f2, f3, f4, f5, f6, f7⟩, cn', pl', g1, g2, g3, g4, g5, g6⟩ := hF
  have ep : pl' = 64 := (nI_eq (by omega) (by omega)).mp (g5.symm.trans hpl)
  have ecn : cn' = cn := (nI_eq (by omega) (by omega)).mp (g4.symm.trans x9)
  subst ep
  subst ecn
  have htb := sct_b a1.1 a1.2.1
  obtain ⟨x, V3, y, W3, b1, b2, rfl, f3x, f3m, ⟨B3, id3, D3⟩, an3⟩ := PR_store hD hmp
  have gV3 : GX c V V3 := GX_b (bgX_rF (by omega) f3x)
  have gW3 : GM c W W3 := GM_b (bgM_wM f3m)
  have kz : ∀ u z, (u = 44 ∨ u = 48 + 4 * c) → V3.2 u z = V.2 u z := fun u z hu => f3x.2 u z (by omega) (by omega) (by omega)
  have wq : ∀ q, 126 ≤ q → W3.1 q = W.1 q := fun q hq => f3m.1 q (by omega) (by omega)
  have rV : V3.1 (49 + 4 * c) = V.1 (49 + 4 * c) := f3x.1 _ (by omega) (by omega)
  by_cases x0 : x = 0
  · subst x0
    have rowA : ∀ k, k < 64 → upd (upd (V3.1 (49 + 4 * c)) 0 (nI pt)) 1 (nI ps) k = upd (upd (W3.1 127) (64 * c) (nI pt)) (64 * c + 1) (nI ps) (64 * c + k) ∧ byt (upd (upd (V3.1 (49 + 4 * c)) 0 (nI pt)) 1 (nI ps) k) := fun k hk => by
      by_cases k1 : k = 1
      · subst k1; rw [pk_us, pk_us]; exact ⟨rfl, ps, by omega, rfl⟩
      · by_cases k0 : k = 0
        · subst k0; rw [pk_un (by omega), pk_us, pk_un (by omega), Nat.add_zero, pk_us]; exact ⟨rfl, pt, by omega, rfl⟩
        · rw [pk_un k1, pk_un k0, pk_un (by omega), pk_un (by omega), rV, wq 127 (by omega)]; exact hrow k (by omega) hk
    obtain ⟨rr, hrr⟩ := row_at (F := upd (upd (V3.1 (49 + 4 * c)) 0 (nI pt)) 1 (nI ps)) (G := upd (upd (W3.1 127) (64 * c) (nI pt)) (64 * c + 1) (nI ps)) (o := 64 * c) rowA
    obtain ⟨x4, V4, y4', W4, c1, c2, rfl, xc4, id4, B4, ex4, hx4, D4, r4, w4, o4, n4⟩ := PR_write (Sx := rz_fA V3 (49 + 4 * c) (upd (upd (V3.1 (49 + 4 * c)) 0 (nI pt)) 1 (nI ps))) (Sm := rz_fA W3 127 (upd (upd (W3.1 127) (64 * c) (nI pt)) (64 * c + 1) (nI ps))) (t := t) (s := s) (a := 49 + 4 * c) (a' := 127) (at0 := 64 * c) (na := 960) (Dk_mf (Dk_xf D3 (by omega)) (by omega)) a1.1 a1.2.1 (by omega) (e49 ▸ chR hch) (by omega) rfl (by omega) (by omega) (by omega) (fun k hk => by rw [rz_fA_s, rz_fA_s]; exact hrr k hk)
    have left4 : ∀ K : Int32 → rz_S → Prop, ((x4 = 0 → rz_ev mChannel_beginBlock [.ref (48 + 4 * c), .int (V4.2 44 1), .int (V4.2 44 2)] V4 (rz_v (fun Sq5 => K x4 (rz_uI Sq5 (48 + 4 * c) 9 ((Sq5.2 (48 + 4 * c) 9) + 1))))) ∧ (¬ x4 = 0 → K x4 V4)) → rz_ev mDos_goToNextBlock [.ref 39, .ref (48 + 4 * c)] V (rz_i K) := fun K h => by
      show rz _ 0 [(0, .ref 39), (1, .ref (48 + 4 * c))] [] _ _
      refine p_Dos_goToNextBlock_0 hch (rzx_I b1 ⟨fun _ => ?_, fun z => absurd rfl z⟩)
      rw [e49, kz 44 1 (by omega), kz 44 2 (by omega), v1, v2, kz _ 5 (by omega), kz _ 6 (by omega), x5, x6, rz_fAA]
      exact rzx_I c1 h
    have right4 : ∀ Q : Int32 → rz_S → Prop, ((x4 = 0 → rz_ev mM_clears [.ref 116, .int (nI c)] (rz_fA (rz_fA (rz_fA W4 133 (upd (W4.1 133) c (nI pt))) 134 (upd (W4.1 134) c (nI ps))) 135 (upd (W4.1 135) c ((W4.1 135 c) + 1))) (rz_v (fun Sq9 => Q 0 Sq9))) ∧ (¬ x4 = 0 → Q x4 W4)) → gnR c W Q := fun Q h => by
      unfold gnR
      refine rzx_I b2 ⟨fun _ => ?_, fun z => absurd rfl z⟩
      rw [ecl, e64, nI_1, n64, n65, w1, w2, wq 133 (by omega), wq 134 (by omega), y3, y4, rz_fAA]
      exact ⟨rin (by omega) (by omega), rin (by omega) (by omega), rzx_I c2 h⟩
    have gV4 : GX c V V4 := GX_t gV3 (GX_t (GX_f hc) (GX_b (bgX_rF (by omega) r4)))
    have gW4 : GM c W W4 := GM_t gW3 (GM_t (GM_h (fun j hj => by rw [pk_un (by omega), pk_un (by omega)])) (GM_b (bgM_wM w4)))
    have k4 : ∀ u z, (u = 44 ∨ u = 48 + 4 * c) → V4.2 u z = V.2 u z := fun u z hu => (r4.2 u z (by omega) (by omega) (by omega)).trans (kz u z hu)
    have q4 : ∀ q, 126 ≤ q → q ≠ 127 → W4.1 q = W.1 q := fun q hq h7 => (w4.1 q (by omega) (by omega)).trans ((rz_fA_n h7).trans (wq q hq))
    have st3 := ans_z an3 rfl
    by_cases z4 : xc4 = 0
    · subst z4
      subst ex4
      obtain ⟨_, V5, l5, rfl, hV5⟩ := rzx_ev (c_beginBlock (S := V4) (t := V4.2 44 1) (s := V4.2 44 2) hc)
      generalize hWB : rz_fA (rz_fA (rz_fA W4 133 (upd (W4.1 133) c (nI pt))) 134 (upd (W4.1 134) c (nI ps))) 135 (upd (W4.1 135) c ((W4.1 135 c) + 1)) = WB at right4
      obtain ⟨_, WC, kc, rfl, hWC⟩ := rzx_ev (c_clears (S := WB) hc)
      have hL : rz_ev mDos_goToNextBlock [.ref 39, .ref (48 + 4 * c)] V (rz_i (fun x' S1 => x' = 0 ∧ S1 = rz_uI V5 (48 + 4 * c) 9 ((V5.2 (48 + 4 * c) 9) + 1))) := left4 _ ⟨fun _ => rzx_V l5 ⟨rfl, rfl⟩, fun z => absurd rfl z⟩
      obtain ⟨_, V6, el, x', rfl, hx', hV6⟩ := rzx_ev hL
      rw [hx'] at el
      have k5 : ∀ z, z ≠ 2 → z ≠ 5 → z ≠ 6 → V5.2 (48 + 4 * c) z = V4.2 (48 + 4 * c) z := fun z p q r => by rw [hV5]; simp (disch := omega) only [uI1, fA2, rz_fA_n, rz_uI_n, rz_fA_s, rz_uI_s, pk_us]
      have u5 : ∀ u z, u ≠ 48 + 4 * c → V5.2 u z = V4.2 u z := fun u z hu => by rw [hV5]; simp (disch := omega) only [uI1, fA2, rz_fA_n, rz_uI_n, rz_fA_s, rz_uI_s, pk_us]
      have a5' : ∀ q, q ≠ 49 + 4 * c → V5.1 q = V4.1 q := fun q hq => by rw [hV5]; simp (disch := omega) only [uI1, fA2, rz_fA_n, rz_uI_n, rz_fA_s, rz_uI_s, pk_us]
      have r5 : ∀ k, k < 64 → V5.1 (49 + 4 * c) k = 0 := fun k hk => by rw [hV5]; simp (disch := omega) only [uI1, fA2, rz_fA_n, rz_uI_n, rz_fA_s, rz_uI_s, pk_us]; rw [if_pos hk]
      have k6 : ∀ z, z ≠ 9 → V6.2 (48 + 4 * c) z = V5.2 (48 + 4 * c) z := fun z hz => by rw [hV6]; simp (disch := omega) only [uI1, fA2, rz_fA_n, rz_uI_n, rz_fA_s, rz_uI_s, pk_us]
      have u6 : ∀ u z, u ≠ 48 + 4 * c → V6.2 u z = V5.2 u z := fun u z hu => by rw [hV6]; simp (disch := omega) only [uI1, fA2, rz_fA_n, rz_uI_n, rz_fA_s, rz_uI_s, pk_us]
      have a6 : V6.1 = V5.1 := by rw [hV6]; rfl
      have kk : ∀ z, z ≠ 2 → z ≠ 5 → z ≠ 6 → z ≠ 9 → V6.2 (48 + 4 * c) z = V.2 (48 + 4 * c) z := fun z p q r w => (k6 z w).trans ((k5 z p q r).trans (k4 _ z (by omega)))
      have d2 : V6.2 (48 + 4 * c) 2 = nI 2 := (k6 2 (by omega)).trans (by rw [hV5]; simp (disch := omega) only [uI1, fA2, rz_fA_n, rz_uI_n, rz_fA_s, rz_uI_s, pk_us]; rfl)
      have d5 : V6.2 (48 + 4 * c) 5 = nI pt := (k6 5 (by omega)).trans (by rw [hV5]; simp (disch := omega) only [uI1, fA2, rz_fA_n, rz_uI_n, rz_fA_s, rz_uI_s, pk_us]; exact (k4 44 1 (by omega)).trans v1)
      have d6 : V6.2 (48 + 4 * c) 6 = nI ps := (k6 6 (by omega)).trans (by rw [hV5]; simp (disch := omega) only [uI1, fA2, rz_fA_n, rz_uI_n, rz_fA_s, rz_uI_s, pk_us]; exact (k4 44 2 (by omega)).trans v2)
      have d9 : V6.2 (48 + 4 * c) 9 = nI (cn' + 1) := by rw [hV6]; simp (disch := omega) only [uI1, fA2, rz_fA_n, rz_uI_n, rz_fA_s, rz_uI_s, pk_us]; rw [k5 9 (by omega) (by omega) (by omega), k4 _ 9 (by omega), g4, nI_1]
      have gV5 : GX c V4 V5 := by rw [hV5]; exact GX_t (GX_f hc) (GX_t GX_u (GX_t GX_u GX_u))
      have gV6 : GX c V5 V6 := by rw [hV6]; exact GX_u
      have gWB : GM c W4 WB := by rw [← hWB]; exact GM_t (GM_g (q := 133) (by omega) (fun d hd => by simp (disch := omega) only [uI1, fA2, rz_fA_n, rz_uI_n, rz_fA_s, rz_uI_s, pk_us, pk_un])) (GM_t (GM_g (q := 134) (by omega) (fun d hd => by simp (disch := omega) only [uI1, fA2, rz_fA_n, rz_uI_n, rz_fA_s, rz_uI_s, pk_us, pk_un])) (GM_g (q := 135) (by omega) (fun d hd => by simp (disch := omega) only [uI1, fA2, rz_fA_n, rz_uI_n, rz_fA_s, rz_uI_s, pk_us, pk_un])))
      have gWC : GM c WB WC := by rw [hWC]; exact GM_t (GM_h (fun j hj => if_neg hj)) (GM_g (q := 129) (by omega) (fun d hd => by simp (disch := omega) only [uI1, fA2, rz_fA_n, rz_uI_n, rz_fA_s, rz_uI_s, pk_us, pk_un]))
      have qC : ∀ q, 117 ≤ q → q ≠ 127 → q ≠ 129 → q ≠ 133 → q ≠ 134 → q ≠ 135 → WC.1 q = W4.1 q := fun q a b d e f g => by rw [hWC, ← hWB]; simp (disch := omega) only [uI1, fA2, rz_fA_n, rz_uI_n, rz_fA_s, rz_uI_s, pk_us]
      have qC2 : WC.2 = W4.2 := by rw [hWC, ← hWB]; rfl
      have q135 : W4.1 135 c = nI cn' := by rw [q4 135 (by omega) (by omega)]; exact y5
      refine ⟨0, V6, WC, el, GX_t gV4 (GX_t gV5 gV6), GM_t gW4 (GM_t gWB gWC), ⟨B4, id4, Dk_m (Dk_x D4 (fun q a b => by rw [a6, a5' q (by omega)]) (fun u z hu => (u6 u z (by omega)).trans (u5 u z (by omega)))) (fun q a b => qC q a (by omega) (by omega) (by omega) (by omega) (by omega)) (fun z _ => by rw [qC2])⟩, Or.inl ⟨rfl, fun z => (u6 3 z (by omega)).trans ((u5 3 z (by omega)).trans ((o4 rfl z).trans (st3 z)))⟩, fun _ => ⟨(kk 0 (by omega) (by omega) (by omega) (by omega)).trans m1, ?_, ⟨⟨pt, ps, et, es, e, cn' + 1, 2, ⟨p1, p2, p3⟩, a2, a3, by omega, by omega, ⟨d5, d6, d9, (kk 10 (by omega) (by omega) (by omega) (by omega)).trans x10, (kk 11 (by omega) (by omega) (by omega) (by omega)).trans x11, (kk 13 (by omega) (by omega) (by omega) (by omega)).trans x13, d2⟩, ⟨?_, ?_, ?_, ?_, ?_, ?_, ?_⟩, fun k k2 k64 => ⟨?_, ?_⟩⟩, ⟨ft, fs, f1, f2, f3, (kk 7 (by omega) (by omega) (by omega) (by omega)).trans f4, (kk 8 (by omega) (by omega) (by omega) (by omega)).trans f5, ?_, ?_⟩, cn' + 1, 2, by omega, by omega, by omega, d9, d2, by omega⟩, d2⟩, fun Q h => right4 Q ⟨fun _ => rzx_V kc h, fun z => absurd rfl z⟩⟩
      · rw [qC 126 (by omega) (by omega) (by omega) (by omega) (by omega) (by omega), q4 126 (by omega) (by omega)]; exact m2
      · rw [hWC, ← hWB]; simp (disch := omega) only [uI1, fA2, rz_fA_n, rz_uI_n, rz_fA_s, rz_uI_s, pk_us]
      · rw [hWC, ← hWB]; simp (disch := omega) only [uI1, fA2, rz_fA_n, rz_uI_n, rz_fA_s, rz_uI_s, pk_us]
      · rw [hWC, ← hWB]; simp (disch := omega) only [uI1, fA2, rz_fA_n, rz_uI_n, rz_fA_s, rz_uI_s, pk_us]; rw [q135, nI_1]
      · rw [qC 136 (by omega) (by omega) (by omega) (by omega) (by omega) (by omega), q4 136 (by omega) (by omega)]; exact y6
      · rw [qC 137 (by omega) (by omega) (by omega) (by omega) (by omega) (by omega), q4 137 (by omega) (by omega)]; exact y7
      · rw [qC 138 (by omega) (by omega) (by omega) (by omega) (by omega) (by omega), q4 138 (by omega) (by omega)]; exact y8
      · rw [hWC]; simp (disch := omega) only [uI1, fA2, rz_fA_n, rz_uI_n, rz_fA_s, rz_uI_s, pk_us]; rfl
      · rw [a6, r5 k k64, hWC]; simp (disch := omega) only [uI1, fA2, rz_fA_n, rz_uI_n, rz_fA_s, rz_uI_s, pk_us]
        rw [if_pos ⟨by omega, by omega⟩]
      · rw [a6, r5 k k64]; exact ⟨0, by omega, rfl⟩
      · rw [qC 131 (by omega) (by omega) (by omega) (by omega) (by omega) (by omega), q4 131 (by omega) (by omega)]; exact f6
      · rw [qC 132 (by omega) (by omega) (by omega) (by omega) (by omega) (by omega), q4 132 (by omega) (by omega)]; exact f7
    · obtain ⟨hf4, h33⟩ := n4 z4
      have xne : ¬ x4 = 0 := by rw [ex4]; exact nI_ne0 (by omega) (by omega)
      have hL : rz_ev mDos_goToNextBlock [.ref 39, .ref (48 + 4 * c)] V (rz_i (fun x' S1 => x' = x4 ∧ S1 = V4)) := left4 _ ⟨fun z => absurd z xne, fun _ => ⟨rfl, rfl⟩⟩
      obtain ⟨_, V', el, x', rfl, hx', hV'⟩ := rzx_ev hL
      rw [hx', hV'] at el
      exact ⟨x4, V4, W4, el, gV4, gW4, ⟨B4, id4, D4⟩, Or.inr ⟨xc4, z4, hx4, ex4, hf4, h33.trans (st3 3)⟩, fun z => absurd z xne, fun Q h => right4 Q ⟨fun z => absurd z xne, fun _ => h⟩⟩
  · have hL : rz_ev mDos_goToNextBlock [.ref 39, .ref (48 + 4 * c)] V (rz_i (fun x' S1 => x' = x ∧ S1 = V3)) := by
      show rz _ 0 [(0, .ref 39), (1, .ref (48 + 4 * c))] [] _ _
      exact p_Dos_goToNextBlock_0 hch (rzx_I b1 ⟨fun z => absurd z x0, fun _ => ⟨rfl, rfl⟩⟩)
    obtain ⟨_, V', el, x', rfl, hx', hV'⟩ := rzx_ev hL
    rw [hx', hV'] at el
    refine ⟨x, V3, W3, el, gV3, gW3, ⟨B3, id3, D3⟩, an3, fun z => absurd z x0, fun Q h => ?_⟩
    unfold gnR
    exact rzx_I b2 ⟨fun z => absurd z x0, fun _ => h⟩
