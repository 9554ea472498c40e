/-! write: the disk is full, a FILE is given up -/
theorem c_goToEntryOf {c : Nat} {S : rz_S} (hc : c < 15) : rz_ev mDos_goToEntryOf [.ref 39, .ref (48 + 4 * c)] S (rz_v (fun S1 => S1 = rz_uI (rz_uI (rz_uI (rz_uI (rz_uI S 46 1 (S.2 (48 + 4 * c) 10)) 46 2 (S.2 (48 + 4 * c) 11)) 46 3 (S.2 (48 + 4 * c) 12)) 46 4 (S.2 (48 + 4 * c) 13)) 46 6 0)) := by
  have hch : chP (48 + 4 * c) := ⟨by omega, by omega, by omega⟩
  have hgo : ∀ S a1 a2 a3 a4, rz_ev mDirectory_goTo [.ref 46, .int a1, .int a2, .int a3, .int a4] S (rz_v (fun S1 => S1 = rz_uI (rz_uI (rz_uI (rz_uI (rz_uI S 46 1 a1) 46 2 a2) 46 3 a3) 46 4 a4) 46 6 0)) := fun S a1 a2 a3 a4 => by
    show rz _ 0 [(0, .ref 46), (1, .int a1), (2, .int a2), (3, .int a3), (4, .int a4)] [] _ _
    exact p_Directory_goTo_0 rfl
  show rz _ 0 [(0, .ref 39), (1, .ref (48 + 4 * c))] [] _ _
  exact p_Dos_goToEntryOf_0 hch (rz_toV (hgo _ _ _ _ _) rfl)
def guE (c : Nat) (pr : Bool) (V W : rz_S) (x : Int32) (V1 W1 : rz_S) : Prop := x ≠ 0 ∧ GX c V V1 ∧ GM c W W1 ∧ (∃ B id, Dk B pr id V1 W1) ∧ ans V x V1 W1
theorem ans_ne {xc : Nat} (h0 : xc ≠ 0) (h : xc < 100) : nI xc ≠ 0 := nI_ne0 (by omega) (by omega)
theorem gu_flt {c : Nat} {pr : Bool} {V W Tx Tm : rz_S} {B : Nat → Nat → Bool} {id : Option (Nat × Nat)} (xc t s : Nat) (h0 : xc ≠ 0) (hx : xc < 100 ∧ (xc = 0 ∨ xc = 1 ∨ 20 ≤ xc ∧ xc ≤ 26 ∨ xc = 28 ∨ 30 ≤ xc ∧ xc ≤ 34 ∨ 60 ≤ xc ∧ xc ≤ 66 ∨ 70 ≤ xc ∧ xc ≤ 74)) (gx : GX c V Tx) (gm : GM c W Tm) (h3 : ∀ z, Tx.2 3 z = V.2 3 z) (hD : Dk B pr id Tx Tm) : guE c pr V W (nI xc) (st_set Tx (nI xc) (nI t) (nI s)) (rz_uI (rz_uI Tm 116 4 (nI t)) 116 5 (nI s)) := ⟨ans_ne h0 hx.1, GX_t gx GX_s, GM_t gm (GM_t (GM_u (by omega)) (GM_u (by omega))), ⟨B, id, Dk_mu (Dk_mu (st_set_dk hD) (by omega)) (by omega)⟩, Or.inr ⟨xc, h0, hx, rfl, ⟨t, s, st_set_is, by simp (disch := omega) only [uI1, fA2, rz_fA_n, rz_uI_n, rz_fA_s, rz_uI_s, pk_us], by simp (disch := omega) only [uI1, fA2, rz_fA_n, rz_uI_n, rz_fA_s, rz_uI_s, pk_us]⟩, (show (st_set Tx (nI xc) (nI t) (nI s)).2 3 3 = Tx.2 3 3 from rfl).trans (h3 3)⟩⟩
theorem gu_end {c t0 s0 et es e : Nat} {pr : Bool} {V W Tx Tm : rz_S} {B : Nat → Nat → Bool} {id : Option (Nat × Nat)} (hc : c < 15) (u1 : 1 ≤ et) (u2 : et ≤ 12) (v1 : es < sct et) (he : e < 4) (x5 : V.2 (48 + 4 * c) 5 = nI t0) (x6 : V.2 (48 + 4 * c) 6 = nI s0) (x10 : V.2 (48 + 4 * c) 10 = nI et) (x11 : V.2 (48 + 4 * c) 11 = nI es) (x13 : V.2 (48 + 4 * c) 13 = nI e) (y3 : W.1 133 c = nI t0) (y4 : W.1 134 c = nI s0) (y6 : W.1 136 c = nI et) (y7 : W.1 137 c = nI es) (y8 : W.1 138 c = nI e) (fx : chX V Tx) (fm : chM W Tm) (hD : Dk B pr id Tx Tm) (hM : Mp Tx Tm) (h3 : ∀ z, Tx.2 3 z = V.2 3 z) : ∃ x V1 W1, guE c pr V W x V1 W1 ∧ (∀ K : Int32 → rz_S → Prop, K x V1 → rz mDos_giveUpFile 115 [(0, .ref 39), (1, .ref (48 + 4 * c))] [] Tx (rz_i K)) ∧ ∀ (a4 : Int32) (R : Int32 → rz_S → Prop), R x W1 → rz mM_isFull 17 [(0, .ref 116), (1, .int (nI c)), (2, .int (nI t0)), (3, .int (nI s0)), (4, .int a4)] [] Tm (rz_i R) := by
  have hch : chP (48 + 4 * c) := ⟨by omega, by omega, by omega⟩
  have ecl : (nI c).toNatClampNeg = c := nI_clamp (by omega)
  have kx : ∀ z, Tx.2 (48 + 4 * c) z = V.2 (48 + 4 * c) z := fun z => fx.2 _ z (by omega) (by omega) (by omega)
  have km : ∀ q, 126 ≤ q → Tm.1 q = W.1 q := fun q hq => fm.1 q (by omega) (by omega) (by omega)
  obtain ⟨Ux, Um, g1, g2, f, g, rfl, rfl, hM2⟩ := PR_giveBack hM (nI t0) (nI s0)
  have d2 : Dk B pr id (rz_fA Tx 45 f) (rz_fA Tm 123 g) := Dk_mf (Dk_xf hD (by omega)) (by omega)
  obtain ⟨x, V3, y, W3, b1, b2, rfl, f3x, f3m, ⟨B3, id3, D3⟩, an3⟩ := PR_store d2 hM2
  have gV3 : GX c V V3 := GX_t (GX_b (bgX_ch fx)) (GX_t (GX_f2 (by omega)) (GX_b (bgX_rF (by omega) f3x)))
  have gW3 : GM c W W3 := GM_t (GM_b (bgM_ch fm)) (GM_t (GM_b (bgM_f (by omega))) (GM_b (bgM_wM f3m)))
  have kz : ∀ z, V3.2 (48 + 4 * c) z = V.2 (48 + 4 * c) z := fun z => (f3x.2 _ z (by omega) (by omega) (by omega)).trans (kx z)
  have wq : ∀ q, 126 ≤ q → W3.1 q = W.1 q := fun q hq => (f3m.1 q (by omega) (by omega)).trans ((rz_fA_n (by omega)).trans (km q hq))
  have left3 : ∀ K : Int32 → rz_S → Prop, ((x = 0 → rz_ev mDos_goToEntryOf [.ref 39, .ref (48 + 4 * c)] V3 (rz_v (fun Sq4 => rz_ev mDirectory_changeType [.ref 46, .int 0] Sq4 (rz_i (fun xq5 Sq5 => rz mDos_giveUpFile 159 [(0, .ref 39), (4, .int xq5)] [] Sq5 (rz_i K)))))) ∧ (¬ x = 0 → rz mDos_giveUpFile 159 [(0, .ref 39), (4, .int x)] [] V3 (rz_i K))) → rz mDos_giveUpFile 115 [(0, .ref 39), (1, .ref (48 + 4 * c))] [] Tx (rz_i K) := fun K h => by
    refine p_Dos_giveUpFile_115 hch ?_
    rw [kx 5, kx 6, x5, x6]
    exact rzx_V g1 (rzx_I b1 h)
  have right3 : ∀ (a4 : Int32) (R : Int32 → rz_S → Prop), ((x = 0 → rz_ev mM_changesType [.ref 116, .int (nI et), .int (nI es), .int (nI e), .int 0] W3 (rz_i (fun xq6 Sq6 => ((xq6 = 0 → rz_ev mM_fault [.ref 116, .int 72, .int 0, .int 0] Sq6 (rz_i (fun xq8 Sq8 => R xq8 Sq8))) ∧ (¬ xq6 = 0 → R xq6 Sq6))))) ∧ (¬ x = 0 → R x W3)) → rz mM_isFull 17 [(0, .ref 116), (1, .int (nI c)), (2, .int (nI t0)), (3, .int (nI s0)), (4, .int a4)] [] Tm (rz_i R) := fun a4 R h => by
    refine p_M_isFull_17 ⟨rin hc (by omega), ?_⟩
    rw [ecl, km 133 (by omega), km 134 (by omega), y3, y4]
    refine ⟨fun _ => ⟨fun _ => rzx_V g2 (rzx_I b2 ⟨fun x0 => ?_, h.2⟩), fun z => absurd rfl z⟩, fun z => absurd rfl z⟩
    rw [wq 136 (by omega), wq 137 (by omega), wq 138 (by omega), y6, y7, y8]
    exact h.1 x0
  by_cases x0 : x = 0
  · subst x0
    have st3 : ∀ z, V3.2 3 z = V.2 3 z := fun z => (ans_z an3 rfl z).trans (h3 z)
    obtain ⟨_, V4, l4, rfl, hV4⟩ := rzx_ev (c_goToEntryOf (S := V3) hc)
    have u4 : ∀ u z, u ≠ 46 → V4.2 u z = V3.2 u z := fun u z hu => by rw [hV4]; simp (disch := omega) only [uI1, fA2, rz_fA_n, rz_uI_n, rz_fA_s, rz_uI_s, pk_us]
    have a4' : V4.1 = V3.1 := by rw [hV4]; rfl
    have e1 : V4.2 46 1 = nI et := by rw [hV4]; simp (disch := omega) only [uI1, fA2, rz_fA_n, rz_uI_n, rz_fA_s, rz_uI_s, pk_us]; rw [kz 10]; exact x10
    have e2 : V4.2 46 2 = nI es := by rw [hV4]; simp (disch := omega) only [uI1, fA2, rz_fA_n, rz_uI_n, rz_fA_s, rz_uI_s, pk_us]; rw [kz 11]; exact x11
    have e4 : V4.2 46 4 = nI e := by rw [hV4]; simp (disch := omega) only [uI1, fA2, rz_fA_n, rz_uI_n, rz_fA_s, rz_uI_s, pk_us]; rw [kz 13]; exact x13
    have g4 : GX c V3 V4 := by rw [hV4]; exact GX_t (GX_u2 (by omega)) (GX_t (GX_u2 (by omega)) (GX_t (GX_u2 (by omega)) (GX_t (GX_u2 (by omega)) (GX_u2 (by omega)))))
    have D4 : Dk B3 pr id3 V4 W3 := Dk_x D3 (fun q _ _ => by rw [a4']) (fun u z hu => u4 u z (by omega))
    obtain ⟨v, Zx, v', Zm, k1, k2, rfl, zx, zm, ⟨B5, id5, D5⟩, za, _⟩ := PR_changeType (ty := 0) D4 u1 u2 v1 he ⟨0, by omega, rfl⟩ e1 e2 e4
    have st4 : ∀ z, V4.2 3 z = V.2 3 z := fun z => (u4 3 z (by omega)).trans (st3 z)
    have gVZ : GX c V Zx := GX_t gV3 (GX_t g4 (GX_b zx))
    have gWZ : GM c W Zm := GM_t gW3 (GM_b zm)
    by_cases v0 : v = 0
    · subst v0
      refine ⟨nI 72, st_set Zx (nI 72) (nI 0) (nI 0), rz_uI (rz_uI Zm 116 4 (nI 0)) 116 5 (nI 0), gu_flt 72 0 0 (by omega) (by omega) gVZ gWZ (fun z => (ans_z za rfl z).trans (st4 z)) D5, fun K h => left3 K ⟨fun _ => rzx_V l4 (rzx_I k1 (p_Dos_giveUpFile_159 ⟨fun _ => rz_toI (c_Status_set _ _ _) h, fun z => absurd rfl z⟩)), fun z => absurd rfl z⟩, fun a4 R h => right3 a4 R ⟨fun _ => rzx_I k2 ⟨fun _ => rz_toI (c_M_fault _ _ _) h, fun z => absurd rfl z⟩, fun z => absurd rfl z⟩⟩
    · exact ⟨v, Zx, Zm, ⟨v0, gVZ, gWZ, ⟨B5, id5, D5⟩, ans_t st4 za⟩, fun K h => left3 K ⟨fun _ => rzx_V l4 (rzx_I k1 (p_Dos_giveUpFile_159 ⟨fun z => absurd z v0, fun _ => h⟩)), fun z => absurd rfl z⟩, fun a4 R h => right3 a4 R ⟨fun _ => rzx_I k2 ⟨fun z => absurd z v0, fun _ => h⟩, fun z => absurd rfl z⟩⟩
  · exact ⟨x, V3, W3, ⟨x0, gV3, gW3, ⟨B3, id3, D3⟩, ans_t (Tx := rz_fA Tx 45 f) h3 an3⟩, fun K h => left3 K ⟨fun z => absurd z x0, fun _ => p_Dos_giveUpFile_159 ⟨fun z => absurd z x0, fun _ => h⟩⟩, fun a4 R h => right3 a4 R ⟨fun z => absurd z x0, fun _ => h⟩⟩
theorem gu_loop {c t0 s0 et es e : Nat} {pr : Bool} {V W : rz_S} {B : Nat → Nat → Bool} (hc : c < 15) (u1 : 1 ≤ et) (u2 : et ≤ 12) (v1 : es < sct et) (he : e < 4) (x5 : V.2 (48 + 4 * c) 5 = nI t0) (x6 : V.2 (48 + 4 * c) 6 = nI s0) (x10 : V.2 (48 + 4 * c) 10 = nI et) (x11 : V.2 (48 + 4 * c) 11 = nI es) (x13 : V.2 (48 + 4 * c) 13 = nI e) (y3 : W.1 133 c = nI t0) (y4 : W.1 134 c = nI s0) (y6 : W.1 136 c = nI et) (y7 : W.1 137 c = nI es) (y8 : W.1 138 c = nI e) : ∀ (w i : Nat) (t s : Int32) (Tx Tm : rz_S), w + i = 72 → byt t → byt s → chX V Tx → chM W Tm → (∃ id', Dk B pr id' Tx Tm) → Mp Tx Tm → (∀ z, Tx.2 3 z = V.2 3 z) → ∃ x V1 W1, guE c pr V W x V1 W1 ∧ (∀ K : Int32 → rz_S → Prop, K x V1 → rz mDos_giveUpFile 13 [(0, .ref 39), (1, .ref (48 + 4 * c)), (2, .int t), (3, .int s), (4, .int (nI i))] [] Tx (rz_i K)) ∧ ∀ R : Int32 → rz_S → Prop, R x W1 → rz mM_isFull 17 [(0, .ref 116), (1, .int (nI c)), (2, .int t), (3, .int s), (4, .int (nI i))] [] Tm (rz_i R) := by
  have hch : chP (48 + 4 * c) := ⟨by omega, by omega, by omega⟩
  have ecl : (nI c).toNatClampNeg = c := nI_clamp (by omega)
  intro w
  induction w with
  | zero =>
    intro i t s Tx Tm hw ht hs fx fm hD hM hst
    have e72 : i = 72 := by omega
    subst e72
    obtain ⟨id', d⟩ := hD
    have kx : ∀ z, Tx.2 (48 + 4 * c) z = V.2 (48 + 4 * c) z := fun z => fx.2 _ z (by omega) (by omega) (by omega)
    have km : ∀ q, 126 ≤ q → Tm.1 q = W.1 q := fun q hq => fm.1 q (by omega) (by omega) (by omega)
    by_cases hE : t = nI t0 ∧ s = nI s0
    · obtain ⟨rfl, rfl⟩ := hE
      obtain ⟨x, V1, W1, hg, hl, hr⟩ := gu_end (pr := pr) hc u1 u2 v1 he x5 x6 x10 x11 x13 y3 y4 y6 y7 y8 fx fm d hM hst
      refine ⟨x, V1, W1, hg, fun K h => ?_, fun R h => hr _ R h⟩
      refine p_Dos_giveUpFile_13 hch ⟨fun z => absurd z (by decide), fun _ => ?_⟩
      rw [kx 5, kx 6, x5, x6]
      exact ⟨fun _ => ⟨fun _ => hl K h, fun z => absurd rfl z⟩, fun z => absurd rfl z⟩
    · obtain ⟨a, b, ea, eb⟩ := c_give71 (S := Tx) ht hs
      subst ea
      subst eb
      refine ⟨nI 71, st_set Tx (nI 71) (nI a) (nI b), rz_uI (rz_uI Tm 116 4 (nI a)) 116 5 (nI b), gu_flt 71 a b (by omega) (by omega) (GX_b (bgX_ch fx)) (GM_b (bgM_ch fm)) hst d, fun K h => ?_, fun R h => ?_⟩
      · have h51 : rz mDos_giveUpFile 51 [(0, .ref 39), (2, .int (nI a)), (3, .int (nI b))] [] Tx (rz_i K) := p_Dos_giveUpFile_51 (rz_toI (c_Status_set _ _ _) h)
        have h36 := p_Dos_giveUpFile_36 (a4 := nI 72) hch (rz_toI (c_Disk_legal (nI a) (nI b)) ⟨fun _ => h51, fun _ => ⟨fun _ => h51, fun z => absurd rfl z⟩⟩)
        refine p_Dos_giveUpFile_13 hch ⟨fun z => absurd z (by decide), fun _ => ?_⟩
        rw [kx 5, kx 6, x5, x6]
        exact ⟨fun q1 => ⟨fun q2 => absurd ⟨q1, q2⟩ hE, fun _ => h36⟩, fun _ => h36⟩
      · have h52 : rz mM_isFull 52 [(0, .ref 116), (2, .int (nI a)), (3, .int (nI b))] [] Tm (rz_i R) := p_M_isFull_52 (rz_toI (c_M_fault _ _ _) h)
        have h37 := p_M_isFull_37 (a1 := nI c) (a4 := nI 72) (rz_toI (c_M_legal (nI a) (nI b)) ⟨fun _ => h52, fun _ => ⟨fun _ => h52, fun z => absurd rfl z⟩⟩)
        refine p_M_isFull_17 ⟨rin hc (by omega), ?_⟩
        rw [ecl, km 133 (by omega), km 134 (by omega), y3, y4]
        exact ⟨fun q1 => ⟨fun q2 => absurd ⟨q1, q2⟩ hE, fun _ => h37⟩, fun _ => h37⟩
  | succ w ih =>
    intro i t s Tx Tm hw ht hs fx fm hD hM hst
    obtain ⟨id', d⟩ := hD
    have kx : ∀ z, Tx.2 (48 + 4 * c) z = V.2 (48 + 4 * c) z := fun z => fx.2 _ z (by omega) (by omega) (by omega)
    have km : ∀ q, 126 ≤ q → Tm.1 q = W.1 q := fun q hq => fm.1 q (by omega) (by omega) (by omega)
    have i72 : ¬ nI i = 72 := fun z => by have := (nI_eq (b := 72) (by omega) (by omega)).mp z; omega
    have l72 : ¬ (72 : Int32) < nI i := nI_nlt (a := 72) (b := i) (by omega) (by omega)
    by_cases hE : t = nI t0 ∧ s = nI s0
    · obtain ⟨rfl, rfl⟩ := hE
      obtain ⟨x, V1, W1, hg, hl, hr⟩ := gu_end (pr := pr) hc u1 u2 v1 he x5 x6 x10 x11 x13 y3 y4 y6 y7 y8 fx fm d hM hst
      refine ⟨x, V1, W1, hg, fun K h => ?_, fun R h => hr _ R h⟩
      refine p_Dos_giveUpFile_13 hch ⟨fun z => absurd z l72, fun _ => ?_⟩
      rw [kx 5, kx 6, x5, x6]
      exact ⟨fun _ => ⟨fun _ => hl K h, fun z => absurd rfl z⟩, fun z => absurd rfl z⟩
    · have left : ∀ K : Int32 → rz_S → Prop, rz mDos_giveUpFile 36 [(0, .ref 39), (1, .ref (48 + 4 * c)), (2, .int t), (3, .int s), (4, .int (nI i))] [] Tx (rz_i K) → rz mDos_giveUpFile 13 [(0, .ref 39), (1, .ref (48 + 4 * c)), (2, .int t), (3, .int s), (4, .int (nI i))] [] Tx (rz_i K) := fun K h => by
        refine p_Dos_giveUpFile_13 hch ⟨fun z => absurd z l72, fun _ => ?_⟩
        rw [kx 5, kx 6, x5, x6]
        exact ⟨fun q1 => ⟨fun q2 => absurd ⟨q1, q2⟩ hE, fun _ => h⟩, fun _ => h⟩
      have right : ∀ R : Int32 → rz_S → Prop, rz mM_isFull 37 [(0, .ref 116), (1, .int (nI c)), (2, .int t), (3, .int s), (4, .int (nI i))] [] Tm (rz_i R) → rz mM_isFull 17 [(0, .ref 116), (1, .int (nI c)), (2, .int t), (3, .int s), (4, .int (nI i))] [] Tm (rz_i R) := fun R h => by
        refine p_M_isFull_17 ⟨rin hc (by omega), ?_⟩
        rw [ecl, km 133 (by omega), km 134 (by omega), y3, y4]
        exact ⟨fun q1 => ⟨fun q2 => absurd ⟨q1, q2⟩ hE, fun _ => h⟩, fun _ => h⟩
      by_cases cl : lgI t s = 0
      · obtain ⟨a, b, ea, eb⟩ := c_give71 (S := Tx) ht hs
        subst ea
        subst eb
        exact ⟨nI 71, st_set Tx (nI 71) (nI a) (nI b), rz_uI (rz_uI Tm 116 4 (nI a)) 116 5 (nI b), gu_flt 71 a b (by omega) (by omega) (GX_b (bgX_ch fx)) (GM_b (bgM_ch fm)) hst d, fun K h => left K (p_Dos_giveUpFile_36 hch (rz_toI (c_Disk_legal _ _) ⟨fun _ => p_Dos_giveUpFile_51 (rz_toI (c_Status_set _ _ _) h), fun z => absurd cl z⟩)), fun R h => right R (p_M_isFull_37 (rz_toI (c_M_legal _ _) ⟨fun _ => p_M_isFull_52 (rz_toI (c_M_fault _ _ _) h), fun z => absurd cl z⟩))⟩
      · obtain ⟨u, v, w1, w2, hv, rfl, rfl⟩ := lgI_1 cl
        have hsb := sct_b w1 w2
        obtain ⟨x, Vx, y, Vm, e1, e2, rfl, xc, id2, ex, x100, D2, f1, f2, o1, n1⟩ := PR_read (a := 40) (a' := 125) (at0 := 0) (na := 64) (s := v) d w1 w2 (by omega) rfl (by omega) rfl (by omega) (by omega) (by omega)
        have gx : chX V Vx := chX_t fx (chX_rF (Or.inl rfl) f1)
        have gm : chM W Vm := chM_t fm (chM_kFa (Or.inl rfl) f2)
        have left2 : ∀ K : Int32 → rz_S → Prop, ((x = 0 → rz_ev mBlockMap_giveBack [.ref 44, .int (nI u), .int (nI v)] Vx (rz_v (fun Sq6 => rz mDos_giveUpFile 13 [(0, .ref 39), (1, .ref (48 + 4 * c)), (2, .int (Sq6.1 40 0)), (3, .int (Sq6.1 40 1)), (4, .int (nI i + 1))] [] Sq6 (rz_i K)))) ∧ (¬ x = 0 → K x Vx)) → rz mDos_giveUpFile 13 [(0, .ref 39), (1, .ref (48 + 4 * c)), (2, .int (nI u)), (3, .int (nI v)), (4, .int (nI i))] [] Tx (rz_i K) := fun K h => left K (p_Dos_giveUpFile_36 hch (rz_toI (c_Disk_legal _ _) ⟨fun z => absurd z cl, fun _ => ⟨fun z => absurd z i72, fun _ => rzx_I e1 h⟩⟩))
        have right2 : ∀ R : Int32 → rz_S → Prop, ((x = 0 → rz_ev mM_givesBack [.ref 116, .int (nI u), .int (nI v)] Vm (rz_v (fun Sq6 => rz mM_isFull 17 [(0, .ref 116), (1, .int (nI c)), (2, .int (Sq6.1 125 0)), (3, .int (Sq6.1 125 1)), (4, .int (nI i + 1))] [] Sq6 (rz_i R)))) ∧ (¬ x = 0 → R x Vm)) → rz mM_isFull 17 [(0, .ref 116), (1, .int (nI c)), (2, .int (nI u)), (3, .int (nI v)), (4, .int (nI i))] [] Tm (rz_i R) := fun R h => right R (p_M_isFull_37 (rz_toI (c_M_legal _ _) ⟨fun z => absurd z cl, fun _ => ⟨fun z => absurd z i72, fun _ => rzx_I e2 h⟩⟩))
        have hM3 : Mp Vx Vm := fun k hk => by
          rw [f1.1 45 (by omega) (by omega), f2.1 123 (by omega) (by omega)]
          exact hM k hk
        by_cases xc0 : xc = 0
        · have x0 : x = 0 := by rw [ex, xc0]; rfl
          subst x0
          obtain ⟨⟨dd, hd⟩, hst2⟩ := o1 xc0
          have r0 := hd 0 (by omega)
          have r1 := hd 1 (by omega)
          have q0 : Vx.1 40 0 = Vm.1 125 0 := r0.1.trans r0.2.1.symm
          have q1 : Vx.1 40 1 = Vm.1 125 1 := r1.1.trans r1.2.1.symm
          obtain ⟨Ux, Um, g1, g2, f, g, rfl, rfl, hM4⟩ := PR_giveBack hM3 (nI u) (nI v)
          obtain ⟨x, V1, W1, hg, hl, hr⟩ := ih (i + 1) (Vx.1 40 0) (Vx.1 40 1) (rz_fA Vx 45 f) (rz_fA Vm 123 g) (by omega) ⟨dd 0, r0.2.2, r0.1⟩ ⟨dd 1, r1.2.2, r1.1⟩ (chX_t gx chX_f) (chM_t gm chM_f) ⟨id2, Dk_mf (Dk_xf D2 (by omega)) (by omega)⟩ hM4 (fun z => (hst2 z).trans (hst z))
          refine ⟨x, V1, W1, hg, fun K h => left2 K ⟨fun _ => rzx_V g1 ?_, fun z => absurd rfl z⟩, fun R h => right2 R ⟨fun _ => rzx_V g2 ?_, fun z => absurd rfl z⟩⟩
          · rw [rz_fA_n (by omega), nI_1]
            exact hl K h
          · rw [rz_fA_n (by omega), nI_1, ← q0, ← q1]
            exact hr R h
        · obtain ⟨_, _, hfl, h33⟩ := n1 xc0
          have xne : ¬ x = 0 := by rw [ex]; exact nI_ne0 (by omega) (by omega)
          exact ⟨x, Vx, Vm, ⟨xne, GX_b (bgX_ch gx), GM_b (bgM_ch gm), ⟨B, id2, D2⟩, Or.inr ⟨xc, xc0, x100, ex, hfl, h33.trans (hst 3)⟩⟩, fun K h => left2 K ⟨fun z => absurd z xne, fun _ => h⟩, fun R h => right2 R ⟨fun z => absurd z xne, fun _ => h⟩⟩
