/-! a channel is shut: both sides -/
def clX (c : Nat) (S S1 : rz_S) : Prop := (∀ q, ¬ (8 ≤ q ∧ q ≤ 36) → q ≠ 40 → q ≠ 45 → q ≠ 47 → q ≠ 49 + 4 * c → S1.1 q = S.1 q) ∧ ∀ u z, ¬ (13 ≤ u ∧ u ≤ 35 ∧ 3 ≤ z ∧ z ≤ 7) → ¬ (u = 6 ∧ (z = 1 ∨ z = 2)) → ¬ (u = 3 ∧ z ≤ 6) → ¬ (u = 44 ∧ (z = 1 ∨ z = 2)) → u ≠ 46 → ¬ (u = 48 + 4 * c ∧ z = 0) → S1.2 u z = S.2 u z
def clM (c : Nat) (S S1 : rz_S) : Prop := (∀ q, ¬ (117 ≤ q ∧ q ≤ 121) → ¬ (123 ≤ q ∧ q ≤ 127) → S1.1 q = S.1 q) ∧ (∀ i, i ≠ c → S1.1 126 i = S.1 126 i) ∧ (∀ i, (i < 64 * c ∨ 64 * c + 64 ≤ i) → S1.1 127 i = S.1 127 i) ∧ ∀ u z, ¬ (u = 116 ∧ (2 ≤ z ∧ z ≤ 15 ∨ z = 20 ∨ 25 ≤ z ∧ z ≤ 32)) → S1.2 u z = S.2 u z
theorem clX_t {c : Nat} {S S1 S2 : rz_S} (h1 : clX c S S1) (h2 : clX c S1 S2) : clX c S S2 := ⟨fun q a b d e f => (h2.1 q a b d e f).trans (h1.1 q a b d e f), fun u z a b d e f g => (h2.2 u z a b d e f g).trans (h1.2 u z a b d e f g)⟩
theorem clM_t {c : Nat} {S S1 S2 : rz_S} (h1 : clM c S S1) (h2 : clM c S1 S2) : clM c S S2 := ⟨fun q a b => (h2.1 q a b).trans (h1.1 q a b), fun i h => (h2.2.1 i h).trans (h1.2.1 i h), fun i h => (h2.2.2.1 i h).trans (h1.2.2.1 i h), fun u z a => (h2.2.2.2 u z a).trans (h1.2.2.2 u z a)⟩
theorem clX_b {c : Nat} {S S1 : rz_S} (h : bgX S S1) : clX c S S1 := ⟨fun q a b d e _ => h.1 q a b d e, fun u z a b d e f _ => h.2 u z a b d e f⟩
theorem clM_b {c : Nat} {S S1 : rz_S} (h : bgM S S1) : clM c S S1 := ⟨fun q a b => h.1 q a (by omega), fun i _ => by rw [h.1 126 (by omega) (by omega)], fun i _ => by rw [h.1 127 (by omega) (by omega)], h.2⟩
theorem clX_f {c : Nat} {S : rz_S} {f : Nat → Int32} : clX c S (rz_fA S (49 + 4 * c) f) := ⟨fun q _ _ _ _ h => rz_fA_n h, fun _ _ _ _ _ _ _ _ => rfl⟩
theorem clX_u {c : Nat} {S : rz_S} {x : Int32} : clX c S (rz_uI S (48 + 4 * c) 0 x) := ⟨fun _ _ _ _ _ _ => rfl, fun u z _ _ _ _ _ h => rz_uI_n h⟩
/-- a channel that WRITES -/
def ChW (c : Nat) (Sx Sm : rz_S) : Prop := ∃ t s et es e cn pl : Nat, (1 ≤ t ∧ t ≤ 12 ∧ s < sct t) ∧ (1 ≤ et ∧ et ≤ 12 ∧ es < sct et) ∧ e < 4 ∧ cn < 256 ∧ (2 ≤ pl ∧ pl ≤ 64) ∧
  (Sx.2 (48 + 4 * c) 5 = nI t ∧ Sx.2 (48 + 4 * c) 6 = nI s ∧ Sx.2 (48 + 4 * c) 9 = nI cn ∧ Sx.2 (48 + 4 * c) 10 = nI et ∧ Sx.2 (48 + 4 * c) 11 = nI es ∧ Sx.2 (48 + 4 * c) 13 = nI e ∧ Sx.2 (48 + 4 * c) 2 = nI pl) ∧
  (Sm.1 133 c = nI t ∧ Sm.1 134 c = nI s ∧ Sm.1 135 c = nI cn ∧ Sm.1 136 c = nI et ∧ Sm.1 137 c = nI es ∧ Sm.1 138 c = nI e ∧ Sm.1 129 c = nI (pl - 2)) ∧
  ∀ k, 2 ≤ k → k < 64 → Sx.1 (49 + 4 * c) k = Sm.1 127 (64 * c + k) ∧ byt (Sx.1 (49 + 4 * c) k)
def shE (c : Nat) (pr : Bool) (Sx Sm : rz_S) (x : Int32) (Sx1 : rz_S) (y : Int32) (Sm1 : rz_S) : Prop := x = y ∧ clX c Sx Sx1 ∧ clM c Sm Sm1 ∧ (∃ B' id', Dk B' pr id' Sx1 Sm1) ∧ ans Sx x Sx1 Sm1 ∧ Sx1.2 (48 + 4 * c) 0 = 0 ∧ Sm1.1 126 c = 0
theorem ans_u {Sx Sx1 Sm1 : rz_S} {x y : Int32} {k : Nat} (hk : k ≠ 3) (h : ans Sx x Sx1 Sm1) : ans Sx x (rz_uI Sx1 k 0 y) Sm1 := by
  rcases h with ⟨a, b⟩ | ⟨xc, a, b, d, ⟨ft, fs, ⟨p0, p1, p2, p3, p4⟩, q1, q2⟩, e⟩
  · exact Or.inl ⟨a, fun z => (rz_uI_n (by omega)).trans (b z)⟩
  · exact Or.inr ⟨xc, a, b, d, ⟨ft, fs, ⟨(rz_uI_n (by omega)).trans p0, (rz_uI_n (by omega)).trans p1, (rz_uI_n (by omega)).trans p2, (rz_uI_n (by omega)).trans p3, (rz_uI_n (by omega)).trans p4⟩, q1, q2⟩, (rz_uI_n (by omega)).trans e⟩
/-- a row of a channel's place as numbers -/
theorem row_at {F G : Nat → Int32} {o : Nat} (h : ∀ k, k < 64 → F k = G (o + k) ∧ byt (F k)) : ∃ rr : Nat → Nat, ∀ k, k < 64 → F k = nI (rr k) ∧ G (o + k) = nI (rr k) ∧ rr k < 256 := by
  refine ⟨fun k => (F k).toNatClampNeg, fun k hk => ?_⟩
  obtain ⟨e, n, hn, en⟩ := h k hk
  have : (F k).toNatClampNeg = n := by rw [en, nI_clamp (by omega)]
  rw [← e]
  simp only [this]
  exact ⟨en, en, hn⟩
theorem PR_shut {B : Nat → Nat → Bool} {pr : Bool} {id : Option (Nat × Nat)} {Sx Sm : rz_S} {c : Nat} (hc : c < 15) (hD : Dk B pr id Sx Sm) (hm : Sx.2 (48 + 4 * c) 0 = Sm.1 126 c) (hW : Sm.1 126 c = 2 → ChW c Sx Sm) : PCi mDos_closeChannel mM_shuts [.ref 39, .int (nI c)] [.ref 116, .int (nI c)] Sx Sm (shE c pr Sx Sm) := by
  have hch : chP (48 + 4 * c) := ⟨by omega, by omega, by omega⟩
  have ecl : (nI c).toNatClampNeg = c := nI_clamp (by omega)
  have e64 : (64 * nI c : Int32) = nI (64 * c) := pk_mul 64 c
  have e65 : ((64 * nI c) + 1 : Int32) = nI (64 * c + 1) := by rw [e64, nI_1]
  have c64 : (nI (64 * c)).toNatClampNeg = 64 * c := nI_clamp (by omega)
  have c65 : (nI (64 * c + 1)).toNatClampNeg = 64 * c + 1 := nI_clamp (by omega)
  refine PCi_of (fun K hK => ?_)
  show rz _ 0 [(0, .ref 39), (1, .int (nI c))] [] _ _
  refine p_Dos_closeChannel_0 ⟨fun z => absurd z (nI_pos (by omega)), fun _ => ⟨fun _ => ⟨rin hc (by omega), ?_⟩, fun z => absurd (nI_lt (b := 15) hc (by omega)) z⟩⟩
  rw [ecl, hm]
  by_cases m2 : Sm.1 126 c = 2
  · obtain ⟨t, s, et, es, e, cn, pl, ⟨t1, t2, s1⟩, ⟨u1, u2, v1⟩, he, hcn, ⟨p2, p64⟩, ⟨x5, x6, x9, x10, x11, x13, xp⟩, ⟨y3, y4, y5, y6, y7, y8, yp⟩, hr⟩ := hW m2
    have hsb := sct_b t1 t2
    have hsb2 := sct_b u1 u2
    refine ⟨fun _ => ?_, fun z => absurd m2 z⟩
    have rw1 : nI pl - 1 = nI (pl - 1) := pk_sub (a := pl) (b := 1) (by omega)
    have rw2 : nI (pl - 2) + 1 = nI (pl - 1) := by rw [nI_1, show pl - 2 + 1 = pl - 1 by omega]
    rw [x5, x6, xp, rw1, rz_fAA, show 48 + 4 * c + 1 = 49 + 4 * c by omega]
    have hrow : ∀ k, k < 64 → (rz_fA Sx (49 + 4 * c) (upd (upd (Sx.1 (49 + 4 * c)) 0 0) 1 (nI (pl - 1)))).1 (49 + 4 * c) k = (rz_fA (rz_fA Sm 126 (upd (Sm.1 126) c 0)) 127 (upd (upd (Sm.1 127) (64 * c) 0) (64 * c + 1) (nI (pl - 1)))).1 127 (64 * c + k) ∧ byt ((rz_fA Sx (49 + 4 * c) (upd (upd (Sx.1 (49 + 4 * c)) 0 0) 1 (nI (pl - 1)))).1 (49 + 4 * c) k) := by
      intro k hk
      rw [rz_fA_s, rz_fA_s]
      by_cases k1 : k = 1
      · subst k1
        rw [pk_us, pk_us]
        exact ⟨rfl, pl - 1, by omega, rfl⟩
      · have a1 : upd (upd (Sm.1 127) (64 * c) 0) (64 * c + 1) (nI (pl - 1)) (64 * c + k) = upd (Sm.1 127) (64 * c) 0 (64 * c + k) := pk_un (by omega)
        rw [pk_un k1, a1]
        by_cases k0 : k = 0
        · subst k0
          rw [pk_us, Nat.add_zero, pk_us]
          exact ⟨rfl, 0, by omega, rfl⟩
        · have a2 : upd (Sm.1 127) (64 * c) 0 (64 * c + k) = Sm.1 127 (64 * c + k) := pk_un (by omega)
          rw [pk_un k0, a2]
          exact hr k (by omega) hk
    obtain ⟨rr, hrr⟩ := row_at hrow
    have D1 : Dk B pr id (rz_fA Sx (49 + 4 * c) (upd (upd (Sx.1 (49 + 4 * c)) 0 0) 1 (nI (pl - 1)))) (rz_fA (rz_fA Sm 126 (upd (Sm.1 126) c 0)) 127 (upd (upd (Sm.1 127) (64 * c) 0) (64 * c + 1) (nI (pl - 1)))) := Dk_mf (Dk_mf (Dk_xf hD (by omega)) (by omega)) (by omega)
    obtain ⟨x, Vx, y, Vm, e1, e2, rfl, xc, id2, B2, ex, x100, D2, f1, f2, o1, n1⟩ := PR_write (s := s) (a := 49 + 4 * c) (a' := 127) (at0 := 64 * c) (na := 960) D1 t1 t2 (by omega) (by have := chR hch; rw [show 48 + 4 * c + 1 = 49 + 4 * c by omega] at this; exact this) (by omega) rfl (by omega) (by omega) (by omega) hrr
    have gx : clX c Sx Vx := clX_t clX_f (clX_b (bgX_rF (by omega) f1))
    have gm : clM c Sm Vm := by
      refine clM_t ?_ (clM_b (bgM_wM f2))
      refine ⟨fun q a b => by rw [rz_fA_n (by omega), rz_fA_n (by omega)], fun i h => by rw [rz_fA_n (by omega), rz_fA_s, pk_un h], fun i h => by rw [rz_fA_s, pk_un (by omega), pk_un (by omega)], fun _ _ _ => rfl⟩
    have v126 : Vm.1 126 c = 0 := by rw [f2.1 126 (by omega) (by omega), rz_fA_n (by omega), rz_fA_s, pk_us]
    have vch : ∀ z, Vx.2 (48 + 4 * c) z = Sx.2 (48 + 4 * c) z := fun z => f1.2 (48 + 4 * c) z (by omega) (by omega) (by omega)
    have vm : ∀ q, ¬ (117 ≤ q ∧ q ≤ 121) → ¬ (123 ≤ q ∧ q ≤ 127) → Vm.1 q = Sm.1 q := gm.1
    have wa : ans Sx x Vx Vm := by
      by_cases z : xc = 0
      · exact Or.inl ⟨by rw [ex, z]; rfl, o1 z⟩
      · obtain ⟨hfl, h33⟩ := n1 z
        exact Or.inr ⟨xc, z, x100, ex, hfl, h33⟩
    have i2 : ((16 * nI e) + 2 : Int32) = nI (16 * e + 2) := by rw [show (16 * nI e : Int32) = nI (16 * e) from pk_mul 16 e]; exact nI_add _ 2
    have i15 : ((16 * nI e) + 15 : Int32) = nI (16 * e + 15) := by rw [show (16 * nI e : Int32) = nI (16 * e) from pk_mul 16 e]; exact nI_add _ 15
    have hK2 : ∀ v Sx1, ((x = 0 → rz_ev mM_readBlock [.ref 116, .int (nI et), .int (nI es), .ref 125, .int 0] Vm (rz_i (fun xq4 Sq4 => ((xq4 = 0 → Sq4.1 138 c = nI e ∧ Sq4.1 136 c = nI et ∧ Sq4.1 137 c = nI es ∧ Sq4.1 135 c = nI cn ∧ rz_ev mM_writeBlock [.ref 116, .int (nI et), .int (nI es), .ref 125, .int 0] (rz_fA Sq4 125 (upd (upd (Sq4.1 125) (16 * e + 2) ((Sq4.1 125 (16 * e + 2)) ||| 128)) (16 * e + 15) (nI cn))) (rz_i (shE c pr Sx Sm v Sx1))) ∧ (¬ xq4 = 0 → shE c pr Sx Sm v Sx1 xq4 Sq4))))) ∧ (¬ x = 0 → shE c pr Sx Sm v Sx1 x Vm)) → K v Sx1 := fun v Sx1 h => hK v Sx1 (by
      show rz _ 0 [(0, .ref 116), (1, .int (nI c))] [] _ _
      refine p_M_shuts_0 ⟨rin hc (by omega), ?_⟩
      rw [ecl]
      refine ⟨fun _ => ?_, fun z => absurd m2 z⟩
      rw [e65, e64, c64, c65, y3, y4, yp, rw2, rz_fAA]
      refine ⟨rin (by omega) (by omega), rin (by omega) (by omega), rzx_I e2 ⟨fun x0 => ?_, fun x0 => h.2 x0⟩⟩
      rw [vm 136 (by omega) (by omega), vm 137 (by omega) (by omega), y6, y7]
      refine rz_useI (h.1 x0) (fun xq4 Sq4 hq => ⟨fun z => ?_, fun z => hq.2 z⟩)
      obtain ⟨g8, g6, g7, g5, hw⟩ := hq.1 z
      rw [g8, g6, g7, g5, i2, i15, nI_clamp (by omega), nI_clamp (by omega), rz_fAA]
      exact ⟨rin (by omega) (by omega), rin (by omega) (by omega), hw⟩)
    refine rzx_I e1 ⟨fun x0 => ?_, fun x0 => hK2 x _ ⟨fun z => absurd z x0, fun _ => ⟨rfl, clX_t gx clX_u, gm, ⟨B2, id2, Dk_xu D2 (by omega)⟩, ans_u (by omega) wa, rz_uI_s, v126⟩⟩⟩
    have hst : ∀ z, Vx.2 3 z = Sx.2 3 z := by
      rcases wa with ⟨_, b⟩ | ⟨xc, c1, c2, c3, _⟩
      · exact b
      · exact absurd (c3 ▸ x0) (nI_ne0 (by omega) (by omega))
    have hgo : ∀ S a1 a2 a3 a4, rz_ev mDirectory_goTo [.ref 46, .int a1, .int a2, .int a3, .int a4] S (rz_v (fun S1 => S1 = rz_uI (rz_uI (rz_uI (rz_uI (rz_uI S 46 1 a1) 46 2 a2) 46 3 a3) 46 4 a4) 46 6 0)) := fun S a1 a2 a3 a4 => by
      show rz _ 0 [(0, .ref 46), (1, .int a1), (2, .int a2), (3, .int a3), (4, .int a4)] [] _ _
      exact p_Directory_goTo_0 rfl
    have hge : rz_ev mDos_goToEntryOf [.ref 39, .ref (48 + 4 * c)] Vx (rz_v (fun S1 => S1 = rz_uI (rz_uI (rz_uI (rz_uI (rz_uI Vx 46 1 (nI et)) 46 2 (nI es)) 46 3 (Sx.2 (48 + 4 * c) 12)) 46 4 (nI e)) 46 6 0)) := by
      show rz _ 0 [(0, .ref 39), (1, .ref (48 + 4 * c))] [] _ _
      refine p_Dos_goToEntryOf_0 hch ?_
      rw [vch 10, vch 11, vch 12, vch 13, x10, x11, x13]
      exact rz_toV (hgo _ _ _ _ _) rfl
    refine rz_toV hge ?_
    generalize hWx : rz_uI (rz_uI (rz_uI (rz_uI (rz_uI Vx 46 1 (nI et)) 46 2 (nI es)) 46 3 (Sx.2 (48 + 4 * c) 12)) 46 4 (nI e)) 46 6 0 = Wx
    have w1 : Wx.2 46 1 = nI et := by rw [← hWx, rz_uI_n (by omega), rz_uI_n (by omega), rz_uI_n (by omega), rz_uI_n (by omega), rz_uI_s]
    have w2 : Wx.2 46 2 = nI es := by rw [← hWx, rz_uI_n (by omega), rz_uI_n (by omega), rz_uI_n (by omega), rz_uI_s]
    have w4 : Wx.2 46 4 = nI e := by rw [← hWx, rz_uI_n (by omega), rz_uI_s]
    have wn : ∀ u z, u ≠ 46 → Wx.2 u z = Vx.2 u z := fun u z hu => by rw [← hWx, rz_uI_n (by omega), rz_uI_n (by omega), rz_uI_n (by omega), rz_uI_n (by omega), rz_uI_n (by omega)]
    have wr : Wx.1 = Vx.1 := by rw [← hWx]; rfl
    have DW : Dk B2 pr id2 Wx Vm := Dk_x D2 (fun q _ _ => by rw [wr]) (fun u z hu => wn u z (by omega))
    have bW : bgX Vx Wx := ⟨fun q _ _ _ _ => by rw [wr], fun u z _ _ _ _ h => wn u z h⟩
    rw [wn (48 + 4 * c) 9 (by omega), vch 9, x9]
    obtain ⟨x', Ux, y', Um, g1, g2, rfl, xd, id3, ed, d100, D3, k1, k2, oo, nn⟩ := PR_read (s := es) (a := 47) (a' := 125) (at0 := 0) (na := 64) DW u1 u2 (by omega) rfl (by omega) rfl (by omega) (by omega) (by omega)
    have f46 : ∀ z, Ux.2 46 z = Wx.2 46 z := fun z => k1.2 46 z (by omega) (by omega) (by omega)
    have gxU : clX c Sx Ux := clX_t gx (clX_b (bgX_t bW (bgX_rF (by omega) k1)))
    have gmU : clM c Sm Um := clM_t gm (clM_b (bgM_kFa (by omega) k2))
    have um : ∀ q, ¬ (117 ≤ q ∧ q ≤ 121) → ¬ (123 ≤ q ∧ q ≤ 127) → Um.1 q = Sm.1 q := gmU.1
    have u126 : Um.1 126 c = 0 := by rw [k2.1 126 (by omega) (by omega)]; exact v126
    have ust : ∀ z, Wx.2 3 z = Sx.2 3 z := fun z => (wn 3 z (by omega)).trans (hst z)
    show rz_ev mDirectory_changeToClosed [.ref 46, .int (nI cn)] Wx _
    show rz _ 0 [(0, .ref 46), (1, .int (nI cn))] [] _ _
    refine p_Directory_changeToClosed_0 ?_
    rw [w1, w2]
    refine rzx_I g1 ⟨fun z0 => ?_, fun z0 => hK2 x' _ ⟨fun _ => rzx_I g2 ⟨fun z => absurd z z0, fun _ => ?_⟩, fun z => absurd x0 z⟩⟩
    · have xd0 : xd = 0 := by
        by_cases z : xd = 0
        · exact z
        · exact absurd (ed ▸ z0) (nI_ne0 (by omega) (by omega))
      obtain ⟨⟨dd, hd⟩, hst2⟩ := oo xd0
      have b2 : (nI (16 * e) + 2 : Int32) = nI (16 * e + 2) := nI_add _ 2
      have b15 : (nI (16 * e) + 15 : Int32) = nI (16 * e + 15) := nI_add _ 15
      have ecn : nI cn &&& 255 = nI cn := by rw [pk_andN (by omega) 8 (by decide), Nat.mod_eq_of_lt (by omega)]
      refine rz_toI (c_Directory_base he ((f46 4).trans w4)) ?_
      rw [b2, nI_clamp (by omega)]
      refine ⟨rin (by omega) (by omega), rz_toI (c_Directory_base he ((f46 4).trans w4)) ?_⟩
      rw [b15, nI_clamp (by omega), rz_fA_s, rz_fAA, ecn]
      refine ⟨rin (by omega) (by omega), ?_⟩
      show rz_ev mDisk_writeBlock [.ref 6, .int (Ux.2 46 1), .int (Ux.2 46 2), .ref 47] (rz_fA Ux 47 (upd (upd (Ux.1 47) (16 * e + 2) (Ux.1 47 (16 * e + 2) ||| 128)) (16 * e + 15) (nI cn))) _
      rw [f46 1, f46 2, w1, w2]
      have h0 : ∀ j, j < 64 → Ux.1 47 j = Um.1 125 j ∧ byt (Ux.1 47 j) := fun j hj => ⟨by
        have := hd j hj
        rw [Nat.zero_add] at this
        exact this.1.trans this.2.1.symm, ⟨dd j, (hd j hj).2.2, (hd j hj).1⟩⟩
      have hrow2 : ∀ k, k < 64 → (rz_fA Ux 47 (upd (upd (Ux.1 47) (16 * e + 2) (Ux.1 47 (16 * e + 2) ||| 128)) (16 * e + 15) (nI cn))).1 47 k = (rz_fA Um 125 (upd (upd (Um.1 125) (16 * e + 2) (Um.1 125 (16 * e + 2) ||| 128)) (16 * e + 15) (nI cn))).1 125 k ∧ byt ((rz_fA Ux 47 (upd (upd (Ux.1 47) (16 * e + 2) (Ux.1 47 (16 * e + 2) ||| 128)) (16 * e + 15) (nI cn))).1 47 k) := fun k hk => by
        rw [rz_fA_s, rz_fA_s]
        exact eqb_upd (eqb_upd h0 (show (Ux.1 47 (16 * e + 2) ||| 128 : Int32) = Um.1 125 (16 * e + 2) ||| 128 by rw [(h0 (16 * e + 2) (by omega)).1]) (byt_or (h0 _ (by omega)).2 (show byt (128 : Int32) from ⟨128, by omega, rfl⟩))) rfl ⟨cn, hcn, rfl⟩ k hk
      obtain ⟨r2, hr2⟩ := row_nat hrow2
      obtain ⟨w, Zx, w', Zm, j1, j2, rfl, xf, id4, B4, ef, f100, D4, l1, l2, o3, n3⟩ := PR_write (s := es) (a := 47) (a' := 125) (at0 := 0) (na := 64) (Dk_mf (Dk_xf D3 (by omega)) (by omega)) u1 u2 (by omega) rfl (by omega) rfl (by omega) (by omega) (by omega) hr2
      have za : ans Sx w Zx Zm := by
        refine ans_t (Tx := Ux) (fun z => (hst2 z).trans (ust z)) ?_
        by_cases z : xf = 0
        · exact Or.inl ⟨by rw [ef, z]; rfl, o3 z⟩
        · obtain ⟨hfl, h33⟩ := n3 z
          exact Or.inr ⟨xf, z, f100, ef, hfl, h33⟩
      refine rzx_I j1 (hK2 w _ ⟨fun _ => rzx_I g2 ⟨fun _ => ⟨?_, ?_, ?_, ?_, rzx_I j2 ⟨rfl, clX_t gxU (clX_t (clX_b (bgX_t (bgX_f (by omega)) (bgX_rF (by omega) l1))) clX_u), clM_t gmU (clM_b (bgM_t (bgM_f (by omega)) (bgM_wM l2))), ⟨B4, id4, Dk_xu D4 (by omega)⟩, ans_u (by omega) za, rz_uI_s, ?_⟩⟩, fun z => absurd z0 z⟩, fun z => absurd x0 z⟩)
      · rw [um 138 (by omega) (by omega)]; exact y8
      · rw [um 136 (by omega) (by omega)]; exact y6
      · rw [um 137 (by omega) (by omega)]; exact y7
      · rw [um 135 (by omega) (by omega)]; exact y5
      · rw [l2.1 126 (by omega) (by omega), rz_fA_n (by omega)]; exact u126
    · have xd0 : xd ≠ 0 := fun z => z0 (by rw [ed, z]; rfl)
      obtain ⟨_, _, hfl, h33⟩ := nn xd0
      exact ⟨rfl, clX_t gxU clX_u, gmU, ⟨B2, id3, Dk_xu D3 (by omega)⟩, ans_u (by omega) (Or.inr ⟨xd, xd0, d100, ed, hfl, h33.trans (ust 3)⟩), rz_uI_s, u126⟩
  · refine ⟨fun z => absurd z m2, fun _ => hK 0 _ ?_⟩
    show rz _ 0 [(0, .ref 116), (1, .int (nI c))] [] _ _
    refine p_M_shuts_0 ⟨rin hc (by omega), ?_⟩
    rw [ecl]
    refine ⟨fun z => absurd z m2, fun _ => ⟨rfl, clX_u, ?_, ⟨B, id, Dk_mf (Dk_xu hD (by omega)) (by omega)⟩, Or.inl ⟨rfl, fun z => rz_uI_n (by omega)⟩, rz_uI_s, by rw [rz_fA_s, pk_us]⟩⟩
    exact ⟨fun q a b => by rw [rz_fA_n (by omega)], fun i h => by rw [rz_fA_s, pk_un h], fun i h => by rw [rz_fA_n (by omega)], fun _ _ _ => rfl⟩
