/-! the MAP read and written; an ENTRY's TYPE changed; a FILE scratched: pairs -/
/-- all that a job above the disk's may change, but channels, tape, out, memory -/
def bgX (S S1 : rz_S) : Prop := (∀ q, ¬ (8 ≤ q ∧ q ≤ 36) → q ≠ 40 → q ≠ 45 → q ≠ 47 → S1.1 q = S.1 q) ∧ ∀ u z, ¬ (13 ≤ u ∧ u ≤ 35 ∧ 3 ≤ z ∧ z ≤ 7) → ¬ (u = 6 ∧ (z = 1 ∨ z = 2)) → ¬ (u = 3 ∧ z ≤ 6) → ¬ (u = 44 ∧ (z = 1 ∨ z = 2)) → u ≠ 46 → S1.2 u z = S.2 u z
def bgM (S S1 : rz_S) : Prop := (∀ q, ¬ (117 ≤ q ∧ q ≤ 121) → ¬ (123 ≤ q ∧ q ≤ 125) → S1.1 q = S.1 q) ∧ ∀ u z, ¬ (u = 116 ∧ (2 ≤ z ∧ z ≤ 15 ∨ z = 20 ∨ 25 ≤ z ∧ z ≤ 32)) → S1.2 u z = S.2 u z
theorem bgX_t {S S1 S2 : rz_S} (h1 : bgX S S1) (h2 : bgX S1 S2) : bgX S S2 := ⟨fun q a b c d => (h2.1 q a b c d).trans (h1.1 q a b c d), fun u z a b c d e => (h2.2 u z a b c d e).trans (h1.2 u z a b c d e)⟩
theorem bgM_t {S S1 S2 : rz_S} (h1 : bgM S S1) (h2 : bgM S1 S2) : bgM S S2 := ⟨fun q a b => (h2.1 q a b).trans (h1.1 q a b), fun u z a => (h2.2 u z a).trans (h1.2 u z a)⟩
theorem bgX_r (S : rz_S) : bgX S S := ⟨fun _ _ _ _ _ => rfl, fun _ _ _ _ _ _ _ => rfl⟩
theorem bgM_r (S : rz_S) : bgM S S := ⟨fun _ _ _ => rfl, fun _ _ _ => rfl⟩
theorem bgX_fd {S S1 : rz_S} (h : fdX S S1) : bgX S S1 := ⟨fun q a b c d => h.1 q (by omega) d, fun u z a b c _ e => h.2 u z a b c e⟩
theorem bgM_fd {S S1 : rz_S} (h : fdM S S1) : bgM S S1 := ⟨fun q a b => h.1 q (by omega) (by omega), fun u z a => h.2 u z fun e => a ⟨e.1, by omega⟩⟩
theorem bgX_ch {S S1 : rz_S} (h : chX S S1) : bgX S S1 := ⟨fun q a b c d => h.1 q (by omega) b c, fun u z a b c _ _ => h.2 u z a b c⟩
theorem bgM_ch {S S1 : rz_S} (h : chM S S1) : bgM S S1 := ⟨fun q a b => h.1 q (by omega) (by omega) (by omega), fun u z a => h.2 u z fun e => a ⟨e.1, by omega⟩⟩
theorem bgX_rF {S S1 : rz_S} {a : Nat} (ha : 8 ≤ a ∧ a ≤ 36 ∨ a = 40 ∨ a = 45 ∨ a = 47) (h : rF a S S1) : bgX S S1 := ⟨fun q a1 b c d => h.1 q (by omega) (by omega), fun u z a b c _ _ => h.2 u z a b c⟩
theorem bgM_kFa {S S1 : rz_S} {a at0 : Nat} (ha : 123 ≤ a ∧ a ≤ 125) (h : kFa a at0 S S1) : bgM S S1 := ⟨fun q a1 b => h.1 q (by omega) (by omega), fun u z a => h.2.2 u z fun e => a ⟨e.1, by omega⟩⟩
theorem bgM_wM {S S1 : rz_S} {t : Nat} (h : wM t S S1) : bgM S S1 := ⟨fun q a1 b => h.1 q (by omega) (by omega), fun u z a => h.2.2 u z fun e => a ⟨e.1, by omega⟩⟩
theorem bgX_f {S : rz_S} {a : Nat} {f : Nat → Int32} (ha : a = 40 ∨ a = 45 ∨ a = 47) : bgX S (rz_fA S a f) := ⟨fun q _ b c d => rz_fA_n (by omega), fun _ _ _ _ _ _ _ => rfl⟩
theorem bgM_f {S : rz_S} {a : Nat} {f : Nat → Int32} (ha : 123 ≤ a ∧ a ≤ 125) : bgM S (rz_fA S a f) := ⟨fun q _ b => rz_fA_n (by omega), fun _ _ _ => rfl⟩
theorem bgM_u {S : rz_S} {j : Nat} {x : Int32} (hj : j = 4 ∨ j = 5 ∨ 25 ≤ j ∧ j ≤ 32) : bgM S (rz_uI S 116 j x) := ⟨fun _ _ _ => rfl, fun u z h => rz_uI_n fun e => h ⟨e.1, by omega⟩⟩
theorem Dk_xf {B : Nat → Nat → Bool} {pr : Bool} {id : Option (Nat × Nat)} {Sx Sm : rz_S} {a : Nat} {f : Nat → Int32} (hD : Dk B pr id Sx Sm) (ha : ¬ (13 ≤ a ∧ a ≤ 36)) : Dk B pr id (rz_fA Sx a f) Sm := Dk_x hD (fun q h1 h2 => rz_fA_n (by omega)) (fun _ _ _ => rfl)
theorem Dk_mf {B : Nat → Nat → Bool} {pr : Bool} {id : Option (Nat × Nat)} {Sx Sm : rz_S} {a : Nat} {f : Nat → Int32} (hD : Dk B pr id Sx Sm) (ha : ¬ (117 ≤ a ∧ a ≤ 122)) : Dk B pr id Sx (rz_fA Sm a f) := Dk_m hD (fun q h1 h2 => rz_fA_n (by omega)) (fun _ _ => rfl)
theorem ans_t {Sx Tx Sx1 Sm1 : rz_S} {x : Int32} (h : ∀ z, Tx.2 3 z = Sx.2 3 z) (a : ans Tx x Sx1 Sm1) : ans Sx x Sx1 Sm1 := by
  rcases a with ⟨a, b⟩ | ⟨xc, a, b, c, d, e⟩
  · exact Or.inl ⟨a, fun z => (b z).trans (h z)⟩
  · exact Or.inr ⟨xc, a, b, c, d, e.trans (h 3)⟩
theorem PR_load {B : Nat → Nat → Bool} {pr : Bool} {id : Option (Nat × Nat)} {Sx Sm : rz_S} (hD : Dk B pr id Sx Sm) : PCi mBlockMap_load mM_loads [.ref 44] [.ref 116] Sx Sm (fun x Sx1 y Sm1 => x = y ∧ chX Sx Sx1 ∧ chM Sm Sm1 ∧ (∃ id', Dk B pr id' Sx1 Sm1) ∧ ans Sx x Sx1 Sm1 ∧ (x = 0 → Mp Sx1 Sm1)) := by
  obtain ⟨x, Vx, y, Vm, e1, e2, rfl, xc, id2, ex, x100, D2, f1, f2, o1, n1⟩ := PR_read (t := 7) (s := 0) (a := 45) (a' := 123) (at0 := 0) (na := 64) hD (by omega) (by omega) (by omega) rfl (by omega) rfl (by omega) (by omega) (by omega)
  refine PCi_of (fun K hK => ?_)
  show rz _ 0 [(0, .ref 44)] [] _ _
  refine p_BlockMap_load_0 (rzx_I e1 (hK x Vx ?_))
  show rz _ 0 [(0, .ref 116)] [] _ _
  refine p_M_loads_0 (rzx_I e2 ⟨rfl, chX_rF (Or.inr rfl) f1, chM_kFa (Or.inr rfl) f2, ⟨id2, D2⟩, ?_, fun x0 => ?_⟩)
  · by_cases z : xc = 0
    · exact Or.inl ⟨by rw [ex, z]; rfl, (o1 z).2⟩
    · obtain ⟨_, _, hfl, h33⟩ := n1 z
      exact Or.inr ⟨xc, z, x100, ex, hfl, h33⟩
  · have z : xc = 0 := by
      by_cases z : xc = 0
      · exact z
      · exact absurd (ex ▸ x0) (nI_ne0 (by omega) (by omega))
    obtain ⟨⟨dd, hd⟩, _⟩ := o1 z
    exact fun k hk => ⟨by
      have := hd k hk
      rw [Nat.zero_add] at this
      exact this.1.trans this.2.1.symm, ⟨dd k, (hd k hk).2.2, (hd k hk).1⟩⟩
/-- a row of both sides as numbers -/
theorem row_nat {F G : Nat → Int32} (h : ∀ k, k < 64 → F k = G k ∧ byt (F k)) : ∃ rr : Nat → Nat, ∀ k, k < 64 → F k = nI (rr k) ∧ G (0 + k) = nI (rr k) ∧ rr k < 256 := by
  refine ⟨fun k => (F k).toNatClampNeg, fun k hk => ?_⟩
  obtain ⟨e, n, hn, en⟩ := h k hk
  have : (F k).toNatClampNeg = n := by rw [en, nI_clamp (by omega)]
  rw [Nat.zero_add, ← e]
  simp only [this]
  exact ⟨en, en, hn⟩
theorem PR_store {B : Nat → Nat → Bool} {pr : Bool} {id : Option (Nat × Nat)} {Sx Sm : rz_S} (hD : Dk B pr id Sx Sm) (hM : Mp Sx Sm) : PCi mBlockMap_store mM_stores [.ref 44] [.ref 116] Sx Sm (fun x Sx1 y Sm1 => x = y ∧ rF 26 Sx Sx1 ∧ wM 7 Sm Sm1 ∧ (∃ B' id', Dk B' pr id' Sx1 Sm1) ∧ ans Sx x Sx1 Sm1) := by
  obtain ⟨rr, hr⟩ := row_nat hM
  obtain ⟨x, Vx, y, Vm, e1, e2, rfl, xc, id2, B2, ex, x100, D2, f1, f2, o1, n1⟩ := PR_write (t := 7) (s := 0) (a := 45) (a' := 123) (at0 := 0) (na := 64) hD (by omega) (by omega) (by omega) rfl (by omega) rfl (by omega) (by omega) (by omega) hr
  refine PCi_of (fun K hK => ?_)
  show rz _ 0 [(0, .ref 44)] [] _ _
  refine p_BlockMap_store_0 (rzx_I e1 (hK x Vx ?_))
  show rz _ 0 [(0, .ref 116)] [] _ _
  refine p_M_stores_0 (rzx_I e2 ⟨rfl, f1, f2, ⟨B2, id2, D2⟩, ?_⟩)
  by_cases z : xc = 0
  · exact Or.inl ⟨by rw [ex, z]; rfl, o1 z⟩
  · obtain ⟨hfl, h33⟩ := n1 z
    exact Or.inr ⟨xc, z, x100, ex, hfl, h33⟩
/-- the TYPE of an ENTRY, both sides -/
theorem PR_changeType {B : Nat → Nat → Bool} {pr : Bool} {id : Option (Nat × Nat)} {Sx Sm : rz_S} {t s e : Nat} {ty : Int32} (hD : Dk B pr id Sx Sm) (t1 : 1 ≤ t) (t2 : t ≤ 12) (s1 : s < sct t) (he : e < 4) (hty : byt ty) (x1 : Sx.2 46 1 = nI t) (x2 : Sx.2 46 2 = nI s) (x4 : Sx.2 46 4 = nI e) : PCi mDirectory_changeType mM_changesType [.ref 46, .int ty] [.ref 116, .int (nI t), .int (nI s), .int (nI e), .int ty] Sx Sm (fun x Sx1 y Sm1 => x = y ∧ bgX Sx Sx1 ∧ bgM Sm Sm1 ∧ (∃ B' id', Dk B' pr id' Sx1 Sm1) ∧ ans Sx x Sx1 Sm1 ∧ Sx1.1 45 = Sx.1 45 ∧ Sm1.1 123 = Sm.1 123 ∧ (∀ z, Sx1.2 46 z = Sx.2 46 z) ∧ (∀ z, 25 ≤ z → Sm1.2 116 z = Sm.2 116 z)) := by
  have hsb := sct_b t1 t2
  obtain ⟨x, Vx, y, Vm, e1, e2, rfl, xc, id2, ex, x100, D2, f1, f2, o1, n1⟩ := PR_read (s := s) (a := 47) (a' := 125) (at0 := 0) (na := 64) hD t1 t2 (by omega) rfl (by omega) rfl (by omega) (by omega) (by omega)
  have f46 : ∀ z, Vx.2 46 z = Sx.2 46 z := fun z => f1.2 46 z (by omega) (by omega) (by omega)
  refine PCi_of (fun K hK => ?_)
  show rz _ 0 [(0, .ref 46), (1, .int ty)] [] _ _
  refine p_Directory_changeType_0 ?_
  rw [x1, x2]
  refine rzx_I e1 ⟨fun x0 => ?_, fun x0 => hK x Vx ?_⟩
  · have z : xc = 0 := by
      by_cases z : xc = 0
      · exact z
      · exact absurd (ex ▸ x0) (nI_ne0 (by omega) (by omega))
    obtain ⟨⟨dd, hd⟩, hst⟩ := o1 z
    refine rz_toI (c_Directory_base he ((f46 4).trans x4)) ?_
    rw [show (nI (16 * e) + 2 : Int32) = nI (16 * e + 2) from nI_add _ 2, nI_clamp (by omega), f46 1, f46 2, x1, x2]
    have hrow : ∀ k, k < 64 → (rz_fA Vx 47 (upd (Vx.1 47) (16 * e + 2) ty)).1 47 k = (rz_fA Vm 125 (upd (Vm.1 125) (16 * e + 2) ty)).1 125 k ∧ byt ((rz_fA Vx 47 (upd (Vx.1 47) (16 * e + 2) ty)).1 47 k) := fun k hk => by
      rw [rz_fA_s, rz_fA_s]
      exact eqb_upd (fun j hj => ⟨by
        have := hd j hj
        rw [Nat.zero_add] at this
        exact this.1.trans this.2.1.symm, ⟨dd j, (hd j hj).2.2, (hd j hj).1⟩⟩) rfl hty k hk
    obtain ⟨rr, hr⟩ := row_nat hrow
    obtain ⟨x', Wx, y', Wm, g1, g2, rfl, xc', id3, B3, ex', x100', D3, h1, h2, o2, n2⟩ := PR_write (s := s) (a := 47) (a' := 125) (at0 := 0) (na := 64) (Dk_mf (Dk_xf D2 (by omega)) (by omega)) t1 t2 (by omega) rfl (by omega) rfl (by omega) (by omega) (by omega) hr
    refine ⟨rin (by omega) (by omega), rzx_I g1 (hK x' Wx ?_)⟩
    show rz _ 0 [(0, .ref 116), (1, .int (nI t)), (2, .int (nI s)), (3, .int (nI e)), (4, .int ty)] [] _ _
    refine p_M_changesType_0 (rzx_I e2 ⟨fun _ => ?_, fun z => absurd x0 z⟩)
    rw [show (16 * nI e : Int32) = nI (16 * e) from pk_mul 16 e, show (nI (16 * e) + 2 : Int32) = nI (16 * e + 2) from nI_add _ 2, nI_clamp (by omega)]
    refine ⟨rin (by omega) (by omega), rzx_I g2 ⟨rfl, bgX_t (bgX_rF (by omega) f1) (bgX_t (bgX_f (by omega)) (bgX_rF (by omega) h1)), bgM_t (bgM_kFa (by omega) f2) (bgM_t (bgM_f (by omega)) (bgM_wM h2)), ⟨B3, id3, D3⟩, ans_t hst ?_, ?_, ?_, fun z => ?_, fun z hz => ?_⟩⟩
    · by_cases z : xc' = 0
      · exact Or.inl ⟨by rw [ex', z]; rfl, o2 z⟩
      · obtain ⟨hfl, h33⟩ := n2 z
        exact Or.inr ⟨xc', z, x100', ex', hfl, h33⟩
    · rw [h1.1 45 (by omega) (by omega), rz_fA_n (by omega), f1.1 45 (by omega) (by omega)]
    · rw [h2.1 123 (by omega) (by omega), rz_fA_n (by omega), f2.1 123 (by omega) (by omega)]
    · exact (h1.2 46 z (by omega) (by omega) (by omega)).trans (f46 z)
    · exact (h2.2.2 116 z (by omega)).trans (f2.2.2 116 z (by omega))
  · have z : xc ≠ 0 := fun z => x0 (by rw [ex, z]; rfl)
    obtain ⟨_, _, hfl, h33⟩ := n1 z
    show rz _ 0 [(0, .ref 116), (1, .int (nI t)), (2, .int (nI s)), (3, .int (nI e)), (4, .int ty)] [] _ _
    refine p_M_changesType_0 (rzx_I e2 ⟨fun z => absurd z x0, fun _ => ?_⟩)
    exact ⟨rfl, bgX_rF (by omega) f1, bgM_kFa (by omega) f2, ⟨B, id2, D2⟩, Or.inr ⟨xc, z, x100, ex, hfl, h33⟩, f1.1 45 (by omega) (by omega), f2.1 123 (by omega) (by omega), f46, fun z hz => f2.2.2 116 z (by omega)⟩
theorem ans_33 {Sx Sx1 Sm1 : rz_S} {x : Int32} (a : ans Sx x Sx1 Sm1) : Sx1.2 3 3 = Sx.2 3 3 := by
  rcases a with ⟨_, b⟩ | ⟨_, _, _, _, _, e⟩
  · exact b 3
  · exact e
theorem c_firstTrack {S : rz_S} {e : Nat} (he : e < 4) (h : S.2 46 4 = nI e) : rz_ev mDirectory_firstTrack [.ref 46] S (rz_i (fun x S1 => x = S.1 47 (16 * e + 3) ∧ S1 = S)) := by
  show rz _ 0 [(0, .ref 46)] [] _ _
  refine p_Directory_firstTrack_0 (rz_toI (c_Directory_base he h) ?_)
  rw [show (nI (16 * e) + 3 : Int32) = nI (16 * e + 3) from nI_add _ 3, nI_clamp (by omega)]
  exact ⟨rin (by omega) (by omega), rfl, rfl⟩
theorem c_firstSector {S : rz_S} {e : Nat} (he : e < 4) (h : S.2 46 4 = nI e) : rz_ev mDirectory_firstSector [.ref 46] S (rz_i (fun x S1 => x = S.1 47 (16 * e + 4) ∧ S1 = S)) := by
  show rz _ 0 [(0, .ref 46)] [] _ _
  refine p_Directory_firstSector_0 (rz_toI (c_Directory_base he h) ?_)
  rw [show (nI (16 * e) + 3 : Int32) = nI (16 * e + 3) from nI_add _ 3, nI_1, nI_clamp (by omega)]
  exact ⟨rin (by omega) (by omega), rfl, rfl⟩
def scE (pr : Bool) (Sx Sm : rz_S) (x : Int32) (Sx1 : rz_S) (y : Int32) (Sm1 : rz_S) : Prop := x = y ∧ bgX Sx Sx1 ∧ bgM Sm Sm1 ∧ (∃ B' id', Dk B' pr id' Sx1 Sm1) ∧ ans Sx x Sx1 Sm1
theorem PR_scratchFound {B : Nat → Nat → Bool} {pr : Bool} {id : Option (Nat × Nat)} {Sx Sm : rz_S} {t s e : Nat} (hD : Dk B pr id Sx Sm) (hR : Dr Sx Sm) (t1 : 1 ≤ t) (t2 : t ≤ 12) (s1 : s < sct t) (he : e < 4) (x1 : Sx.2 46 1 = nI t) (x2 : Sx.2 46 2 = nI s) (x4 : Sx.2 46 4 = nI e) (m1 : Sm.2 116 27 = nI t) (m2 : Sm.2 116 28 = nI s) (m4 : Sm.2 116 29 = nI e) : PCi mDos_scratchFound mM_scratches [.ref 39] [.ref 116] Sx Sm (scE pr Sx Sm) := by
  obtain ⟨x, Vx, y, Vm, a1, a2, rfl, lx, lm, ⟨id2, D2⟩, la, lM⟩ := PR_load hD
  have i3 : ((16 * nI e) + 3 : Int32) = nI (16 * e + 3) := by rw [show (16 * nI e : Int32) = nI (16 * e) from pk_mul 16 e]; exact nI_add _ 3
  have i4 : ((16 * nI e) + 4 : Int32) = nI (16 * e + 4) := by rw [show (16 * nI e : Int32) = nI (16 * e) from pk_mul 16 e]; exact nI_add _ 4
  have r3 := hR (16 * e + 3) (by omega)
  have r4 := hR (16 * e + 4) (by omega)
  refine PCi_of (fun K hK => ?_)
  show rz _ 0 [(0, .ref 39)] [] _ _
  have hK2 : ∀ z Sx1, rz_ev mM_freesChain [.ref 116, .int (Sx.1 47 (16 * e + 3)), .int (Sx.1 47 (16 * e + 4))] Sm (rz_i (fun xq1 Sq1 => ((xq1 = 0 → rz_ev mM_changesType [.ref 116, .int (nI t), .int (nI s), .int (nI e), .int 0] Sq1 (rz_i (scE pr Sx Sm z Sx1))) ∧ (¬ xq1 = 0 → scE pr Sx Sm z Sx1 xq1 Sq1)))) → K z Sx1 := fun z Sx1 h => hK z Sx1 (by
    show rz _ 0 [(0, .ref 116)] [] _ _
    refine p_M_scratches_0 ?_
    rw [m4, i3, i4, nI_clamp (by omega), nI_clamp (by omega), m1, m2, ← r3.1, ← r4.1]
    exact ⟨rin (by omega) (by omega), rin (by omega) (by omega), h⟩)
  refine p_Dos_scratchFound_0 (rzx_I a1 ⟨fun x0 => ?_, fun x0 => hK2 x Vx ?_⟩)
  · have v46 : ∀ z, Vx.2 46 z = Sx.2 46 z := fun z => lx.2 46 z (by omega) (by omega) (by omega)
    have v47 : Vx.1 47 = Sx.1 47 := lx.1 47 (by omega) (by omega) (by omega)
    refine rz_toI (c_firstTrack he ((v46 4).trans x4)) (rz_toI (c_firstSector he ((v46 4).trans x4)) ?_)
    rw [v47]
    have hst : ∀ z, Vx.2 3 z = Sx.2 3 z := by
      rcases la with ⟨_, b⟩ | ⟨xc, c1, c2, c3, _⟩
      · exact b
      · exact absurd (c3 ▸ x0) (nI_ne0 (by omega) (by omega))
    show rz_ev mDos_giveBackChain [.ref 39, .int (Sx.1 47 (16 * e + 3)), .int (Sx.1 47 (16 * e + 4))] Vx _
    show rz _ 0 [(0, .ref 39), (1, .int (Sx.1 47 (16 * e + 3))), (2, .int (Sx.1 47 (16 * e + 4)))] [] _ _
    refine p_Dos_giveBackChain_0 (ch_loop (B := B) (pr := pr) (Sx := Vx) (Sm := Vm) 72 0 _ _ Vx Vm rfl r3.2 r4.2 (chX_r _) (chM_r _) ⟨id2, D2⟩ (lM x0) (fun _ => rfl) _ (fun y Ux Um c4 c5 c6 hE hRun => ?_))
    obtain ⟨ex, em, ⟨id3, D3⟩, eM, ea⟩ := hE
    obtain ⟨z, Wx, z', Wm, b1, b2, rfl, wx, wm, ⟨B4, id4, D4⟩, wa⟩ := PR_store D3 eM
    have gx : bgX Sx Wx := bgX_t (bgX_ch lx) (bgX_t (bgX_ch ex) (bgX_rF (by omega) wx))
    have gm : bgM Sm Wm := bgM_t (bgM_ch lm) (bgM_t (bgM_ch em) (bgM_wM wm))
    have hK3 : ∀ v Sx1, (((y = 0 → ((z = 0 → rz_ev mM_changesType [.ref 116, .int (nI t), .int (nI s), .int (nI e), .int 0] Wm (rz_i (scE pr Sx Sm v Sx1))) ∧ (¬ z = 0 → scE pr Sx Sm v Sx1 z Wm)))) ∧ (¬ y = 0 → scE pr Sx Sm v Sx1 y (rz_uI (rz_uI Wm 116 4 (Um.2 116 4)) 116 5 (Um.2 116 5)))) → K v Sx1 := fun v Sx1 h => hK2 v Sx1 (by
      show rz _ 0 [(0, .ref 116), (1, .int (Sx.1 47 (16 * e + 3))), (2, .int (Sx.1 47 (16 * e + 4)))] [] _ _
      refine p_M_freesChain_0 (rzx_I a2 ⟨fun _ => ?_, fun q => absurd x0 q⟩)
      rw [x0]
      refine hRun _ (p_M_freesChain_23 ⟨fun _ => rzx_I b2 ⟨fun y0 => h.1 y0, fun y0 => rz_toI (c_M_fault _ _ _) ⟨fun q => absurd q y0, fun _ => h.2 y0⟩⟩, fun q => absurd rfl q⟩))
    have ust : y = 0 → ∀ q, Ux.2 3 q = Sx.2 3 q := fun y0 => by
      rcases ea with ⟨_, b⟩ | ⟨xc, c1, c2, c3, _⟩
      · exact fun q => (b q).trans (hst q)
      · exact absurd (c3 ▸ y0) (nI_ne0 (by omega) (by omega))
    refine rzx_I b1 ⟨fun y0 => ⟨fun z0 => ?_, fun z0 => hK3 z Wx ⟨fun _ => ⟨fun q => absurd q z0, fun _ => ?_⟩, fun q => absurd y0 q⟩⟩, fun y0 => ?_⟩
    · have w46 : ∀ q, Wx.2 46 q = Sx.2 46 q := fun q => (wx.2 46 q (by omega) (by omega) (by omega)).trans ((ex.2 46 q (by omega) (by omega) (by omega)).trans (v46 q))
      obtain ⟨v, Zx, v', Zm, g1, g2, rfl, zx, zm, ⟨B5, id5, D5⟩, za, _⟩ := PR_changeType (ty := 0) D4 t1 t2 s1 he ⟨0, by omega, rfl⟩ ((w46 1).trans x1) ((w46 2).trans x2) ((w46 4).trans x4)
      have wst : ∀ q, Wx.2 3 q = Sx.2 3 q := by
        rcases wa with ⟨_, b⟩ | ⟨xc, c1, c2, c3, _⟩
        · exact fun q => (b q).trans (ust y0 q)
        · exact absurd (c3 ▸ z0) (nI_ne0 (by omega) (by omega))
      exact rzx_I g1 (hK3 v Zx ⟨fun _ => ⟨fun _ => rzx_I g2 ⟨rfl, bgX_t gx zx, bgM_t gm zm, ⟨B5, id5, D5⟩, ans_t wst za⟩, fun q => absurd z0 q⟩, fun q => absurd y0 q⟩)
    · exact ⟨rfl, gx, gm, ⟨B4, id4, D4⟩, ans_t (ust y0) wa⟩
    · rcases ea with ⟨c, _⟩ | ⟨xc, c1, c2, c3, ⟨ft, fs, ⟨p0, p1, p2, p3, p4⟩, q1, q2⟩, c5⟩
      · exact absurd c y0
      · refine rz_toI (c_Status_set _ _ _) (hK3 _ _ ⟨fun q => absurd q y0, fun _ => ⟨rfl, bgX_t gx (bgX_rF (a := 40) (by omega) rF_s), bgM_t gm (bgM_t (bgM_u (by omega)) (bgM_u (by omega))), ⟨B4, id4, Dk_mu (Dk_mu (st_set_dk D4) (by omega)) (by omega)⟩, Or.inr ⟨xc, c1, c2, c3, ⟨ft, fs, ?_, ?_, ?_⟩, ?_⟩⟩⟩)
        · rw [p1, p2, c3]
          exact st_set_is
        · rw [rz_uI_n (by omega), rz_uI_s]
          exact q1
        · rw [rz_uI_s]
          exact q2
        · exact (ans_33 wa).trans (c5.trans (hst 3))
  · show rz _ 0 [(0, .ref 116), (1, .int (Sx.1 47 (16 * e + 3))), (2, .int (Sx.1 47 (16 * e + 4)))] [] _ _
    exact p_M_freesChain_0 (rzx_I a2 ⟨fun q => absurd q x0, fun _ => ⟨fun q => absurd q x0, fun _ => ⟨rfl, bgX_ch lx, bgM_ch lm, ⟨B, id2, D2⟩, la⟩⟩⟩)
