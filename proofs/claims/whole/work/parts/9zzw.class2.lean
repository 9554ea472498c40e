/-! SCRATCH ends (9): the MAP that is given back, the ENTRY that is scratched, the class alone -/
def pcI (x : Int32) : Nat := pc x.toNatClampNeg
/-- how giving back changes the MAP -/
def MR (F G : Nat → Int32) : Prop := (∀ k, k < 64 → byt (F k)) → (∀ k, k < 64 → byt (G k)) ∧ (∀ k, (k < 4 ∨ 28 ≤ k) → G k = F k) ∧ pcI (F 19) ≤ pcI (G 19) ∧ (¬ G 18 = F 18 → pcI (F 19) < pcI (G 19))
theorem MR_r (F : Nat → Int32) : MR F F := fun h => ⟨h, fun _ _ => rfl, Nat.le_refl _, fun z => absurd rfl z⟩
theorem MR_t {F G E : Nat → Int32} (h1 : MR F G) (h2 : MR G E) : MR F E := fun h => by
  obtain ⟨a1, a2, a3, a4⟩ := h1 h
  obtain ⟨c1, c2, c3, c4⟩ := h2 a1
  refine ⟨c1, fun k hk => (c2 k hk).trans (a2 k hk), by omega, fun z => ?_⟩
  by_cases q : G 18 = F 18
  · have := c4 (fun y => z (y.trans q)); omega
  · have := a4 q; omega
theorem gb_or : ∀ n, n < 256 → ∀ v, v < 8 → bt (nI n) v = false → (nI n ||| (1 <<< (nI v &&& 31)) : Int32).toNatClampNeg < 256 ∧ nI (nI n ||| (1 <<< (nI v &&& 31)) : Int32).toNatClampNeg = (nI n ||| (1 <<< (nI v &&& 31)) : Int32) ∧ pcI (nI n) < pcI (nI n ||| (1 <<< (nI v &&& 31)) : Int32) := by decide +kernel
theorem gb_in : ∀ n, n < 256 → ((nI n + 1) &&& 255 : Int32).toNatClampNeg < 256 ∧ nI ((nI n + 1) &&& 255 : Int32).toNatClampNeg = ((nI n + 1) &&& 255 : Int32) := by decide +kernel
theorem MR_g {F : Nat → Int32} {u v : Nat} (u1 : 1 ≤ u) (u2 : u ≤ 12) (hv : v < sct u) (hf : ¬ fr F u v = true) : MR F (gbR F u v) := fun h => by
  have hb := sct_b u1 u2
  obtain ⟨n, hn, en⟩ := h (3 + 2 * u) (by omega)
  have hf' : bt (nI n) v = false := by
    have : fr F u v = bt (F (3 + 2 * u)) v := rfl
    rw [this, en] at hf
    cases q : bt (nI n) v with
    | false => rfl
    | true => exact absurd q hf
  obtain ⟨o1, o2, o3⟩ := gb_or n hn v (by omega) hf'
  obtain ⟨n', hn', en'⟩ := h (2 + 2 * u) (by omega)
  obtain ⟨p1, p2⟩ := gb_in n' hn'
  unfold gbR
  rw [pk_un (show 2 + 2 * u ≠ 3 + 2 * u by omega), en, en']
  refine ⟨fun k hk => ?_, fun k hk => ?_, ?_, fun z => ?_⟩
  · by_cases q : k = 2 + 2 * u
    · subst q; rw [pk_us]; exact ⟨_, p1, p2.symm⟩
    · rw [pk_un q]
      by_cases q2 : k = 3 + 2 * u
      · subst q2; rw [pk_us]; exact ⟨_, o1, o2.symm⟩
      · rw [pk_un q2]; exact h k hk
  · rw [pk_un (by omega), pk_un (by omega)]
  · rw [pk_un (show 19 ≠ 2 + 2 * u by omega)]
    by_cases q : u = 8
    · subst q
      rw [show 3 + 2 * 8 = 19 from rfl] at en ⊢
      rw [pk_us, en]
      exact Nat.le_of_lt o3
    · rw [pk_un (by omega)]; exact Nat.le_refl _
  · rw [pk_un (show 19 ≠ 2 + 2 * u by omega)]
    by_cases q : u = 8
    · subst q
      rw [show 3 + 2 * 8 = 19 from rfl] at en ⊢
      rw [pk_us, en]
      exact o3
    · exact absurd (by rw [pk_un (by omega), pk_un (by omega)]) z
theorem chX_s {S : rz_S} {a b c : Int32} : chX S (st_set S a b c) := chX_rF (Or.inl rfl) rF_s
section GX
variable {B : Nat → Nat → Bool} {pr : Bool} {id : Option (Nat × Nat)} {S : rz_S}
theorem gb8 (hid : id ≠ none) : ∀ (w i : Nat) (t s : Int32) (T : rz_S), w + i = 72 → chX S T → Cx B pr id T → MR (S.1 45) (T.1 45) → rz mDos_giveBackChain 8 [(0, .ref 39), (3, .int t), (4, .int s), (5, .int (nI i))] [] T (rz_i (fun x S1 => chX S S1 ∧ Cx B pr id S1 ∧ MR (S.1 45) (S1.1 45) ∧ (x = 0 → ¬ lgI t s = 0))) := by
  intro w
  induction w with
  | zero =>
    intro i t s T e fx hC hM
    have e72 : i = 72 := by omega
    subst e72
    exact p_Dos_giveBackChain_8 ⟨fun _ => rz_toI (c_Status_set _ _ _) ⟨chX_t fx chX_s, Cx_s hC, hM, fun z => absurd z (by decide)⟩, fun c => absurd (by decide) c⟩
  | succ w ih =>
    intro i t s T e fx hC hM
    refine p_Dos_giveBackChain_8 ⟨fun c => ?_, fun _ => rz_toI (c_Disk_legal _ _) ⟨fun c => ?_, fun c => ?_⟩⟩
    · have := (nI_leI (a := 72) (b := i) (by omega) (by omega)).mp c
      omega
    · exact rz_toI (c_Status_set _ _ _) ⟨chX_t fx chX_s, Cx_s hC, hM, fun z => absurd z (by decide)⟩
    · refine rz_useV (c_BlockMap_giveBack t s) (fun V a => ?_)
      rcases a with ⟨a0, _⟩ | ⟨u, v, u1, u2, hv, rfl, rfl, ea⟩
      · exact absurd a0 c
      · have hb := sct_b u1 u2
        have hV : chX S V ∧ Cx B pr id V ∧ MR (S.1 45) (V.1 45) := by
          rw [ea]
          by_cases q : fr (T.1 45) u v = true
          · rw [if_pos q]; exact ⟨fx, hC, hM⟩
          · rw [if_neg q]
            refine ⟨chX_t fx chX_f, Cx_f hC (by omega), ?_⟩
            rw [rz_fA_s]
            exact MR_t hM (MR_g u1 u2 hv q)
        obtain ⟨fx1, hC1, hM1⟩ := hV
        refine rz_useI (rdC hC1 u1 u2 (by omega) rfl (by omega)) (fun x U hU => ?_)
        obtain ⟨f1, id', hC', hid', hx⟩ := hU
        rw [hid' hid] at hC'
        have fxU : chX S U := chX_t fx1 (chX_rF (Or.inl rfl) f1)
        have hMU : MR (S.1 45) (U.1 45) := by rw [f1.1 45 (by omega) (by omega)]; exact hM1
        refine ⟨fun x0 => ⟨fun r0 => ⟨fxU, hC', hMU, fun _ => c⟩, fun r0 => ?_⟩, fun x0 => ⟨fxU, hC', hMU, fun _ => c⟩⟩
        rw [nI_1]
        refine rz_weak (ih (i + 1) _ _ U (by omega) fxU hC' hMU) (fun r S1 h => ?_)
        obtain ⟨y, rfl, h1, h2, h3, _⟩ := h
        exact ⟨y, rfl, h1, h2, h3, fun _ => c⟩
/-- what a scratch does -/
def SP (B : Nat → Nat → Bool) (pr : Bool) (id : Option (Nat × Nat)) (t s e : Nat) (d : Nat → Nat) (S S1 : rz_S) : Prop := bgX S S1 ∧ ∃ B1 B2 rm rm' r1, Hld B id 7 0 rm ∧ (∀ k, k < 64 → rm' k < 256) ∧ (∀ k, k < 64 → (k < 4 ∨ 28 ≤ k) → rm' k = rm k) ∧ pc (rm 19) ≤ pc (rm' 19) ∧ (rm' 18 ≠ rm 18 → pc (rm 19) < pc (rm' 19)) ∧ (∃ ft fs, JW B pr id 7 0 rm' 0 ft fs id B1) ∧ Hld B1 id t s r1 ∧ (∃ ft fs, JW B1 pr id t s (fun k => if k = 2 + 16 * e then 0 else r1 k) 0 ft fs id B2) ∧ Cx B2 pr id S1 ∧ 1 ≤ d (3 + 16 * e) ∧ d (3 + 16 * e) ≤ 12
theorem sfX {t s e : Nat} {d : Nat → Nat} (hid : id ≠ none) (hC : Cx B pr id S) (t1 : 1 ≤ t) (t2 : t ≤ 12) (s1 : s < sct t) (he : e < 4) (x1 : S.2 46 1 = nI t) (x2 : S.2 46 2 = nI s) (x4 : S.2 46 4 = nI e) (hH : Hld B id t s d) (rows : ∀ k, k < 64 → S.1 47 k = nI (d k)) : rz_ev mDos_scratchFound [.ref 39] S (rz_i (fun x S1 => x = 0 → SP B pr id t s e d S S1)) := by
  have hsb := sct_b t1 t2
  show rz _ 0 [(0, .ref 39)] [] _ _
  refine p_Dos_scratchFound_0 ?_
  show rz _ 0 [(0, .ref 44)] [] _ _
  refine p_BlockMap_load_0 (rz_useI (rdC (t := 7) (s := 0) (a := 45) hC (by omega) (by omega) (by omega) rfl (by omega)) (fun x V hV => ?_))
  obtain ⟨f1, id', hC1, hid1, hx⟩ := hV
  rw [hid1 hid] at hC1 hx
  refine ⟨fun x0 => ?_, fun x0 z => absurd z x0⟩
  obtain ⟨rm, hm, rowm⟩ := hx x0
  have v46 : ∀ z, V.2 46 z = S.2 46 z := fun z => f1.2 46 z (by omega) (by omega) (by omega)
  have v47 : V.1 47 = S.1 47 := f1.1 47 (by omega) (by omega)
  refine rz_toI (c_firstTrack he ((v46 4).trans x4)) (rz_toI (c_firstSector he ((v46 4).trans x4)) ?_)
  rw [v47]
  show rz _ 0 [(0, .ref 39), (1, .int (S.1 47 (16 * e + 3))), (2, .int (S.1 47 (16 * e + 4)))] [] _ _
  refine p_Dos_giveBackChain_0 (rz_weak (gb8 (B := B) (pr := pr) (id := id) (S := V) hid 72 0 _ _ V rfl (chX_r _) hC1 (MR_r _)) (fun r U hU => ?_))
  obtain ⟨y, rfl, fU, hCU, hMU, hlg⟩ := hU
  refine ⟨y, rfl, ?_⟩
  obtain ⟨mb, m1, m2, m3⟩ := hMU (fun k hk => ⟨rm k, hm.2.1 k hk, rowm k hk⟩)
  obtain ⟨rm', hr'⟩ : ∃ rm' : Nat → Nat, ∀ k, k < 64 → U.1 45 k = nI (rm' k) ∧ rm' k < 256 := by
    refine ⟨fun k => (U.1 45 k).toNatClampNeg, fun k hk => ?_⟩
    obtain ⟨n, hn, en⟩ := mb k hk
    have : (U.1 45 k).toNatClampNeg = n := by rw [en, nI_clamp (by omega)]
    simp only [this]
    exact ⟨en, hn⟩
  have nin : ∀ a c : Nat, a < 256 → c < 256 → nI a = nI c → a = c := fun a c ha hc h => (nI_eq (by omega) (by omega)).mp h
  have pcn : ∀ a : Nat, a < 256 → pcI (nI a) = pc a := fun a ha => by unfold pcI; rw [nI_clamp (by omega)]
  show rz _ 0 [(0, .ref 44)] [] _ _
  refine p_BlockMap_store_0 (rz_useI (wrC (t := 7) (s := 0) (a := 45) (rr := rm') hCU hid (by omega) (by omega) (by omega) rfl (by omega) hr') (fun x' W hW => ?_))
  obtain ⟨f2, B1, hCW, hJ⟩ := hW
  refine ⟨fun y0 => ⟨fun x0' => ?_, fun x0' z => absurd z x0'⟩, fun y0 => rz_toI (c_Status_set _ _ _) (fun z => absurd z y0)⟩
  have w46 : ∀ q, W.2 46 q = S.2 46 q := fun q => (f2.2 46 q (by omega) (by omega) (by omega)).trans ((fU.2 46 q (by omega) (by omega) (by omega)).trans (v46 q))
  show rz _ 0 [(0, .ref 46), (1, .int 0)] [] _ _
  refine p_Directory_changeType_0 ?_
  rw [w46 1, w46 2, x1, x2]
  refine rz_useI (rdC (a := 47) hCW t1 t2 (by omega) rfl (by omega)) (fun z Z hZ => ?_)
  obtain ⟨f3, id3, hCZ, hid3, hz⟩ := hZ
  rw [hid3 hid] at hCZ hz
  refine ⟨fun z0 => ?_, fun z0 q => absurd q z0⟩
  obtain ⟨r1, h1, row1⟩ := hz z0
  have z46 : ∀ q, Z.2 46 q = S.2 46 q := fun q => (f3.2 46 q (by omega) (by omega) (by omega)).trans (w46 q)
  refine rz_toI (c_Directory_base he ((z46 4).trans x4)) ?_
  rw [show (nI (16 * e) + 2 : Int32) = nI (16 * e + 2) from nI_add _ 2, nI_clamp (by omega), z46 1, z46 2, x1, x2]
  refine ⟨rin (by omega) (by omega), rz_useI (wrC (a := 47) (rr := fun k => if k = 2 + 16 * e then 0 else r1 k) (Cx_f hCZ (by omega)) hid t1 t2 (by omega) rfl (by omega) (fun k hk => ?_)) (fun v Y hY => ?_)⟩
  · rw [rz_fA_s]
    by_cases q : k = 16 * e + 2
    · subst q; rw [pk_us, if_pos (by omega)]; exact ⟨rfl, by omega⟩
    · rw [pk_un q, if_neg (by omega)]; exact ⟨row1 k hk, h1.2.1 k hk⟩
  · obtain ⟨f4, B2, hCY, hJ2⟩ := hY
    intro v0
    have gx : bgX S Y := bgX_t (bgX_rF (by omega) f1) (bgX_t (bgX_ch fU) (bgX_t (bgX_rF (by omega) f2) (bgX_t (bgX_rF (by omega) f3) (bgX_t (bgX_f (by omega)) (bgX_rF (by omega) f4)))))
    have l := hlg y0
    obtain ⟨u, u', l1, l2, _, l3, _⟩ := lgI_1 l
    rw [rows _ (by omega)] at l3
    have l4 : d (16 * e + 3) = u := nin _ _ (hH.2.1 _ (by omega)) (by omega) l3
    have a19 : U.1 45 19 = nI (rm' 19) := (hr' 19 (by omega)).1
    have b19 : V.1 45 19 = nI (rm 19) := rowm 19 (by omega)
    rw [a19, b19, pcn _ (hr' 19 (by omega)).2, pcn _ (hm.2.1 19 (by omega))] at m2 m3
    refine ⟨gx, B1, B2, rm, rm', r1, hm, fun k hk => (hr' k hk).2, fun k hk q => ?_, m2, fun q => m3 (fun q2 => q ?_), hJ x0', h1, hJ2 v0, hCY, ?_, ?_⟩
    · have := m1 k q
      rw [(hr' k hk).1, rowm k hk] at this
      exact nin _ _ (hr' k hk).2 (hm.2.1 k hk) this
    · rw [(hr' 18 (by omega)).1, rowm 18 (by omega)] at q2
      exact nin _ _ (hr' 18 (by omega)).2 (hm.2.1 18 (by omega)) q2
    · rw [Nat.add_comm, l4]; exact l1
    · rw [Nat.add_comm, l4]; exact l2
end GX
