/-! what was WRITTEN is READ again; jobs with what they read and write -/
theorem xk_dpl {r : Nat → Nat} {g : Nat → Nat} (hg : ∀ k, k ≤ 64 → g k = dpl r k) : ∀ n, n ≤ 64 → xk g n = xs r n := by
  intro n
  induction n with
  | zero => intro _; rfl
  | succ n ih =>
    intro h
    show xk g n ^^^ g (n + 1) = xs r n ^^^ r n
    rw [ih (by omega), hg (n + 1) h]
    show _ ^^^ (if n < 64 then r n else if n = 64 then xs r 64 else 0) = _
    rw [if_pos (by omega)]
theorem DTp_gb {c : Nat → Bool} {r : Nat → Nat} (hr : ∀ k, k < 64 → r k < 256) (h : ∀ i, i < 680 → c i = gb (dpl r) i) : DTp c 0 r := by
  have pl := dpl_lt hr
  have hgv : ∀ k, k < 136 → gv c k = nbl (dpl r) k := fun k hk => by
    rw [← gb_gv (pl (k / 2))]
    unfold gv
    rw [vl_ext (b := c) (c := gb (dpl r)) (p := 5 * k) (q := 5 * k) (fun i hi => h (5 * k + i) (by omega))]
  have nb : ∀ k, nbl (dpl r) k < 16 := fun k => by
    unfold nbl
    have := pl (k / 2)
    split <;> omega
  have hdec : ∀ j, j < 68 → dec c j = dpl r j := fun j hj => by
    rw [← gb_dec (pl j)]
    unfold dec
    rw [hgv _ (by omega), hgv _ (by omega), gb_gv (pl _), gb_gv (pl _)]
  refine Or.inr (Or.inr (Or.inr ⟨?_, fun k hk => by rw [hgv k hk]; exact nb k, ?_, rfl, fun k hk => ?_⟩))
  · rw [vl_ext (b := c) (c := gb (dpl r)) (p := 0) (q := 0) (n := 10) (fun i hi => by rw [Nat.zero_add]; exact h i (by omega)), vl_add (gb (dpl r)) 0 5 5]
    have a1 := gb_vl (pl := dpl r) (k := 0) (nb 0)
    have a2 := gb_vl (pl := dpl r) (k := 1) (nb 1)
    rw [show 5 * 0 = 0 from rfl] at a1
    rw [show 5 * 1 = 0 + 5 from rfl] at a2
    have p0 : dpl r 0 = 7 := rfl
    have n0 : nbl (dpl r) 0 = 0 := by
      unfold nbl
      rw [if_pos (by decide), show (0 : Nat) / 2 = 0 from rfl, p0]
    have n1 : nbl (dpl r) 1 = 7 := by
      unfold nbl
      rw [if_neg (by decide), show (1 : Nat) / 2 = 0 from rfl, p0]
    rw [a1, a2, n0, n1]
    decide
  · rw [xk_dpl (r := r) (fun k hk => hdec k (by omega)) 64 (by omega), hdec 65 (by omega)]
    rfl
  · rw [hdec (1 + k) (by omega), Nat.add_comm]
    show r k = (if k < 64 then r k else if k = 64 then xs r 64 else 0)
    rw [if_pos hk]
theorem JW_JR {B B' : Nat → Nat → Bool} {pr : Bool} {id id' : Option (Nat × Nat)} {t s ft fs : Nat} {r : Nat → Nat} (hr : ∀ k, k < 64 → r k < 256) (h : JW B pr id t s r 0 ft fs id' B') : id' ≠ none ∧ JR B' id' t s 0 t s id' r := by
  rcases h with ⟨_, a, _⟩ | ⟨_, _, ⟨_, a, _⟩ | ⟨i, j, b', e1, _, _, w, e2⟩⟩
  · omega
  · omega
  · refine ⟨by rw [e1]; exact fun z => (by cases z), Or.inl ⟨by rw [e1]; exact fun z => (by cases z), rfl⟩, Or.inr ⟨i, j, e1, rfl, rfl, ?_⟩⟩
    have eb : B' t = b' := by rw [e2]; exact if_pos rfl
    rw [eb]
    rcases w with ⟨_, a, _⟩ | ⟨_, _, a, _⟩ | ⟨_, _, _, _, _, _, v⟩
    · omega
    · omega
    · rcases v with ⟨_, a⟩ | ⟨p, n, p1, p2, p3, p4, g, ⟨cm, _⟩ | ⟨_, a⟩⟩
      · omega
      · refine Or.inr (Or.inr ⟨p, n, p1, p2, p3, p4, g, DTp_gb hr (fun i hi => ?_)⟩)
        have := by8_inj (cm (i / 8) (by omega)) (i % 8) (by omega)
        rw [show 8 * (i / 8) + i % 8 = i by omega] at this
        exact this
      · omega
/-- what a block holds -/
def Hld (B : Nat → Nat → Bool) (id : Option (Nat × Nat)) (t s : Nat) (d : Nat → Nat) : Prop := id ≠ none ∧ (∀ k, k < 64 → d k < 256) ∧ JR B id t s 0 t s id d
theorem PR_readJ {B : Nat → Nat → Bool} {pr : Bool} {id : Option (Nat × Nat)} {Sx Sm : rz_S} {t s a a' at0 na : Nat} (hD : Dk B pr id Sx Sm) (h1 : 1 ≤ t) (h2 : t ≤ 12) (hs : s < 256) (ha : rz_T[a]? = some (.inl (0, 64))) (ha1 : ¬ (8 ≤ a ∧ a ≤ 36)) (ha' : rz_T[a']? = some (.inl (0, na))) (ha'1 : ¬ (117 ≤ a' ∧ a' ≤ 122)) (hat : at0 + 64 ≤ na) (hna : na ≤ 1000) : ∃ x V W id', rzx mDisk_readBlock [.ref 6, .int (nI t), .int (nI s), .ref a] Sx (some (.int x)) V ∧ rzx mM_readBlock [.ref 116, .int (nI t), .int (nI s), .ref a', .int (nI at0)] Sm (some (.int x)) W ∧ Dk B pr id' V W ∧ rF a Sx V ∧ kFa a' at0 Sm W ∧ ans Sx x V W ∧ (id ≠ none → id' = id) ∧ (x = 0 → ∃ d : Nat → Nat, Hld B id' t s d ∧ ∀ k, k < 64 → V.1 a k = nI (d k) ∧ W.1 a' (at0 + k) = nI (d k)) := by
  obtain ⟨d1, d2, d3, d4, d5, d6, d7, d8⟩ := hD
  obtain ⟨_, V, e1, x, rfl, xa, ft, fs, id1, d, j1, rfl, l1, i1, f1, o1, n1⟩ := rzx_ev (c_Disk_readBlock d1 d5 h1 h2 hs ha ha1)
  obtain ⟨_, W, e2, y, rfl, xb, ft', fs', id2, d', j2, rfl, l2, i2, f2, o2, n2⟩ := rzx_ev (c_M_readBlock d2 d6 h1 h2 hs ha' (by omega) hat hna)
  obtain ⟨rfl, rfl, rfl, rfl, ed⟩ := JR_u j1 j2
  refine ⟨nI xa, V, W, id1, e1, e2, ⟨XRs_rF ha1 d1 f1, MRs_kFa (by omega) d2 f2, (f1.2 6 0 (by omega) (by omega) (by omega)).trans d3, (f2.2.2 116 1 (by omega)).trans d4, i1, i2, fun t t1 t2 => (f1.2 _ 0 (by omega) (by omega) (by omega)).trans (d7 t t1 t2), fun k hk => by rw [f2.1 122 (by omega) (by omega)]; exact d8 k hk⟩, f1, f2, ?_, fun hid => ?_, fun x0 => ?_⟩
  · by_cases z : xa = 0
    · subst z; exact Or.inl ⟨rfl, (o1 rfl).2⟩
    · exact Or.inr ⟨xa, z, ⟨l1, JR_c j1⟩, rfl, ⟨ft, fs, (n1 z).2.1, (n2 z).2.1, (n2 z).2.2⟩, (n1 z).2.2⟩
  · rcases j1.1 with ⟨_, q⟩ | ⟨q, _⟩
    · exact q
    · exact absurd q hid
  · have z : xa = 0 := by
      by_cases z : xa = 0
      · exact z
      · exact absurd x0 (nI_ne0 (by omega) (by omega))
    subst z
    have hid1 : id1 ≠ none := by
      rcases j1.2 with ⟨_, q, _⟩ | ⟨i, j, q, _⟩
      · omega
      · rw [q]; exact fun z => (by cases z)
    refine ⟨d, ⟨hid1, fun k hk => ((o1 rfl).1 k hk).2, Or.inl ⟨hid1, rfl⟩, ?_⟩, fun k hk => ⟨((o1 rfl).1 k hk).1, by rw [ed rfl k hk]; exact (o2 rfl k hk).1⟩⟩
    rcases j1.2 with ⟨_, q, _⟩ | ⟨i, j, q, r1, r2, r3⟩
    · omega
    · exact Or.inr ⟨i, j, q, rfl, rfl, r3⟩
theorem PR_writeJ {B : Nat → Nat → Bool} {pr : Bool} {id : Option (Nat × Nat)} {Sx Sm : rz_S} {t s a a' at0 na : Nat} {rr : Nat → Nat} (hD : Dk B pr id Sx Sm) (h1 : 1 ≤ t) (h2 : t ≤ 12) (hs : s < 256) (ha : rz_T[a]? = some (.inl (0, 64))) (ha1 : ¬ (8 ≤ a ∧ a ≤ 36)) (ha' : rz_T[a']? = some (.inl (0, na))) (ha'1 : ¬ (117 ≤ a' ∧ a' ≤ 122)) (hat : at0 + 64 ≤ na) (hna : na ≤ 1000) (hr : ∀ k, k < 64 → Sx.1 a k = nI (rr k) ∧ Sm.1 a' (at0 + k) = nI (rr k) ∧ rr k < 256) : ∃ x V W B' id', rzx mDisk_writeBlock [.ref 6, .int (nI t), .int (nI s), .ref a] Sx (some (.int x)) V ∧ rzx mM_writeBlock [.ref 116, .int (nI t), .int (nI s), .ref a', .int (nI at0)] Sm (some (.int x)) W ∧ Dk B' pr id' V W ∧ rF (12 + 2 * t) Sx V ∧ wM t Sm W ∧ ans Sx x V W ∧ (x = 0 → Hld B' id' t s rr ∧ ∃ ft fs, JW B pr id t s rr 0 ft fs id' B') := by
  obtain ⟨d1, d2, d3, d4, d5, d6, d7, d8⟩ := hD
  obtain ⟨_, V, e1, x, rfl, xa, ft, fs, id1, B1, j1, rfl, l1, i1, r1, f1, o1, n1⟩ := rzx_ev (c_Disk_writeBlock d1 d5 d3 h1 h2 hs ha ha1 (fun k hk => ⟨(hr k hk).1, (hr k hk).2.2⟩))
  obtain ⟨_, W, e2, y, rfl, xb, ft', fs', id2, B2, j2, rfl, l2, i2, r2, f2, n2⟩ := rzx_ev (c_M_writeBlock d2 d6 d4 h1 h2 hs ha' (by omega) hat hna (fun k hk => (hr k hk).2))
  obtain ⟨rfl, rfl, rfl, rfl, rfl⟩ := JW_u j1 j2
  refine ⟨nI xa, V, W, B1, id1, e1, e2, ⟨r1, r2, (f1.2 6 0 (by omega) (by omega) (by omega)).trans d3, (f2.2.2 116 1 (by omega)).trans d4, i1, i2, fun t t1 t2 => (f1.2 _ 0 (by omega) (by omega) (by omega)).trans (d7 t t1 t2), fun k hk => by rw [f2.1 122 (by omega) (by omega)]; exact d8 k hk⟩, f1, f2, ?_, fun x0 => ?_⟩
  · by_cases z : xa = 0
    · subst z; exact Or.inl ⟨rfl, o1 rfl⟩
    · exact Or.inr ⟨xa, z, ⟨l1, JW_c j1⟩, rfl, ⟨ft, fs, (n1 z).1, (n2 z).1, (n2 z).2⟩, (n1 z).2⟩
  · have z : xa = 0 := by
      by_cases z : xa = 0
      · exact z
      · exact absurd x0 (nI_ne0 (by omega) (by omega))
    subst z
    obtain ⟨q1, q2⟩ := JW_JR (fun k hk => (hr k hk).2.2) j1
    exact ⟨⟨q1, fun k hk => (hr k hk).2.2, q2⟩, ft, fs, j1⟩
/-- the reference alone READS a block that is known -/
theorem rd_M {B : Nat → Nat → Bool} {pr : Bool} {id : Option (Nat × Nat)} {V W : rz_S} {t s a' na : Nat} {d : Nat → Nat} (hD : Dk B pr id V W) (h1 : 1 ≤ t) (h2 : t ≤ 12) (hs : s < 256) (ha' : rz_T[a']? = some (.inl (0, na))) (ha'1 : ¬ (117 ≤ a' ∧ a' ≤ 122)) (hat : 0 + 64 ≤ na) (hna : na ≤ 1000) (h : Hld B id t s d) : ∃ W1, rzx mM_readBlock [.ref 116, .int (nI t), .int (nI s), .ref a', .int (nI 0)] W (some (.int 0)) W1 ∧ Dk B pr id V W1 ∧ kFa a' 0 W W1 ∧ ∀ k, k < 64 → W1.1 a' k = nI (d k) := by
  obtain ⟨d1, d2, d3, d4, d5, d6, d7, d8⟩ := hD
  obtain ⟨_, W1, e2, y, rfl, xb, ft', fs', id2, d', j2, rfl, l2, i2, f2, o2, n2⟩ := rzx_ev (c_M_readBlock d2 d6 h1 h2 hs ha' (by omega) hat hna)
  obtain ⟨z, _, _, q, ed⟩ := JR_u h.2.2 j2
  subst z
  subst q
  refine ⟨W1, e2, ⟨d1, MRs_kFa (by omega) d2 f2, d3, (f2.2.2 116 1 (by omega)).trans d4, d5, i2, d7, fun k hk => by rw [f2.1 122 (by omega) (by omega)]; exact d8 k hk⟩, f2, fun k hk => ?_⟩
  rw [ed rfl k hk]
  have := (o2 rfl k hk).1
  rw [Nat.zero_add] at this
  exact this
/-- the TYPE of an ENTRY of a block that is known, both sides -/
theorem PR_typeJ {B : Nat → Nat → Bool} {pr : Bool} {id : Option (Nat × Nat)} {Sx Sm : rz_S} {t s e : Nat} {d : Nat → Nat} (hD : Dk B pr id Sx Sm) (t1 : 1 ≤ t) (t2 : t ≤ 12) (s1 : s < sct t) (he : e < 4) (x1 : Sx.2 46 1 = nI t) (x2 : Sx.2 46 2 = nI s) (x4 : Sx.2 46 4 = nI e) (hH : Hld B id t s d) : ∃ x V W, rzx mDirectory_changeType [.ref 46, .int 0] Sx (some (.int x)) V ∧ rzx mM_changesType [.ref 116, .int (nI t), .int (nI s), .int (nI e), .int 0] Sm (some (.int x)) W ∧ bgX Sx V ∧ bgM Sm W ∧ (∃ B' id', Dk B' pr id' V W ∧ (x = 0 → Hld B' id' t s (fun k => if k = 16 * e + 2 then 0 else d k) ∧ ∃ ft fs, JW B pr id t s (fun k => if k = 16 * e + 2 then 0 else d k) 0 ft fs id' B')) ∧ ans Sx x V W ∧ V.1 45 = Sx.1 45 ∧ W.1 123 = Sm.1 123 ∧ W.1 124 = Sm.1 124 ∧ (∀ z, V.2 46 z = Sx.2 46 z) ∧ (x = 0 → ∀ k, k < 64 → V.1 47 k = nI (if k = 16 * e + 2 then 0 else d k)) := by
  have hsb := sct_b t1 t2
  obtain ⟨x, V, W, id1, e1, e2, D1, f1, f2, an, hid, hx⟩ := PR_readJ (s := s) (a := 47) (a' := 125) (at0 := 0) (na := 64) hD t1 t2 (by omega) rfl (by omega) rfl (by omega) (by omega) (by omega)
  have hid1 := hid hH.1
  subst hid1
  have f46 : ∀ z, V.2 46 z = Sx.2 46 z := fun z => f1.2 46 z (by omega) (by omega) (by omega)
  have left : ∀ K : Int32 → rz_S → Prop, ((x = 0 → rz_ev mDisk_writeBlock [.ref 6, .int (nI t), .int (nI s), .ref 47] (rz_fA V 47 (upd (V.1 47) (16 * e + 2) 0)) (rz_i K)) ∧ (¬ x = 0 → K x V)) → rz_ev mDirectory_changeType [.ref 46, .int 0] Sx (rz_i K) := fun K h => by
    show rz _ 0 [(0, .ref 46), (1, .int 0)] [] _ _
    refine p_Directory_changeType_0 ?_
    rw [x1, x2]
    refine rzx_I e1 ⟨fun x0 => ?_, fun x0 => h.2 x0⟩
    refine rz_toI (c_Directory_base he ((f46 4).trans x4)) ?_
    rw [show (nI (16 * e) + 2 : Int32) = nI (16 * e + 2) from nI_add _ 2, nI_clamp (by omega), f46 1, f46 2, x1, x2]
    exact ⟨rin (by omega) (by omega), h.1 x0⟩
  have right : ∀ K : Int32 → rz_S → Prop, ((x = 0 → rz_ev mM_writeBlock [.ref 116, .int (nI t), .int (nI s), .ref 125, .int 0] (rz_fA W 125 (upd (W.1 125) (16 * e + 2) 0)) (rz_i K)) ∧ (¬ x = 0 → K x W)) → rz_ev mM_changesType [.ref 116, .int (nI t), .int (nI s), .int (nI e), .int 0] Sm (rz_i K) := fun K h => by
    show rz _ 0 [(0, .ref 116), (1, .int (nI t)), (2, .int (nI s)), (3, .int (nI e)), (4, .int 0)] [] _ _
    refine p_M_changesType_0 (rzx_I e2 ⟨fun x0 => ?_, fun x0 => h.2 x0⟩)
    rw [show (16 * nI e : Int32) = nI (16 * e) from pk_mul 16 e, show (nI (16 * e) + 2 : Int32) = nI (16 * e + 2) from nI_add _ 2, nI_clamp (by omega)]
    exact ⟨rin (by omega) (by omega), h.1 x0⟩
  by_cases x0 : x = 0
  · subst x0
    obtain ⟨d', hH', rows⟩ := hx rfl
    have dd : ∀ k, k < 64 → d' k = d k := fun k hk => ((JR_u hH.2.2 hH'.2.2).2.2.2.2 rfl k hk).symm
    have hr : ∀ k, k < 64 → (rz_fA V 47 (upd (V.1 47) (16 * e + 2) 0)).1 47 k = nI (if k = 16 * e + 2 then 0 else d k) ∧ (rz_fA W 125 (upd (W.1 125) (16 * e + 2) 0)).1 125 (0 + k) = nI (if k = 16 * e + 2 then 0 else d k) ∧ (if k = 16 * e + 2 then 0 else d k) < 256 := fun k hk => by
      rw [rz_fA_s, rz_fA_s, Nat.zero_add]
      by_cases z : k = 16 * e + 2
      · subst z; rw [pk_us, pk_us, if_pos rfl]; exact ⟨rfl, rfl, by omega⟩
      · rw [pk_un z, pk_un z, if_neg z, ← dd k hk]
        have := (rows k hk).2
        rw [Nat.zero_add] at this
        exact ⟨(rows k hk).1, this, by rw [dd k hk]; exact hH.2.1 k hk⟩
    obtain ⟨y, V2, W2, B2, id2, g1, g2, D2, h1, h2, an2, hH2⟩ := PR_writeJ (s := s) (a := 47) (a' := 125) (at0 := 0) (na := 64) (rr := fun k => if k = 16 * e + 2 then 0 else d k) (Dk_mf (Dk_xf D1 (by omega)) (by omega)) t1 t2 (by omega) rfl (by omega) rfl (by omega) (by omega) (by omega) hr
    refine ⟨y, V2, W2, rzx_of (fun K h => left K ⟨fun _ => rzx_I g1 h, fun z => absurd rfl z⟩), rzx_of (fun K h => right K ⟨fun _ => rzx_I g2 h, fun z => absurd rfl z⟩), bgX_t (bgX_rF (by omega) f1) (bgX_t (bgX_f (by omega)) (bgX_rF (by omega) h1)), bgM_t (bgM_kFa (by omega) f2) (bgM_t (bgM_f (by omega)) (bgM_wM h2)), ⟨B2, id2, D2, hH2⟩, ans_t (ans_z an rfl) an2, ?_, ?_, ?_, fun z => ?_, fun _ k hk => ?_⟩
    · rw [h1.1 45 (by omega) (by omega), rz_fA_n (by omega), f1.1 45 (by omega) (by omega)]
    · rw [h2.1 123 (by omega) (by omega), rz_fA_n (by omega), f2.1 123 (by omega) (by omega)]
    · rw [h2.1 124 (by omega) (by omega), rz_fA_n (by omega), f2.1 124 (by omega) (by omega)]
    · exact (h1.2 46 z (by omega) (by omega) (by omega)).trans (f46 z)
    · rw [h1.1 47 (by omega) (by omega)]; exact (hr k hk).1
  · exact ⟨x, V, W, rzx_of (fun K h => left K ⟨fun z => absurd z x0, fun _ => h⟩), rzx_of (fun K h => right K ⟨fun z => absurd z x0, fun _ => h⟩), bgX_rF (by omega) f1, bgM_kFa (by omega) f2, ⟨B, id1, D1, fun z => absurd z x0⟩, an, f1.1 45 (by omega) (by omega), f2.1 123 (by omega) (by omega), f2.1 124 (by omega) (by omega), f46, fun z => absurd z x0⟩
/-! how many blocks are free -/
def cfr (F : Nat → Int32) : Nat → Nat
  | 0 => 0
  | n + 1 => cfr F n + (fr F (n / 8 + 1) (n % 8)).toNat
theorem cfr_le (F : Nat → Int32) : ∀ n, cfr F n ≤ n := by
  intro n
  induction n with
  | zero => exact Nat.le_refl _
  | succ n ih =>
    show cfr F n + (fr F (n / 8 + 1) (n % 8)).toNat ≤ n + 1
    have := Bool.toNat_le (fr F (n / 8 + 1) (n % 8))
    omega
theorem cfr_mono {F G : Nat → Int32} (h : ∀ t s, 1 ≤ t → t ≤ 12 → s < 8 → fr G t s = true → fr F t s = true) : ∀ n, n ≤ 96 → cfr G n ≤ cfr F n := by
  intro n
  induction n with
  | zero => intro _; exact Nat.le_refl _
  | succ n ih =>
    intro hn
    have h1 := ih (by omega)
    show cfr G n + (fr G (n / 8 + 1) (n % 8)).toNat ≤ cfr F n + (fr F (n / 8 + 1) (n % 8)).toNat
    cases hg : fr G (n / 8 + 1) (n % 8) with
    | false => simp only [Bool.toNat_false]; omega
    | true => rw [h _ _ (by omega) (by omega) (by omega) hg]; omega
theorem cfr_lt {F G : Nat → Int32} {t s : Nat} (t1 : 1 ≤ t) (t2 : t ≤ 12) (hs : s < 8) (h : ∀ t s, 1 ≤ t → t ≤ 12 → s < 8 → fr G t s = true → fr F t s = true) (hF : fr F t s = true) (hG : fr G t s = false) : ∀ n, n ≤ 96 → 8 * (t - 1) + s < n → cfr G n < cfr F n := by
  intro n
  induction n with
  | zero => intro _ z; omega
  | succ n ih =>
    intro hn hlt
    show cfr G n + (fr G (n / 8 + 1) (n % 8)).toNat < cfr F n + (fr F (n / 8 + 1) (n % 8)).toNat
    by_cases e : 8 * (t - 1) + s = n
    · have a1 : n / 8 + 1 = t := by omega
      have a2 : n % 8 = s := by omega
      have := cfr_mono h n (by omega)
      rw [a1, a2, hF, hG]
      simp only [Bool.toNat_false, Bool.toNat_true]
      omega
    · have h1 := ih (by omega) (by omega)
      cases hg : fr G (n / 8 + 1) (n % 8) with
      | false => simp only [Bool.toNat_false]; omega
      | true => rw [h _ _ (by omega) (by omega) (by omega) hg]; omega
theorem tk_bits : ∀ v, v < 256 → ∀ s, s < 8 → bt (nI v &&& ((1 <<< (nI s &&& 31)) ^^^ (-1))) s = false ∧ ∀ u, u < 8 → bt (nI v &&& ((1 <<< (nI s &&& 31)) ^^^ (-1))) u = true → bt (nI v) u = true := by decide +kernel
theorem tk_fr {F : Nat → Int32} {t s : Nat} (t1 : 1 ≤ t) (t2 : t ≤ 12) (hs : s < 8) (hb : ∀ k, k < 64 → byt (F k)) : fr (tkR F t s) t s = false ∧ ∀ t' s', 1 ≤ t' → t' ≤ 12 → s' < 8 → fr (tkR F t s) t' s' = true → fr F t' s' = true := by
  obtain ⟨v, hv, ev⟩ := hb (3 + 2 * t) (by omega)
  have e1 : tkR F t s (3 + 2 * t) = nI v &&& ((1 <<< (nI s &&& 31)) ^^^ (-1)) := by
    unfold tkR
    rw [pk_un (by omega), pk_us, ev]
  refine ⟨by unfold fr; rw [e1]; exact (tk_bits v hv s hs).1, fun t' s' a b c h => ?_⟩
  unfold fr at h ⊢
  by_cases e : t' = t
  · subst e
    rw [e1] at h
    rw [ev]
    exact (tk_bits v hv s hs).2 s' c h
  · have e2 : tkR F t s (3 + 2 * t') = F (3 + 2 * t') := by
      unfold tkR
      rw [pk_un (by omega), pk_un (by omega)]
    rw [e2] at h
    exact h
