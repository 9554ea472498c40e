/-! pairs: both runs, each from its own state; the jobs of the disk -/
theorem rzx_ev {Z : rx_M} {as : List Value} {S : rz_S} {Q : Option Value → rz_S → Prop} (h : rz_ev Z as S Q) : ∃ r S1, rzx Z as S r S1 ∧ Q r S1 := by
  obtain ⟨n, r, S1, h1, h2⟩ := h
  exact ⟨r, S1, ⟨n, h1⟩, h2⟩
theorem rzx_Q {Z : rx_M} {as : List Value} {S S1 : rz_S} {r : Option Value} {Q : Option Value → rz_S → Prop} (h : rzx Z as S r S1) (q : Q r S1) : rz_ev Z as S Q := by
  obtain ⟨n, h1⟩ := h
  exact ⟨n, r, S1, h1, q⟩
theorem rzx_I {Z : rx_M} {as : List Value} {S S1 : rz_S} {x : Int32} {K : Int32 → rz_S → Prop} (h : rzx Z as S (some (.int x)) S1) (q : K x S1) : rz_ev Z as S (rz_i K) := rzx_Q h ⟨x, rfl, q⟩
theorem rzx_V {Z : rx_M} {as : List Value} {S S1 : rz_S} {K : rz_S → Prop} (h : rzx Z as S none S1) (q : K S1) : rz_ev Z as S (rz_v K) := rzx_Q h ⟨rfl, q⟩
/-- a pair that answers numbers -/
def PCi (X M : rx_M) (ax am : List Value) (Sx Sm : rz_S) (P : Int32 → rz_S → Int32 → rz_S → Prop) : Prop := ∃ x Sx1 y Sm1, rzx X ax Sx (some (.int x)) Sx1 ∧ rzx M am Sm (some (.int y)) Sm1 ∧ P x Sx1 y Sm1
/-- a pair that answers nothing -/
def PCv (X M : rx_M) (ax am : List Value) (Sx Sm : rz_S) (P : rz_S → rz_S → Prop) : Prop := ∃ Sx1 Sm1, rzx X ax Sx none Sx1 ∧ rzx M am Sm none Sm1 ∧ P Sx1 Sm1
theorem PCi_of {X M : rx_M} {ax am : List Value} {Sx Sm : rz_S} {P : Int32 → rz_S → Int32 → rz_S → Prop} (h : ∀ K : Int32 → rz_S → Prop, (∀ x Sx1, rz_ev M am Sm (rz_i (P x Sx1)) → K x Sx1) → rz_ev X ax Sx (rz_i K)) : PCi X M ax am Sx Sm P := by
  obtain ⟨r, Sx1, h1, x, rfl, h2⟩ := rzx_ev (h (fun x Sx1 => rz_ev M am Sm (rz_i (P x Sx1))) (fun _ _ q => q))
  obtain ⟨q, Sm1, h3, y, rfl, h4⟩ := rzx_ev h2
  exact ⟨x, Sx1, y, Sm1, h1, h3, h4⟩
theorem PCv_of {X M : rx_M} {ax am : List Value} {Sx Sm : rz_S} {P : rz_S → rz_S → Prop} (h : ∀ K : rz_S → Prop, (∀ Sx1, rz_ev M am Sm (rz_v (P Sx1)) → K Sx1) → rz_ev X ax Sx (rz_v K)) : PCv X M ax am Sx Sm P := by
  obtain ⟨r, Sx1, h1, rfl, h2⟩ := rzx_ev (h (fun Sx1 => rz_ev M am Sm (rz_v (P Sx1))) (fun _ q => q))
  obtain ⟨q, Sm1, h3, rfl, h4⟩ := rzx_ev h2
  exact ⟨Sx1, Sm1, h1, h3, h4⟩
theorem PCi_w {X M : rx_M} {ax am : List Value} {Sx Sm : rz_S} {P P' : Int32 → rz_S → Int32 → rz_S → Prop} (h : PCi X M ax am Sx Sm P) (hw : ∀ x Sx1 y Sm1, P x Sx1 y Sm1 → P' x Sx1 y Sm1) : PCi X M ax am Sx Sm P' := by
  obtain ⟨x, Sx1, y, Sm1, h1, h2, h3⟩ := h
  exact ⟨x, Sx1, y, Sm1, h1, h2, hw _ _ _ _ h3⟩
/-- out of a contract of each side -/
theorem PCi_two {X M : rx_M} {ax am : List Value} {Sx Sm : rz_S} {A C : Int32 → rz_S → Prop} {P : Int32 → rz_S → Int32 → rz_S → Prop} (h1 : rz_ev X ax Sx (rz_i A)) (h2 : rz_ev M am Sm (rz_i C)) (hP : ∀ x Sx1 y Sm1, A x Sx1 → C y Sm1 → P x Sx1 y Sm1) : PCi X M ax am Sx Sm P := PCi_of (fun K hK => rz_useI h1 (fun x Sx1 hA => hK x Sx1 (rz_useI h2 (fun y Sm1 hC => hP x Sx1 y Sm1 hA hC))))
/-- the DISK as both have it: bits, guard, ID -/
def Dk (B : Nat → Nat → Bool) (pr : Bool) (id : Option (Nat × Nat)) (Sx Sm : rz_S) : Prop := XRs Sx B ∧ MRs Sm B ∧ Sx.2 6 0 = nI pr.toNat ∧ Sm.2 116 1 = nI pr.toNat ∧ IDx Sx id ∧ IDm Sm id ∧ (∀ t, 1 ≤ t → t ≤ 12 → Sx.2 (11 + 2 * t) 0 = nI (sct t)) ∧ ∀ k, k < 64 → Sm.1 122 k = 0
/-- a fault x has been told: the class's STATUS, the reference's places of it -/
def flt (x : Nat) (Sx Sm : rz_S) : Prop := ∃ ft fs : Nat, stIs Sx x ft fs ∧ Sm.2 116 4 = nI ft ∧ Sm.2 116 5 = nI fs
theorem XRs_rF {S S1 : rz_S} {B : Nat → Nat → Bool} {a : Nat} (ha : ¬ (8 ≤ a ∧ a ≤ 36)) (hX : XRs S B) (hf : rF a S S1) : XRs S1 B := by
  intro u u1 u2
  obtain ⟨a1, a2⟩ := hX u u1 u2
  refine ⟨a1, (hf.2 _ 1 (by omega) (by omega) (by omega)).trans a2.1, fun j hj => ?_⟩
  rw [hf.1 _ (by omega) (by omega)]
  exact a2.2 j hj
theorem MRs_kFa {S S1 : rz_S} {B : Nat → Nat → Bool} {a at0 : Nat} (ha : ¬ (117 ≤ a ∧ a ≤ 121)) (hX : MRs S B) (hf : kFa a at0 S S1) : MRs S1 B := by
  intro u u1 u2
  obtain ⟨a1, a2⟩ := hX u u1 u2
  refine ⟨a1, fun j hj => ?_⟩
  rw [hf.1 117 (by omega) (by omega)]
  exact a2 j hj
/-- which numbers a JOB tells -/
theorem JR_c {B : Nat → Nat → Bool} {id : Option (Nat × Nat)} {t s xc ft fs : Nat} {id1 : Option (Nat × Nat)} {d : Nat → Nat} (h : JR B id t s xc ft fs id1 d) : xc = 0 ∨ xc = 1 ∨ 20 ≤ xc ∧ xc ≤ 26 ∨ xc = 28 ∨ 30 ≤ xc ∧ xc ≤ 34 ∨ 60 ≤ xc ∧ xc ≤ 66 ∨ 70 ≤ xc ∧ xc ≤ 74 := by
  rcases h.2 with ⟨_, a, _⟩ | ⟨i, j, _, _, _, ⟨_, a⟩ | ⟨_, _, a⟩ | ⟨p, n, _, _, _, _, _, a⟩⟩
  · omega
  · omega
  · omega
  · unfold DTp at a
    omega
theorem JW_c {B B' : Nat → Nat → Bool} {pr : Bool} {id : Option (Nat × Nat)} {t s xc ft fs : Nat} {r : Nat → Nat} {id1 : Option (Nat × Nat)} (h : JW B pr id t s r xc ft fs id1 B') : xc = 0 ∨ xc = 1 ∨ 20 ≤ xc ∧ xc ≤ 26 ∨ xc = 28 ∨ 30 ≤ xc ∧ xc ≤ 34 ∨ 60 ≤ xc ∧ xc ≤ 66 ∨ 70 ≤ xc ∧ xc ≤ 74 := by
  rcases h with ⟨_, a, _⟩ | ⟨_, _, ⟨_, a, _⟩ | ⟨i, j, b', _, _, _, ⟨_, a, _⟩ | ⟨_, _, a, _⟩ | ⟨p, _, _, _, _, _, ⟨_, a⟩ | ⟨_, _, _, _, _, _, _, ⟨_, a⟩ | ⟨_, a⟩⟩⟩, _⟩⟩
  · omega
  · omega
  · omega
  · omega
  · omega
  · omega
  · omega
/-- READ -/
def rdP (B : Nat → Nat → Bool) (pr : Bool) (a a' at0 : Nat) (Sx Sm : rz_S) (x : Int32) (Sx1 : rz_S) (y : Int32) (Sm1 : rz_S) : Prop := x = y ∧ ∃ xc id', x = nI xc ∧ (xc < 100 ∧ (xc = 0 ∨ xc = 1 ∨ 20 ≤ xc ∧ xc ≤ 26 ∨ xc = 28 ∨ 30 ≤ xc ∧ xc ≤ 34 ∨ 60 ≤ xc ∧ xc ≤ 66 ∨ 70 ≤ xc ∧ xc ≤ 74)) ∧ Dk B pr id' Sx1 Sm1 ∧ rF a Sx Sx1 ∧ kFa a' at0 Sm Sm1 ∧
  (xc = 0 → (∃ d : Nat → Nat, ∀ k, k < 64 → Sx1.1 a k = nI (d k) ∧ Sm1.1 a' (at0 + k) = nI (d k) ∧ d k < 256) ∧ ∀ z, Sx1.2 3 z = Sx.2 3 z) ∧ (xc ≠ 0 → Sx1.1 a = Sx.1 a ∧ Sm1.1 a' = Sm.1 a' ∧ flt xc Sx1 Sm1 ∧ Sx1.2 3 3 = Sx.2 3 3)
theorem PR_read {B : Nat → Nat → Bool} {pr : Bool} {id : Option (Nat × Nat)} {Sx Sm : rz_S} {t s a a' at0 na : Nat} (hD : Dk B pr id Sx Sm) (h1 : 1 ≤ t) (h2 : t ≤ 12) (hs : s < 256) (ha : rz_T[a]? = some (.inl (0, 64))) (ha1 : ¬ (8 ≤ a ∧ a ≤ 36)) (ha' : rz_T[a']? = some (.inl (0, na))) (ha'1 : ¬ (117 ≤ a' ∧ a' ≤ 122)) (hat : at0 + 64 ≤ na) (hna : na ≤ 1000) : PCi mDisk_readBlock mM_readBlock [.ref 6, .int (nI t), .int (nI s), .ref a] [.ref 116, .int (nI t), .int (nI s), .ref a', .int (nI at0)] Sx Sm (rdP B pr a a' at0 Sx Sm) := by
  obtain ⟨d1, d2, d3, d4, d5, d6, d7, d8⟩ := hD
  refine PCi_two (c_Disk_readBlock d1 d5 h1 h2 hs ha ha1) (c_M_readBlock d2 d6 h1 h2 hs ha' (by omega) hat hna) (fun x Sx1 y Sm1 hA hC => ?_)
  obtain ⟨xa, ft, fs, id1, d, j1, rfl, l1, i1, f1, o1, n1⟩ := hA
  obtain ⟨xb, ft', fs', id2, d', j2, rfl, l2, i2, f2, o2, n2⟩ := hC
  obtain ⟨rfl, rfl, rfl, rfl, ed⟩ := JR_u j1 j2
  refine ⟨rfl, xa, id1, rfl, ⟨l1, JR_c j1⟩, ⟨XRs_rF ha1 d1 f1, MRs_kFa (by omega) d2 f2, (f1.2 6 0 (by omega) (by omega) (by omega)).trans d3, (f2.2.2 116 1 (by omega)).trans d4, i1, i2, fun t t1 t2 => (f1.2 _ 0 (by omega) (by omega) (by omega)).trans (d7 t t1 t2), fun k hk => by rw [f2.1 122 (by omega) (by omega)]; exact d8 k hk⟩, f1, f2, fun z => ⟨⟨d, fun k hk => ?_⟩, (o1 z).2⟩, fun z => ⟨(n1 z).1, (n2 z).1, ⟨ft, fs, (n1 z).2.1, (n2 z).2.1, (n2 z).2.2⟩, (n1 z).2.2⟩⟩
  exact ⟨((o1 z).1 k hk).1, by rw [ed z k hk]; exact (o2 z k hk).1, ((o1 z).1 k hk).2⟩
/-- WRITE -/
def wrP (pr : Bool) (t : Nat) (Sx Sm : rz_S) (x : Int32) (Sx1 : rz_S) (y : Int32) (Sm1 : rz_S) : Prop := x = y ∧ ∃ xc id' B', x = nI xc ∧ (xc < 100 ∧ (xc = 0 ∨ xc = 1 ∨ 20 ≤ xc ∧ xc ≤ 26 ∨ xc = 28 ∨ 30 ≤ xc ∧ xc ≤ 34 ∨ 60 ≤ xc ∧ xc ≤ 66 ∨ 70 ≤ xc ∧ xc ≤ 74)) ∧ Dk B' pr id' Sx1 Sm1 ∧ rF (12 + 2 * t) Sx Sx1 ∧ wM t Sm Sm1 ∧ (xc = 0 → ∀ z, Sx1.2 3 z = Sx.2 3 z) ∧ (xc ≠ 0 → flt xc Sx1 Sm1 ∧ Sx1.2 3 3 = Sx.2 3 3)
theorem PR_write {B : Nat → Nat → Bool} {pr : Bool} {id : Option (Nat × Nat)} {Sx Sm : rz_S} {t s a a' at0 na : Nat} {rr : Nat → Nat} (hD : Dk B pr id Sx Sm) (h1 : 1 ≤ t) (h2 : t ≤ 12) (hs : s < 256) (ha : rz_T[a]? = some (.inl (0, 64))) (ha1 : ¬ (8 ≤ a ∧ a ≤ 36)) (ha' : rz_T[a']? = some (.inl (0, na))) (ha'1 : ¬ (117 ≤ a' ∧ a' ≤ 122)) (hat : at0 + 64 ≤ na) (hna : na ≤ 1000) (hr : ∀ k, k < 64 → Sx.1 a k = nI (rr k) ∧ Sm.1 a' (at0 + k) = nI (rr k) ∧ rr k < 256) : PCi mDisk_writeBlock mM_writeBlock [.ref 6, .int (nI t), .int (nI s), .ref a] [.ref 116, .int (nI t), .int (nI s), .ref a', .int (nI at0)] Sx Sm (wrP pr t Sx Sm) := by
  obtain ⟨d1, d2, d3, d4, d5, d6, d7, d8⟩ := hD
  refine PCi_two (c_Disk_writeBlock d1 d5 d3 h1 h2 hs ha ha1 (fun k hk => ⟨(hr k hk).1, (hr k hk).2.2⟩)) (c_M_writeBlock d2 d6 d4 h1 h2 hs ha' (by omega) hat hna (fun k hk => (hr k hk).2)) (fun x Sx1 y Sm1 hA hC => ?_)
  obtain ⟨xa, ft, fs, id1, B1, j1, rfl, l1, i1, r1, f1, o1, n1⟩ := hA
  obtain ⟨xb, ft', fs', id2, B2, j2, rfl, l2, i2, r2, f2, n2⟩ := hC
  obtain ⟨rfl, rfl, rfl, rfl, rfl⟩ := JW_u j1 j2
  exact ⟨rfl, xa, id1, B1, rfl, ⟨l1, JW_c j1⟩, ⟨r1, r2, (f1.2 6 0 (by omega) (by omega) (by omega)).trans d3, (f2.2.2 116 1 (by omega)).trans d4, i1, i2, fun t t1 t2 => (f1.2 _ 0 (by omega) (by omega) (by omega)).trans (d7 t t1 t2), fun k hk => by rw [f2.1 122 (by omega) (by omega)]; exact d8 k hk⟩, f1, f2, o1, fun z => ⟨⟨ft, fs, (n1 z).1, (n2 z).1, (n2 z).2⟩, (n1 z).2⟩⟩
