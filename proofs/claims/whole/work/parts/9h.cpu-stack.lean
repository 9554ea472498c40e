/-! the second processor: the stack; what each code leaves behind -/
def z6O (r : Nat → Int32) (G : Int32 → Int32) : Prop := (byt (r 0) ∧ byt (r 1) ∧ byt (r 2) ∧ byt (r 3) ∧ byt (r 4)) ∧ (∃ n, n < 2048 ∧ r 5 = nI n) ∧ ∀ a, byt (G a)
def z6P (n c w : Nat) (Sx Sm : rz_S) (r : Nat → Int32) : Prop := ∃ S1 S2 Sm1 r' G', ∃ k : Nat, rzx mProcessor_locate [.ref 37, .int (nI w)] Sx none S1 ∧ rzx mProcessor_perform [.ref 37, .int (nI c), .int (nI w)] S1 none S2 ∧ rzx mM_step [.ref 116, .int (nI n)] Sm (some (.int 1)) Sm1 ∧ z6X S2 r' G' ∧ z6M (rz_uI Sm1 116 80 (Sm1.2 116 80 &&& 2047)) r' G' ∧ z6O r' G' ∧ r' 6 = r 6 + nI k ∧ (2 ≤ k ∧ k ≤ 9) ∧ z6fX Sx S2 ∧ z6fM Sm Sm1
theorem z6mk {n c w k : Nat} {Sx Sm : rz_S} {r R1 R2 : Nat → Int32} {G1 : Int32 → Int32} (h1 : rz_ev mProcessor_locate [.ref 37, .int (nI w)] Sx (rz_v (fun S1 => rz_ev mProcessor_perform [.ref 37, .int (nI c), .int (nI w)] S1 (rz_v (fun S2 => z6X S2 R1 G1 ∧ z6fX Sx S2))))) (h2 : rz_ev mM_step [.ref 116, .int (nI n)] Sm (rz_i (z6Q Sm R2 G1))) (e0 : R2 0 = R1 0) (e1 : R2 1 = R1 1) (e2 : R2 2 = R1 2) (e3 : R2 3 = R1 3) (e4 : R2 4 = R1 4) (e5 : R2 5 &&& 2047 = R1 5) (e6 : R2 6 = R1 6) (hO : z6O R1 G1) (hk : R1 6 = r 6 + nI k) (hk2 : 2 ≤ k ∧ k ≤ 9) : z6P n c w Sx Sm r := by
  obtain ⟨_, S1, a1, rfl, a2⟩ := rzx_ev h1
  obtain ⟨_, S2, b1, rfl, b2, b3⟩ := rzx_ev a2
  obtain ⟨_, Sm1, c1, _, rfl, rfl, c2, c3⟩ := rzx_ev h2
  refine ⟨S1, S2, Sm1, R1, G1, k, a1, b1, c1, b2, ?_, hO, hk, hk2, b3, c3⟩
  have e : Sm1.2 116 80 = R2 5 := c2.1 5 (by omega)
  rw [e]
  exact z6M_e (z6M_u (k := 5) c2) (c7 e0 e1 e2 e3 e4 e5 e6)
theorem z6n_m (x : Int32) : z6n x &&& 2047 = z6n x := by
  unfold z6n
  rw [Int32.and_assoc]
  exact congrArg (fun z => (x + 1) &&& z) (by decide)
theorem z6_m2 (x : Int32) : (x &&& 2047) &&& 2047 = x &&& 2047 := by
  rw [Int32.and_assoc]
  exact congrArg (fun z => x &&& z) (by decide)
theorem z6an_m {h : Nat} {r : Nat → Int32} : z6an h r &&& 2047 = z6an h r := by
  unfold z6an
  split <;> exact z6n_m _
theorem z6_pc (x : Int32) : ∃ n, n < 2048 ∧ x &&& 2047 = nI n := pk_andE x (m := 2047) 11 (by decide)
theorem z6an_pc {h : Nat} {r : Nat → Int32} : ∃ n, n < 2048 ∧ z6an h r = nI n := by
  rw [← z6an_m]
  exact z6_pc _
theorem z6s_b {G : Int32 → Int32} {a v : Int32} (hG : ∀ a, byt (G a)) : ∀ b, byt (z6s G a v b) := fun b => by
  unfold z6s
  split
  · exact byt_255 v
  · exact hG b
theorem z6s_8 {G : Int32 → Int32} {a v : Int32} : z6s G a (v &&& 255) = z6s G a v := by
  unfold z6s
  rw [byt_8 (byt_255 v)]
theorem z6ap_b {p a v : Int32} (hp : byt p) : byt (z6ap p a v) := by
  unfold z6ap
  split
  · exact z6k_b (z6f_b (z6f_b hp (byt_lit (n := 64) (by omega))) (byt_lit (n := 1) (by omega)))
  · exact z6f_b (z6f_b (z6f_b (z6f_b hp (byt_lit (n := 2) (by omega))) (byt_lit (n := 128) (by omega))) (byt_lit (n := 64) (by omega))) (byt_lit (n := 1) (by omega))
theorem z6aa_b {p a v : Int32} : byt (z6aa p a v) := by
  unfold z6aa
  split <;> exact byt_255 _
theorem z6sp_b {p a v : Int32} (hp : byt p) : byt (z6sp p a v) := z6k_b (z6f_b (z6f_b hp (byt_lit (n := 64) (by omega))) (byt_lit (n := 1) (by omega)))
theorem z6sa_b {p a v : Int32} : byt (z6sa p a v) := by
  unfold z6sa
  split <;> exact byt_255 _
theorem z6cp_b {p a v : Int32} (hp : byt p) : byt (z6cp p a v) := z6k_b (z6f_b hp (byt_lit (n := 1) (by omega)))
theorem z6bp_b {p a v : Int32} (hp : byt p) : byt (z6bp p a v) := z6f_b (z6f_b (z6f_b hp (byt_lit (n := 2) (by omega))) (byt_lit (n := 128) (by omega))) (byt_lit (n := 64) (by omega))
theorem z6hp_b {c : Nat} {p v : Int32} (hp : byt p) : byt (z6hp c p v) := z6k_b (z6hf_b hp)
theorem z6uv_O {c : Nat} {r : Nat → Int32} {G : Int32 → Int32} {v : Int32} (hc : 1 ≤ c ∧ c ≤ 12) (h : z6O r G) : z6O (z6uv c r v) G ∧ z6uv c r v 5 = r 5 ∧ z6uv c r v 6 = r 6 := by
  obtain ⟨⟨b0, b1, b2, b3, b4⟩, b5, bG⟩ := h
  have hs : c = 1 ∨ c = 2 ∨ c = 3 ∨ c = 4 ∨ c = 5 ∨ c = 6 ∨ c = 7 ∨ c = 8 ∨ c = 9 ∨ c = 10 ∨ c = 11 ∨ c = 12 := by omega
  rcases hs with rfl | rfl | rfl | rfl | rfl | rfl | rfl | rfl | rfl | rfl | rfl | rfl
  · exact ⟨⟨⟨byt_255 _, b1, b2, b3, z6k_b b4⟩, b5, bG⟩, rfl, rfl⟩
  · exact ⟨⟨⟨b0, byt_255 _, b2, b3, z6k_b b4⟩, b5, bG⟩, rfl, rfl⟩
  · exact ⟨⟨⟨b0, b1, byt_255 _, b3, z6k_b b4⟩, b5, bG⟩, rfl, rfl⟩
  · exact ⟨⟨⟨z6aa_b, b1, b2, b3, z6ap_b b4⟩, b5, bG⟩, rfl, rfl⟩
  · exact ⟨⟨⟨z6sa_b, b1, b2, b3, z6sp_b b4⟩, b5, bG⟩, rfl, rfl⟩
  · exact ⟨⟨⟨byt_255 _, b1, b2, b3, z6k_b b4⟩, b5, bG⟩, rfl, rfl⟩
  · exact ⟨⟨⟨byt_255 _, b1, b2, b3, z6k_b b4⟩, b5, bG⟩, rfl, rfl⟩
  · exact ⟨⟨⟨byt_255 _, b1, b2, b3, z6k_b b4⟩, b5, bG⟩, rfl, rfl⟩
  · exact ⟨⟨⟨b0, b1, b2, b3, z6cp_b b4⟩, b5, bG⟩, rfl, rfl⟩
  · exact ⟨⟨⟨b0, b1, b2, b3, z6cp_b b4⟩, b5, bG⟩, rfl, rfl⟩
  · exact ⟨⟨⟨b0, b1, b2, b3, z6cp_b b4⟩, b5, bG⟩, rfl, rfl⟩
  · exact ⟨⟨⟨b0, b1, b2, b3, z6bp_b b4⟩, b5, bG⟩, rfl, rfl⟩
section FAM
variable {Sx Sm : rz_S} {r : Nat → Int32} {G : Int32 → Int32}
theorem z6rt_b {h : Nat} : 2 ≤ z6rt h ∧ z6rt h ≤ 6 := by
  unfold z6rt
  split <;> omega
theorem z6st_b {h : Nat} : 2 ≤ z6st h ∧ z6st h ≤ 6 := by
  unfold z6st
  split <;> omega
theorem z6ct_b {h : Nat} : 2 ≤ z6ct h ∧ z6ct h ≤ 7 := by
  unfold z6ct
  split <;> omega
theorem f6_read {n h c T : Nat} (hh : h ≤ 8) (hc : 1 ≤ c ∧ c ≤ 12) (hT : T = z6rt h) (hX : z6X Sx (z6t T r) G) (hO : z6O r G) (h2 : rz_ev mM_step [.ref 116, .int (nI n)] Sm (rz_i (z6Q Sm (z6rd h c (z6t (z6rt h) r) G) G))) : z6P n c (h + 2) Sx Sm r := by
  subst hT
  have hO2 := hO
  obtain ⟨⟨b0, b1, b2, b3, b4⟩, b5, bG⟩ := hO
  obtain ⟨o1, o2, o3⟩ := z6uv_O (r := upd (upd (z6t (z6rt h) r) 5 (z6an h (z6t (z6rt h) r))) 6 ((z6t (z6rt h) r) 6 + z6al h (z6t (z6rt h) r) G)) (v := G (z6ad h (z6t (z6rt h) r) G)) hc ⟨⟨b0, b1, b2, b3, b4⟩, z6an_pc, bG⟩
  have ht := z6rt_b (h := h)
  have h1 := x6_read hh hc hX bG b4 b0
  have m5 : z6rd h c (z6t (z6rt h) r) G 5 &&& 2047 = z6rd h c (z6t (z6rt h) r) G 5 := by
    have : z6rd h c (z6t (z6rt h) r) G 5 = z6an h (z6t (z6rt h) r) := o2
    rw [this]
    exact z6an_m
  have m6 : z6rd h c (z6t (z6rt h) r) G 6 = (r 6 + nI (z6rt h)) + z6al h (z6t (z6rt h) r) G := o3
  rcases z6al_b (h := h) (r := z6t (z6rt h) r) (G := G) with z | z
  · exact z6mk (k := z6rt h) h1 h2 rfl rfl rfl rfl rfl m5 rfl o1 (by rw [m6, z]; exact Int32.add_zero _) (by omega)
  · exact z6mk (k := z6rt h + 1) h1 h2 rfl rfl rfl rfl rfl m5 rfl o1 (by rw [m6, z, Int32.add_assoc, nI_1]) (by omega)
theorem f6_store {n h c T : Nat} {v : Int32} (hh : h ≤ 8) (hc : 13 ≤ c ∧ c ≤ 15) (hT : T = z6st h) (hv : v = r (c - 13)) (hX : z6X Sx (z6t T r) G) (hO : z6O r G) (h2 : rz_ev mM_step [.ref 116, .int (nI n)] Sm (rz_i (z6Q Sm (upd (z6t (z6st h) r) 5 (z6an h r)) (z6s G (z6ad h r G) v)))) : z6P n c (h + 2) Sx Sm r := by
  subst hT hv
  obtain ⟨⟨b0, b1, b2, b3, b4⟩, b5, bG⟩ := hO
  have h1 := x6_store hh hc hX bG
  have ht := z6st_b (h := h)
  have ev : z6t (z6st h) r (c - 13) = r (c - 13) := pk_un (by omega)
  rw [ev] at h1
  exact z6mk (k := z6st h) h1 h2 rfl rfl rfl rfl rfl z6an_m rfl ⟨⟨b0, b1, b2, b3, b4⟩, z6an_pc, z6s_b bG⟩ rfl (by omega)
theorem f6_change {n h c T : Nat} (hh : h ≤ 8) (hc : 16 ≤ c ∧ c ≤ 21) (hT : T = z6ct h) (hX : z6X Sx (z6t T r) G) (hO : z6O r G) (h2 : rz_ev mM_step [.ref 116, .int (nI n)] Sm (rz_i (z6Q Sm (upd (upd (z6t (z6ct h) r) 5 (z6an h r)) 4 (z6hp c (r 4) (G (z6ad h r G)))) (z6s G (z6ad h r G) (z6hv c (r 4) (G (z6ad h r G)) &&& 255))))) : z6P n c (h + 2) Sx Sm r := by
  subst hT
  obtain ⟨⟨b0, b1, b2, b3, b4⟩, b5, bG⟩ := hO
  have h1 := x6_change hh hc hX bG b4
  have ht := z6ct_b (h := h)
  exact z6mk (k := z6ct h) h1 h2 rfl rfl rfl rfl rfl z6an_m rfl ⟨⟨b0, b1, b2, b3, z6hp_b b4⟩, z6an_pc, z6s_b bG⟩ rfl (by omega)
theorem pc_m {n : Nat} {x : Int32} (hn : n < 2048) (h : x = nI n) : x &&& 2047 = x := by
  rw [h, pk_andN (by omega) 11 (by decide), Nat.mod_eq_of_lt (by omega)]
theorem f6_acc {n c : Nat} (hc : 16 ≤ c ∧ c ≤ 21) (hX : z6X Sx (z6t 2 r) G) (hO : z6O r G) (h2 : rz_ev mM_step [.ref 116, .int (nI n)] Sm (rz_i (z6Q Sm (upd (upd (z6t 2 r) 4 (z6hp c (r 4) (r 0))) 0 (z6hv c (r 4) (r 0) &&& 255)) G))) : z6P n c 1 Sx Sm r := by
  obtain ⟨⟨b0, b1, b2, b3, b4⟩, ⟨j, hj, ej⟩, bG⟩ := hO
  exact z6mk (k := 2) (x6_acc hc hX b4) h2 rfl rfl rfl rfl rfl (pc_m hj ej) rfl ⟨⟨byt_255 _, b1, b2, b3, z6hp_b b4⟩, ⟨j, hj, ej⟩, bG⟩ rfl (by omega)
theorem z6mv_O {c : Nat} (hc : 30 ≤ c ∧ c ≤ 47) (h : z6O r G) : z6O (z6mv c r) G ∧ z6mv c r 5 = r 5 ∧ z6mv c r 6 = r 6 := by
  obtain ⟨⟨b0, b1, b2, b3, b4⟩, b5, bG⟩ := h
  have hs : c = 30 ∨ c = 31 ∨ c = 32 ∨ c = 33 ∨ c = 34 ∨ c = 35 ∨ c = 36 ∨ c = 37 ∨ c = 38 ∨ c = 39 ∨ c = 40 ∨ c = 41 ∨ c = 42 ∨ c = 43 ∨ c = 44 ∨ c = 45 ∨ c = 46 ∨ c = 47 := by omega
  have l1 := byt_lit (n := 1) (by omega)
  have l4 := byt_lit (n := 4) (by omega)
  have l8 := byt_lit (n := 8) (by omega)
  have l64 := byt_lit (n := 64) (by omega)
  rcases hs with rfl | rfl | rfl | rfl | rfl | rfl | rfl | rfl | rfl | rfl | rfl | rfl | rfl | rfl | rfl | rfl | rfl | rfl
  · exact ⟨⟨⟨b0, byt_255 _, b2, b3, z6k_b b4⟩, b5, bG⟩, rfl, rfl⟩
  · exact ⟨⟨⟨b0, b1, byt_255 _, b3, z6k_b b4⟩, b5, bG⟩, rfl, rfl⟩
  · exact ⟨⟨⟨byt_255 _, b1, b2, b3, z6k_b b4⟩, b5, bG⟩, rfl, rfl⟩
  · exact ⟨⟨⟨byt_255 _, b1, b2, b3, z6k_b b4⟩, b5, bG⟩, rfl, rfl⟩
  · exact ⟨⟨⟨b0, byt_255 _, b2, b3, z6k_b b4⟩, b5, bG⟩, rfl, rfl⟩
  · exact ⟨⟨⟨b0, b1, b2, b1, b4⟩, b5, bG⟩, rfl, rfl⟩
  · exact ⟨⟨⟨b0, byt_255 _, b2, b3, z6k_b b4⟩, b5, bG⟩, rfl, rfl⟩
  · exact ⟨⟨⟨b0, b1, byt_255 _, b3, z6k_b b4⟩, b5, bG⟩, rfl, rfl⟩
  · exact ⟨⟨⟨b0, byt_255 _, b2, b3, z6k_b b4⟩, b5, bG⟩, rfl, rfl⟩
  · exact ⟨⟨⟨b0, b1, byt_255 _, b3, z6k_b b4⟩, b5, bG⟩, rfl, rfl⟩
  · exact ⟨⟨⟨b0, b1, b2, b3, (show byt (z6f (r 4) 1 0) from z6f_b b4 l1)⟩, b5, bG⟩, rfl, rfl⟩
  · exact ⟨⟨⟨b0, b1, b2, b3, (show byt (z6f (r 4) 1 1) from z6f_b b4 l1)⟩, b5, bG⟩, rfl, rfl⟩
  · exact ⟨⟨⟨b0, b1, b2, b3, (show byt (z6f (r 4) 4 0) from z6f_b b4 l4)⟩, b5, bG⟩, rfl, rfl⟩
  · exact ⟨⟨⟨b0, b1, b2, b3, (show byt (z6f (r 4) 4 1) from z6f_b b4 l4)⟩, b5, bG⟩, rfl, rfl⟩
  · exact ⟨⟨⟨b0, b1, b2, b3, (show byt (z6f (r 4) 64 0) from z6f_b b4 l64)⟩, b5, bG⟩, rfl, rfl⟩
  · exact ⟨⟨⟨b0, b1, b2, b3, (show byt (z6f (r 4) 8 0) from z6f_b b4 l8)⟩, b5, bG⟩, rfl, rfl⟩
  · exact ⟨⟨⟨b0, b1, b2, b3, (show byt (z6f (r 4) 8 1) from z6f_b b4 l8)⟩, b5, bG⟩, rfl, rfl⟩
  · exact ⟨⟨⟨b0, b1, b2, b3, b4⟩, b5, bG⟩, rfl, rfl⟩
theorem f6_move {n c : Nat} (hc : 30 ≤ c ∧ c ≤ 47) (hX : z6X Sx (z6t 2 r) G) (hO : z6O r G) (h2 : rz_ev mM_step [.ref 116, .int (nI n)] Sm (rz_i (z6Q Sm (z6mv c (z6t 2 r)) G))) : z6P n c 0 Sx Sm r := by
  have hO1 : z6O (z6t 2 r) G := hO
  obtain ⟨o1, o2, o3⟩ := z6mv_O hc hO1
  obtain ⟨⟨b0, b1, b2, b3, b4⟩, ⟨j, hj, ej⟩, bG⟩ := hO
  exact z6mk (k := 2) (x6_move hc hX b4) h2 rfl rfl rfl rfl rfl (by rw [o2]; exact pc_m hj ej) rfl o1 o3 (by omega)
theorem f6_branch {n c : Nat} (hc : 22 ≤ c ∧ c ≤ 29) (hX : z6X Sx (z6t 2 r) G) (hO : z6O r G) (h2 : rz_ev mM_step [.ref 116, .int (nI n)] Sm (rz_i (z6Q Sm (z6br (z6tk c (r 4)) (z6t 2 r) G) G))) : z6P n c 11 Sx Sm r := by
  obtain ⟨⟨b0, b1, b2, b3, b4⟩, b5, bG⟩ := hO
  have h1 := x6_branch hc hX bG
  have e4 : z6t 2 r 4 = r 4 := rfl
  rw [e4] at h1
  unfold z6br at h1 h2
  by_cases z : z6tk c (r 4) = 0
  · rw [if_pos z] at h1 h2
    exact z6mk (k := 2) h1 h2 rfl rfl rfl rfl rfl (z6n_m _) rfl ⟨⟨b0, b1, b2, b3, b4⟩, z6_pc _, bG⟩ rfl (by omega)
  · rw [if_neg z] at h1 h2
    by_cases y : (z6n (z6t 2 r 5) + (G (z6t 2 r 5)).toInt8.toInt32) &&& (-256) = z6n (z6t 2 r 5) &&& (-256)
    · rw [if_pos y] at h1 h2
      exact z6mk (k := 3) h1 h2 rfl rfl rfl rfl rfl (z6_m2 _) rfl ⟨⟨b0, b1, b2, b3, b4⟩, z6_pc _, bG⟩ (show (r 6 + 2) + 1 = r 6 + 3 from by rw [Int32.add_assoc]; rfl) (by omega)
    · rw [if_neg y] at h1 h2
      exact z6mk (k := 4) h1 h2 rfl rfl rfl rfl rfl (z6_m2 _) rfl ⟨⟨b0, b1, b2, b3, b4⟩, z6_pc _, bG⟩ (show (r 6 + 2) + 2 = r 6 + 4 from by rw [Int32.add_assoc]; rfl) (by omega)
/-! the class's stack -/
theorem ps6 {S : rz_S} {c w : Nat} (hc : 48 ≤ c ∧ c ≤ 55) {K : rz_S → Prop} (hk : rz mProcessor_stack 0 [(0, .ref 37), (1, .int (nI c))] [] S (rz_v K)) : rz_ev mProcessor_perform [.ref 37, .int (nI c), .int (nI w)] S (rz_v K) := by
  show rz _ 0 [(0, .ref 37), (1, .int (nI c)), (2, .int (nI w))] [] _ _
  exact p_Processor_perform_0 ⟨fun _ => ⟨fun _ => ⟨fun _ => ⟨fun _ => ⟨fun _ => ⟨fun _ => hk, fun q => absurd (nI_lt (a := 47) (by omega) (by omega)) q⟩, fun q => absurd (nI_lt (a := 39) (by omega) (by omega)) q⟩, fun q => absurd (nI_lt (a := 29) (by omega) (by omega)) q⟩, fun q => absurd (nI_lt (a := 21) (by omega) (by omega)) q⟩, fun q => absurd (nI_lt (a := 15) (by omega) (by omega)) q⟩, fun q => absurd (nI_lt (a := 12) (by omega) (by omega)) q⟩
theorem c6_pushX {S : rz_S} (v : Int32) (hX : z6X S r G) (h3 : byt (r 3)) : rz_ev mProcessor_push [.ref 37, .int v] S (rz_v (fun S1 => z6X S1 (upd r 3 ((r 3 - 1) &&& 255)) (z6s G (256 + r 3) v) ∧ S1.2 37 8 = S.2 37 8 ∧ z6fX S S1)) := by
  have e3 : S.2 37 3 = r 3 := hX.1 3 (by omega)
  refine rz_toV (c6_push v (e3 ▸ h3)) ?_
  rw [e3]
  exact ⟨z6X_u (z6X_s hX), rfl, z6fX_u (z6fX_m (z6fX_r S))⟩
theorem d6_pushM {S : rz_S} (v : Int32) (hX : z6M S r G) : rz_ev mM_push [.ref 116, .int v] S (rz_v (fun S1 => z6M S1 (upd r 3 ((r 3 - 1) &&& 255)) (z6s G (256 + r 3) v) ∧ z6fM S S1)) := by
  have e3 : S.2 116 78 = r 3 := hX.1 3 (by omega)
  refine rz_toV (d6_push v) ?_
  rw [e3]
  exact ⟨z6M_u (k := 3) (z6M_s hX), z6fM_u (z6fM_m (z6fM_r S)) (by omega)⟩
theorem y6_t2 {S S0 : rz_S} {K : Int32 → rz_S → Prop} (T : Nat) (hX : z6M S r G) (hf : z6fM S0 S) (w : ∀ S2, z6M S2 (z6t T r) G → z6fM S0 S2 → K 1 S2) : rz_ev mM_takes2 [.ref 116, .int (nI T)] S (rz_i (fun y S2 => (y = 0 ∨ y = 1) ∧ K y S2)) := by
  have e6 : S.2 116 81 = r 6 := hX.1 6 (by omega)
  refine rz_toI (d6_takes2 _) ⟨Or.inr rfl, w _ ?_ (z6fM_u hf (by omega))⟩
  rw [e6]
  exact z6M_u (k := 6) hX
theorem f6_push {n c : Nat} {v : Int32} (hc : c = 48 ∧ v = r 0 ∨ c = 49 ∧ v = r 4 ||| 48) (hX : z6X Sx (z6t 3 r) G) (hO : z6O r G) (h2 : rz_ev mM_step [.ref 116, .int (nI n)] Sm (rz_i (z6Q Sm (upd (z6t 3 r) 3 ((r 3 - 1) &&& 255)) (z6s G (256 + r 3) v)))) : z6P n c 0 Sx Sm r := by
  obtain ⟨⟨b0, b1, b2, b3, b4⟩, ⟨j, hj, ej⟩, bG⟩ := hO
  refine z6mk (k := 3) (R1 := upd (z6t 3 r) 3 ((r 3 - 1) &&& 255)) (G1 := z6s G (256 + r 3) v) ?_ h2 rfl rfl rfl rfl rfl (pc_m hj ej) rfl ⟨⟨b0, b1, b2, byt_255 _, b4⟩, ⟨j, hj, ej⟩, z6s_b bG⟩ rfl (by omega)
  refine rz_useV (l6_imp (w := 0) (by omega) hX) (fun S1 hL => ?_)
  obtain ⟨l1, l4⟩ := hL
  have e0 : S1.2 37 0 = r 0 := l1.1 0 (by omega)
  have e4 : S1.2 37 4 = r 4 := l1.1 4 (by omega)
  rcases hc with ⟨rfl, rfl⟩ | ⟨rfl, rfl⟩
  · refine ps6 (by omega) (p_Processor_stack_0 ⟨fun c => absurd c (by decide), fun _ => ?_, fun c => absurd c (by decide), fun c => absurd c (by decide), fun c => absurd c (by decide), fun c => absurd c (by decide), fun c => absurd c (by decide), fun c => absurd c (by decide), fun c => absurd c (by decide)⟩)
    rw [e0]
    exact rz_useV (c6_pushX _ l1 b3) (fun S2 q => ⟨q.1, z6fX_t l4 q.2.2⟩)
  · refine ps6 (by omega) (p_Processor_stack_0 ⟨fun c => absurd c (by decide), fun c => absurd c (by decide), fun _ => ?_, fun c => absurd c (by decide), fun c => absurd c (by decide), fun c => absurd c (by decide), fun c => absurd c (by decide), fun c => absurd c (by decide), fun c => absurd c (by decide)⟩)
    rw [e4]
    exact rz_useV (c6_pushX _ l1 b3) (fun S2 q => ⟨q.1, z6fX_t l4 q.2.2⟩)
/-- what lies next on the stack -/
def z6u (r : Nat → Int32) : Int32 := (r 3 + 1) &&& 255
def z6v (r : Nat → Int32) (G : Int32 → Int32) : Int32 := G (256 + z6u r)
theorem z6_49 : ∀ n, n < 256 → nI n &&& (-49) = nI n &&& 207 := by decide +kernel
theorem z6_p49 {x : Int32} (h : byt x) : x &&& (-49) = x &&& 207 := by
  obtain ⟨n, hn, rfl⟩ := h
  exact z6_49 n hn
theorem f6_pla {n : Nat} (hX : z6X Sx (z6t 4 r) G) (hO : z6O r G) (h2 : rz_ev mM_step [.ref 116, .int (nI n)] Sm (rz_i (z6Q Sm (upd (upd (upd (z6t 4 r) 3 (z6u r)) 4 (z6k (r 4) (z6v r G))) 0 (z6v r G &&& 255)) G))) : z6P n 50 0 Sx Sm r := by
  obtain ⟨⟨b0, b1, b2, b3, b4⟩, ⟨j, hj, ej⟩, bG⟩ := hO
  refine z6mk (k := 4) (R1 := upd (upd (upd (z6t 4 r) 3 (z6u r)) 4 (z6k (r 4) (z6v r G))) 0 (z6v r G &&& 255)) ?_ h2 rfl rfl rfl rfl rfl (pc_m hj ej) rfl ⟨⟨byt_255 _, b1, b2, byt_255 _, z6k_b b4⟩, ⟨j, hj, ej⟩, bG⟩ rfl (by omega)
  refine rz_useV (l6_imp (w := 0) (by omega) hX) (fun S1 hL => ?_)
  obtain ⟨l1, l4⟩ := hL
  have e4 : S1.2 37 4 = r 4 := l1.1 4 (by omega)
  have e4' : (rz_uI S1 37 3 (z6u r)).2 37 4 = r 4 := e4
  refine ps6 (by omega) (p_Processor_stack_0 ⟨fun c => absurd c (by decide), fun c => absurd c (by decide), fun c => absurd c (by decide), fun _ => rz_toI (c6_pull l1) (rz_toI (c6_marked _ (show byt ((rz_uI S1 37 3 (z6u r)).2 37 4) from e4' ▸ b4)) ?_), fun c => absurd c (by decide), fun c => absurd c (by decide), fun c => absurd c (by decide), fun c => absurd c (by decide), fun c => absurd c (by decide)⟩)
  have e4'' : (rz_uI S1 37 3 ((z6t 4 r 3 + 1) &&& 255)).2 37 4 = r 4 := e4
  rw [e4'']
  exact ⟨z6X_u (z6X_u (z6X_u l1)), z6fX_u (z6fX_u (z6fX_u l4))⟩
theorem f6_plp {n : Nat} (hX : z6X Sx (z6t 4 r) G) (hO : z6O r G) (h2 : rz_ev mM_step [.ref 116, .int (nI n)] Sm (rz_i (z6Q Sm (upd (upd (z6t 4 r) 3 (z6u r)) 4 ((z6v r G &&& 207) ||| (r 4 &&& 48))) G))) : z6P n 51 0 Sx Sm r := by
  obtain ⟨⟨b0, b1, b2, b3, b4⟩, ⟨j, hj, ej⟩, bG⟩ := hO
  refine z6mk (k := 4) (R1 := upd (upd (z6t 4 r) 3 (z6u r)) 4 ((z6v r G &&& 207) ||| (r 4 &&& 48))) ?_ h2 rfl rfl rfl rfl rfl (pc_m hj ej) rfl ⟨⟨b0, b1, b2, byt_255 _, byt_or (byt_and (bG _)) (byt_and b4)⟩, ⟨j, hj, ej⟩, bG⟩ rfl (by omega)
  refine rz_useV (l6_imp (w := 0) (by omega) hX) (fun S1 hL => ?_)
  obtain ⟨l1, l4⟩ := hL
  have e4 : S1.2 37 4 = r 4 := l1.1 4 (by omega)
  refine ps6 (by omega) (p_Processor_stack_0 ⟨fun c => absurd c (by decide), fun c => absurd c (by decide), fun c => absurd c (by decide), fun c => absurd c (by decide), fun _ => rz_toI (c6_pull l1) ?_, fun c => absurd c (by decide), fun c => absurd c (by decide), fun c => absurd c (by decide), fun c => absurd c (by decide)⟩)
  have e4'' : (rz_uI S1 37 3 ((z6t 4 r 3 + 1) &&& 255)).2 37 4 = r 4 := e4
  rw [e4'', z6_p49 (bG _)]
  exact ⟨z6X_u (z6X_u l1), z6fX_u (z6fX_u l4)⟩
theorem f6_jmp {n : Nat} (hX : z6X Sx (z6t 3 r) G) (hO : z6O r G) (h2 : rz_ev mM_step [.ref 116, .int (nI n)] Sm (rz_i (z6Q Sm (upd (z6t 3 r) 5 (z6ad 4 r G)) G))) : z6P n 52 6 Sx Sm r := by
  obtain ⟨⟨b0, b1, b2, b3, b4⟩, b5, bG⟩ := hO
  refine z6mk (k := 3) (R1 := upd (upd (z6t 3 r) 5 (z6an 4 r)) 5 (z6ad 4 r G &&& 2047)) ?_ h2 rfl rfl rfl rfl rfl rfl rfl ⟨⟨b0, b1, b2, b3, b4⟩, z6_pc _, bG⟩ rfl (by omega)
  refine rz_useV (c6_locate (h := 4) (by omega) hX bG) (fun S1 hL => ?_)
  obtain ⟨l1, l2, l3, l4⟩ := hL
  refine ps6 (by omega) (p_Processor_stack_0 ⟨fun c => absurd c (by decide), fun c => absurd c (by decide), fun c => absurd c (by decide), fun c => absurd c (by decide), fun c => absurd c (by decide), fun _ => ?_, fun c => absurd c (by decide), fun c => absurd c (by decide), fun c => absurd c (by decide)⟩)
  rw [l2]
  exact ⟨z6X_u l1, z6fX_u l4⟩
theorem z6_pgi (x y : Int32) (G : Int32 → Int32) {S : rz_S} (hX : z6X S r G) : G ((x &&& 65280) ||| (y &&& 255)) = G ((x &&& (-256)) ||| (y &&& 255)) := by
  have e : ((x &&& 65280) ||| (y &&& 255)) &&& 2047 = ((x &&& (-256)) ||| (y &&& 255)) &&& 2047 := by
    apply b_ext
    intro i hi
    have h : ∀ i, i < 32 → (bt 65280 i && bt 2047 i) = (bt (-256) i && bt 2047 i) := by decide +kernel
    have h3 := h i hi
    rw [b_and, b_and, b_or, b_or, b_and x, b_and x, Bool.and_or_distrib_right, Bool.and_or_distrib_right, Bool.and_assoc, Bool.and_assoc, h3]
  rw [← hX.2, ← hX.2, e]
theorem f6_jmi {n : Nat} (hX : z6X Sx (z6t 5 r) G) (hO : z6O r G) (h2 : rz_ev mM_step [.ref 116, .int (nI n)] Sm (rz_i (z6Q Sm (upd (z6t 5 r) 5 (z6w (G (z6ad 4 r G)) (G ((z6ad 4 r G &&& (-256)) ||| ((z6ad 4 r G + 1) &&& 255))))) G))) : z6P n 52 12 Sx Sm r := by
  obtain ⟨⟨b0, b1, b2, b3, b4⟩, b5, bG⟩ := hO
  refine z6mk (k := 5) (R1 := upd (upd (z6t 5 r) 5 (z6an 4 r)) 5 (z6w (G (z6ad 4 r G)) (G ((z6ad 4 r G &&& (-256)) ||| ((z6ad 4 r G + 1) &&& 255))) &&& 2047)) ?_ h2 rfl rfl rfl rfl rfl rfl rfl ⟨⟨b0, b1, b2, b3, b4⟩, z6_pc _, bG⟩ rfl (by omega)
  have hX9 : z6X (rz_uI Sx 37 9 0) (z6t 5 r) G := z6X_o hX (by omega)
  show rz _ 0 [(0, .ref 37), (1, .int (nI 12))] [] _ _
  refine p_Processor_locate_0 ⟨fun c => absurd c (by decide), fun c => absurd c (by decide), fun c => absurd c (by decide), fun c => absurd c (by decide), fun c => absurd c (by decide), fun c => absurd c (by decide), fun c => absurd c (by decide), fun c => absurd c (by decide), fun c => absurd c (by decide), fun c => absurd c (by decide), fun c => absurd c (by decide), fun _ => rz_toI (c6_fetchTwo hX9) (rz_toI (c6_get (z6X_u hX9) _) (rz_toI (c6_get (z6X_u hX9) _) ?_))⟩
  refine ps6 (by omega) (p_Processor_stack_0 ⟨fun c => absurd c (by decide), fun c => absurd c (by decide), fun c => absurd c (by decide), fun c => absurd c (by decide), fun c => absurd c (by decide), fun _ => ?_, fun c => absurd c (by decide), fun c => absurd c (by decide), fun c => absurd c (by decide)⟩)
  rw [rz_uI_s]
  refine ⟨z6X_e (z6X_u (z6X_o (z6X_u hX9) (by omega))) (c7 rfl rfl rfl rfl rfl ?_ rfl), z6fX_u (z6fX_u (z6fX_u (z6fX_u (z6fX_r Sx))))⟩
  show z6w (G (z6ad 4 r G)) (G ((z6ad 4 r G &&& 65280) ||| ((z6ad 4 r G + 1) &&& 255))) &&& 2047 = _
  rw [z6_pgi _ _ G hX]
  rfl
theorem f6_jsr {n : Nat} (hX : z6X Sx (z6t 6 r) G) (hO : z6O r G) (h2 : rz_ev mM_step [.ref 116, .int (nI n)] Sm (rz_i (z6Q Sm (upd (upd (z6t 6 r) 3 ((((r 3 - 1) &&& 255) - 1) &&& 255)) 5 (z6ad 4 r G)) (z6s (z6s G (256 + r 3) (((z6an 4 r - 1) &&& 2047) >>> ((8 : Int32) &&& 31))) (256 + ((r 3 - 1) &&& 255)) ((z6an 4 r - 1) &&& 2047))))) : z6P n 53 6 Sx Sm r := by
  obtain ⟨⟨b0, b1, b2, b3, b4⟩, b5, bG⟩ := hO
  refine z6mk (k := 6) (R1 := upd (upd (upd (upd (z6t 6 r) 5 (z6an 4 r)) 3 ((r 3 - 1) &&& 255)) 3 ((((r 3 - 1) &&& 255) - 1) &&& 255)) 5 (z6ad 4 r G &&& 2047)) ?_ h2 rfl rfl rfl rfl rfl rfl rfl ⟨⟨b0, b1, b2, byt_255 _, b4⟩, z6_pc _, z6s_b (z6s_b bG)⟩ rfl (by omega)
  refine rz_useV (c6_locate (h := 4) (by omega) hX bG) (fun S1 hL => ?_)
  obtain ⟨l1, l2, l3, l4⟩ := hL
  have e5 : S1.2 37 5 = z6an 4 r := l1.1 5 (by omega)
  refine ps6 (by omega) (p_Processor_stack_0 ⟨fun c => absurd c (by decide), fun c => absurd c (by decide), fun c => absurd c (by decide), fun c => absurd c (by decide), fun c => absurd c (by decide), fun c => absurd c (by decide), fun _ => ?_, fun c => absurd c (by decide), fun c => absurd c (by decide)⟩)
  rw [e5]
  refine rz_useV (c6_pushX _ l1 b3) (fun S2 q => rz_useV (c6_pushX _ q.1 (byt_255 _)) (fun S3 q3 => ?_))
  rw [q3.2.1, q.2.1, l2]
  exact ⟨z6X_u q3.1, z6fX_u (z6fX_t (z6fX_t l4 q.2.2) q3.2.2)⟩
def z6u2 (r : Nat → Int32) : Int32 := (z6u r + 1) &&& 255
def z6u3 (r : Nat → Int32) : Int32 := (z6u2 r + 1) &&& 255
theorem f6_rts {n : Nat} (hX : z6X Sx (z6t 6 r) G) (hO : z6O r G) (h2 : rz_ev mM_step [.ref 116, .int (nI n)] Sm (rz_i (z6Q Sm (upd (upd (z6t 6 r) 3 (z6u2 r)) 5 (z6w (z6v r G) (G (256 + z6u2 r)) + 1)) G))) : z6P n 54 0 Sx Sm r := by
  obtain ⟨⟨b0, b1, b2, b3, b4⟩, b5, bG⟩ := hO
  refine z6mk (k := 6) (R1 := upd (upd (z6t 6 r) 3 (z6u2 r)) 5 ((z6w (z6v r G) (G (256 + z6u2 r)) + 1) &&& 2047)) ?_ h2 rfl rfl rfl rfl rfl rfl rfl ⟨⟨b0, b1, b2, byt_255 _, b4⟩, z6_pc _, bG⟩ rfl (by omega)
  refine rz_useV (l6_imp (w := 0) (by omega) hX) (fun S1 hL => ?_)
  obtain ⟨l1, l4⟩ := hL
  exact ps6 (by omega) (p_Processor_stack_0 ⟨fun c => absurd c (by decide), fun c => absurd c (by decide), fun c => absurd c (by decide), fun c => absurd c (by decide), fun c => absurd c (by decide), fun c => absurd c (by decide), fun c => absurd c (by decide), fun _ => rz_toI (c6_pullTwo l1) ⟨z6X_u (z6X_u l1), z6fX_u (z6fX_u l4)⟩, fun c => absurd c (by decide)⟩)
theorem f6_rti {n : Nat} (hX : z6X Sx (z6t 6 r) G) (hO : z6O r G) (h2 : rz_ev mM_step [.ref 116, .int (nI n)] Sm (rz_i (z6Q Sm (upd (upd (upd (z6t 6 r) 4 ((z6v r G &&& 207) ||| (r 4 &&& 48))) 3 (z6u3 r)) 5 (z6w (G (256 + z6u2 r)) (G (256 + z6u3 r)))) G))) : z6P n 55 0 Sx Sm r := by
  obtain ⟨⟨b0, b1, b2, b3, b4⟩, b5, bG⟩ := hO
  refine z6mk (k := 6) (R1 := upd (upd (upd (z6t 6 r) 4 ((z6v r G &&& 207) ||| (r 4 &&& 48))) 3 (z6u3 r)) 5 (z6w (G (256 + z6u2 r)) (G (256 + z6u3 r)) &&& 2047)) ?_ h2 rfl rfl rfl rfl rfl rfl rfl ⟨⟨b0, b1, b2, byt_255 _, byt_or (byt_and (bG _)) (byt_and b4)⟩, z6_pc _, bG⟩ rfl (by omega)
  refine rz_useV (l6_imp (w := 0) (by omega) hX) (fun S1 hL => ?_)
  obtain ⟨l1, l4⟩ := hL
  have e4 : S1.2 37 4 = r 4 := l1.1 4 (by omega)
  refine ps6 (by omega) (p_Processor_stack_0 ⟨fun c => absurd c (by decide), fun c => absurd c (by decide), fun c => absurd c (by decide), fun c => absurd c (by decide), fun c => absurd c (by decide), fun c => absurd c (by decide), fun c => absurd c (by decide), fun c => absurd c (by decide), fun _ => rz_toI (c6_pull l1) ?_⟩)
  have e4'' : (rz_uI S1 37 3 ((z6t 6 r 3 + 1) &&& 255)).2 37 4 = r 4 := e4
  rw [e4'', z6_p49 (bG _)]
  exact rz_toI (c6_pullTwo (z6X_u (z6X_u l1))) ⟨z6X_e (z6X_u (z6X_u (z6X_u (z6X_u l1)))) (c7 rfl rfl rfl rfl rfl rfl rfl), z6fX_u (z6fX_u (z6fX_u (z6fX_u l4)))⟩
end FAM
