/-! the relation between both, and how a pair of runs becomes one behind the other -/
def RR (k : Nat) (Sx Sm : rz_S) : Prop := ∃ (m M : Nat) (B : Nat → Nat → Bool) (pr : Bool) (id : Option (Nat × Nat)), Tpe m Sx Sm ∧ M + m ≤ 20 * k ∧ Dk B pr id Sx Sm ∧ stT Sx Sm ∧ rpR Sx Sm ∧ ouR Sx Sm ∧ cpR Sx Sm ∧ (∀ c, c < 15 → Chn M c Sx Sm) ∧ (Sx.2 113 1 = 1 ∧ Sx.1 114 0 = 42)
theorem mgA {V W : rz_S} {q : Nat} (h : q < 116) : (mg V W).1 q = V.1 q := if_pos h
theorem mgB {V W : rz_S} {u z : Nat} (h : u < 116) : (mg V W).2 u z = V.2 u z := if_pos h
theorem mgC {V W : rz_S} {q : Nat} (h : 116 ≤ q) : (mg V W).1 q = W.1 q := if_neg (by omega)
theorem mgD {V W : rz_S} {u z : Nat} (h : 116 ≤ u) : (mg V W).2 u z = W.2 u z := if_neg (by omega)
theorem stT_c {V W V' W' : rz_S} (a : V'.1 4 = V.1 4) (b : ∀ z, z ≤ 6 → V'.2 3 z = V.2 3 z) (c : ∀ z, 56 ≤ z → z ≤ 59 → W'.2 116 z = W.2 116 z) (h : stT V W) : stT V' W' := by
  obtain ⟨n, h1, h2, h3, h4, h5, h6⟩ := h
  refine ⟨n, h1, (b 0 (by omega)).trans h2, (c 56 (by omega) (by omega)).trans h3, by rw [b 1 (by omega), c 57 (by omega) (by omega)]; exact h4, by rw [b 2 (by omega), c 58 (by omega) (by omega)]; exact h5, ?_⟩
  rcases h6 with ⟨k1, k2, k3⟩ | ⟨p, k1, k2, k3, k4⟩
  · exact Or.inl ⟨(b 5 (by omega)).trans k1, (b 6 (by omega)).trans k2, (c 59 (by omega) (by omega)).trans k3⟩
  · refine Or.inr ⟨p, ?_, ?_, (b 6 (by omega)).trans k3, (c 59 (by omega) (by omega)).trans k4⟩
    · rw [b 0 (by omega), b 1 (by omega), b 2 (by omega)]; exact k1
    · rw [b 0 (by omega), b 1 (by omega), b 2 (by omega)]
      unfold TB at k2 ⊢
      rw [a, b 5 (by omega)]
      exact k2
theorem rpR_c {V W V' W' : rz_S} (a : V'.1 5 = V.1 5) (b : ∀ z, 8 ≤ z → z ≤ 9 → V'.2 3 z = V.2 3 z) (c : W'.1 149 = W.1 149) (d : ∀ z, 61 ≤ z → z ≤ 62 → W'.2 116 z = W.2 116 z) (h : rpR V W) : rpR V' W' := by
  unfold rpR at h ⊢
  rw [a, b 8 (by omega) (by omega), b 9 (by omega) (by omega), c, d 61 (by omega) (by omega), d 62 (by omega) (by omega)]
  exact h
theorem ouR_c {V W V' W' : rz_S} (a : V'.1 115 = V.1 115) (b : ∀ z, V'.2 0 z = V.2 0 z) (c : W'.1 152 = W.1 152) (d : ∀ z, (z = 67 ∨ z = 68) → W'.2 116 z = W.2 116 z) (h : ouR V W) : ouR V' W' := by
  unfold ouR at h ⊢
  rw [a, b 7, b 8, c, d 67 (by omega), d 68 (by omega)]
  exact h
theorem cpR_c {V W V' W' : rz_S} (a : V'.1 38 = V.1 38) (b : ∀ z, V'.2 37 z = V.2 37 z) (c : W'.1 155 = W.1 155) (d : ∀ z, 75 ≤ z → z ≤ 82 → W'.2 116 z = W.2 116 z) (h : cpR V W) : cpR V' W' := by
  obtain ⟨h1, h2, h3⟩ := h
  refine ⟨fun q => by rw [a, c]; exact h1 q, fun z p q => by rw [b, d _ (by omega) (by omega)]; exact h2 z p q, by rw [b, d _ (by omega) (by omega)]; exact h3⟩
theorem Tpe_c {m : Nat} {V W V' W' : rz_S} (a : V'.1 2 = V.1 2) (b : V'.2 1 1 = V.2 1 1) (c : W'.1 150 = W.1 150) (d : W'.2 116 64 = W.2 116 64) (h : Tpe m V W) : Tpe m V' W' := ⟨h.1, b.trans h.2.1, d.trans h.2.2.1, fun j hj => by rw [a, c]; exact h.2.2.2 j hj⟩
theorem RR_mg {k : Nat} {V W : rz_S} (h : RR k V W) : RR k (mg V W) (mg V W) := by
  obtain ⟨m, M, B, pr, id, h1, h2, h3, h4, h5, h6, h7, h8, h9⟩ := h
  exact ⟨m, M, B, pr, id, Tpe_c (mgA (by omega)) (mgB (by omega)) (mgC (by omega)) (mgD (by omega)) h1, h2, Dk_m (Dk_x h3 (fun q a b => mgA (by omega)) (fun u z hu => mgB (by omega))) (fun q a b => mgC (by omega)) (fun z hz => mgD (by omega)), stT_c (mgA (by omega)) (fun z _ => mgB (by omega)) (fun z _ _ => mgD (by omega)) h4, rpR_c (mgA (by omega)) (fun z _ _ => mgB (by omega)) (mgC (by omega)) (fun z _ _ => mgD (by omega)) h5, ouR_c (mgA (by omega)) (fun z => mgB (by omega)) (mgC (by omega)) (fun z _ => mgD (by omega)) h6, cpR_c (mgA (by omega)) (fun z => mgB (by omega)) (mgC (by omega)) (fun z _ _ => mgD (by omega)) h7, fun c hc => Chn_e hc (fun q a b => mgA (by omega)) (fun u z a b => mgB (by omega)) (fun q a b => mgC (by omega)) (h8 c hc), (mgB (by omega)).trans h9.1, by rw [mgA (by omega)]; exact h9.2⟩
theorem two_of {X M : rx_M} {as : List Value} {S : rz_S} {k : Nat} (hX : rm_mc X = 0 ∧ rm_ms X = 0) (hM : rm_mc M = 0 ∧ rm_ms M = 0) (hax : svs false (.ref 0 :: as)) (ham : svs true (.ref 116 :: as)) (h : PCi X M (.ref 0 :: as) (.ref 116 :: as) S S (fun x V y W => x = y ∧ RR k V W)) : rd_two X M as S (fun S' => RR k S' S') := by
  obtain ⟨x, V, y, W, e1, e2, hxy, hR⟩ := h
  obtain ⟨r, V1, q, W1, g1, g2, x', y', rfl, rfl, hxy', hR'⟩ := PC_two (P := fun r V q W => ∃ x y, r = some (.int x) ∧ q = some (.int y) ∧ x = y ∧ RR k V W) hX hM hax ham ⟨_, V, _, W, e1, e2, x, y, rfl, rfl, hxy, hR⟩
  exact rzx_I g1 (rzx_I g2 ⟨hxy', RR_mg hR'⟩)
theorem svX {as : List Value} (h : ∀ v, v ∈ as → ∃ x, v = .int x) : svs false (.ref 0 :: as) := svs_m (Or.inl (Or.inl ⟨rfl, by omega⟩)) (fun v hv => by
  obtain ⟨x, rfl⟩ := h v hv
  exact trivial)
theorem svM {as : List Value} (h : ∀ v, v ∈ as → ∃ x, v = .int x) : svs true (.ref 116 :: as) := svs_m (Or.inl (Or.inr ⟨rfl, by omega, by omega⟩)) (fun v hv => by
  obtain ⟨x, rfl⟩ := h v hv
  exact trivial)
theorem in1 {a : Int32} : ∀ v, v ∈ [Value.int a] → ∃ x, v = .int x := fun v hv => ⟨a, by cases hv with
  | head => rfl
  | tail _ h => cases h⟩
theorem in2 {a b : Int32} : ∀ v, v ∈ [Value.int a, Value.int b] → ∃ x, v = .int x := fun v hv => by
  cases hv with
  | head => exact ⟨a, rfl⟩
  | tail _ h => exact in1 v h
/-! a call's begin -/
theorem mb_n {S : rz_S} {z : Nat} (h : ¬ (56 ≤ z ∧ z ≤ 59) ∧ z ≠ 61 ∧ z ≠ 62) : (md_begins S).2 116 z = S.2 116 z := by
  unfold md_begins md_sets
  simp (disch := omega) only [uI1, fA2, rz_fA_n, rz_uI_n, rz_fA_s, rz_uI_s, pk_us]
theorem mb_0 {S : rz_S} {z : Nat} (h : z = 61 ∨ z = 62) : (md_begins S).2 116 z = 0 := by
  unfold md_begins
  rcases h with h | h <;> subst h <;> simp (disch := omega) only [uI1, fA2, rz_fA_n, rz_uI_n, rz_fA_s, rz_uI_s, pk_us]
theorem xb_n {S : rz_S} {z : Nat} (h : z = 3 ∨ z = 4 ∨ z = 7) : (st_begin S).2 3 z = S.2 3 z := by
  unfold st_begin st_set
  simp (disch := omega) only [uI1, fA2, rz_fA_n, rz_uI_n, rz_fA_s, rz_uI_s, pk_us]
theorem xb_0 {S : rz_S} {z : Nat} (h : z = 8 ∨ z = 9) : (st_begin S).2 3 z = 0 := by
  unfold st_begin
  rcases h with h | h <;> subst h <;> simp (disch := omega) only [uI1, fA2, rz_fA_n, rz_uI_n, rz_fA_s, rz_uI_s, pk_us]
/-- behind a begin, with a frame of one channel -/
theorem RR_F {k c m M N : Nat} {T U V W : rz_S} {B : Nat → Nat → Bool} {pr : Bool} {id : Option (Nat × Nat)} (hT : Tpe m T U) (hb : N + m ≤ 20 * k) (hMN : M ≤ N) (r8 : T.2 3 8 = 0) (r9 : T.2 3 9 = 0) (r61 : U.2 116 61 = 0) (r62 : U.2 116 62 = 0) (hcp : cpR T U) (hch : ∀ d, d < 15 → Chn M d T U) (hal : T.2 113 1 = 1 ∧ T.1 114 0 = 42) (fx : FX c T V) (fm : FM c U W) (hD : Dk B pr id V W) (hst : stT V W) (hou : ouR V W) (hc : c < 15 → Chn N c V W) : RR k V W := by
  refine ⟨m, N, B, pr, id, Tpe_c (fx.1 2 (by omega)) (fx.2.2.1 1 1 (by omega)) (fm.1 150 (by omega)) (fm.2.2.2.2 64 (by omega)) hT, hb, hD, hst, Or.inl ⟨(fm.2.2.2.2 61 (by omega)).trans r61, (fm.2.2.2.2 62 (by omega)).trans r62, ?_⟩, hou, cpR_c (fx.1 38 (by omega)) (fun z => fx.2.2.1 37 z (by omega)) (fm.1 155 (by omega)) (fun z a b => fm.2.2.2.2 z (by omega)) hcp, fun d hd => ?_, (fx.2.2.1 113 1 (by omega)).trans hal.1, by rw [fx.1 114 (by omega)]; exact hal.2⟩
  · rw [fx.2.2.1 3 8 (by omega), fx.2.2.1 3 9 (by omega), r8, r9]; decide
  · by_cases e : d = c
    · subst e; exact hc hd
    · exact Chn_le hMN (Chn_f hd e fx fm (hch d hd))
