/-! SCRATCH ends (6): how often at one place -/
section CT
noncomputable def iv (P : Prop) : Nat := @ite Nat P (Classical.propDecidable P) 1 0
theorem iv_t {P : Prop} (h : P) : iv P = 1 := if_pos h
theorem iv_f {P : Prop} (h : ¬ P) : iv P = 0 := if_neg h
theorem iv_le {P : Prop} : iv P ≤ 1 := by
  by_cases h : P
  · rw [iv_t h]; exact Nat.le_refl _
  · rw [iv_f h]; exact Nat.zero_le _
noncomputable def cnt (P : Nat → Prop) : Nat → Nat
  | 0 => 0
  | n + 1 => cnt P n + iv (P n)
theorem cnt_or {P Q R : Nat → Prop} : ∀ n, (∀ i, i < n → P i → Q i ∨ R i) → cnt P n ≤ cnt Q n + cnt R n := by
  intro n
  induction n with
  | zero => intro _; exact Nat.zero_le _
  | succ n ih =>
    intro h
    have a := ih (fun i hi => h i (by omega))
    show cnt P n + iv (P n) ≤ cnt Q n + iv (Q n) + (cnt R n + iv (R n))
    by_cases p : P n
    · rcases h n (by omega) p with q | q
      · rw [iv_t p, iv_t q]; omega
      · rw [iv_t p, iv_t q]; omega
    · rw [iv_f p]; omega
theorem cnt_0 {P : Nat → Prop} : ∀ n, (∀ i, i < n → ¬ P i) → cnt P n = 0 := by
  intro n
  induction n with
  | zero => intro _; rfl
  | succ n ih =>
    intro h
    show cnt P n + iv (P n) = 0
    rw [ih (fun i hi => h i (by omega)), iv_f (h n (by omega))]
theorem cnt_mono {P Q : Nat → Prop} (n : Nat) (h : ∀ i, i < n → P i → Q i) : cnt P n ≤ cnt Q n := by
  have := cnt_or (P := P) (Q := Q) (R := fun _ => False) n (fun i hi p => Or.inl (h i hi p))
  rw [cnt_0 (P := fun _ => False) n (fun _ _ z => z)] at this
  exact this
theorem cnt_le {P : Nat → Prop} {n m : Nat} (h : n ≤ m) : cnt P n ≤ cnt P m := by
  induction h with
  | refl => exact Nat.le_refl _
  | step q ih =>
    rename_i m
    show cnt P n ≤ cnt P m + iv (P m)
    omega
theorem cnt_1 {P : Nat → Prop} : ∀ n, (∀ i j, i < j → j < n → P i → P j → False) → cnt P n ≤ 1 := by
  intro n
  induction n with
  | zero => intro _; exact Nat.zero_le _
  | succ n ih =>
    intro h
    show cnt P n + iv (P n) ≤ 1
    by_cases p : P n
    · rw [cnt_0 n (fun i hi q => h i n hi (by omega) q p)]
      have := iv_le (P := P n)
      omega
    · have := ih (fun i j a c => h i j a (by omega))
      rw [iv_f p]; omega
theorem cnt_p {P : Nat → Prop} {n : Nat} (h : 0 < cnt P n) : ∃ i, i < n ∧ P i := by
  by_cases q : ∃ i, i < n ∧ P i
  · exact q
  · rw [cnt_0 n (fun i hi p => q ⟨i, hi, p⟩)] at h
    omega
end CT
/-- how many bits of a byte are 1 -/
def pc (v : Nat) : Nat := v % 2 + v / 2 % 2 + v / 4 % 2 + v / 8 % 2 + v / 16 % 2 + v / 32 % 2 + v / 64 % 2 + v / 128 % 2
theorem pc_12 : ∀ v, v < 13 → 1 ≤ v → 1 ≤ pc v ∧ pc v ≤ 3 := by decide
/-- what was found ahead -/
def Fnd (N : Nat) (h b : Nat → Bool) (e : Nat) (r0 : Nat → Nat) (q0 : Nat) : Prop := q0 < N ∧ hdr b N h q0 ∧ (∀ p', p' < q0 → ¬ hdr b N h p') ∧ Rd b N q0 r0 ∧ r0 (2 + 16 * e) ≠ 0 ∧ 1 ≤ r0 (3 + 16 * e) ∧ r0 (3 + 16 * e) ≤ 12
/-- a track while J ENTRIES are scratched: the MAP is written at 2 i, an ENTRY at 2 i + 1 -/
def TE (N S J : Nat) (H b : Nat → Nat → Bool) (ev : Nat → Prop) (sc ps en : Nat → Nat) (rd wr : Nat → Nat → Nat) : Prop := TK N H b (2 * J) ev sc ps rd wr ∧
  (∀ i, i < J → ev (2 * i + 1) → en i < 4 ∧ (∀ k, k < 64 → wr (2 * i + 1) k = if k = 2 + 16 * en i then 0 else rd (2 * i + 1) k) ∧ ∃ q0 r0, Fnd N (H (sc (2 * i + 1))) (b (2 * i)) (en i) r0 q0) ∧
  (∀ i, i < J → ev (2 * i) → sc (2 * i) = 0 ∧ (∀ j, j < J → ev (2 * j)) ∧ (∀ k, k < 64 → (k < 4 ∨ 28 ≤ k) → wr (2 * i) k = rd (2 * i) k) ∧ pc (rd (2 * i) 19) ≤ pc (wr (2 * i) 19) ∧ (wr (2 * i) 18 ≠ rd (2 * i) 18 → pc (rd (2 * i) 19) < pc (wr (2 * i) 19))) ∧
  ∀ τ, τ < 2 * J → ev τ → sc τ < S
def isM (J : Nat) (ev : Nat → Prop) (ps : Nat → Nat) (y : Nat) : Prop := ∃ i, i < J ∧ ev (2 * i) ∧ ps (2 * i) = y
section NB
variable {N S J : Nat} {H b : Nat → Nat → Bool} {ev : Nat → Prop} {sc ps en : Nat → Nat} {rd wr : Nat → Nat → Nat}
theorem par {τ : Nat} (h : τ < 2 * J) : ∃ m, m < J ∧ (τ = 2 * m ∨ τ = 2 * m + 1) := ⟨τ / 2, by omega, by omega⟩
/-- found again at the same place -/
theorem TF (K : TK N H b (2 * J) ev sc ps rd wr) {i j y q0 e : Nat} {r0 : Nat → Nat} (P : (Nat → Nat) → Prop) (hij : i < j) (hj : j < J) (ei : ev (2 * i + 1)) (ej : ev (2 * j + 1)) (pi : ps (2 * i + 1) = y) (pj : ps (2 * j + 1) = y) (F : Fnd N (H (sc (2 * j + 1))) (b (2 * j)) e r0 q0) (hP : P (wr (2 * i + 1))) (st : ∀ τ, τ < 2 * J → ev τ → ps τ = y → ∀ ρ, (∀ k, k < 64 → rd τ k = ρ k) → P ρ → P (wr τ)) : ∃ ρ, P ρ ∧ ∀ k, k < 64 → r0 k = ρ k := by
  obtain ⟨f1, f2, f3, f4, _⟩ := F
  have hN := K.1
  have Ei := K.2.2.2 (2 * i + 1) (by omega) ei
  have Ej := K.2.2.2 (2 * j + 1) (by omega) ej
  have yN := Ej.2.1
  rw [pj] at yN
  have hj1 := Ej.2.2.1
  rw [pj] at hj1
  have hj0 : hdr (b (2 * j)) N (H (sc (2 * j + 1))) y := T1 K Ej.1 yN (by omega) (by omega) hj1
  have e0 : q0 = y := by
    rcases Nat.lt_trichotomy q0 y with a | a | a
    · exfalso
      have g1 := T1 K Ej.1 f1 (show 2 * i + 1 ≤ 2 * j by omega) (by omega) f2
      have g2 := T1 K Ej.1 yN (show 2 * i + 1 ≤ 2 * j by omega) (by omega) hj0
      have g3 := Ei.2.2.1
      rw [pi] at g3
      exact Ei.2.2.2.1 q0 (by omega) (hdr_tr g1 (hdr_same g2 g3))
    · exact a
    · exact absurd hj0 (f3 y a)
  subst e0
  have hb := K.2.1 (2 * j) (by omega)
  obtain ⟨w, ρ, HM, Pρ⟩ := T2 K P (τ0 := 2 * i + 1) (by omega) ei hP (2 * j) (by omega) (by omega) _ Ej.1 (by rw [pi]; exact hj0) (fun τ b1 b2 b3 b4 => st τ (by omega) b3 (by rw [b4, pi]))
  rw [pi] at HM
  exact ⟨ρ, Pρ, Rd_u (Rd_N hb (by omega) hj0 (Rd_N hb (by omega) hj0 f4)) HM.2.2.2.1⟩
/-- a TYPE that is 0 stays 0 -/
theorem st0 (T : TE N S J H b ev sc ps en rd wr) {y e : Nat} (he : e < 4) (hm : ¬ isM J ev ps y ∨ e ≠ 1) : ∀ τ, τ < 2 * J → ev τ → ps τ = y → ∀ ρ : Nat → Nat, (∀ k, k < 64 → rd τ k = ρ k) → ρ (2 + 16 * e) = 0 → wr τ (2 + 16 * e) = 0 := by
  intro τ t1 t2 t3 ρ hρ h0
  obtain ⟨m, m1, m2⟩ := par t1
  rcases m2 with rfl | rfl
  · rw [(T.2.2.1 m m1 t2).2.2.1 (2 + 16 * e) (by omega) ?_, hρ _ (by omega), h0]
    rcases hm with z | z
    · exact absurd ⟨m, m1, t2, t3⟩ z
    · omega
  · rw [(T.2.1 m m1 t2).2.1 (2 + 16 * e) (by omega)]
    by_cases q : 2 + 16 * e = 2 + 16 * en m
    · rw [if_pos q]
    · rw [if_neg q, hρ _ (by omega), h0]
theorem once (T : TE N S J H b ev sc ps en rd wr) {y e : Nat} (he : e < 4) (hm : ¬ isM J ev ps y ∨ e ≠ 1) : cnt (fun i => ev (2 * i + 1) ∧ ps (2 * i + 1) = y ∧ en i = e) J ≤ 1 := by
  refine cnt_1 J (fun i j hij hj hi hj2 => ?_)
  obtain ⟨i1, i2, i3⟩ := hi
  obtain ⟨j1, j2, j3⟩ := hj2
  obtain ⟨_, _, q0, r0, F⟩ := T.2.1 j hj j1
  obtain ⟨_, wi, _⟩ := T.2.1 i (by omega) i1
  obtain ⟨ρ, Pρ, hρ⟩ := TF T.1 (fun ρ => ρ (2 + 16 * e) = 0) hij hj i1 j1 i2 j2 F (by rw [wi _ (by omega), i3, if_pos rfl]) (st0 T he hm)
  have := F.2.2.2.2.1
  rw [j3, hρ _ (by omega)] at this
  exact this Pρ
/-- an ENTRY in the MAP's own block -/
theorem inMap (T : TE N S J H b ev sc ps en rd wr) {y i q0 : Nat} {r0 : Nat → Nat} (hM : isM J ev ps y) (hi : i < J) (ei : ev (2 * i + 1)) (pi : ps (2 * i + 1) = y) (F : Fnd N (H (sc (2 * i + 1))) (b (2 * i)) (en i) r0 q0) : pc (r0 19) ≤ pc (wr (2 * i + 1) 19) := by
  have K := T.1
  have hN := K.1
  obtain ⟨m, m1, m2, m3⟩ := hM
  obtain ⟨f1, f2, f3, f4, _⟩ := F
  have e0 := (T.2.2.1 m m1 m2).2.1 i hi
  have Em := K.2.2.2 (2 * m) (by omega) m2
  have E0 := K.2.2.2 (2 * i) (by omega) e0
  have E1 := K.2.2.2 (2 * i + 1) (by omega) ei
  obtain ⟨s0, _, _, g1, _⟩ := T.2.2.1 i hi e0
  rw [(T.2.2.1 m m1 m2).1] at Em
  rw [s0] at E0
  have hb0 := K.2.1 (2 * i) (by omega)
  have hb1 := K.2.1 (2 * i + 1) (by omega)
  have yN := E1.2.1
  have x1 := E1.2.2.1
  have x2 := Em.2.2.1
  rw [pi] at yN x1
  rw [m3] at x2
  -- the header is the MAP's
  have sm : ∀ k, k < 80 → H (sc (2 * i + 1)) k = H 0 k := by
    by_cases q : 2 * m ≤ 2 * i + 1
    · exact hdr_same (T1 K E1.1 yN q (by omega) x1) x2
    · exact hdr_same x1 (T1 K Em.1 yN (by omega) (by omega) x2)
  have e1 : q0 = ps (2 * i) := by
    rcases Nat.lt_trichotomy q0 (ps (2 * i)) with a | a | a
    · exact absurd (hdr_tr f2 sm) (E0.2.2.2.1 q0 a)
    · exact a
    · exact absurd (hdr_tr E0.2.2.1 (fun k hk => (sm k hk).symm)) (f3 _ a)
  obtain ⟨w, W, HM, k1, k2⟩ := EvA_made hb0 hN E0
  have e2 : y = ps (2 * i) := by
    rcases Nat.lt_trichotomy y (ps (2 * i)) with a | a | a
    · exact absurd (hdr_tr x1 sm) (k2 y a)
    · exact a
    · exact absurd (hdr_tr k1 (fun k hk => (sm k hk).symm)) (E1.2.2.2.1 _ (by rw [pi]; exact a))
  have a1 := Rd_u (r := r0) (by rw [← e1]; exact f4) E0.2.2.2.2.1 19 (by omega)
  have a2 : rd (2 * i + 1) 19 = wr (2 * i) 19 := by
    have R1 := Rd_N hb1 (by omega) x1 E1.2.2.2.2.1
    rw [pi, e2] at R1
    exact Rd_u R1 HM.2.2.2.1 19 (by omega)
  obtain ⟨l4, wi, _⟩ := T.2.1 i hi ei
  rw [wi 19 (by omega), if_neg (by omega), a2, a1]
  exact g1
theorem oncM (T : TE N S J H b ev sc ps en rd wr) {y : Nat} (hM : isM J ev ps y) (c : Nat) : cnt (fun i => ev (2 * i + 1) ∧ ps (2 * i + 1) = y ∧ en i = 1 ∧ ∃ q0 r0, Fnd N (H (sc (2 * i + 1))) (b (2 * i)) (en i) r0 q0 ∧ pc (r0 19) = c) J ≤ 1 := by
  refine cnt_1 J (fun i j hij hj hi hj2 => ?_)
  obtain ⟨i1, i2, i3, q0, r0, F, hc⟩ := hi
  obtain ⟨j1, j2, j3, q0', r0', F', hc'⟩ := hj2
  have a := inMap T hM (by omega) i1 i2 F
  rw [hc] at a
  obtain ⟨_, wi, _⟩ := T.2.1 i (by omega) i1
  obtain ⟨ρ, ⟨P1, P2⟩, hρ⟩ := TF T.1 (fun ρ => c ≤ pc (ρ 19) ∧ (ρ 18 = 0 ∨ c < pc (ρ 19))) hij hj i1 j1 i2 j2 F' ⟨a, Or.inl (by rw [wi 18 (by omega), i3]; exact if_pos rfl)⟩ (fun τ t1 t2 t3 ρ hρ h0 => by
    obtain ⟨h1, h2⟩ := h0
    have e19 := hρ 19 (by omega)
    have e18 := hρ 18 (by omega)
    obtain ⟨m, m1, m2⟩ := par t1
    rcases m2 with rfl | rfl
    · obtain ⟨_, _, _, g1, g2⟩ := T.2.2.1 m m1 t2
      rw [e19] at g1 g2
      rw [e18] at g2
      refine ⟨by omega, ?_⟩
      by_cases q : wr (2 * m) 18 = ρ 18
      · rw [q]; omega
      · exact Or.inr (by have := g2 q; omega)
    · obtain ⟨l4, wm, _⟩ := T.2.1 m m1 t2
      rw [wm 19 (by omega), if_neg (by omega), e19]
      refine ⟨h1, ?_⟩
      rw [wm 18 (by omega)]
      by_cases q : 18 = 2 + 16 * en m
      · rw [if_pos q]; exact Or.inl rfl
      · rw [if_neg q, e18]; exact h2)
  have f := F'.2.2.2.2.1
  rw [j3, hρ _ (by omega)] at f
  rw [hρ 19 (by omega)] at hc'
  rcases P2 with z | z
  · exact f z
  · omega
theorem nM (T : TE N S J H b ev sc ps en rd wr) {y : Nat} (hM : isM J ev ps y) : cnt (fun i => ev (2 * i + 1) ∧ ps (2 * i + 1) = y) J ≤ 6 := by
  have a0 := once T (y := y) (e := 0) (by omega) (Or.inr (by omega))
  have a2 := once T (y := y) (e := 2) (by omega) (Or.inr (by omega))
  have a3 := once T (y := y) (e := 3) (by omega) (Or.inr (by omega))
  have c1 := oncM T hM 1
  have c2 := oncM T hM 2
  have c3 := oncM T hM 3
  have s1 := cnt_or (P := fun i => ev (2 * i + 1) ∧ ps (2 * i + 1) = y) (Q := fun i => ev (2 * i + 1) ∧ ps (2 * i + 1) = y ∧ en i = 0) (R := fun i => ev (2 * i + 1) ∧ ps (2 * i + 1) = y ∧ en i ≠ 0) J (fun i hi h => by
    by_cases q : en i = 0
    · exact Or.inl ⟨h.1, h.2, q⟩
    · exact Or.inr ⟨h.1, h.2, q⟩)
  have s2 := cnt_or (P := fun i => ev (2 * i + 1) ∧ ps (2 * i + 1) = y ∧ en i ≠ 0) (Q := fun i => ev (2 * i + 1) ∧ ps (2 * i + 1) = y ∧ en i = 2) (R := fun i => ev (2 * i + 1) ∧ ps (2 * i + 1) = y ∧ en i ≠ 0 ∧ en i ≠ 2) J (fun i hi h => by
    by_cases q : en i = 2
    · exact Or.inl ⟨h.1, h.2.1, q⟩
    · exact Or.inr ⟨h.1, h.2.1, h.2.2, q⟩)
  have s3 := cnt_or (P := fun i => ev (2 * i + 1) ∧ ps (2 * i + 1) = y ∧ en i ≠ 0 ∧ en i ≠ 2) (Q := fun i => ev (2 * i + 1) ∧ ps (2 * i + 1) = y ∧ en i = 3) (R := fun i => ev (2 * i + 1) ∧ ps (2 * i + 1) = y ∧ en i = 1) J (fun i hi h => by
    have := (T.2.1 i hi h.1).1
    by_cases q : en i = 3
    · exact Or.inl ⟨h.1, h.2.1, q⟩
    · exact Or.inr ⟨h.1, h.2.1, by omega⟩)
  have s4 := cnt_or (P := fun i => ev (2 * i + 1) ∧ ps (2 * i + 1) = y ∧ en i = 1) (Q := fun i => ev (2 * i + 1) ∧ ps (2 * i + 1) = y ∧ en i = 1 ∧ ∃ q0 r0, Fnd N (H (sc (2 * i + 1))) (b (2 * i)) (en i) r0 q0 ∧ pc (r0 19) = 1) (R := fun i => ev (2 * i + 1) ∧ ps (2 * i + 1) = y ∧ en i = 1 ∧ ∃ q0 r0, Fnd N (H (sc (2 * i + 1))) (b (2 * i)) (en i) r0 q0 ∧ (pc (r0 19) = 2 ∨ pc (r0 19) = 3)) J (fun i hi h => by
    obtain ⟨_, _, q0, r0, F⟩ := T.2.1 i hi h.1
    have l := F.2.2.2.2.2
    rw [h.2.2, show 3 + 16 * 1 = 19 from rfl] at l
    have := pc_12 (r0 19) (by omega) (by omega)
    by_cases q : pc (r0 19) = 1
    · exact Or.inl ⟨h.1, h.2.1, h.2.2, q0, r0, F, q⟩
    · exact Or.inr ⟨h.1, h.2.1, h.2.2, q0, r0, F, by omega⟩)
  have s5 := cnt_or (P := fun i => ev (2 * i + 1) ∧ ps (2 * i + 1) = y ∧ en i = 1 ∧ ∃ q0 r0, Fnd N (H (sc (2 * i + 1))) (b (2 * i)) (en i) r0 q0 ∧ (pc (r0 19) = 2 ∨ pc (r0 19) = 3)) (Q := fun i => ev (2 * i + 1) ∧ ps (2 * i + 1) = y ∧ en i = 1 ∧ ∃ q0 r0, Fnd N (H (sc (2 * i + 1))) (b (2 * i)) (en i) r0 q0 ∧ pc (r0 19) = 2) (R := fun i => ev (2 * i + 1) ∧ ps (2 * i + 1) = y ∧ en i = 1 ∧ ∃ q0 r0, Fnd N (H (sc (2 * i + 1))) (b (2 * i)) (en i) r0 q0 ∧ pc (r0 19) = 3) J (fun i hi h => by
    obtain ⟨h1, h2, h3, q0, r0, F, z | z⟩ := h
    · exact Or.inl ⟨h1, h2, h3, q0, r0, F, z⟩
    · exact Or.inr ⟨h1, h2, h3, q0, r0, F, z⟩)
  omega
/-- n times at a place, and the least of its ENTRIES -/
theorem nE (T : TE N S J H b ev sc ps en rd wr) {y : Nat} (hM : ¬ isM J ev ps y) : cnt (fun i => ev (2 * i + 1) ∧ ps (2 * i + 1) = y) J = 0 ∨ ∃ e i, e < 4 ∧ cnt (fun i => ev (2 * i + 1) ∧ ps (2 * i + 1) = y) J + e ≤ 4 ∧ i < J ∧ ev (2 * i + 1) ∧ ps (2 * i + 1) = y ∧ en i = e := by
  have a : ∀ e, e < 4 → cnt (fun i => ev (2 * i + 1) ∧ ps (2 * i + 1) = y ∧ en i = e) J ≤ 1 := fun e he => once T he (Or.inl hM)
  have a0 := a 0 (by omega)
  have a1 := a 1 (by omega)
  have a2 := a 2 (by omega)
  have a3 := a 3 (by omega)
  have s1 := cnt_or (P := fun i => ev (2 * i + 1) ∧ ps (2 * i + 1) = y) (Q := fun i => ev (2 * i + 1) ∧ ps (2 * i + 1) = y ∧ en i = 0) (R := fun i => ev (2 * i + 1) ∧ ps (2 * i + 1) = y ∧ en i ≠ 0) J (fun i hi h => by
    by_cases q : en i = 0
    · exact Or.inl ⟨h.1, h.2, q⟩
    · exact Or.inr ⟨h.1, h.2, q⟩)
  have s2 := cnt_or (P := fun i => ev (2 * i + 1) ∧ ps (2 * i + 1) = y ∧ en i ≠ 0) (Q := fun i => ev (2 * i + 1) ∧ ps (2 * i + 1) = y ∧ en i = 1) (R := fun i => ev (2 * i + 1) ∧ ps (2 * i + 1) = y ∧ en i ≠ 0 ∧ en i ≠ 1) J (fun i hi h => by
    by_cases q : en i = 1
    · exact Or.inl ⟨h.1, h.2.1, q⟩
    · exact Or.inr ⟨h.1, h.2.1, h.2.2, q⟩)
  have s3 := cnt_or (P := fun i => ev (2 * i + 1) ∧ ps (2 * i + 1) = y ∧ en i ≠ 0 ∧ en i ≠ 1) (Q := fun i => ev (2 * i + 1) ∧ ps (2 * i + 1) = y ∧ en i = 2) (R := fun i => ev (2 * i + 1) ∧ ps (2 * i + 1) = y ∧ en i = 3) J (fun i hi h => by
    have := (T.2.1 i hi h.1).1
    by_cases q : en i = 2
    · exact Or.inl ⟨h.1, h.2.1, q⟩
    · exact Or.inr ⟨h.1, h.2.1, by omega⟩)
  have go : ∀ e, e < 4 → cnt (fun i => ev (2 * i + 1) ∧ ps (2 * i + 1) = y) J + e ≤ 4 → 0 < cnt (fun i => ev (2 * i + 1) ∧ ps (2 * i + 1) = y ∧ en i = e) J → ∃ e i, e < 4 ∧ cnt (fun i => ev (2 * i + 1) ∧ ps (2 * i + 1) = y) J + e ≤ 4 ∧ i < J ∧ ev (2 * i + 1) ∧ ps (2 * i + 1) = y ∧ en i = e := fun e he hn hp => by
    obtain ⟨i, i1, i2, i3, i4⟩ := cnt_p hp
    exact ⟨e, i, he, hn, i1, i2, i3, i4⟩
  by_cases p0 : 0 < cnt (fun i => ev (2 * i + 1) ∧ ps (2 * i + 1) = y ∧ en i = 0) J
  · exact Or.inr (go 0 (by omega) (by omega) p0)
  · by_cases p1 : 0 < cnt (fun i => ev (2 * i + 1) ∧ ps (2 * i + 1) = y ∧ en i = 1) J
    · exact Or.inr (go 1 (by omega) (by omega) p1)
    · by_cases p2 : 0 < cnt (fun i => ev (2 * i + 1) ∧ ps (2 * i + 1) = y ∧ en i = 2) J
      · exact Or.inr (go 2 (by omega) (by omega) p2)
      · by_cases p3 : 0 < cnt (fun i => ev (2 * i + 1) ∧ ps (2 * i + 1) = y ∧ en i = 3) J
        · exact Or.inr (go 3 (by omega) (by omega) p3)
        · exact Or.inl (by omega)
end NB
