/-! SCRATCH ends (7): how often on one track -/
section LA
variable {N : Nat} {Hs : Nat → Prop}
/-- the last place that is taken below x -/
noncomputable def la (N : Nat) (Hs : Nat → Prop) : Nat → Nat
  | 0 => 0
  | x + 1 => @ite Nat (Hs (x % N)) (Classical.propDecidable _) x (la N Hs x)
theorem la_t {x : Nat} (h : Hs (x % N)) : la N Hs (x + 1) = x := if_pos h
theorem la_f {x : Nat} (h : ¬ Hs (x % N)) : la N Hs (x + 1) = la N Hs x := if_neg h
theorem la_a : ∀ x, (∀ y, y < x → ¬ Hs (y % N)) ∨ (la N Hs x < x ∧ Hs (la N Hs x % N) ∧ ∀ y, la N Hs x < y → y < x → ¬ Hs (y % N)) := by
  intro x
  induction x with
  | zero => exact Or.inl (fun y h => by omega)
  | succ x ih =>
    by_cases h : Hs (x % N)
    · rw [la_t h]
      exact Or.inr ⟨by omega, h, fun y a c => by omega⟩
    · rw [la_f h]
      rcases ih with a | ⟨a, c, d⟩
      · refine Or.inl (fun y hy => ?_)
        by_cases e : y = x
        · subst e; exact h
        · exact a y (by omega)
      · refine Or.inr ⟨by omega, c, fun y y1 y2 => ?_⟩
        by_cases e : y = x
        · subst e; exact h
        · exact d y y1 (by omega)
theorem la_s {y0 : Nat} (hy : y0 < N) (h0 : Hs y0) {x : Nat} (hx : N ≤ x) : la N Hs x < x ∧ x ≤ la N Hs x + N ∧ Hs (la N Hs x % N) ∧ ∀ y, la N Hs x < y → y < x → ¬ Hs (y % N) := by
  rcases la_a (N := N) (Hs := Hs) x with a | ⟨a, c, d⟩
  · exact absurd (by rw [Nat.mod_eq_of_lt hy]; exact h0) (a y0 (by omega))
  · refine ⟨a, Nat.le_of_not_lt fun q => ?_, c, d⟩
    refine d (la N Hs x + N) (by omega) q ?_
    rw [Nat.add_mod_right]
    exact c
theorem la_u {x z : Nat} {y0 : Nat} (hy : y0 < N) (h0 : Hs y0) (hx : N ≤ x) (z1 : z < x) (z2 : Hs (z % N)) (z3 : ∀ y, z < y → y < x → ¬ Hs (y % N)) : la N Hs x = z := by
  obtain ⟨a, _, c, d⟩ := la_s hy h0 hx
  rcases Nat.lt_trichotomy (la N Hs x) z with q | q | q
  · exact absurd z2 (d z q z1)
  · exact q
  · exact absurd c (z3 _ q a)
theorem la_N {x y0 : Nat} (hy : y0 < N) (h0 : Hs y0) (hx : N ≤ x) : la N Hs (x + N) = la N Hs x + N := by
  obtain ⟨a, a2, c, d⟩ := la_s hy h0 hx
  refine la_u hy h0 (by omega) (by omega) (by rw [Nat.add_mod_right]; exact c) (fun y y1 y2 z => ?_)
  refine d (y - N) (by omega) (by omega) ?_
  rw [← Nat.add_mod_right, show y - N + N = y by omega]
  exact z
noncomputable def gp (N : Nat) (Hs : Nat → Prop) (o : Nat) : Nat := N + N + o - la N Hs (N + N + o)
noncomputable def pv (N : Nat) (Hs : Nat → Prop) (o : Nat) : Nat := la N Hs (N + N + o) % N
noncomputable def gz (N : Nat) (Hs : Nat → Prop) (o : Nat) : Nat := if gp N Hs o < 882 then gp N Hs o else 415
theorem gz_s {o : Nat} (h : gp N Hs o < 882) : gz N Hs o = gp N Hs o := if_pos h
theorem gz_l {o : Nat} (h : ¬ gp N Hs o < 882) : gz N Hs o = 415 := if_neg h
end LA
/-- the places of a track -/
def hm (J : Nat) (ev : Nat → Prop) (ps : Nat → Nat) (y : Nat) : Prop := ∃ τ, τ < 2 * J ∧ ev τ ∧ ps τ = y
section SC
variable {N S J : Nat} {H b : Nat → Nat → Bool} {ev : Nat → Prop} {sc ps en : Nat → Nat} {rd wr : Nat → Nat → Nat}
theorem hm_lt (K : TK N H b (2 * J) ev sc ps rd wr) {y : Nat} (h : hm J ev ps y) : y < N := by
  obtain ⟨τ, a, c, d⟩ := h
  rw [← d]
  exact (K.2.2.2 τ a c).2.1
theorem isM_hm {y : Nat} (h : isM J ev ps y) : hm J ev ps y := by
  obtain ⟨i, a, c, d⟩ := h
  exact ⟨2 * i, by omega, c, d⟩
theorem md2 {o : Nat} (h : o < N) : (N + N + o) % N = o := by
  rw [show N + N + o = o + N + N by omega, Nat.add_mod_right, Nat.add_mod_right, Nat.mod_eq_of_lt h]
/-- the place ahead of a place -/
theorem prev (K : TK N H b (2 * J) ev sc ps rd wr) {o : Nat} (h : hm J ev ps o) : hm J ev ps (pv N (hm J ev ps) o) ∧ 0 < gp N (hm J ev ps) o ∧ (o = pv N (hm J ev ps) o + gp N (hm J ev ps) o ∨ o + N = pv N (hm J ev ps) o + gp N (hm J ev ps) o) ∧ adj N (2 * J) ev ps (pv N (hm J ev ps) o) (gp N (hm J ev ps) o) := by
  have oN := hm_lt K h
  obtain ⟨a, a2, c, d⟩ := la_s (Hs := hm J ev ps) (x := N + N + o) oN h (by omega)
  refine ⟨c, by unfold gp; omega, ?_⟩
  have pn : ∀ τ, τ < 2 * J → ev τ → hm J ev ps (ps τ) ∧ ps τ < N := fun τ t1 t2 => ⟨⟨τ, t1, t2, rfl⟩, (K.2.2.2 τ t1 t2).2.1⟩
  unfold gp pv
  by_cases q : la N (hm J ev ps) (N + N + o) < N + N
  · have e : la N (hm J ev ps) (N + N + o) % N = la N (hm J ev ps) (N + N + o) - N := by
      rw [Nat.mod_eq_sub_mod (by omega), Nat.mod_eq_of_lt (by omega)]
    rw [e]
    refine ⟨Or.inr (by omega), fun τ t1 t2 => ?_⟩
    obtain ⟨p1, p2⟩ := pn τ t1 t2
    constructor
    · intro z
      refine d (ps τ + N) (by omega) (by omega) ?_
      rw [Nat.add_mod_right, Nat.mod_eq_of_lt p2]; exact p1
    · intro z
      refine d (ps τ + N + N) (by omega) (by omega) ?_
      rw [Nat.add_mod_right, Nat.add_mod_right, Nat.mod_eq_of_lt p2]; exact p1
  · have e : la N (hm J ev ps) (N + N + o) % N = la N (hm J ev ps) (N + N + o) - N - N := by
      rw [Nat.mod_eq_sub_mod (by omega), Nat.mod_eq_sub_mod (by omega), Nat.mod_eq_of_lt (by omega)]
    rw [e]
    refine ⟨Or.inl (by omega), fun τ t1 t2 => ?_⟩
    obtain ⟨p1, p2⟩ := pn τ t1 t2
    constructor
    · intro z
      refine d (ps τ + N + N) (by omega) (by omega) ?_
      rw [Nat.add_mod_right, Nat.add_mod_right, Nat.mod_eq_of_lt p2]; exact p1
    · intro z
      omega
theorem gz_ge (K : TK N H b (2 * J) ev sc ps rd wr) {o : Nat} (h : hm J ev ps o) : 125 ≤ gz N (hm J ev ps) o := by
  by_cases q : gp N (hm J ev ps) o < 882
  · rw [gz_s q]
    obtain ⟨⟨τ, t1, t2, t3⟩, g0, al, ad⟩ := prev K h
    obtain ⟨τq, _, fe⟩ := FE_ex τ t1 t2 t3
    obtain ⟨τp, p1, p2, p3⟩ := h
    obtain ⟨k, c, rp, _, _, k1, k2, k3, _⟩ := T5 K (fun _ => True) fe al g0 q ad p1 p2 p3 trivial (fun _ _ _ _ _ _ _ => trivial)
    by_cases k83 : k ≤ 83
    · rcases k3 k83 with ⟨a1, a2⟩ | ⟨a1, a2⟩ <;> omega
    · omega
  · rw [gz_l q]; omega
theorem star (T : TE N S J H b ev sc ps en rd wr) {o : Nat} (h : hm J ev ps o) : 160 * cnt (fun i => ev (2 * i + 1) ∧ ps (2 * i + 1) = o) J ≤ gz N (hm J ev ps) o + gz N (hm J ev ps) (pv N (hm J ev ps) o) + 100 + 610 * iv (isM J ev ps o) + 290 * iv (isM J ev ps (pv N (hm J ev ps) o)) := by
  have K := T.1
  have go := gz_ge K h
  obtain ⟨hq, g0, al, ad⟩ := prev K h
  have gq := gz_ge K hq
  by_cases m1 : isM J ev ps o
  · have := nM T m1
    rw [iv_t m1]
    omega
  · rcases nE T m1 with z | ⟨e, i, e4, ne, i1, i2, i3, i4⟩
    · rw [z]; omega
    · by_cases m2 : isM J ev ps (pv N (hm J ev ps) o)
      · rw [iv_t m2]; omega
      · by_cases q1 : gp N (hm J ev ps) o < 882
        · by_cases q2 : gp N (hm J ev ps) (pv N (hm J ev ps) o) < 882
          · rw [gz_s q1, gz_s q2]
            rw [gz_s q1] at go
            rw [gz_s q2] at gq
            obtain ⟨hl, g0', al', ad'⟩ := prev K hq
            obtain ⟨τ, t1, t2, t3⟩ := hq
            obtain ⟨τq, _, fe⟩ := FE_ex τ t1 t2 t3
            obtain ⟨τ', t1', t2', t3'⟩ := hl
            obtain ⟨τl, _, fe'⟩ := FE_ex τ' t1' t2' t3'
            obtain ⟨_, wi, _⟩ := T.2.1 i i1 i2
            obtain ⟨k, c, rp, o1, o2, k1, k2, k3, ct⟩ := T5 K (fun ρ => ρ (2 + 16 * e) = 0) fe al g0 q1 ad (show 2 * i + 1 < 2 * J by omega) i2 i3 (by rw [wi _ (by omega), i4, if_pos rfl]) (st0 T e4 (Or.inl m1))
            by_cases k83 : k ≤ 83
            · rcases k3 k83 with ⟨a1, a2⟩ | ⟨a1, a2⟩
              · -- aligned groups
                by_cases X : 4 * (k / 5) + 17 + 16 * e < 64
                · have r2 := C6a (m := k / 5) o1 (by omega) e4 o2 X (ct k83)
                  have stX : ∀ τ, τ < 2 * J → ev τ → ps τ = pv N (hm J ev ps) o → ∀ ρ : Nat → Nat, (∀ k, k < 64 → rd τ k = ρ k) → ρ (4 * (k / 5) + 17 + 16 * e) % 16 = 2 → wr τ (4 * (k / 5) + 17 + 16 * e) % 16 = 2 := by
                    intro τ t1 t2 t3 ρ hρ h0
                    obtain ⟨m, n1, n2⟩ := par t1
                    rcases n2 with rfl | rfl
                    · exact absurd ⟨m, n1, t2, t3⟩ m2
                    · rw [(T.2.1 m n1 t2).2.1 _ X, if_neg (by omega), hρ _ X]; exact h0
                  obtain ⟨f1, f2, f3, f4⟩ := fe
                  obtain ⟨k', c', rq, o1', o2', k1', k2', k3', ct'⟩ := T5 K (fun ρ => ρ (4 * (k / 5) + 17 + 16 * e) % 16 = 2) fe' al' g0' q2 ad' f1 f2 f3 (stX τq f1 f2 f3 (rd τq) (fun _ _ => rfl) r2) stX
                  by_cases k83' : k' ≤ 83
                  · have l5 := k3' k83'
                    have := C6b o1' (by omega) X o2' (ct' k83')
                    have e4' : e = 0 ∨ e = 1 ∨ e = 2 ∨ e = 3 := by omega
                    rcases e4' with rfl | rfl | rfl | rfl <;> omega
                  · omega
                · have e4' : e = 0 ∨ e = 1 ∨ e = 2 ∨ e = 3 := by omega
                  rcases e4' with rfl | rfl | rfl | rfl <;> omega
              · have := C5 o1 a1 e4 o2 (ct k83)
                omega
            · omega
          · rw [gz_l q2]; omega
        · rw [gz_l q1]; omega
/-- round the track -/
theorem scan (T : TE N S J H b ev sc ps en rd wr) {y0 : Nat} (hy : hm J ev ps y0) : ∀ o, o ≤ N → 160 * cnt (fun i => ev (2 * i + 1) ∧ ps (2 * i + 1) < o) J + gz N (hm J ev ps) (pv N (hm J ev ps) o) + 934 * cnt (fun y => hm J ev ps y ∧ 882 ≤ gp N (hm J ev ps) y) o + 290 * iv (isM J ev ps (pv N (hm J ev ps) o)) + 2 * la N (hm J ev ps) (N + N) ≤ 2 * la N (hm J ev ps) (N + N + o) + 100 * cnt (hm J ev ps) o + 900 * cnt (isM J ev ps) o + gz N (hm J ev ps) (pv N (hm J ev ps) 0) + 290 * iv (isM J ev ps (pv N (hm J ev ps) 0)) ∧ cnt (fun i => ev (2 * i + 1) ∧ ps (2 * i + 1) < o) J ≤ 4 * cnt (hm J ev ps) o + 2 * cnt (isM J ev ps) o ∧ 757 * cnt (fun y => hm J ev ps y ∧ 882 ≤ gp N (hm J ev ps) y) o + 125 * cnt (hm J ev ps) o + la N (hm J ev ps) (N + N) ≤ la N (hm J ev ps) (N + N + o) := by
  have K := T.1
  have y0N := hm_lt K hy
  intro o
  induction o with
  | zero =>
    intro _
    rw [cnt_0 J (fun i _ z => by omega), show ∀ P, cnt P 0 = 0 from fun _ => rfl, show ∀ P, cnt P 0 = 0 from fun _ => rfl, show ∀ P, cnt P 0 = 0 from fun _ => rfl, show la N (hm J ev ps) (N + N + 0) = la N (hm J ev ps) (N + N) from rfl]
    omega
  | succ o ih =>
    intro ho
    obtain ⟨i1, i2, i3⟩ := ih (by omega)
    have cF : cnt (hm J ev ps) (o + 1) = cnt (hm J ev ps) o + iv (hm J ev ps o) := rfl
    have cR : cnt (fun y => hm J ev ps y ∧ 882 ≤ gp N (hm J ev ps) y) (o + 1) = cnt (fun y => hm J ev ps y ∧ 882 ≤ gp N (hm J ev ps) y) o + iv (hm J ev ps o ∧ 882 ≤ gp N (hm J ev ps) o) := rfl
    have cM : cnt (isM J ev ps) (o + 1) = cnt (isM J ev ps) o + iv (isM J ev ps o) := rfl
    have cA := cnt_or (P := fun i => ev (2 * i + 1) ∧ ps (2 * i + 1) < o + 1) (Q := fun i => ev (2 * i + 1) ∧ ps (2 * i + 1) < o) (R := fun i => ev (2 * i + 1) ∧ ps (2 * i + 1) = o) J (fun i _ z => by
      by_cases q : ps (2 * i + 1) = o
      · exact Or.inr ⟨z.1, q⟩
      · exact Or.inl ⟨z.1, by omega⟩)
    by_cases h : hm J ev ps o
    · have l1 : la N (hm J ev ps) (N + N + (o + 1)) = N + N + o := la_t (x := N + N + o) (by rw [md2 (by omega)]; exact h)
      have p1 : pv N (hm J ev ps) (o + 1) = o := by
        unfold pv
        rw [l1, md2 (by omega)]
      have st := star T h
      have ge := gz_ge K h
      have le := (la_s (Hs := hm J ev ps) (x := N + N + o) y0N hy (by omega)).1
      have gd : gp N (hm J ev ps) o = N + N + o - la N (hm J ev ps) (N + N + o) := rfl
      have n46 : cnt (fun i => ev (2 * i + 1) ∧ ps (2 * i + 1) = o) J ≤ 4 + 2 * iv (isM J ev ps o) := by
        by_cases q : isM J ev ps o
        · rw [iv_t q]; exact nM T q
        · rcases nE T q with z | ⟨e, i, e4, ne, _⟩ <;> omega
      rw [l1, p1, cF, cR, cM, iv_t h]
      by_cases q : gp N (hm J ev ps) o < 882
      · rw [gz_s q] at ge st ⊢
        rw [iv_f (fun z => by omega)]
        omega
      · rw [gz_l q] at ge st ⊢
        rw [iv_t ⟨h, by omega⟩]
        omega
    · have l1 : la N (hm J ev ps) (N + N + (o + 1)) = la N (hm J ev ps) (N + N + o) := la_f (x := N + N + o) (by rw [md2 (by omega)]; exact h)
      have p1 : pv N (hm J ev ps) (o + 1) = pv N (hm J ev ps) o := by
        unfold pv
        rw [l1]
      have c0 : cnt (fun i => ev (2 * i + 1) ∧ ps (2 * i + 1) = o) J = 0 := cnt_0 J (fun i hi z => h ⟨2 * i + 1, by omega, z.1, z.2⟩)
      rw [l1, p1, cF, cR, cM, iv_f h, iv_f (fun z => h z.1), iv_f (fun z => h (isM_hm z))]
      omega
def Qs (J : Nat) (ev : Nat → Prop) (sc ps : Nat → Nat) (σ y : Nat) : Prop := ∃ τ, τ < 2 * J ∧ ev τ ∧ ps τ = y ∧ sc τ = σ
theorem Qs_hm {σ y : Nat} (h : Qs J ev sc ps σ y) : hm J ev ps y := by
  obtain ⟨τ, a, c, d, _⟩ := h
  exact ⟨τ, a, c, d⟩
/-- between two places of one sector lies a long way -/
theorem far (K : TK N H b (2 * J) ev sc ps rd wr) {σ h o : Nat} (ho : h < o) (q1 : Qs J ev sc ps σ h) (q2 : Qs J ev sc ps σ o) : ∃ y, h < y ∧ y ≤ o ∧ hm J ev ps y ∧ 882 ≤ gp N (hm J ev ps) y := by
  refine Classical.byContradiction fun no => ?_
  have oN := hm_lt K (Qs_hm q2)
  have sh : ∀ y, h < y → y ≤ o → hm J ev ps y → gp N (hm J ev ps) y < 882 := fun y a c d => Nat.lt_of_not_le fun z => no ⟨y, a, c, d, z⟩
  have key : ∀ y, h < y → y ≤ o → hm J ev ps y → ∀ τy τh, FE (2 * J) ev ps y τy → FE (2 * J) ev ps h τh → τy < τh := by
    intro y
    induction y using Nat.strongRecOn with
    | ind y ih =>
      intro a c d τy τh fy fh
      obtain ⟨l1, l2, l3, l4⟩ := la_s (Hs := hm J ev ps) (x := N + N + y) oN (Qs_hm q2) (by omega)
      have ge : N + N + h ≤ la N (hm J ev ps) (N + N + y) := Nat.le_of_not_lt fun z => l4 (N + N + h) z (by omega) (by rw [md2 (by omega)]; exact Qs_hm q1)
      have s := sh y a c d
      obtain ⟨hz, g0, al, _⟩ := prev K d
      have pz : pv N (hm J ev ps) y = la N (hm J ev ps) (N + N + y) - N - N := by
        unfold pv
        rw [Nat.mod_eq_sub_mod (by omega), Nat.mod_eq_sub_mod (by omega), Nat.mod_eq_of_lt (by omega)]
      have gd : gp N (hm J ev ps) y = N + N + y - la N (hm J ev ps) (N + N + y) := rfl
      by_cases zh : pv N (hm J ev ps) y = h
      · rw [zh] at al
        exact T5o K fh al g0 s fy.1 fy.2.1 fy.2.2.1
      · have hz' := hz
        obtain ⟨τ, t1, t2, t3⟩ := hz
        obtain ⟨τz, _, fz⟩ := FE_ex τ t1 t2 t3
        have x1 := T5o K fz al g0 s fy.1 fy.2.1 fy.2.2.1
        have x2 := ih (pv N (hm J ev ps) y) (by omega) (by omega) (by omega) hz' τz τh fz fh
        omega
  have ho2 := Qs_hm q2
  obtain ⟨τ1, a1, a2, a3, a4⟩ := q2
  obtain ⟨τ2, c1, c2, c3, c4⟩ := q1
  obtain ⟨τo, lo, fo⟩ := FE_ex τ1 a1 a2 a3
  obtain ⟨τh, lh, fh⟩ := FE_ex τ2 c1 c2 c3
  have lt := key o ho (Nat.le_refl _) ho2 τo τh fo fh
  have Eo := K.2.2.2 τo fo.1 fo.2.1
  have E1 := K.2.2.2 τ1 a1 a2
  have E2 := K.2.2.2 τ2 c1 c2
  rw [fo.2.2.1] at Eo
  rw [a3, a4] at E1
  rw [c3, c4] at E2
  have x1 := T1 K E1.1 E1.2.1 lo (by omega) E1.2.2.1
  have x2 := T1 K E2.1 E2.2.1 (show τo ≤ τ2 by omega) (by omega) E2.2.2.1
  exact Eo.2.2.2.1 h ho (hdr_tr x2 (hdr_same x1 Eo.2.2.1))
theorem secs (K : TK N H b (2 * J) ev sc ps rd wr) (σ : Nat) : ∀ o, cnt (Qs J ev sc ps σ) o = 0 ∨ ∃ h, h < o ∧ Qs J ev sc ps σ h ∧ cnt (Qs J ev sc ps σ) o ≤ cnt (fun y => hm J ev ps y ∧ 882 ≤ gp N (hm J ev ps) y) (h + 1) + 1 := by
  intro o
  induction o with
  | zero => exact Or.inl rfl
  | succ o ih =>
    have cF : cnt (Qs J ev sc ps σ) (o + 1) = cnt (Qs J ev sc ps σ) o + iv (Qs J ev sc ps σ o) := rfl
    by_cases q : Qs J ev sc ps σ o
    · rw [cF, iv_t q]
      rcases ih with z | ⟨h, h1, h2, h3⟩
      · exact Or.inr ⟨o, by omega, q, by omega⟩
      · obtain ⟨y, y1, y2, y3, y4⟩ := far K h1 h2 q
        have e1 := cnt_le (P := fun y => hm J ev ps y ∧ 882 ≤ gp N (hm J ev ps) y) (show h + 1 ≤ y by omega)
        have e2 : cnt (fun y => hm J ev ps y ∧ 882 ≤ gp N (hm J ev ps) y) (y + 1) = cnt (fun y => hm J ev ps y ∧ 882 ≤ gp N (hm J ev ps) y) y + iv (hm J ev ps y ∧ 882 ≤ gp N (hm J ev ps) y) := rfl
        rw [iv_t ⟨y3, y4⟩] at e2
        have e3 := cnt_le (P := fun y => hm J ev ps y ∧ 882 ≤ gp N (hm J ev ps) y) (show y + 1 ≤ o + 1 by omega)
        exact Or.inr ⟨o, by omega, q, by omega⟩
    · rw [cF, iv_f q]
      rcases ih with z | ⟨h, h1, h2, h3⟩
      · exact Or.inl (by omega)
      · exact Or.inr ⟨h, by omega, h2, by omega⟩
theorem sec1 (K : TK N H b (2 * J) ev sc ps rd wr) (σ : Nat) : cnt (Qs J ev sc ps σ) N ≤ cnt (fun y => hm J ev ps y ∧ 882 ≤ gp N (hm J ev ps) y) N + 1 := by
  rcases secs K σ N with z | ⟨h, h1, _, h3⟩
  · omega
  · have := cnt_le (P := fun y => hm J ev ps y ∧ 882 ≤ gp N (hm J ev ps) y) (show h + 1 ≤ N by omega)
    omega
theorem secA {Q : Nat → Nat → Prop} {n C : Nat} (h : ∀ σ, cnt (Q σ) n ≤ C) : ∀ s, cnt (fun y => ∃ σ, σ < s ∧ Q σ y) n ≤ s * C := by
  intro s
  induction s with
  | zero => rw [cnt_0 n (fun i _ z => by obtain ⟨σ, a, _⟩ := z; omega)]; exact Nat.zero_le _
  | succ s ih =>
    have := cnt_or (P := fun y => ∃ σ, σ < s + 1 ∧ Q σ y) (Q := fun y => ∃ σ, σ < s ∧ Q σ y) (R := Q s) n (fun i _ z => by
      obtain ⟨σ, a, c⟩ := z
      by_cases e : σ = s
      · subst e; exact Or.inr c
      · exact Or.inl ⟨σ, by omega, c⟩)
    have a := h s
    rw [Nat.succ_mul]
    omega
/-- one track -/
theorem track (T : TE N S J H b ev sc ps en rd wr) : ∃ R F m, 160 * cnt (fun i => ev (2 * i + 1)) J + 934 * R ≤ 2 * N + 100 * F + 900 * m ∧ cnt (fun i => ev (2 * i + 1)) J ≤ 4 * F + 2 * m ∧ 757 * R + 125 * F ≤ N ∧ F ≤ S * (R + 1) ∧ m ≤ R + 1 ∧ ((∀ i, i < J → ¬ ev (2 * i)) → m = 0) := by
  have K := T.1
  by_cases ex : ∃ y, hm J ev ps y
  · obtain ⟨y0, hy⟩ := ex
    have y0N := hm_lt K hy
    obtain ⟨a1, a2, a3⟩ := scan T hy N (Nat.le_refl _)
    have l := la_N (Hs := hm J ev ps) (x := N + N) y0N hy (by omega)
    have p : pv N (hm J ev ps) N = pv N (hm J ev ps) 0 := by
      unfold pv
      rw [l, Nat.add_zero, Nat.add_mod_right]
    rw [p, l] at a1
    rw [l] at a3
    have cA : cnt (fun i => ev (2 * i + 1)) J ≤ cnt (fun i => ev (2 * i + 1) ∧ ps (2 * i + 1) < N) J := cnt_mono J (fun i hi z => ⟨z, (K.2.2.2 (2 * i + 1) (by omega) z).2.1⟩)
    refine ⟨cnt (fun y => hm J ev ps y ∧ 882 ≤ gp N (hm J ev ps) y) N, cnt (hm J ev ps) N, cnt (isM J ev ps) N, by omega, by omega, by omega, ?_, ?_, ?_⟩
    · refine Nat.le_trans (cnt_mono N (fun y _ z => ?_)) (secA (Q := Qs J ev sc ps) (sec1 K) S)
      obtain ⟨τ, t1, t2, t3⟩ := z
      exact ⟨sc τ, T.2.2.2 τ t1 t2, τ, t1, t2, t3, rfl⟩
    · refine Nat.le_trans (cnt_mono N (fun y _ z => ?_)) (sec1 K 0)
      obtain ⟨i, i1, i2, i3⟩ := z
      exact ⟨2 * i, by omega, i2, i3, (T.2.2.1 i i1 i2).1⟩
    · intro no
      refine cnt_0 N (fun y _ z => ?_)
      obtain ⟨i, i1, i2, i3⟩ := z
      exact no i i1 i2
  · refine ⟨0, 0, 0, ?_, ?_, by omega, by omega, by omega, fun _ => rfl⟩ <;> rw [cnt_0 J (fun i hi z => ex ⟨_, 2 * i + 1, by omega, z, rfl⟩)] <;> omega
end SC
