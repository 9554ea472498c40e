/-! SCRATCH ends (4): a block that is READ and has another's header and row within -/
theorem gv_b {c : Nat → Bool} {G : Nat} {x0 x1 x2 x3 x4 : Bool} (e0 : c (5 * G) = x0) (e1 : c (5 * G + 1) = x1) (e2 : c (5 * G + 2) = x2) (e3 : c (5 * G + 3) = x3) (e4 : c (5 * G + 4) = x4) : gv c G = dvN (2 * (2 * (2 * (2 * (2 * 0 + x0.toNat) + x1.toNat) + x2.toNat) + x3.toNat) + x4.toNat) := by
  subst e0 e1 e2 e3 e4
  rfl
theorem dv00 : ∀ x y z : Bool, ¬ dvN (2 * (2 * (2 * (2 * (2 * 0 + false.toNat) + false.toNat) + x.toNat) + y.toNat) + z.toNat) < 16 := by decide
theorem dv100 : ∀ x y : Bool, ¬ dvN (2 * (2 * (2 * (2 * (2 * 0 + x.toNat) + y.toNat) + true.toNat) + false.toNat) + false.toNat) < 16 := by decide
theorem bad00 {c : Nat → Bool} {G : Nat} (hv : vld c 136) (hG : G < 136) (e0 : c (5 * G) = false) (e1 : c (5 * G + 1) = false) : False := by
  have := hv G hG
  rw [gv_b e0 e1 rfl rfl rfl] at this
  exact dv00 _ _ _ this
theorem bad100 {c : Nat → Bool} {G : Nat} (hv : vld c 136) (hG : G < 136) (e0 : c (5 * G + 2) = true) (e1 : c (5 * G + 3) = false) (e2 : c (5 * G + 4) = false) : False := by
  have := hv G hG
  rw [gv_b rfl rfl e0 e1 e2] at this
  exact dv100 _ _ this
theorem bad1 {c : Nat → Bool} {G : Nat} (hv : vld c 136) (hG : G < 136) (e : ∀ u, u < 5 → c (5 * G + u) = true) : False := by
  have := hv G hG
  rw [gv_b (e 0 (by omega)) (e 1 (by omega)) (e 2 (by omega)) (e 3 (by omega)) (e 4 (by omega))] at this
  exact absurd this (by decide)
section PA
variable {b : Nat → Bool} {N : Nat}
theorem PAIR {h h' : Nat → Bool} {q p w : Nat} {r rp : Nat → Nat} (hb : rgb b N) (hN : 1000 ≤ N) (oh : hOK h) (oh' : hOK h') (hq : hdr b N h q) (R : Rd b N q r) (H : Hm b N h' p w rp) (h1 : q < p) : ∃ k c, rowOK c r ∧ 1 ≤ k ∧ q + 89 + 8 * k ≤ p ∧ (k ≤ 83 → (k % 5 = 0 ∧ q + 95 + 8 * k ≤ p) ∨ (k % 5 = 4 ∧ q + 93 + 8 * k ≤ p)) ∧ (k ≤ 83 → ∀ i, 8 * (k + 19) + i < 680 → c (8 * (k + 19) + i) = gb (dpl rp) i) := by
  obtain ⟨z0, hz, h0⟩ := hdr_z hb (by omega) hq
  have hN' : 11 ≤ N := by omega
  obtain ⟨n, g, o⟩ := R
  have pF := H.1.1
  have p88 : q + 88 < p := Nat.lt_of_not_le fun y => by
    have a : rn b N (p + N) = 10 := by rw [← rn_m hb hN', Nat.add_mod_right, rn_m hb hN']; exact pF.2
    exact hd_q hb oh ((hdr_N hb hN').mpr hq) (by omega) (by omega) (by omega) a
  -- the row begins at f
  obtain ⟨f, f1, f2, f3, f4⟩ : ∃ f, q + 80 ≤ f ∧ b f = false ∧ rn b N f = 10 ∧ sq b N (q + 80) (n + 1) = f + 8 := by
    have m0 : q + 80 + 8 * (n - 0) ≤ sq b N (q + 80) n := sq_mono hb hN' hz h0 (q := q + 80) 0 n (by omega)
    rcases nxf_cases hb hN' hz h0 (sq b N (q + 80) n) with ⟨_, g2, _⟩ | ⟨z, g1, _, g3, g4, _, _, g7, _⟩
    · have := g.2
      unfold fN at this
      rw [g2] at this
      cases this
    · refine ⟨z, by omega, g3, g4, ?_⟩
      show eN b N (sq b N (q + 80) n) = z + 8
      unfold eN; rw [g7]
  have f88 : q + 88 < f := Nat.lt_of_not_le fun y => hd_q hb oh hq (by omega) (by omega) y f3
  obtain ⟨n', n1, n2, _⟩ := sq_hit hb hN' hz h0 (p + 1) (q + 80) p (by omega) (by omega) pF
  have last : fN b N (sq b N (q + 80) n') = true ∧ ∀ i, sq b N (q + 80) n' ≤ i → i < p → b i = true := by
    have n2' : eN b N (sq b N (q + 80) n') = p + 8 := n2
    rcases nxf_cases hb hN' hz h0 (sq b N (q + 80) n') with ⟨g1, g2, _⟩ | ⟨z, _, _, _, _, g5, _, g7, _⟩
    · unfold eN at n2'
      rw [g2] at n2'
      have : sq b N (q + 80) n' = p := by simp only at n2'; omega
      exact absurd (by rw [this]; exact pF.2) (g1 0 (by omega))
    · unfold eN at n2'
      rw [g7] at n2'
      have : z = p := by simp only at n2'; omega
      subst this
      exact ⟨by unfold fN; rw [g7], g5⟩
  have nn : n ≤ n' := Nat.le_of_not_lt fun y => by
    have := g.1 n' y
    rw [last.1] at this
    cases this
  have cdef : ∀ i, cbf b N (sq b N (q + 80) (n + 1)) i = b (sq b N (q + 80) (n + 1 + i / 8) - 8 + i % 8) := fun i => by
    unfold cbf; rw [← sq_add]
  generalize hc : cbf b N (sq b N (q + 80) (n + 1)) = c at o cdef
  have hv := o.2.1
  by_cases e : n' = n
  · exfalso
    subst e
    have fp : f = p := by omega
    have a := cdef 5
    rw [show 5 / 8 = 0 from rfl, Nat.add_zero, f4, fp, show p + 8 - 8 + 5 % 8 = p + 5 by omega, H.1.2 5 (by omega), oh'.2.1 5 (by omega)] at a
    have v := vl_bit c 0 10 4
    rw [o.1] at v
    rw [show 0 + (10 - 1 - 4) = 5 from rfl, a] at v
    exact absurd v (by decide)
  · have kp : ∃ k, n' = n + k ∧ 1 ≤ k := ⟨n' - n, by omega, by omega⟩
    obtain ⟨k, rfl, k1⟩ := kp
    have E1 : f + 8 * k ≤ sq b N (q + 80) (n + k) := by
      have := sq_mono hb hN' hz h0 (q := q + 80) (n + 1) (n + k) (by omega)
      omega
    have ks : ∀ j, sq b N (q + 80) (n + 1 + (k + j)) = sq b N (p + 8) j := fun j => by
      rw [show n + 1 + (k + j) = n + k + 1 + j by omega, sq_add, n2]
    have row := sq_row (x := p) (L := 80) hb hN' hz h0 pF.1 (fun s hs => by
      obtain ⟨u, hu, hf⟩ := oh'.1 s hs
      exact ⟨u, hu, by rw [Nat.add_assoc, H.1.2 (s + u) (by omega)]; exact hf⟩)
    have ch : ∀ i, i < 80 → c (8 * k + i) = h' i := fun i hi => by
      rw [cdef, show (8 * k + i) / 8 = k + i / 8 by omega, show (8 * k + i) % 8 = i % 8 by omega, ks, row (i / 8) (by omega), show p + 8 + 8 * (i / 8) - 8 + i % 8 = p + i by omega]
      exact H.1.2 i hi
    have hb' : ∀ u, u < 10 → h' u = (329 : Nat).testBit (9 - u) := oh'.2.1
    have cu : ∀ u, u < 10 → c (8 * k + u) = (329 : Nat).testBit (9 - u) := fun u hu => by rw [ch u (by omega), hb' u hu]
    -- the bits ahead of the MARK
    have pre : ∀ u, u < 8 → p ≤ sq b N (q + 80) (n + k) + 2 + u → c (8 * k - 8 + u) = true := fun u hu hp => by
      have a := cdef (8 * k - 8 + u)
      rw [show (8 * k - 8 + u) / 8 = k - 1 by omega, show (8 * k - 8 + u) % 8 = u by omega, show n + 1 + (k - 1) = n + k by omega] at a
      rw [a]
      have r10 := (rn10 hb (show 10 ≤ p by omega)).mp pF.2 (sq b N (q + 80) (n + k) - 8 + u - (p - 10)) (by omega)
      rw [show p - 10 + (sq b N (q + 80) (n + k) - 8 + u - (p - 10)) = sq b N (q + 80) (n + k) - 8 + u by omega] at r10
      exact r10
    have k5 : k ≤ 83 → k % 5 = 0 ∨ k % 5 = 4 := fun k83 => by
      have alt : k % 5 = 0 ∨ k % 5 = 1 ∨ k % 5 = 2 ∨ k % 5 = 3 ∨ k % 5 = 4 := by omega
      rcases alt with a | a | a | a | a
      · exact Or.inl a
      · exfalso
        have e : 5 * ((8 * k + 7) / 5) = 8 * k + 7 := by omega
        refine bad00 hv (G := (8 * k + 7) / 5) (by omega) ?_ ?_
        · rw [e, cu 7 (by omega)]; decide
        · rw [e, Nat.add_assoc, cu 8 (by omega)]; decide
      · exfalso
        have e : 5 * ((8 * k + 4) / 5) = 8 * k + 4 := by omega
        refine bad00 hv (G := (8 * k + 4) / 5) (by omega) ?_ ?_
        · rw [e, cu 4 (by omega)]; decide
        · rw [e, Nat.add_assoc, cu 5 (by omega)]; decide
      · exfalso
        have e : 5 * ((8 * k + 1) / 5) = 8 * k + 1 := by omega
        refine bad100 hv (G := (8 * k + 1) / 5) (by omega) ?_ ?_ ?_
        · rw [e, Nat.add_assoc, cu 3 (by omega)]; decide
        · rw [e, Nat.add_assoc, cu 4 (by omega)]; decide
        · rw [e, Nat.add_assoc, cu 5 (by omega)]; decide
      · exact Or.inr a
    refine ⟨k, c, o, k1, by omega, fun k83 => ?_, fun k83 i hi => ?_⟩
    · rcases k5 k83 with a | a
      · refine Or.inl ⟨a, ?_⟩
        refine Nat.le_of_not_lt fun y => bad1 hv (G := (8 * k - 5) / 5) (by omega) (fun u hu => ?_)
        rw [show 5 * ((8 * k - 5) / 5) + u = 8 * k - 8 + (3 + u) by omega]
        exact pre _ (by omega) (by omega)
      · refine Or.inr ⟨a, ?_⟩
        refine Nat.le_of_not_lt fun y => bad1 hv (G := (8 * k - 7) / 5) (by omega) (fun u hu => ?_)
        rw [show 5 * ((8 * k - 7) / 5) + u = 8 * k - 8 + (1 + u) by omega]
        exact pre _ (by omega) (by omega)
    · have s80 : sq b N (p + 8) 9 = p + 80 := by
        have := row 9 (by omega)
        omega
      have kw : ∀ j, sq b N (q + 80) (n + 1 + (k + 9 + j)) = sq b N (p + 80) j := fun j => by
        rw [Nat.add_assoc k, ks, sq_add, s80]
      obtain ⟨m, m1, _, m3⟩ := Hm_end hb hN H
      rcases m1 with rfl | ⟨rfl, m10⟩
      · rw [cdef, show (8 * (k + 19) + i) / 8 = k + 9 + (10 + i / 8) by omega, show (8 * (k + 19) + i) % 8 = i % 8 by omega, kw, m3 (i / 8) (by omega), show w + 48 + 8 * (i / 8) - 8 + i % 8 = w + (40 + i) by omega, H.2.2.1 (40 + i) (by omega)]
        unfold Gw
        rw [if_neg (by omega), show 40 + i - 40 = i by omega]
      · exfalso
        have ones : ∀ u, u < 8 → c (8 * (k + 19) + u) = true := fun u hu => by
          rw [cdef, show (8 * (k + 19) + u) / 8 = k + 9 + 10 by omega, show (8 * (k + 19) + u) % 8 = u by omega, kw, m10, show w + 8 - 8 + u = w + u by omega, H.2.2.1 u (by omega)]
          unfold Gw
          rw [if_pos (by omega)]
        rcases k5 k83 with a | a
        · refine bad1 hv (G := (8 * (k + 19) + 3) / 5) (by omega) (fun u hu => ?_)
          rw [show 5 * ((8 * (k + 19) + 3) / 5) + u = 8 * (k + 19) + (3 + u) by omega]
          exact ones _ (by omega)
        · refine bad1 hv (G := (8 * (k + 19) + 1) / 5) (by omega) (fun u hu => ?_)
          rw [show 5 * ((8 * (k + 19) + 1) / 5) + u = 8 * (k + 19) + (1 + u) by omega]
          exact ones _ (by omega)
end PA
/-- the bits of a half byte of a block -/
theorem gbN {r : Nat → Nat} {X v : Nat} (hX : X < 64) : (r X / 16 = v → ∀ u, u < 5 → gb (dpl r) (10 * X + 10 + u) = (gr v).testBit (4 - u)) ∧ (r X % 16 = v → ∀ u, u < 5 → gb (dpl r) (10 * X + 15 + u) = (gr v).testBit (4 - u)) := by
  have e : dpl r (X + 1) = r X := by
    show (if X < 64 then r X else if X = 64 then xs r 64 else 0) = r X
    rw [if_pos hX]
  constructor
  · intro h u hu
    have n : nbl (dpl r) (2 * X + 2) = v := by
      unfold nbl
      rw [if_pos (by omega), show (2 * X + 2) / 2 = X + 1 by omega, e, h]
    have := gb_code n u hu
    rw [show 5 * (2 * X + 2) + u = 10 * X + 10 + u by omega] at this
    exact this
  · intro h u hu
    have n : nbl (dpl r) (2 * X + 3) = v := by
      unfold nbl
      rw [if_neg (by omega), show (2 * X + 3) / 2 = X + 1 by omega, e, h]
    have := gb_code n u hu
    rw [show 5 * (2 * X + 3) + u = 10 * X + 15 + u by omega] at this
    exact this
theorem C5 {c : Nat → Bool} {r rp : Nat → Nat} {k e : Nat} (o : rowOK c r) (h4 : k % 5 = 4) (he : e < 4) (h0 : rp (2 + 16 * e) = 0) (ct : ∀ i, 8 * (k + 19) + i < 680 → c (8 * (k + 19) + i) = gb (dpl rp) i) : 62 ≤ k + 20 * e := Nat.le_of_not_lt fun y => by
  obtain ⟨g1, g2⟩ := gbN (r := rp) (X := 2 + 16 * e) (v := 0) (by omega)
  have b1 := g1 (by rw [h0])
  have b2 := g2 (by rw [h0])
  have e5 : 5 * ((8 * (k + 19) + (10 * (2 + 16 * e) + 11)) / 5) = 8 * (k + 19) + (10 * (2 + 16 * e) + 11) := by omega
  refine bad100 o.2.1 (G := (8 * (k + 19) + (10 * (2 + 16 * e) + 11)) / 5) (by omega) ?_ ?_ ?_
  · rw [e5, Nat.add_assoc, ct _ (by omega), show 10 * (2 + 16 * e) + 11 + 2 = 10 * (2 + 16 * e) + 10 + 3 by omega, b1 3 (by omega)]; decide
  · rw [e5, Nat.add_assoc, ct _ (by omega), show 10 * (2 + 16 * e) + 11 + 3 = 10 * (2 + 16 * e) + 10 + 4 by omega, b1 4 (by omega)]; decide
  · rw [e5, Nat.add_assoc, ct _ (by omega), show 10 * (2 + 16 * e) + 11 + 4 = 10 * (2 + 16 * e) + 15 + 0 by omega, b2 0 (by omega)]; decide
theorem C6a {c : Nat → Bool} {r rp : Nat → Nat} {k m e : Nat} (o : rowOK c r) (hk : k = 5 * m) (he : e < 4) (h0 : rp (2 + 16 * e) = 0) (hX : 4 * m + 17 + 16 * e < 64) (ct : ∀ i, 8 * (k + 19) + i < 680 → c (8 * (k + 19) + i) = gb (dpl rp) i) : r (4 * m + 17 + 16 * e) % 16 = 2 := by
  subst hk
  obtain ⟨g1, g2⟩ := gbN (r := rp) (X := 2 + 16 * e) (v := 0) (by omega)
  have b1 := g1 (by rw [h0])
  have b2 := g2 (by rw [h0])
  have e5 : 5 * (2 * (1 + (4 * m + 17 + 16 * e)) + 1) = 8 * (5 * m + 19) + (10 * (2 + 16 * e) + 13) := by omega
  rw [o.2.2 _ hX]
  have : gv c (2 * (1 + (4 * m + 17 + 16 * e)) + 1) = 2 := by
    refine (gv_b (x0 := true) (x1 := false) (x2 := false) (x3 := true) (x4 := false) ?_ ?_ ?_ ?_ ?_).trans (by decide)
    · rw [e5, ct _ (by omega), show 10 * (2 + 16 * e) + 13 = 10 * (2 + 16 * e) + 10 + 3 by omega, b1 3 (by omega)]; decide
    · rw [e5, Nat.add_assoc, ct _ (by omega), show 10 * (2 + 16 * e) + 13 + 1 = 10 * (2 + 16 * e) + 10 + 4 by omega, b1 4 (by omega)]; decide
    · rw [e5, Nat.add_assoc, ct _ (by omega), show 10 * (2 + 16 * e) + 13 + 2 = 10 * (2 + 16 * e) + 15 + 0 by omega, b2 0 (by omega)]; decide
    · rw [e5, Nat.add_assoc, ct _ (by omega), show 10 * (2 + 16 * e) + 13 + 3 = 10 * (2 + 16 * e) + 15 + 1 by omega, b2 1 (by omega)]; decide
    · rw [e5, Nat.add_assoc, ct _ (by omega), show 10 * (2 + 16 * e) + 13 + 4 = 10 * (2 + 16 * e) + 15 + 2 by omega, b2 2 (by omega)]; decide
  unfold dec
  rw [this]
  omega
theorem C6b {c : Nat → Bool} {r rq : Nat → Nat} {k X : Nat} (o : rowOK c r) (h5 : k % 5 = 0 ∨ k % 5 = 4) (hX : X < 64) (h2 : rq X % 16 = 2) (ct : ∀ i, 8 * (k + 19) + i < 680 → c (8 * (k + 19) + i) = gb (dpl rq) i) : 680 < 8 * (k + 19) + (10 * X + 15) + 6 := Nat.lt_of_not_le fun y => by
  have b2 := (gbN (r := rq) (X := X) (v := 2) hX).2 h2
  rcases h5 with a | a
  · have e5 : 5 * ((8 * (k + 19) + (10 * X + 13)) / 5) = 8 * (k + 19) + (10 * X + 13) := by omega
    refine bad100 o.2.1 (G := (8 * (k + 19) + (10 * X + 13)) / 5) (by omega) ?_ ?_ ?_
    · rw [e5, Nat.add_assoc, ct _ (by omega), show 10 * X + 13 + 2 = 10 * X + 15 + 0 by omega, b2 0 (by omega)]; decide
    · rw [e5, Nat.add_assoc, ct _ (by omega), show 10 * X + 13 + 3 = 10 * X + 15 + 1 by omega, b2 1 (by omega)]; decide
    · rw [e5, Nat.add_assoc, ct _ (by omega), show 10 * X + 13 + 4 = 10 * X + 15 + 2 by omega, b2 2 (by omega)]; decide
  · have e5 : 5 * ((8 * (k + 19) + (10 * X + 16)) / 5) = 8 * (k + 19) + (10 * X + 16) := by omega
    refine bad00 o.2.1 (G := (8 * (k + 19) + (10 * X + 16)) / 5) (by omega) ?_ ?_
    · rw [e5, ct _ (by omega), show 10 * X + 16 = 10 * X + 15 + 1 by omega, b2 1 (by omega)]; decide
    · rw [e5, Nat.add_assoc, ct _ (by omega), show 10 * X + 16 + 1 = 10 * X + 15 + 2 by omega, b2 2 (by omega)]; decide
