/-! SCRATCH ends (3): what a written block keeps -/
section HM
variable {b c : Nat → Bool} {N : Nat}
/-- what is READ of the bits of a row -/
def rowOK (c : Nat → Bool) (r : Nat → Nat) : Prop := vl c 0 10 = 343 ∧ vld c 136 ∧ ∀ k, k < 64 → r k = dec c (1 + k)
theorem rowOK_e {c c' : Nat → Bool} {r : Nat → Nat} (e : ∀ i, i < 680 → c' i = c i) (h : rowOK c r) : rowOK c' r := by
  have hg : ∀ k, k < 136 → gv c' k = gv c k := fun k hk => by
    unfold gv
    rw [vl_ext (b := c') (c := c) (p := 5 * k) (q := 5 * k) (fun i hi => e _ (by omega))]
  refine ⟨?_, fun k hk => by rw [hg k hk]; exact h.2.1 k hk, fun k hk => ?_⟩
  · rw [vl_ext (b := c') (c := c) (p := 0) (q := 0) (fun i hi => e _ (by omega))]; exact h.1
  · rw [h.2.2 k hk]; unfold dec; rw [hg _ (by omega), hg _ (by omega)]
def Rd (b : Nat → Bool) (N p : Nat) (r : Nat → Nat) : Prop := ∃ n, ga b N (p + 80) n ∧ rowOK (cbf b N (sq b N (p + 80) (n + 1))) r
theorem Rd_u {p : Nat} {r r' : Nat → Nat} (h : Rd b N p r) (h' : Rd b N p r') : ∀ k, k < 64 → r k = r' k := fun k hk => by
  obtain ⟨n, g, o⟩ := h
  obtain ⟨n', g', o'⟩ := h'
  have e := ga_u g g'
  subst e
  rw [o.2.2 k hk, o'.2.2 k hk]
theorem Rd_loc {z0 z1 p D n E : Nat} {r : Nat → Nat} (hb : rgb b N) (hc : rgb c N) (hN : 11 ≤ N) (hz : z0 < N) (h0 : b z0 = false) (hz1 : z1 < N) (h1 : c z1 = false) (hg : ga b N (p + 80) n) (hr : rowOK (cbf b N (sq b N (p + 80) (n + 1))) r) (hE : sq b N (p + 80) (n + 85) ≤ E) (ag : ∀ y, p + 70 ≤ y → y < E → c (y + D) = b y) : Rd c N (p + D) r := by
  have mo : ∀ m, m ≤ n + 85 → sq b N (p + 80) m ≤ E := fun m hm => by
    have := sq_mono hb hN hz h0 (q := p + 80) m (n + 85) hm
    omega
  have eq : p + D + 80 = p + 80 + D := by omega
  refine ⟨n, ⟨fun m hm => ?_, ?_⟩, rowOK_e (fun i hi => ?_) hr⟩
  · rw [eq, fN_loc hb hc hN hz h0 hz1 h1 (by omega) m (fun y y1 y2 => ag y (by omega) (by have := mo (m + 1) (by omega); omega))]
    exact hg.1 m hm
  · rw [eq, fN_loc hb hc hN hz h0 hz1 h1 (by omega) n (fun y y1 y2 => ag y (by omega) (by have := mo (n + 1) (by omega); omega))]
    exact hg.2
  · unfold cbf
    have m2 := mo (n + 1 + i / 8) (by omega)
    have m3 : p + 80 + 8 * (n + 1 + i / 8 - 0) ≤ sq b N (p + 80) (n + 1 + i / 8) := sq_mono hb hN hz h0 (q := p + 80) 0 (n + 1 + i / 8) (by omega)
    rw [eq, ← sq_add, ← sq_add, sq_loc hb hc hN hz h0 hz1 h1 (by omega) (n + 1 + i / 8) (fun y y1 y2 => ag y (by omega) (by omega))]
    rw [show sq b N (p + 80) (n + 1 + i / 8) + D - 8 + i % 8 = sq b N (p + 80) (n + 1 + i / 8) - 8 + i % 8 + D by omega]
    exact ag _ (by omega) (by omega)
/-- a row behind forty 1s: byte by byte -/
theorem rw40_at {z0 w : Nat} {d : Nat → Bool} (hb : rgb b N) (hN : 11 ≤ N) (hz : z0 < N) (h0 : b z0 = false) (hw : 10 ≤ w) (hd : dOK d) (hr : ∀ o, o < 720 → b (w + o) = Gw d o) : ((eN b N w = w + 48 ∧ fN b N w = true) ∨ (eN b N w = w + 8 ∧ eN b N (w + 8) = w + 48 ∧ fN b N (w + 8) = true)) ∧ ∀ j, j ≤ 84 → sq b N (w + 48) j = w + 48 + 8 * j := by
  have on : ∀ o, o < 40 → b (w + o) = true := fun o ho => by
    rw [hr o (by omega)]; unfold Gw; rw [if_pos ho]
  have dd : ∀ o, o < 680 → b (w + 40 + o) = d o := fun o ho => by
    rw [Nat.add_assoc, hr (40 + o) (by omega)]; unfold Gw; rw [if_neg (by omega), show 40 + o - 40 = o by omega]
  have z40 : b (w + 40) = false := by
    have := dd 0 (by omega)
    rw [Nat.add_zero] at this
    rw [this, hd.2.1 0 (by omega)]; decide
  have key : ∀ q z, w ≤ q → q ≤ w + 40 → q ≤ z → b z = false → (∀ i, q ≤ i → i < z → b i = true) → z = w + 40 := fun q z q1 q2 q3 q4 q5 => by
    rcases Nat.lt_trichotomy z (w + 40) with y | y | y
    · have := on (z - w) (by omega)
      rw [show w + (z - w) = z by omega, q4] at this
      cases this
    · exact y
    · have := q5 (w + 40) q2 y
      rw [z40] at this
      cases this
  refine ⟨?_, ?_⟩
  · rcases nxf_cases hb hN hz h0 w with ⟨_, g2, _⟩ | ⟨z, g1, g2, g3, g4, g5, _, g7, _⟩
    · refine Or.inr ⟨by unfold eN; rw [g2], ?_⟩
      rcases nxf_cases hb hN hz h0 (w + 8) with ⟨k1, _, _⟩ | ⟨z, k1, k2, k3, k4, k5, _, k7, _⟩
      · refine absurd ?_ (k1 8 (by omega))
        refine (rn10 hb (by omega)).mpr (fun i hi => ?_)
        rw [show w + 8 + 8 - 10 + i = w + (6 + i) by omega]
        exact on _ (by omega)
      · have e := key (w + 8) z (by omega) (by omega) k1 k3 k5
        subst e
        exact ⟨by unfold eN; rw [k7], by unfold fN; rw [k7]⟩
    · have e := key w z (by omega) (by omega) g1 g3 g5
      subst e
      exact Or.inl ⟨by unfold eN; rw [g7], by unfold fN; rw [g7]⟩
  · intro j hj
    have := sq_row (x := w + 40) (L := 680) hb hN hz h0 z40 (fun s hs => by
      obtain ⟨u, hu, hf⟩ := hd.1 s (by omega)
      exact ⟨u, hu, by rw [Nat.add_assoc (w + 40), dd (s + u) (by omega)]; exact hf⟩) j (by omega)
    exact this
/-- a block written at the header p, from w on, lives -/
def Hm (b : Nat → Bool) (N : Nat) (h : Nat → Bool) (p w : Nat) (r : Nat → Nat) : Prop := hdr b N h p ∧ w = sq b N (p + 80) 9 ∧ (∀ o, o < 720 → b (w + o) = Gw (gb (dpl r)) o) ∧ Rd b N p r ∧ (∀ k, k < 64 → r k < 256) ∧ ∀ h' x, hOK h' → p < x → x ≤ p + N → hdr b N h' x → w + 730 ≤ x
theorem Hm_ge {h : Nat → Bool} {p w : Nat} {r : Nat → Nat} (hb : rgb b N) (hN : 1000 ≤ N) (H : Hm b N h p w r) : p + 152 ≤ w := by
  obtain ⟨z0, hz, h0⟩ := hdr_z hb (by omega) H.1
  have m0 : p + 80 + 8 * (9 - 0) ≤ sq b N (p + 80) 9 := sq_mono hb (by omega) hz h0 (q := p + 80) 0 9 (by omega)
  rw [H.2.1]
  omega
/-- where the bytes of a written block come -/
theorem Hm_end {h : Nat → Bool} {p w : Nat} {r : Nat → Nat} (hb : rgb b N) (hN : 1000 ≤ N) (H : Hm b N h p w r) : ∃ m, (m = 10 ∨ m = 11 ∧ sq b N (p + 80) 10 = w + 8) ∧ fN b N (sq b N (p + 80) (m - 1)) = true ∧ ∀ j, j ≤ 84 → sq b N (p + 80) (m + j) = w + 48 + 8 * j := by
  obtain ⟨z0, hz, h0⟩ := hdr_z hb (by omega) H.1
  have ge := Hm_ge hb hN H
  obtain ⟨a, row⟩ := rw40_at hb (by omega) hz h0 (by omega) (dOK_d H.2.2.2.2.1) H.2.2.1
  rcases a with ⟨a1, a2⟩ | ⟨a1, a2, a3⟩
  · refine ⟨10, Or.inl rfl, ?_, fun j hj => ?_⟩
    · rw [show 10 - 1 = 9 from rfl, ← H.2.1]; exact a2
    · rw [sq_add, show sq b N (p + 80) 10 = eN b N (sq b N (p + 80) 9) from rfl, ← H.2.1, a1]; exact row j hj
  · have e10 : sq b N (p + 80) 10 = w + 8 := by rw [show sq b N (p + 80) 10 = eN b N (sq b N (p + 80) 9) from rfl, ← H.2.1, a1]
    refine ⟨11, Or.inr ⟨rfl, e10⟩, ?_, fun j hj => ?_⟩
    · rw [show 11 - 1 = 10 from rfl, e10]; exact a3
    · rw [sq_add, show sq b N (p + 80) 11 = eN b N (sq b N (p + 80) 10) from rfl, e10, a2]; exact row j hj
theorem Hm_N {h : Nat → Bool} {p w : Nat} {r : Nat → Nat} (hb : rgb b N) (hN : 1000 ≤ N) (H : Hm b N h p w r) : Hm b N h (p + N) (w + N) r := by
  obtain ⟨z0, hz, h0⟩ := hdr_z hb (by omega) H.1
  obtain ⟨n, g, o⟩ := H.2.2.2.1
  refine ⟨(hdr_N hb (by omega)).mpr H.1, ?_, fun o ho => ?_, ?_, H.2.2.2.2.1, fun h' x o h1 h2 hx => ?_⟩
  · have := sq_loc (q := p + 80) (D := N) hb hb (by omega) hz h0 hz h0 (by omega) 9 (fun y _ _ => rgb_w hb)
    rw [show p + N + 80 = p + 80 + N by omega, this, ← H.2.1]
  · rw [show w + N + o = w + o + N by omega, rgb_w hb]; exact H.2.2.1 o ho
  · exact Rd_loc hb hb (by omega) hz h0 hz h0 g o (Nat.le_refl _) (fun y _ _ => rgb_w hb)
  · have := H.2.2.2.2.2 h' (x - N) o (by omega) (by omega) ((hdr_N hb (by omega)).mp (by rw [show x - N + N = x by omega]; exact hx))
    omega
theorem Hm_keep {h hz d : Nat → Bool} {p w z wz : Nat} {r : Nat → Nat} (hb : rgb b N) (hN : 1000 ≤ N) (ho : hOK h) (H : Hm b N h p w r) (W : Wt b N hz z wz d c) (h1 : z < p) (h2 : p < z + N) (hc : hdr c N h p) : Hm c N h p w r := by
  have rc := Wt_r W
  have k1 := (K1 hb hN W ho h1 (by omega) hc).1
  have k2 := H.2.2.2.2.2 hz (z + N) W.2.1 h2 (by omega) ((hdr_N hb (by omega)).mpr W.2.2.2.1)
  have gz := Wt_ge hb hN W
  have ge := Hm_ge hb hN H
  have ag : ∀ y, p - 10 ≤ y → y < w + 720 → c y = b y := fun y y1 y2 => Wt_2 hb hN W y (by omega) (by omega)
  obtain ⟨z0, hz0, h0⟩ := hdr_z hb (by omega) H.1
  obtain ⟨z1, hz1, h1'⟩ := hdr_z rc (by omega) hc
  obtain ⟨n, g, o⟩ := H.2.2.2.1
  obtain ⟨m, m1, m2, m3⟩ := Hm_end hb hN H
  have nm : n ≤ m - 1 := Nat.le_of_not_lt fun y => by
    have := g.1 (m - 1) y
    rw [m2] at this
    cases this
  refine ⟨hc, ?_, fun o ho => (ag _ (by omega) (by omega)).trans (H.2.2.1 o ho), ?_, H.2.2.2.2.1, fun h' x o x1 x2 hx => ?_⟩
  · have := sq_loc (q := p + 80) (D := 0) hb rc (by omega) hz0 h0 hz1 h1' (by omega) 9 (fun y y1 y2 => ag y (by omega) (by rw [← H.2.1] at y2; omega))
    exact (this.trans H.2.1.symm).symm
  · refine Rd_loc (D := 0) (E := w + 720) hb rc (by omega) hz0 h0 hz1 h1' g o ?_ (fun y y1 y2 => ag y (by omega) y2)
    have e1 := sq_mono hb (by omega) hz0 h0 (q := p + 80) (n + 85) (m + 84) (by omega)
    have e2 := m3 84 (by omega)
    omega
  · by_cases q : x ≤ z + N
    · exact H.2.2.2.2.2 h' x o x1 x2 (K1 hb hN W o (by omega) q hx).2
    · refine H.2.2.2.2.2 h' x o x1 x2 ?_
      have hx' : hdr c N h' (x - N) := (hdr_N rc (by omega)).mp (by rw [show x - N + N = x by omega]; exact hx)
      have := (hdr_N hb (by omega)).mpr (K1 hb hN W o (by omega) (by omega) hx').2
      rw [show x - N + N = x by omega] at this
      exact this
theorem Hm_made {h : Nat → Bool} {p w : Nat} {r : Nat → Nat} (hb : rgb b N) (hN : 1000 ≤ N) (ho : hOK h) (hp : p < N) (hf : ∀ p', p' < p → ¬ hdr b N h p') (hr : ∀ k, k < 64 → r k < 256) (W : Wt b N h (p + N) w (gb (dpl r)) c) (V : VF c h (gb (dpl r)) N 0) : Hm c N h (p + N) w r ∧ hdr c N h p ∧ ∀ p', p' < p → ¬ hdr c N h p' := by
  have rc := Wt_r W
  have gw := Wt_ge hb hN W
  obtain ⟨z0, hz0, h0⟩ := hdr_z hb (by omega) W.2.2.2.1
  rcases V with ⟨_, a⟩ | ⟨p', n, p1, p2, p3, p4, g, ⟨cm, _⟩ | ⟨_, a⟩⟩
  · omega
  · have hp' : hdr c N h p' := hdr_mt.mpr ⟨p2, p3⟩
    have e : p' = p := by
      rcases Nat.lt_trichotomy p' p with y | y | y
      · exact absurd (nomake hb hN W ho (by omega) (by omega) p1 hp') (hf p' y)
      · exact y
      · have k := (K1 hb hN W ho (x := p' + N) (by omega) (by omega) ((hdr_N rc (by omega)).mpr hp')).1
        have k2 := K2 hb hN W (x := p + N + N) (by omega) (by omega) ((hdr_N hb (by omega)).mpr W.2.2.2.1)
        have k3 := (hdr_N rc (by omega)).mp ((hdr_N rc (by omega)).mp k2)
        have k4 := hdr_mt.mp k3
        exact absurd k4.2 (p4 p y k4.1)
    subst e
    have hc : hdr c N h (p' + N) := (hdr_N rc (by omega)).mpr hp'
    have k := (K1 hb hN W ho (x := p' + N + N) (by omega) (by omega) ((hdr_N rc (by omega)).mpr hc)).1
    obtain ⟨z1, hz1, h1'⟩ := hdr_z rc (by omega) hc
    refine ⟨⟨hc, ?_, Wt_1 hb hN W, ?_, hr, fun h' x o x1 x2 hx => (K1 hb hN W o x1 x2 hx).1⟩, hp', fun q hq hx => hf q hq (nomake hb hN W ho (by omega) (by omega) (by omega) hx)⟩
    · have := sq_loc (q := p' + N + 80) (D := 0) hb rc (by omega) hz0 h0 hz1 h1' (by omega) 9 (fun y y1 y2 => Wt_3 hb hN W y (by rw [W.2.2.2.2.1]; exact y2) (by omega))
      exact (this.trans W.2.2.2.2.1.symm).symm
    · have row : rowOK (cbf c N (sq c N (p' + 80) (n + 1))) r := by
        have D := DTp_gb (c := cbf c N (sq c N (p' + 80) (n + 1))) hr (fun i hi => by
          have := by8_inj (cm (i / 8) (by omega)) (i % 8) (by omega)
          rw [show 8 * (i / 8) + i % 8 = i by omega] at this
          exact this)
        rcases D with ⟨_, a⟩ | ⟨_, _, a⟩ | ⟨_, _, _, a⟩ | ⟨a1, a2, _, _, a3⟩
        · omega
        · omega
        · omega
        · exact ⟨a1, a2, a3⟩
      exact Rd_loc (D := N) rc rc (by omega) hz1 h1' hz1 h1' g row (Nat.le_refl _) (fun y _ _ => rgb_w rc)
  · omega
end HM
