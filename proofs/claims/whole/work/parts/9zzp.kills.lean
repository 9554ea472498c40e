/-! SCRATCH ends (2): what a WRITE leaves of the headers -/
section WR
variable {b c : Nat → Bool} {N : Nat}
theorem pwU {w n o : Nat} {g : Nat → Bool} (hb : rgb b N) (hn : n ≤ N) (ho : o < N) : pw b N (w % N) n g (w + o) = if o < n then g o else b (w + o) := by
  have hN : 0 < N := by omega
  have hw := Nat.mod_lt w hN
  have e : (w + o) % N = if w % N + o < N then w % N + o else w % N + o - N := by
    rw [Nat.add_mod, Nat.mod_eq_of_lt ho]
    by_cases q : w % N + o < N
    · rw [if_pos q]; exact Nat.mod_eq_of_lt q
    · rw [if_neg q, Nat.mod_eq_sub_mod (by omega), Nat.mod_eq_of_lt (by omega)]
  unfold pw
  rw [hb (w + o), e]
  by_cases q : w % N + o < N
  · rw [if_pos q]
    by_cases d : o < n
    · rw [if_pos ⟨by omega, by omega⟩, if_pos d, show w % N + o - w % N = o by omega]
    · rw [if_neg (by omega), if_neg (by omega), if_neg d]
  · rw [if_neg q]
    by_cases d : o < n
    · rw [if_neg (by omega), if_pos (by omega), if_pos d, show w % N + o - N + N - w % N = o by omega]
    · rw [if_neg (by omega), if_neg (by omega), if_neg d]
theorem hdr_z {h : Nat → Bool} {p : Nat} (hb : rgb b N) (hN : 11 ≤ N) (hp : hdr b N h p) : ∃ z0, z0 < N ∧ b z0 = false := ⟨p % N, Nat.mod_lt _ (by omega), by rw [← hb p]; exact hp.1.1⟩
/-- no MARK ends within a header -/
theorem hd_q {h : Nat → Bool} {p x : Nat} (hb : rgb b N) (ho : hOK h) (hp : hdr b N h p) (h10 : 10 ≤ x) (h1 : p < x) (h2 : x ≤ p + 88) : ¬ rn b N x = 10 := by
  by_cases c1 : x ≤ p + 10
  · exact no10 hb h10 (z := p) (by omega) h1 hp.1.1
  · by_cases c2 : x ≤ p + 80
    · obtain ⟨u, hu, hf⟩ := ho.1 (x - p - 10) (by omega)
      refine no10 hb h10 (z := p + (x - p - 10 + u)) (by omega) (by omega) ?_
      rw [hp.2 _ (by omega)]; exact hf
    · refine no10 hb h10 (z := p + 78) (by omega) (by omega) ?_
      rw [hp.2 78 (by omega)]
      have := ho.2.2 18 (by omega)
      rw [show 60 + 18 = 78 from rfl] at this
      rw [this]; decide
theorem hdr_loc {h : Nat → Bool} {x : Nat} (hb : rgb b N) (hc : rgb c N) (h10 : 10 ≤ x) (e : ∀ y, x - 10 ≤ y → y < x + 80 → c y = b y) (hx : hdr b N h x) : hdr c N h x := by
  refine ⟨⟨(e x (by omega) (by omega)).trans hx.1.1, (rn10 hc h10).mpr (fun i hi => ?_)⟩, fun i hi => (e (x + i) (by omega) (by omega)).trans (hx.2 i hi)⟩
  rw [e _ (by omega) (by omega)]
  exact (rn10 hb h10).mp hx.1.2 i hi
theorem sq_add (q m : Nat) : ∀ n, sq b N q (m + n) = sq b N (sq b N q m) n := by
  intro n
  induction n with
  | zero => rfl
  | succ n ih =>
    show eN b N (sq b N q (m + n)) = eN b N (sq b N (sq b N q m) n)
    rw [ih]
theorem nxf_loc {z0 z1 q D : Nat} (hb : rgb b N) (hc : rgb c N) (hN : 11 ≤ N) (hz : z0 < N) (h0 : b z0 = false) (hz1 : z1 < N) (h1 : c z1 = false) (hq : 10 ≤ q) (h : ∀ y, q - 10 ≤ y → y < eN b N q → c (y + D) = b y) : nxf c N (q + D) = (eN b N q + D, fN b N q) := by
  have ge := eN_ge hb hN hz h0 q
  have rnE : ∀ p, q ≤ p → p ≤ eN b N q → (rn c N (p + D) = 10 ↔ rn b N p = 10) := fun p p1 p2 => by
    rw [rn10 hc (show 10 ≤ p + D by omega), rn10 hb (show 10 ≤ p by omega)]
    constructor
    · intro z i hi
      have := z i hi
      rw [show p + D - 10 + i = p - 10 + i + D by omega, h _ (by omega) (by omega)] at this
      exact this
    · intro z i hi
      rw [show p + D - 10 + i = p - 10 + i + D by omega, h _ (by omega) (by omega)]
      exact z i hi
  rcases nxf_cases hb hN hz h0 q with ⟨g1, g2, _⟩ | ⟨z, g1, g2, g3, g4, g5, ⟨j, hj, g6⟩, g7, _⟩
  · have e : eN b N q = q + 8 := by unfold eN; rw [g2]
    have e2 : fN b N q = false := by unfold fN; rw [g2]
    rw [e] at rnE ⊢
    rw [e2]
    rcases nxf_cases hc hN hz1 h1 (q + D) with ⟨_, k2, _⟩ | ⟨z', _, _, _, _, _, ⟨j, hj, k6⟩, _, _⟩
    · rw [k2, show q + D + 8 = q + 8 + D by omega]
    · rw [show q + D + j = q + j + D by omega] at k6
      exact absurd ((rnE (q + j) (by omega) (by omega)).mp k6) (g1 j hj)
  · have e : eN b N q = z + 8 := by unfold eN; rw [g7]
    have e2 : fN b N q = true := by unfold fN; rw [g7]
    rw [e] at rnE h ⊢
    rw [e2]
    rcases nxf_cases hc hN hz1 h1 (q + D) with ⟨k1, _, _⟩ | ⟨z', k1, k2, k3, k4, k5, _, k7, _⟩
    · refine absurd ?_ (k1 j hj)
      rw [show q + D + j = q + j + D by omega]
      exact (rnE (q + j) (by omega) (by omega)).mpr g6
    · have : z' = z + D := by
        rcases Nat.lt_trichotomy z' (z + D) with y | y | y
        · have a := h (z' - D) (by omega) (by omega)
          rw [show z' - D + D = z' by omega, k3, g5 (z' - D) (by omega) (by omega)] at a
          cases a
        · exact y
        · have a := h z (by omega) (by omega)
          rw [k5 (z + D) (by omega) y, g3] at a
          cases a
      rw [k7, this, show z + D + 8 = z + 8 + D by omega]
theorem sq_loc {z0 z1 q D : Nat} (hb : rgb b N) (hc : rgb c N) (hN : 11 ≤ N) (hz : z0 < N) (h0 : b z0 = false) (hz1 : z1 < N) (h1 : c z1 = false) (hq : 10 ≤ q) : ∀ n, (∀ y, q - 10 ≤ y → y < sq b N q n → c (y + D) = b y) → sq c N (q + D) n = sq b N q n + D := by
  intro n
  induction n with
  | zero => intro _; rfl
  | succ n ih =>
    intro h
    have m1 := sq_mono hb hN hz h0 (q := q) n (n + 1) (by omega)
    have m0 := sq_mono hb hN hz h0 (q := q) 0 n (by omega)
    have m0' : q + 8 * (n - 0) ≤ sq b N q n := m0
    show eN c N (sq c N (q + D) n) = eN b N (sq b N q n) + D
    rw [ih (fun y y1 y2 => h y y1 (by omega))]
    have := nxf_loc (D := D) (q := sq b N q n) hb hc hN hz h0 hz1 h1 (by omega) (fun y y1 y2 => h y (by omega) y2)
    unfold eN at this ⊢
    rw [this]
theorem fN_loc {z0 z1 q D : Nat} (hb : rgb b N) (hc : rgb c N) (hN : 11 ≤ N) (hz : z0 < N) (h0 : b z0 = false) (hz1 : z1 < N) (h1 : c z1 = false) (hq : 10 ≤ q) (n : Nat) (h : ∀ y, q - 10 ≤ y → y < sq b N q (n + 1) → c (y + D) = b y) : fN c N (sq c N (q + D) n) = fN b N (sq b N q n) := by
  have m1 := sq_mono hb hN hz h0 (q := q) n (n + 1) (by omega)
  have m0 : q + 8 * (n - 0) ≤ sq b N q n := sq_mono hb hN hz h0 (q := q) 0 n (by omega)
  rw [sq_loc hb hc hN hz h0 hz1 h1 hq n (fun y y1 y2 => h y y1 (by omega))]
  have := nxf_loc (D := D) (q := sq b N q n) hb hc hN hz h0 hz1 h1 (by omega) (fun y y1 y2 => h y (by omega) y2)
  show (nxf c N (sq b N q n + D)).2 = _
  rw [this]
/-- a WRITE behind the header at p -/
def Wt (b : Nat → Bool) (N : Nat) (h : Nat → Bool) (p w : Nat) (d c : Nat → Bool) : Prop := 10 ≤ p ∧ hOK h ∧ dOK d ∧ hdr b N h p ∧ w = sq b N (p + 80) 9 ∧ c = pw b N (w % N) 720 (Gw d)
section K
variable {h d : Nat → Bool} {p w : Nat}
theorem Wt_1 (hb : rgb b N) (hN : 1000 ≤ N) (W : Wt b N h p w d c) : ∀ o, o < 720 → c (w + o) = Gw d o := fun o ho => by
  rw [W.2.2.2.2.2, pwU hb (by omega) (by omega), if_pos ho]
theorem Wt_2 (hb : rgb b N) (hN : 1000 ≤ N) (W : Wt b N h p w d c) : ∀ y, w + 720 ≤ y → y < w + N → c y = b y := fun y h1 h2 => by
  rw [W.2.2.2.2.2, show y = w + (y - w) by omega, pwU hb (by omega) (by omega), if_neg (by omega)]
theorem Wt_r (W : Wt b N h p w d c) : rgb c N := by
  rw [W.2.2.2.2.2]; exact pw_r _ _ _ _ _
theorem Wt_3 (hb : rgb b N) (hN : 1000 ≤ N) (W : Wt b N h p w d c) : ∀ y, y < w → w + 720 ≤ y + N → c y = b y := fun y h1 h2 => by
  rw [← rgb_w (Wt_r W), ← rgb_w hb]
  exact Wt_2 hb hN W (y + N) h2 (by omega)
theorem Wt_4 (hb : rgb b N) (hN : 1000 ≤ N) (W : Wt b N h p w d c) : ∀ y, y + N < w → w + 720 ≤ y + N + N → c y = b y := fun y h1 h2 => by
  rw [← rgb_w (Wt_r W), ← rgb_w hb]
  exact Wt_3 hb hN W (y + N) h1 h2
theorem Wt_ge (hb : rgb b N) (hN : 1000 ≤ N) (W : Wt b N h p w d c) : p + 152 ≤ w := by
  obtain ⟨z0, hz, h0⟩ := hdr_z hb (by omega) W.2.2.2.1
  have m0 : p + 80 + 8 * (9 - 0) ≤ sq b N (p + 80) 9 := sq_mono hb (by omega) hz h0 (q := p + 80) 0 9 (by omega)
  rw [W.2.2.2.2.1]
  omega
/-- a header that begins ahead of the place of a WRITE lies close ahead -/
theorem sq_near {h' : Nat → Bool} {x : Nat} (hb : rgb b N) (hN : 1000 ≤ N) (W : Wt b N h p w d c) (ho : hOK h') (hF : isF b N x) (h1 : p + 80 ≤ x) (h2 : x < w) (hh : ∀ i, i < 72 → b (x + i) = h' i) : w ≤ x + 72 := by
  obtain ⟨z0, hz, h0⟩ := hdr_z hb (by omega) W.2.2.2.1
  obtain ⟨n, n1, n2, n3⟩ := sq_hit hb (by omega) hz h0 (x + 1) (p + 80) x (by omega) h1 hF
  have n8 : n ≤ 8 := by
    refine Nat.le_of_not_lt fun y => ?_
    have := sq_mono hb (by omega) hz h0 (q := p + 80) 9 n (by omega)
    rw [← W.2.2.2.2.1] at this
    omega
  have row := sq_row (x := x) (L := 72) hb (by omega) hz h0 hF.1 (fun s hs => by
    obtain ⟨u, hu, hf⟩ := ho.1 s (by omega)
    exact ⟨u, hu, by rw [Nat.add_assoc, hh (s + u) (by omega)]; exact hf⟩) (8 - n) (by omega)
  have : sq b N (p + 80) 9 = x + 8 + 8 * (8 - n) := by
    rw [show 9 = n + 1 + (8 - n) by omega, sq_add, n2]
    exact row
  rw [W.2.2.2.2.1, this]
  omega
theorem Wt_le (hb : rgb b N) (hN : 1000 ≤ N) (W : Wt b N h p w d c) : w ≤ p + N + 72 := by
  by_cases q : w ≤ p + N
  · omega
  · refine sq_near hb hN W W.2.1 ((isF_N hb (by omega)).mpr W.2.2.2.1.1) (by omega) (by omega) (fun i hi => ?_)
    rw [show p + N + i = p + i + N by omega, rgb_w hb]
    exact W.2.2.2.1.2 i (by omega)
theorem K1_in {h' : Nat → Bool} {x : Nat} (hb : rgb b N) (hN : 1000 ≤ N) (W : Wt b N h p w d c) (ho : hOK h') (h1 : w ≤ x) (h2 : x < w + 730) : ¬ hdr c N h' x := fun hx => by
  have f1 := Wt_1 hb hN W
  have ge := Wt_ge hb hN W
  have rc := Wt_r W
  have od := W.2.2.1
  by_cases c1 : x < w + 40
  · have := f1 (x - w) (by omega)
    rw [show w + (x - w) = x by omega, hx.1.1] at this
    unfold Gw at this
    rw [if_pos (by omega)] at this
    cases this
  · by_cases c2 : x = w + 40
    · have a := hx.2 5 (by omega)
      have a2 := f1 45 (by omega)
      rw [c2, show w + 40 + 5 = w + 45 by omega, a2] at a
      unfold Gw at a
      rw [if_neg (by omega), show 45 - 40 = 5 from rfl, od.2.1 5 (by omega), ho.2.1 5 (by omega)] at a
      exact absurd a (by decide)
    · have key : ∀ o, o < 680 → d o = false → x - 10 ≤ w + 40 + o → w + 40 + o < x → False := fun o ho hf a1 a2 => by
        refine no10 rc (p := x) (z := w + 40 + o) (by omega) a1 a2 ?_ hx.1.2
        rw [Nat.add_assoc, f1 (40 + o) (by omega)]
        unfold Gw
        rw [if_neg (by omega), show 40 + o - 40 = o by omega]
        exact hf
      by_cases c3 : x ≤ w + 50
      · refine key 0 (by omega) ?_ (by omega) (by omega)
        rw [od.2.1 0 (by omega)]; decide
      · by_cases c4 : x ≤ w + 720
        · obtain ⟨u, hu, hf⟩ := od.1 (x - w - 50) (by omega)
          exact key (x - w - 50 + u) (by omega) hf (by omega) (by omega)
        · exact key 679 (by omega) od.2.2 (by omega) (by omega)
/-- which headers live behind a WRITE: those far behind it, and none is made -/
theorem K1 {h' : Nat → Bool} {x : Nat} (hb : rgb b N) (hN : 1000 ≤ N) (W : Wt b N h p w d c) (ho : hOK h') (h1 : p < x) (h2 : x ≤ p + N) (hx : hdr c N h' x) : w + 730 ≤ x ∧ hdr b N h' x := by
  have ge := Wt_ge hb hN W
  have le := Wt_le hb hN W
  have rc := Wt_r W
  have p10 := W.1
  by_cases A : w + 730 ≤ x
  · exact ⟨A, hdr_loc rc hb (by omega) (fun y y1 y2 => (Wt_2 hb hN W y (by omega) (by omega)).symm) hx⟩
  · exfalso
    by_cases B : w ≤ x
    · exact K1_in hb hN W ho B (by omega) hx
    · by_cases C : x + N < w + 730
      · by_cases D : w ≤ x + N
        · exact K1_in hb hN W ho D C ((hdr_N rc (by omega)).mpr hx)
        · refine hd_q hb W.2.1 W.2.2.2.1 (x := x) (by omega) h1 (by omega) ((rn10 hb (by omega)).mpr (fun i hi => ?_))
          rw [← Wt_4 hb hN W (x - 10 + i) (by omega) (by omega)]
          exact (rn10 rc (by omega)).mp hx.1.2 i hi
      · have ag : ∀ y, x - 10 ≤ y → y < w → c y = b y := fun y y1 y2 => Wt_3 hb hN W y y2 (by omega)
        have hF : isF b N x := ⟨(ag x (by omega) (by omega)).symm.trans hx.1.1, (rn10 hb (by omega)).mpr (fun i hi => by
          rw [← ag (x - 10 + i) (by omega) (by omega)]
          exact (rn10 rc (by omega)).mp hx.1.2 i hi)⟩
        by_cases D : x ≤ p + 88
        · exact hd_q hb W.2.1 W.2.2.2.1 (x := x) (by omega) h1 D hF.2
        · by_cases E : w ≤ x + 78
          · by_cases F : w ≤ x + 38
            · obtain ⟨u, hu, hf⟩ := ho.1 (w - x) (by omega)
              have a := hx.2 (w - x + u) (by omega)
              rw [show x + (w - x + u) = w + u by omega, Wt_1 hb hN W u (by omega), hf] at a
              unfold Gw at a
              rw [if_pos (by omega)] at a
              cases a
            · have a := hx.2 78 (by omega)
              rw [show x + 78 = w + (x + 78 - w) by omega, Wt_1 hb hN W (x + 78 - w) (by omega)] at a
              have e := ho.2.2 18 (by omega)
              rw [show 60 + 18 = 78 from rfl] at e
              unfold Gw at a
              rw [if_pos (by omega), e] at a
              exact absurd a (by decide)
          · have := sq_near hb hN W ho hF (by omega) (by omega) (fun i hi => by
              rw [← ag (x + i) (by omega) (by omega)]
              exact hx.2 i (by omega))
            omega
/-- what lies far from a WRITE lives -/
theorem K2 {h' : Nat → Bool} {x : Nat} (hb : rgb b N) (hN : 1000 ≤ N) (W : Wt b N h p w d c) (h1 : w + 730 ≤ x) (h2 : x ≤ p + N) (hx : hdr b N h' x) : hdr c N h' x := by
  have ge := Wt_ge hb hN W
  exact hdr_loc hb (Wt_r W) (by omega) (fun y y1 y2 => Wt_2 hb hN W y (by omega) (by omega)) hx
theorem nomake {h' : Nat → Bool} {x : Nat} (hb : rgb b N) (hN : 1000 ≤ N) (W : Wt b N h p w d c) (ho : hOK h') (hp : N ≤ p) (hp2 : p < N + N) (hx1 : x < N) (hx : hdr c N h' x) : hdr b N h' x := by
  have rc := Wt_r W
  have hx' := (hdr_N rc (by omega)).mpr hx
  by_cases q : p < x + N
  · exact (hdr_N hb (by omega)).mp (K1 hb hN W ho q (by omega) hx').2
  · have hx2 := (hdr_N rc (by omega)).mpr hx'
    exact (hdr_N hb (by omega)).mp ((hdr_N hb (by omega)).mp (K1 hb hN W ho (by omega) (by omega) hx2).2)
end K
end WR
