/-! SCRATCH ends (1): headers on a ring, and what a WRITE leaves of them -/
theorem Bt {x : Bool} (h : ¬ x = false) : x = true := by
  cases x with
  | true => rfl
  | false => exact absurd rfl h
section HD
variable {b : Nat → Bool} {N : Nat}
theorem rn10 (hb : rgb b N) {p : Nat} (hp : 10 ≤ p) : rn b N p = 10 ↔ ∀ i, i < 10 → b (p - 10 + i) = true := by
  have h := rn_RN b N p
  have e : ∀ i, i < 10 → b (p + N - 1 - i) = b (p - 10 + (9 - i)) := fun i hi => by
    rw [show p + N - 1 - i = p - 10 + (9 - i) + N by omega]
    exact rgb_w hb
  constructor
  · intro z i hi
    rw [z] at h
    have := h.2.1 (9 - i) (by omega)
    rw [e (9 - i) (by omega), show 9 - (9 - i) = i by omega] at this
    exact this
  · intro z
    refine RN_u h ⟨Nat.le_refl _, fun i hi => ?_, Or.inl rfl⟩
    rw [e i hi]
    exact z (9 - i) (by omega)
theorem no10 (hb : rgb b N) {p z : Nat} (hp : 10 ≤ p) (h1 : p - 10 ≤ z) (h2 : z < p) (h : b z = false) : ¬ rn b N p = 10 := fun q => by
  have := (rn10 hb hp).mp q (z - (p - 10)) (by omega)
  rw [show p - 10 + (z - (p - 10)) = z by omega, h] at this
  cases this
theorem isF_N (hb : rgb b N) (hN : 11 ≤ N) {p : Nat} : isF b N (p + N) ↔ isF b N p := by
  rw [← isF_w hb hN, Nat.add_mod_right, isF_w hb hN]
/-- the bytes hit every FIRST place -/
theorem sq_hit {z0 : Nat} (hb : rgb b N) (hN : 11 ≤ N) (hz : z0 < N) (h0 : b z0 = false) : ∀ (w q z : Nat), z < w + q → q ≤ z → isF b N z → ∃ n, sq b N q n ≤ z ∧ sq b N q (n + 1) = z + 8 ∧ 8 * n ≤ z - q := by
  intro w
  induction w with
  | zero => intro q z a c; omega
  | succ w ih =>
    intro q z a c hF
    have keyz : ∀ z', q ≤ z' → b z' = false → rn b N z' = 10 → (∀ i, q ≤ i → i < z' → b i = true) → eN b N q = z' + 8 → ∃ n, sq b N q n ≤ z ∧ sq b N q (n + 1) = z + 8 ∧ 8 * n ≤ z - q := fun z' g1 g2 g3 g4 g5 => by
      by_cases e : z = z'
      · subst e; exact ⟨0, c, g5, by omega⟩
      · have hz' : z' < z := by
          refine Nat.lt_of_not_le fun y => ?_
          have := g4 z c (by omega)
          rw [hF.1] at this
          cases this
        have h8 : z' + 8 ≤ z := by
          refine Nat.le_of_not_lt fun y => ?_
          have hN0 : 0 < N := by omega
          have q1 : rn b N (z + N) = 10 := by rw [← rn_m hb hN, Nat.add_mod_right, rn_m hb hN]; exact hF.2
          refine no10 hb (p := z + N) (z := z' + N) (by omega) (by omega) (by omega) ?_ q1
          rw [rgb_w hb]; exact g2
        obtain ⟨n, n1, n2, n3⟩ := ih (z' + 8) z (by omega) h8 hF
        rw [← g5, ← sq_s] at n1 n2
        exact ⟨n + 1, n1, n2, by omega⟩
    rcases nxf_cases hb hN hz h0 q with ⟨g1, g2, _⟩ | ⟨z', g1, g2, g3, g4, g5, g6, g7, _⟩
    · have e : eN b N q = q + 8 := by unfold eN; rw [g2]
      have h8 : q + 8 < z := by
        refine Nat.lt_of_not_le fun y => ?_
        have := g1 (z - q) (by omega)
        rw [show q + (z - q) = z by omega] at this
        exact this hF.2
      obtain ⟨n, n1, n2, n3⟩ := ih (q + 8) z (by omega) (by omega) hF
      rw [← e, ← sq_s] at n1 n2
      exact ⟨n + 1, n1, n2, by omega⟩
    · exact keyz z' g1 g3 g4 g5 (by unfold eN; rw [g7])
/-- eight bits without a MARK -/
theorem eN_8 {z0 q : Nat} (hb : rgb b N) (hN : 11 ≤ N) (hz : z0 < N) (h0 : b z0 = false) (h : ∀ j, j ≤ 8 → ¬ rn b N (q + j) = 10) : eN b N q = q + 8 := by
  unfold eN
  rcases nxf_cases hb hN hz h0 q with ⟨_, g2, _⟩ | ⟨z', g1, g2, g3, g4, g5, ⟨j, hj, g6⟩, g7, _⟩
  · rw [g2]
  · exact absurd g6 (h j hj)
theorem sq_mono {z0 q : Nat} (hb : rgb b N) (hN : 11 ≤ N) (hz : z0 < N) (h0 : b z0 = false) : ∀ n m, n ≤ m → sq b N q n + 8 * (m - n) ≤ sq b N q m := by
  intro n m h
  induction h with
  | refl => omega
  | step h ih =>
    rename_i m
    have := eN_ge hb hN hz h0 (sq b N q m)
    show sq b N q n + 8 * (m + 1 - n) ≤ eN b N (sq b N q m)
    omega
/-- a row of bits behind a 0 in which no ten 1s come: byte by byte -/
theorem sq_row {z0 x L : Nat} (hb : rgb b N) (hN : 11 ≤ N) (hz : z0 < N) (h0 : b z0 = false) (hx : b x = false) (hr : ∀ s, s + 10 ≤ L → ∃ u, u < 10 ∧ b (x + s + u) = false) : ∀ i, 8 * i + 8 ≤ L → sq b N (x + 8) i = x + 8 + 8 * i := by
  intro i
  induction i with
  | zero => intro _; rfl
  | succ i ih =>
    intro h
    show eN b N (sq b N (x + 8) i) = _
    rw [ih (by omega), eN_8 hb hN hz h0 (fun j hj q => ?_)]
    · omega
    · by_cases c : 8 + 8 * i + j < 10
      · by_cases d : 10 ≤ x + 8 + 8 * i + j
        · exact no10 hb d (by omega) (by omega) hx q
        · have q1 : rn b N (x + 8 + 8 * i + j + N) = 10 := by rw [← rn_m hb hN, Nat.add_mod_right, rn_m hb hN]; exact q
          refine no10 hb (p := x + 8 + 8 * i + j + N) (z := x + N) (by omega) (by omega) (by omega) ?_ q1
          rw [rgb_w hb]; exact hx
      · obtain ⟨u, hu, hf⟩ := hr (8 + 8 * i + j - 10) (by omega)
        exact no10 hb (p := x + 8 + 8 * i + j) (by omega) (by omega) (by omega) (show b (x + (8 + 8 * i + j - 10) + u) = false from hf) q
/-- a header of the bits h at x -/
def hdr (b : Nat → Bool) (N : Nat) (h : Nat → Bool) (x : Nat) : Prop := isF b N x ∧ ∀ i, i < 80 → b (x + i) = h i
theorem hdr_mt {h : Nat → Bool} {x : Nat} : hdr b N h x ↔ isF b N x ∧ mt b h x := by
  constructor
  · rintro ⟨h1, h2⟩
    refine ⟨h1, fun i hi => by8_ext (fun u hu => ?_)⟩
    rw [Nat.add_assoc]
    exact h2 (8 * i + u) (by omega)
  · rintro ⟨h1, h2⟩
    refine ⟨h1, fun i hi => ?_⟩
    have := by8_inj (h2 (i / 8) (by omega)) (i % 8) (by omega)
    rw [Nat.add_assoc, show 8 * (i / 8) + i % 8 = i by omega] at this
    exact this
theorem hdr_N (hb : rgb b N) (hN : 11 ≤ N) {h : Nat → Bool} {x : Nat} : hdr b N h (x + N) ↔ hdr b N h x := by
  unfold hdr
  rw [isF_N hb hN]
  refine and_congr Iff.rfl ⟨fun q i hi => ?_, fun q i hi => ?_⟩
  · have := q i hi
    rw [show x + N + i = x + i + N by omega, rgb_w hb] at this
    exact this
  · rw [show x + N + i = x + i + N by omega, rgb_w hb]
    exact q i hi
end HD
/-- what every header has -/
def hOK (h : Nat → Bool) : Prop := (∀ s, s + 10 ≤ 80 → ∃ u, u < 10 ∧ h (s + u) = false) ∧ (∀ u, u < 10 → h u = (10 * 32 + 9 : Nat).testBit (9 - u)) ∧ ∀ u, u < 20 → h (60 + u) = decide (u % 2 = 1)
theorem gb_code {pl : Nat → Nat} {k v : Nat} (h : nbl pl k = v) : ∀ u, u < 5 → gb pl (5 * k + u) = (gr v).testBit (4 - u) := fun u hu => by
  have := gb_at (pl := pl) (i := k) (u := 4 - u) (by omega)
  rw [show 5 * k + (4 - (4 - u)) = 5 * k + u by omega, h] at this
  exact this
theorem hOK_h {t s i j : Nat} (ht : t < 256) (hs : s < 256) (hi : i < 256) (hj : j < 256) : hOK (gb (hpl t s i j)) := by
  have nE : ∀ k, nbl (hpl t s i j) (2 * k) = hpl t s i j k / 16 := fun k => by
    unfold nbl
    rw [if_pos (by omega), show 2 * k / 2 = k by omega]
  have nO : ∀ k, nbl (hpl t s i j) (2 * k + 1) = hpl t s i j k % 16 := fun k => by
    unfold nbl
    rw [if_neg (by omega), show (2 * k + 1) / 2 = k by omega]
  have h0 : hpl t s i j 0 = 8 := rfl
  have h6 : hpl t s i j 6 = 15 := rfl
  have h7 : hpl t s i j 7 = 15 := rfl
  refine ⟨fun q hq => gb_quiet (n := 8) (fun k _ => hpl_lt ht hs hi hj k) hq, fun u hu => ?_, fun u hu => ?_⟩
  · by_cases c : u < 5
    · have := gb_code (nE 0) u c
      rw [show 5 * (2 * 0) + u = u by omega, show hpl t s i j 0 / 16 = 0 by rw [h0]] at this
      rw [this]
      have : ∀ u, u < 5 → (gr 0).testBit (4 - u) = (10 * 32 + 9 : Nat).testBit (9 - u) := by decide
      exact this u c
    · have := gb_code (nO 0) (u - 5) (by omega)
      rw [show 5 * (2 * 0 + 1) + (u - 5) = u by omega, show hpl t s i j 0 % 16 = 8 by rw [h0]] at this
      rw [this]
      have : ∀ u, u < 10 → ¬ u < 5 → (gr 8).testBit (4 - (u - 5)) = (10 * 32 + 9 : Nat).testBit (9 - u) := by decide
      exact this u hu c
  · have key : ∀ v, v < 4 → ∀ o, o < 5 → gb (hpl t s i j) (5 * (12 + v) + o) = (gr (if v % 2 = 0 then 0 else 15)).testBit (4 - o) := fun v hv o ho => by
      refine gb_code ?_ o ho
      match v, hv with
      | 0, _ => exact (nE 6).trans (by rw [h6]; rfl)
      | 1, _ => exact (nO 6).trans (by rw [h6]; rfl)
      | 2, _ => exact (nE 7).trans (by rw [h7]; rfl)
      | 3, _ => exact (nO 7).trans (by rw [h7]; rfl)
    have := key (u / 5) (by omega) (u % 5) (by omega)
    rw [show 5 * (12 + u / 5) + u % 5 = 60 + u by omega] at this
    rw [this]
    have : ∀ u, u < 20 → (gr (if (u / 5) % 2 = 0 then 0 else 15)).testBit (4 - u % 5) = decide (u % 2 = 1) := by decide
    exact this u hu
/-- what every row of DATA has -/
def dOK (d : Nat → Bool) : Prop := (∀ s, s + 10 ≤ 680 → ∃ u, u < 10 ∧ d (s + u) = false) ∧ (∀ u, u < 10 → d u = (343 : Nat).testBit (9 - u)) ∧ d 679 = false
theorem dOK_d {r : Nat → Nat} (hr : ∀ k, k < 64 → r k < 256) : dOK (gb (dpl r)) := by
  have nE : ∀ k, nbl (dpl r) (2 * k) = dpl r k / 16 := fun k => by
    unfold nbl
    rw [if_pos (by omega), show 2 * k / 2 = k by omega]
  have nO : ∀ k, nbl (dpl r) (2 * k + 1) = dpl r k % 16 := fun k => by
    unfold nbl
    rw [if_neg (by omega), show (2 * k + 1) / 2 = k by omega]
  refine ⟨fun q hq => gb_quiet (n := 68) (fun k _ => dpl_lt hr k) hq, fun u hu => ?_, ?_⟩
  · by_cases c : u < 5
    · have := gb_code (nE 0) u c
      rw [show 5 * (2 * 0) + u = u by omega, show dpl r 0 / 16 = 0 by rw [show dpl r 0 = 7 from rfl]] at this
      rw [this]
      have : ∀ u, u < 5 → (gr 0).testBit (4 - u) = (343 : Nat).testBit (9 - u) := by decide
      exact this u c
    · have := gb_code (nO 0) (u - 5) (by omega)
      rw [show 5 * (2 * 0 + 1) + (u - 5) = u by omega, show dpl r 0 % 16 = 7 by rw [show dpl r 0 = 7 from rfl]] at this
      rw [this]
      have : ∀ u, u < 10 → ¬ u < 5 → (gr 7).testBit (4 - (u - 5)) = (343 : Nat).testBit (9 - u) := by decide
      exact this u hu c
  · have := gb_code (nO 67) 4 (by omega)
    rw [show 5 * (2 * 67 + 1) + 4 = 679 from rfl, show dpl r 67 % 16 = 0 from rfl] at this
    rw [this]
    decide
