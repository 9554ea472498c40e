/-! the bytes that come one behind the other -/
def nxf (b : Nat → Bool) (N q : Nat) : Nat × Bool := (nx b N (N + 10) q 0 false).getD (q, false)
def eN (b : Nat → Bool) (N q : Nat) : Nat := (nxf b N q).1
def fN (b : Nat → Bool) (N q : Nat) : Bool := (nxf b N q).2
def sq (b : Nat → Bool) (N q : Nat) : Nat → Nat
  | 0 => q
  | n + 1 => eN b N (sq b N q n)
section SQ
variable {b : Nat → Bool} {N z0 : Nat}
theorem nxf_cases (hb : rgb b N) (hN : 11 ≤ N) (hz : z0 < N) (h0 : b z0 = false) (q : Nat) :
    ((∀ j, j ≤ 8 → ¬ rn b N (q + j) = 10) ∧ nxf b N q = (q + 8, false) ∧ nx b N (N + 10) q 0 false = some (nxf b N q)) ∨
    (∃ z, q ≤ z ∧ z < q + N ∧ b z = false ∧ rn b N z = 10 ∧ (∀ i, q ≤ i → i < z → b i = true) ∧ (∃ j, j ≤ 8 ∧ rn b N (q + j) = 10) ∧ nxf b N q = (z + 8, true) ∧ nx b N (N + 10) q 0 false = some (nxf b N q)) := by
  rcases nx_cases hb hN hz h0 q with ⟨h1, h2⟩ | ⟨z, h1, h2, h3, h4, h5, h6⟩
  · have e := nx_le h2 (show 9 ≤ N + 10 by omega)
    have e2 : nxf b N q = (q + 8, false) := by unfold nxf; rw [e]; rfl
    exact Or.inl ⟨h1, e2, by rw [e2]; exact e⟩
  · have e := nx_le h6 (show z - q + 9 ≤ N + 10 by omega)
    have e2 : nxf b N q = (z + 8, true) := by unfold nxf; rw [e]; rfl
    refine Or.inr ⟨z, h1, h2, h3, h4, h5, ?_, e2, by rw [e2]; exact e⟩
    refine Decidable.byContradiction fun c => ?_
    have := nx_le (nx_plain (f := false) hb hN 8 0 (by omega) (fun j hj r => c ⟨j, hj, r⟩)) (show 8 + 1 ≤ N + 10 by omega)
    rw [e] at this
    have := (Prod.mk.inj (Option.some.inj this)).2
    cases this
theorem nxf_some (hb : rgb b N) (hN : 11 ≤ N) (hz : z0 < N) (h0 : b z0 = false) (q : Nat) : nx b N (N + 10) q 0 false = some (nxf b N q) := by
  rcases nxf_cases hb hN hz h0 q with h | ⟨z, h⟩
  · exact h.2.2
  · exact h.2.2.2.2.2.2.2
theorem eN_ge (hb : rgb b N) (hN : 11 ≤ N) (hz : z0 < N) (h0 : b z0 = false) (q : Nat) : q + 8 ≤ eN b N q := by
  unfold eN
  rcases nxf_cases hb hN hz h0 q with h | ⟨z, h⟩
  · rw [h.2.1]; exact Nat.le_refl _
  · rw [h.2.2.2.2.2.2.1]
    show q + 8 ≤ z + 8
    omega
theorem isF_w (hb : rgb b N) (hN : 11 ≤ N) {p : Nat} : isF b N (p % N) ↔ isF b N p := by
  unfold isF
  rw [← hb p, rn_m hb hN]
/-- a FIRST byte's place within N bits -/
theorem first_in {p0 : Nat} (hb : rgb b N) (hN : 11 ≤ N) (hp : p0 < N) (hF : isF b N p0) (q : Nat) : ∃ i, i < N ∧ isF b N (q + i) := by
  have hr : q % N < N := Nat.mod_lt _ (by omega)
  have hq := Nat.div_add_mod q N
  by_cases c : q % N ≤ p0
  · refine ⟨p0 - q % N, by omega, ?_⟩
    rw [← isF_w hb hN, show q + (p0 - q % N) = N * (q / N) + p0 by omega, Nat.mul_add_mod, Nat.mod_eq_of_lt hp]
    exact hF
  · refine ⟨N + p0 - q % N, by omega, ?_⟩
    rw [← isF_w hb hN, show q + (N + p0 - q % N) = N * (q / N + 1) + p0 by rw [Nat.mul_succ]; omega, Nat.mul_add_mod, Nat.mod_eq_of_lt hp]
    exact hF
theorem sq_s (q n : Nat) : sq b N q (n + 1) = sq b N (eN b N q) n := by
  induction n with
  | zero => rfl
  | succ n ih =>
    show eN b N (sq b N q (n + 1)) = eN b N (sq b N (eN b N q) n)
    rw [ih]
/-- n bytes that aren't FIRST, then one that is -/
def ga (b : Nat → Bool) (N q n : Nat) : Prop := (∀ m, m < n → fN b N (sq b N q m) = false) ∧ fN b N (sq b N q n) = true
theorem ga_u {q n m : Nat} (h1 : ga b N q n) (h2 : ga b N q m) : n = m := by
  rcases Nat.lt_trichotomy n m with h | h | h
  · have := h2.1 n h
    rw [h1.2] at this
    cases this
  · exact h
  · have := h1.1 m h
    rw [h2.2] at this
    cases this
theorem ga_of (hb : rgb b N) (hN : 11 ≤ N) (hz : z0 < N) (h0 : b z0 = false) : ∀ (w q P : Nat), P < w + q → q ≤ P → isF b N P → ∃ n, 8 * n ≤ P - q ∧ ga b N q n := by
  intro w
  induction w with
  | zero => intro q P c1 c2; omega
  | succ w ih =>
    intro q P c1 c2 hF
    rcases nxf_cases hb hN hz h0 q with ⟨h1, h2, _⟩ | ⟨z, h1, h2, h3, h4, h5, h6, h7, _⟩
    · have hP : q + 8 < P := by
        refine Nat.lt_of_not_le fun c => ?_
        have := h1 (P - q) (by omega)
        rw [show q + (P - q) = P by omega] at this
        exact this hF.2
      obtain ⟨n, n1, n2⟩ := ih (q + 8) P (by omega) (by omega) hF
      have e : eN b N q = q + 8 := by unfold eN; rw [h2]
      refine ⟨n + 1, by omega, fun m hm => ?_, ?_⟩
      · cases m with
        | zero =>
          show fN b N q = false
          unfold fN
          rw [h2]
        | succ m =>
          rw [sq_s, e]
          exact n2.1 m (by omega)
      · rw [sq_s, e]
        exact n2.2
    · refine ⟨0, by omega, fun m hm => by omega, ?_⟩
      show fN b N q = true
      unfold fN
      rw [h7]
theorem ga_ex {p0 : Nat} (hb : rgb b N) (hN : 11 ≤ N) (hp : p0 < N) (hF : isF b N p0) (q : Nat) : ∃ n, 8 * n < N ∧ ga b N q n := by
  obtain ⟨i, hi, hFi⟩ := first_in hb hN hp hF q
  obtain ⟨n, n1, n2⟩ := ga_of hb hN hp hF.1 (i + 1) q (q + i) (by omega) (by omega) hFi
  exact ⟨n, by omega, n2⟩
/-- the bits of the bytes that come from q1 on, the first of which ends there -/
def cbf (b : Nat → Bool) (N q1 : Nat) (i : Nat) : Bool := b (sq b N q1 (i / 8) - 8 + i % 8)
theorem cbf_by {q1 j : Nat} : by8 (cbf b N q1) (8 * j) = by8 b (sq b N q1 j - 8) := by
  refine by8_ext (fun i hi => ?_)
  unfold cbf
  rw [show (8 * j + i) / 8 = j by omega, show (8 * j + i) % 8 = i by omega]
end SQ
/-! the class -/
theorem c_next {S : rz_S} {k q z0 : Nat} {b : Nat → Bool} (hk : rgP k) (hb : rgb b (8 * rgN k)) (h : RgH S k b) (hA : RgAt b S k q) (hz : z0 < 8 * rgN k) (h0 : b z0 = false) : rz_ev mRing_next [.ref k] S (rz_i (fun x S1 => x = by8 b (eN b (8 * rgN k) q - 8) ∧ RgF S k S1 ∧ RgAt b S1 k (eN b (8 * rgN k) q) ∧ S1.2 k 5 = nI (fN b (8 * rgN k) q).toNat ∧ S1.2 k 6 = S.2 k 6 ∧ S1.2 k 7 = S.2 k 7)) := by
  have hN := rgN_b hk
  refine rz_useI (c_Ring_next (q' := eN b (8 * rgN k) q) (f' := fN b (8 * rgN k) q) hk hb h hA (nxf_some hb (by omega) hz h0 q) (Nat.le_refl _)) (fun x S1 r => ⟨r.1, RgG_F r.2.2.1, r.2.2.2.1, r.2.2.2.2, r.2.2.1.2 k 6 (by omega), r.2.2.1.2 k 7 (by omega)⟩)
theorem lp_Ring_skip {S : rz_S} {k q z0 : Nat} {b : Nat → Bool} (hk : rgP k) (hb : rgb b (8 * rgN k)) (h : RgH S k b) (hz : z0 < 8 * rgN k) (h0 : b z0 = false) : ∀ (w i : Nat) (T : rz_S), 9 < w + i → i ≤ 9 → RgF S k T → RgAt b T k (sq b (8 * rgN k) q i) → rz mRing_skip 2 [(0, .ref k), (1, .int 9), (2, .int (nI i))] [] T (rz_v (fun S1 => RgF S k S1 ∧ RgAt b S1 k (sq b (8 * rgN k) q 9))) := by
  intro w
  induction w with
  | zero => intro i T c1 c2; omega
  | succ w ih =>
    intro i T c1 c2 hF hA
    refine p_Ring_skip_2 hk ⟨fun c => ?_, fun c => ?_⟩
    · have : 9 ≤ i := (nI_leI (a := 9) (by omega) (by omega)).mp c
      have e : i = 9 := by omega
      subst e
      exact ⟨hF, hA⟩
    · have hi : ¬ 9 ≤ i := fun z => c (nI_le (a := 9) z (by omega))
      refine rz_useI (c_next hk hb (RgF_H h hF) hA hz h0) (fun x T1 r => ?_)
      rw [nI_1]
      exact ih (i + 1) T1 (by omega) (by omega) (RgF_t hF r.2.1) r.2.2.1
theorem c_Ring_skip {S : rz_S} {k q z0 : Nat} {b : Nat → Bool} (hk : rgP k) (hb : rgb b (8 * rgN k)) (h : RgH S k b) (hA : RgAt b S k q) (hz : z0 < 8 * rgN k) (h0 : b z0 = false) : rz_ev mRing_skip [.ref k, .int 9] S (rz_v (fun S1 => RgF S k S1 ∧ RgAt b S1 k (sq b (8 * rgN k) q 9))) := by
  show rz _ 0 [(0, .ref k), (1, .int 9)] [] _ _
  exact p_Ring_skip_0 hk (lp_Ring_skip hk hb h hz h0 10 0 S (by omega) (by omega) (RgF_r S k) hA)
/-- behind a gathering into 12 -/
def gaP (b : Nat → Bool) (k q1 : Nat) (S S1 : rz_S) : Prop := cF S S1 ∧ S1.1 11 = S.1 11 ∧ ∀ i, i < 85 → S1.1 12 i = by8 b (sq b (8 * rgN k) q1 i - 8)
theorem lp_gather36 {S : rz_S} {k q1 z0 : Nat} {b : Nat → Bool} (hk : rgP k) (hb : rgb b (8 * rgN k)) (h : RgH S k b) (hz : z0 < 8 * rgN k) (h0 : b z0 = false) : ∀ (w i : Nat) (T : rz_S), 85 < w + i → i ≤ 85 → cF S T → T.1 11 = S.1 11 → RgAt b T k (sq b (8 * rgN k) q1 (i - 1)) → (∀ j, j < i → T.1 12 j = by8 b (sq b (8 * rgN k) q1 j - 8)) → rz mRing_gatherFromFirst 36 [(0, .ref k), (1, .ref 12), (2, .int (by8 b (q1 - 8))), (3, .int (nI i))] [] T (rz_v (gaP b k q1 S)) := by
  have zk := rgZ hk
  intro w
  induction w with
  | zero => intro i T c1 c2; omega
  | succ w ih =>
    intro i T c1 c2 hF h11 hA hj
    refine p_Ring_gatherFromFirst_36 (na1 := 85) hk rfl ⟨fun c => ?_, fun c => ?_⟩
    · have : 85 ≤ i := (nI_leI (a := 85) (by omega) (by omega)).mp c
      have e : i = 85 := by omega
      subst e
      exact ⟨hF, h11, hj⟩
    · have hi : ¬ 85 ≤ i := fun z => c (nI_le (a := 85) z (by omega))
      refine ⟨fun z => ⟨rin (by omega) (by omega), ?_⟩, fun z => ?_⟩
      · have i0 : i = 0 := (nI_eq (b := 0) (by omega) (by omega)).mp z
        subst i0
        rw [nI_clamp (by omega), nI_1]
        refine ih 1 _ (by omega) (by omega) (cF_t hF (cF_a (by omega))) (by rw [rz_fA_n (by omega)]; exact h11) ⟨hA.1, hA.2⟩ (fun j hj => ?_)
        have : j = 0 := by omega
        subst this
        rw [rz_fA_s, pk_us]
        rfl
      · have i0 : i ≠ 0 := fun e => z (by rw [e]; rfl)
        refine rz_useI (c_next hk hb (cF_H hk h hF) hA hz h0) (fun x T1 r => ⟨rin (by omega) (by omega), ?_⟩)
        obtain ⟨rfl, r2, r3, _⟩ := r
        rw [nI_clamp (by omega), nI_1]
        have e1 : eN b (8 * rgN k) (sq b (8 * rgN k) q1 (i - 1)) = sq b (8 * rgN k) q1 i := by
          cases i with
          | zero => exact absurd rfl i0
          | succ i => rfl
        rw [e1] at r3 ⊢
        refine ih (i + 1) _ (by omega) (by omega) (cF_t hF (cF_t (cF_g hk r2) (cF_a (by omega)))) (by rw [rz_fA_n (by omega), r2.1]; exact h11) ⟨r3.1, r3.2⟩ (fun j hj2 => ?_)
        rw [rz_fA_s]
        by_cases e : j = i
        · subst e; exact pk_us
        · rw [pk_un e, r2.1]
          exact hj j (by omega)
theorem lp_gather7 {S : rz_S} {k q n z0 : Nat} {b : Nat → Bool} (hk : rgP k) (hb : rgb b (8 * rgN k)) (h : RgH S k b) (hz : z0 < 8 * rgN k) (h0 : b z0 = false) (hn : 8 * n < 8 * rgN k) (hg : ga b (8 * rgN k) q n) : ∀ (w m : Nat) (T : rz_S), n < w + m → m ≤ n → cF S T → T.1 11 = S.1 11 → RgAt b T k (sq b (8 * rgN k) q (m + 1)) → T.2 k 5 = nI (fN b (8 * rgN k) (sq b (8 * rgN k) q m)).toNat → rz mRing_gatherFromFirst 7 [(0, .ref k), (1, .ref 12), (2, .int (by8 b (sq b (8 * rgN k) q (m + 1) - 8))), (3, .int (nI m))] [] T (rz_v (gaP b k (sq b (8 * rgN k) q (n + 1)) S)) := by
  have hN := rgN_b hk
  intro w
  induction w with
  | zero => intro m T c1 c2; omega
  | succ w ih =>
    intro m T c1 c2 hF h11 hA h5
    refine p_Ring_gatherFromFirst_7 (na1 := 85) hk rfl ?_
    rw [h5]
    refine ⟨fun c => ?_, fun c => ⟨fun z => ?_, fun z => ?_⟩⟩
    · have : rgN k ≤ m := (nI_leI (by omega) (by omega)).mp c
      omega
    · have hf := (nI_b0 _).mp z
      have mn : m ≠ n := fun e => by
        subst e
        rw [hg.2] at hf
        cases hf
      refine rz_useI (c_next hk hb (cF_H hk h hF) hA hz h0) (fun x T1 r => ?_)
      obtain ⟨rfl, r2, r3, r4, _⟩ := r
      rw [nI_1]
      exact ih (m + 1) T1 (by omega) (by omega) (cF_t hF (cF_g hk r2)) (by rw [r2.1]; exact h11) r3 r4
    · have hf : fN b (8 * rgN k) (sq b (8 * rgN k) q m) = true := Bool.of_not_eq_false fun e => z ((nI_b0 _).mpr e)
      have mn : m = n := by
        rcases Nat.lt_or_ge m n with e | e
        · have := hg.1 m e
          rw [hf] at this
          cases this
        · omega
      subst mn
      exact lp_gather36 hk hb h hz h0 86 0 T (by omega) (by omega) hF h11 hA (fun j hj => by omega)
theorem c_Ring_gather {S : rz_S} {k q n z0 : Nat} {b : Nat → Bool} (hk : rgP k) (hb : rgb b (8 * rgN k)) (h : RgH S k b) (hA : RgAt b S k q) (hz : z0 < 8 * rgN k) (h0 : b z0 = false) (hn : 8 * n < 8 * rgN k) (hg : ga b (8 * rgN k) q n) : rz_ev mRing_gatherFromFirst [.ref k, .ref 12] S (rz_v (gaP b k (sq b (8 * rgN k) q (n + 1)) S)) := by
  show rz _ 0 [(0, .ref k), (1, .ref 12)] [] _ _
  refine p_Ring_gatherFromFirst_0 (na1 := 85) hk rfl (rz_useI (c_next hk hb h hA hz h0) (fun x T1 r => ?_))
  obtain ⟨rfl, r2, r3, r4, _⟩ := r
  exact lp_gather7 hk hb h hz h0 hn hg (n + 1) 0 T1 (by omega) (by omega) (cF_g hk r2) (by rw [r2.1]) r3 r4
/-! the reference -/
def mF (S S1 : rz_S) : Prop := (∀ q, ¬ (118 ≤ q ∧ q ≤ 121) → S1.1 q = S.1 q) ∧ ∀ u z, ¬ (u = 116 ∧ (6 ≤ z ∧ z ≤ 15 ∨ z = 20)) → S1.2 u z = S.2 u z
theorem mF_r (S : rz_S) : mF S S := ⟨fun _ _ => rfl, fun _ _ _ => rfl⟩
theorem mF_t {S S1 S2 : rz_S} (h1 : mF S S1) (h2 : mF S1 S2) : mF S S2 := ⟨fun q h => (h2.1 q h).trans (h1.1 q h), fun u z h => (h2.2 u z h).trans (h1.2 u z h)⟩
theorem mF_j {S S1 : rz_S} (h : JbF S S1) : mF S S1 := ⟨fun q _ => by rw [h.1], fun u z hz => h.2 u z fun e => hz ⟨e.1, Or.inl e.2⟩⟩
theorem mF_o {S S1 : rz_S} (h : RoF S S1) : mF S S1 := ⟨fun q hq => h.1 q (by omega), fun u z hz => h.2 u z fun e => hz ⟨e.1, Or.inl e.2⟩⟩
theorem mF_a {S : rz_S} {q : Nat} {f : Nat → Int32} (hq : 118 ≤ q ∧ q ≤ 121) : mF S (rz_fA S q f) := ⟨fun u hu => rz_fA_n (by omega), fun _ _ _ => rfl⟩
theorem mF_H {S S1 : rz_S} {t : Nat} {b : Nat → Bool} (h : RfH S t b) (hf : mF S S1) : RfH S1 t b := by
  intro j hj
  rw [hf.1 117 (by omega)]
  exact h j hj
theorem c_comes {S : rz_S} {t q z0 : Nat} {b : Nat → Bool} (h1 : 1 ≤ t) (h2 : t ≤ 12) (hb : rgb b (8 * tN t)) (h : RfH S t b) (hJ : Jb b S t q 0 false) (hz : z0 < 8 * tN t) (h0 : b z0 = false) : rz_ev mM_comes [.ref 116] S (rz_i (fun x S1 => x = by8 b (eN b (8 * tN t) q - 8) ∧ JbF S S1 ∧ Jb b S1 t (eN b (8 * tN t) q) 0 false ∧ S1.2 116 15 = nI (fN b (8 * tN t) q).toNat ∧ S1.2 116 14 = x)) := by
  have hN := tN_b h2
  exact rz_useI (c_M_comes (q' := eN b (8 * tN t) q) (f' := fN b (8 * tN t) q) h1 h2 hb h hJ (nxf_some hb (by omega) hz h0 q)) (fun x S1 r => ⟨r.1, r.2.2⟩)
def gaM (b : Nat → Bool) (t q1 : Nat) (S S1 : rz_S) : Prop := mF S S1 ∧ S1.1 120 = S.1 120 ∧ ∀ i, i < 85 → S1.1 121 i = by8 b (sq b (8 * tN t) q1 i - 8)
theorem lp_gets31 {S : rz_S} {t q1 z0 : Nat} {b : Nat → Bool} (h1 : 1 ≤ t) (h2 : t ≤ 12) (hb : rgb b (8 * tN t)) (h : RfH S t b) (hz : z0 < 8 * tN t) (h0 : b z0 = false) : ∀ (w i : Nat) (T : rz_S), 85 < w + i → 1 ≤ i → i ≤ 85 → mF S T → T.1 120 = S.1 120 → Jb b T t (sq b (8 * tN t) q1 (i - 1)) 0 false → (∀ j, j < i → T.1 121 j = by8 b (sq b (8 * tN t) q1 j - 8)) → rz mM_gets 31 [(0, .ref 116), (2, .int (nI i))] [] T (rz_v (gaM b t q1 S)) := by
  intro w
  induction w with
  | zero => intro i T c1 c0 c2; omega
  | succ w ih =>
    intro i T c1 c0 c2 hF h120 hJ hj
    refine p_M_gets_31 ⟨fun c => ?_, fun c => ?_⟩
    · have : 85 ≤ i := (nI_leI (a := 85) (by omega) (by omega)).mp c
      have e : i = 85 := by omega
      subst e
      exact ⟨hF, h120, hj⟩
    · have hi : ¬ 85 ≤ i := fun z => c (nI_le (a := 85) z (by omega))
      refine rz_useI (c_comes h1 h2 hb (mF_H h hF) hJ hz h0) (fun x T1 r => ⟨rin (by omega) (by omega), ?_⟩)
      obtain ⟨rfl, r2, r3, _⟩ := r
      have e1 : eN b (8 * tN t) (sq b (8 * tN t) q1 (i - 1)) = sq b (8 * tN t) q1 i := by
        cases i with
        | zero => omega
        | succ i => rfl
      rw [nI_clamp (by omega), nI_1, e1]
      rw [e1] at r3
      refine ih (i + 1) _ (by omega) (by omega) (by omega) (mF_t hF (mF_t (mF_j r2) (mF_a (by omega)))) ?_ r3 (fun j hj2 => ?_)
      · rw [rz_fA_n (by omega), r2.1]; exact h120
      · rw [rz_fA_s]
        by_cases e : j = i
        · subst e; exact pk_us
        · rw [pk_un e, r2.1]
          exact hj j (by omega)
theorem lp_gets2 {S : rz_S} {t q n z0 : Nat} {b : Nat → Bool} (h1 : 1 ≤ t) (h2 : t ≤ 12) (hb : rgb b (8 * tN t)) (h : RfH S t b) (hz : z0 < 8 * tN t) (h0 : b z0 = false) (hg : ga b (8 * tN t) q n) : ∀ (w m : Nat) (T : rz_S), n < w + m → m ≤ n → mF S T → T.1 120 = S.1 120 → Jb b T t (sq b (8 * tN t) q m) 0 false → rz mM_gets 2 [(0, .ref 116), (1, .int 0)] [] T (rz_v (gaM b t (sq b (8 * tN t) q (n + 1)) S)) := by
  intro w
  induction w with
  | zero => intro m T c1 c2; omega
  | succ w ih =>
    intro m T c1 c2 hF h120 hJ
    refine p_M_gets_2 ⟨fun _ => ?_, fun z => absurd rfl z⟩
    refine rz_useI (c_comes h1 h2 hb (mF_H h hF) hJ hz h0) (fun x T1 r => ?_)
    obtain ⟨rfl, r2, r3, r4, r5⟩ := r
    rw [r4]
    have h120' : T1.1 120 = S.1 120 := by rw [r2.1]; exact h120
    by_cases e : m = n
    · subst e
      rw [hg.2]
      refine p_M_gets_2 ⟨fun z => absurd z (by decide), fun _ => ?_⟩
      rw [r5]
      refine lp_gets31 h1 h2 hb h hz h0 85 1 _ (by omega) (by omega) (by omega) (mF_t hF (mF_t (mF_j r2) (mF_a (by omega)))) ?_ r3 (fun j hj => ?_)
      · rw [rz_fA_n (by omega)]; exact h120'
      · have : j = 0 := by omega
        subst this
        rw [rz_fA_s, pk_us]
        rfl
    · rw [hg.1 m (by omega)]
      exact ih (m + 1) T1 (by omega) (by omega) (mF_t hF (mF_j r2)) h120' r3
theorem c_M_gets {S : rz_S} {t q n z0 : Nat} {b : Nat → Bool} (h1 : 1 ≤ t) (h2 : t ≤ 12) (hb : rgb b (8 * tN t)) (h : RfH S t b) (hJ : Jb b S t q 0 false) (hz : z0 < 8 * tN t) (h0 : b z0 = false) (hg : ga b (8 * tN t) q n) : rz_ev mM_gets [.ref 116] S (rz_v (gaM b t (sq b (8 * tN t) q (n + 1)) S)) := by
  show rz _ 0 [(0, .ref 116)] [] _ _
  exact p_M_gets_0 (lp_gets2 h1 h2 hb h hz h0 hg (n + 1) 0 S (by omega) (by omega) (mF_r S) rfl hJ)
