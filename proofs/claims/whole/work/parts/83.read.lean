/-! READ: what comes of it; both sides -/
theorem vl_add (b : Nat → Bool) (p m : Nat) : ∀ n, vl b p (m + n) = vl b p m * 2 ^ n + vl b (p + m) n := by
  intro n
  induction n with
  | zero => show vl b p m = _; rw [Nat.pow_zero, Nat.mul_one]; rfl
  | succ n ih =>
    show 2 * vl b p (m + n) + (b (p + (m + n))).toNat = vl b p m * 2 ^ (n + 1) + (2 * vl b (p + m) n + (b (p + m + n)).toNat)
    rw [ih, Nat.pow_succ, show p + (m + n) = p + m + n by omega]
    generalize vl b p m = A
    generalize vl b (p + m) n = C
    generalize (b (p + m + n)).toNat = D
    have : A * (2 ^ n * 2) = 2 * (A * 2 ^ n) := by rw [← Nat.mul_assoc, Nat.mul_comm]
    omega
/-- the sum over the bytes 1 .. n of a row -/
def xk (f : Nat → Nat) : Nat → Nat
  | 0 => 0
  | n + 1 => xk f n ^^^ f (n + 1)
theorem xk_lt {f : Nat → Nat} : ∀ n, (∀ j, j ≤ n → f j < 256) → xk f n < 256 := by
  intro n
  induction n with
  | zero => intro _; exact (by decide : (0 : Nat) < 256)
  | succ n ih => intro h; exact xor_256 (ih (fun j hj => h j (by omega))) (h (n + 1) (Nat.le_refl _))
/-- the fault x of DATA, or its bytes -/
def DTp (c : Nat → Bool) (x : Nat) (d : Nat → Nat) : Prop :=
  (¬ vl c 0 10 = 343 ∧ x = 22) ∨ (vl c 0 10 = 343 ∧ ¬ vld c 136 ∧ x = 24) ∨ (vl c 0 10 = 343 ∧ vld c 136 ∧ ¬ xk (dec c) 64 = dec c 65 ∧ x = 23) ∨
  (vl c 0 10 = 343 ∧ vld c 136 ∧ xk (dec c) 64 = dec c 65 ∧ x = 0 ∧ ∀ k, k < 64 → d k = dec c (1 + k))
theorem DTp_u {c : Nat → Bool} {x x' : Nat} {d d' : Nat → Nat} (h : DTp c x d) (h' : DTp c x' d') : x = x' ∧ (x = 0 → ∀ k, k < 64 → d k = d' k) := by
  rcases h with ⟨a1, a2⟩ | ⟨a1, a2, a3⟩ | ⟨a1, a2, a3, a4⟩ | ⟨a1, a2, a3, a4, a5⟩ <;> rcases h' with ⟨c1, c2⟩ | ⟨c1, c2, c3⟩ | ⟨c1, c2, c3, c4⟩ | ⟨c1, c2, c3, c4, c5⟩ <;> first
    | exact absurd c1 a1
    | exact absurd a1 c1
    | exact absurd c2 a2
    | exact absurd a2 c2
    | exact absurd c3 a3
    | exact absurd a3 c3
    | (refine ⟨by omega, fun z k hk => ?_⟩; first | omega | (rw [a5 k hk, c5 k hk]))
def RDk (b h : Nat → Bool) (N x : Nat) (d : Nat → Nat) : Prop :=
  ((∀ p, p < N → ¬ isF b N p) ∧ x = 21) ∨ ((∃ p, p < N ∧ isF b N p) ∧ (∀ p, p < N → isF b N p → ¬ mt b h p) ∧ x = 20) ∨
  (∃ p n, p < N ∧ isF b N p ∧ mt b h p ∧ (∀ p', p' < p → isF b N p' → ¬ mt b h p') ∧ ga b N (p + 80) n ∧ DTp (cbf b N (sq b N (p + 80) (n + 1))) x d)
theorem RDk_u {b h : Nat → Bool} {N x x' : Nat} {d d' : Nat → Nat} (r : RDk b h N x d) (r' : RDk b h N x' d') : x = x' ∧ (x = 0 → ∀ k, k < 64 → d k = d' k) := by
  rcases r with ⟨a1, a2⟩ | ⟨⟨p, a0, a0'⟩, a1, a2⟩ | ⟨p, n, a1, a2, a3, a4, a5, a6⟩ <;> rcases r' with ⟨c1, c2⟩ | ⟨⟨q, c0, c0'⟩, c1, c2⟩ | ⟨q, m, c1, c2, c3, c4, c5, c6⟩
  · exact ⟨by omega, fun z => by omega⟩
  · exact absurd c0' (a1 q c0)
  · exact absurd c2 (a1 q c1)
  · exact absurd a0' (c1 p a0)
  · exact ⟨by omega, fun z => by omega⟩
  · exact absurd c3 (a1 q c1 c2)
  · exact absurd a2 (c1 p a1)
  · exact absurd a3 (c1 p a1 a2)
  · have e : p = q := by
      rcases Nat.lt_trichotomy p q with z | z | z
      · exact absurd a3 (c4 p z a2)
      · exact z
      · exact absurd c3 (a4 q z c2)
    subst e
    have e2 := ga_u a5 c5
    subst e2
    exact DTp_u a6 c6
def TIx (B : Nat → Nat → Bool) (id id1 : Option (Nat × Nat)) : Prop := (id ≠ none ∧ id1 = id) ∨ (id = none ∧ TI (B 7) (8 * tN 7) id1)
theorem TIx_u {B : Nat → Nat → Bool} {id r r' : Option (Nat × Nat)} (h : TIx B id r) (h' : TIx B id r') : r = r' := by
  rcases h with ⟨a1, a2⟩ | ⟨a1, a2⟩ <;> rcases h' with ⟨c1, c2⟩ | ⟨c1, c2⟩
  · rw [a2, c2]
  · exact absurd c1 a1
  · exact absurd a1 c1
  · exact TI_u a2 c2
/-- READ of a block: the fault x of (ft, fs), or its bytes; the ID behind it -/
def JR (B : Nat → Nat → Bool) (id : Option (Nat × Nat)) (t s x ft fs : Nat) (id' : Option (Nat × Nat)) (d : Nat → Nat) : Prop :=
  TIx B id id' ∧ ((id' = none ∧ x = 74 ∧ ft = 7 ∧ fs = 0) ∨ (∃ i j, id' = some (i, j) ∧ ft = t ∧ fs = s ∧ RDk (B t) (gb (hpl t s i j)) (8 * tN t) x d))
theorem JR_u {B : Nat → Nat → Bool} {id : Option (Nat × Nat)} {t s x ft fs x' ft' fs' : Nat} {id1 id2 : Option (Nat × Nat)} {d d' : Nat → Nat} (h : JR B id t s x ft fs id1 d) (h' : JR B id t s x' ft' fs' id2 d') : x = x' ∧ ft = ft' ∧ fs = fs' ∧ id1 = id2 ∧ (x = 0 → ∀ k, k < 64 → d k = d' k) := by
  have e := TIx_u h.1 h'.1
  subst e
  rcases h.2 with ⟨a1, a2, a3, a4⟩ | ⟨i, j, a1, a2, a3, a4⟩ <;> rcases h'.2 with ⟨c1, c2, c3, c4⟩ | ⟨i', j', c1, c2, c3, c4⟩
  · exact ⟨by omega, by omega, by omega, rfl, fun z => by omega⟩
  · rw [a1] at c1; cases c1
  · rw [c1] at a1; cases a1
  · rw [a1] at c1
    cases c1
    have u := RDk_u a4 c4
    exact ⟨u.1, by omega, by omega, rfl, u.2⟩
/-! the class -/
theorem c_Disk_dataFault {S : rz_S} {c : Nat → Bool} (h12 : ∀ j, j < 85 → S.1 12 j = by8 c (8 * j)) : rz_ev mDisk_dataFault [.ref 6] S (rz_i (fun x S1 => (∃ f, S1 = rz_fA S 10 f) ∧ ∃ xc d, x = nI xc ∧ xc < 100 ∧ DTp c xc d ∧ (xc = 0 → ∀ k, k < 64 → S1.1 10 (1 + k) = nI (d k) ∧ d k < 256))) := by
  have v8 := vl_lt c 0 8
  have v2 := vl_lt c 8 2
  have e10 : vl c 0 10 = vl c 0 8 * 4 + vl c 8 2 := by
    have := vl_add c 0 8 2
    rw [Nat.zero_add] at this
    exact this
  have e88 : vl c 8 8 / 64 = vl c 8 2 := by
    have := vl_add c 8 2 6
    have h6 := vl_lt c (8 + 2) 6
    rw [show 2 + 6 = 8 from rfl] at this
    rw [this]
    have e : (2 : Nat) ^ 6 = 64 := rfl
    rw [e] at h6 ⊢
    omega
  have no : ∀ x, ¬ vl c 0 10 = 343 → (∃ f, S = rz_fA S 10 f) ∧ ∃ xc d, (22 : Int32) = nI xc ∧ xc < 100 ∧ DTp c xc d ∧ (xc = 0 → ∀ k, k < 64 → S.1 10 (1 + k) = nI (d k) ∧ d k < 256) := fun x h => ⟨⟨S.1 10, (rz_fA_self S 10).symm⟩, 22, x, rfl, by omega, Or.inl ⟨h, rfl⟩, fun z => by omega⟩
  show rz _ 0 [(0, .ref 6)] [] _ _
  refine p_Disk_dataFault_0 ?_
  rw [h12 0 (by omega), h12 1 (by omega)]
  have s6 : by8 c (8 * 1) >>> ((6 : Int32) &&& 31) = nI (vl c 8 2) := by
    unfold by8
    rw [pk_shrN (by have := vl_lt c (8 * 1) 8; omega) _ 6 (by decide), show 8 * 1 = 8 from rfl, show 2 ^ 6 = 64 from rfl, e88]
  rw [s6]
  have e85 : by8 c (8 * 0) = 85 ↔ vl c 0 8 = 85 := nI_eq (b := 85) (by have := vl_lt c (8 * 0) 8; omega) (by omega)
  have e3 : nI (vl c 8 2) = 3 ↔ vl c 8 2 = 3 := nI_eq (b := 3) (by omega) (by omega)
  refine ⟨fun z => ⟨fun z2 => ?_, fun z2 => no (fun _ => 0) (fun q => z2 (e3.mpr (by have := e85.mp z; omega)))⟩, fun z => no (fun _ => 0) (fun q => z (e85.mpr (by omega)))⟩
  have yes : vl c 0 10 = 343 := by have := e85.mp z; have := e3.mp z2; omega
  refine rz_useI (c_Disk_decode (a0 := 12) (a1 := 10) (n := 68) (m := 85) (cb := c) rfl rfl (by omega) (by omega) (by omega) h12) (fun x T r => ?_)
  rcases r with ⟨v, rfl, f, rfl, hf⟩ | ⟨v, rfl, f, rfl⟩
  · refine ⟨fun z => absurd z (by decide), fun _ => ?_⟩
    have lt : ∀ j, j < 68 → dec c j < 256 := fun j hj => dec_lt v (by omega)
    have g : ∀ j, j < 68 → (rz_fA S 10 f).1 10 j = nI (dec c j) := fun j hj => by rw [rz_fA_s]; exact hf j hj
    have lp : ∀ (w i : Nat), 64 < w + i → i ≤ 64 → rz mDisk_dataFault 48 [(0, .ref 6), (1, .int (nI (xk (dec c) i))), (2, .int (nI (i + 1)))] [] (rz_fA S 10 f) (rz_i (fun x S1 => (∃ f, S1 = rz_fA S 10 f) ∧ ∃ xc d, x = nI xc ∧ xc < 100 ∧ DTp c xc d ∧ (xc = 0 → ∀ k, k < 64 → S1.1 10 (1 + k) = nI (d k) ∧ d k < 256))) := by
      intro w
      induction w with
      | zero => intro i c1 c2; omega
      | succ w ih =>
        intro i c1 c2
        have hx := xk_lt (f := dec c) i (fun j hj => lt j (by omega))
        refine p_Disk_dataFault_48 ⟨fun d => ?_, fun d => ⟨rin ?_ (by omega), ?_⟩⟩
        · have : 64 < i + 1 := (nI_ltI (a := 64) (by omega) (by omega)).mp d
          have e : i = 64 := by omega
          subst e
          rw [g 65 (by omega)]
          have l65 := lt 65 (by omega)
          refine ⟨fun q => ⟨⟨f, rfl⟩, 0, fun k => dec c (1 + k), rfl, by omega, Or.inr (Or.inr (Or.inr ⟨yes, v, (nI_eq (by omega) (by omega)).mp q, rfl, fun _ _ => rfl⟩)), fun _ k hk => ⟨g (1 + k) (by omega), lt (1 + k) (by omega)⟩⟩, fun q => ⟨⟨f, rfl⟩, 23, fun _ => 0, rfl, by omega, Or.inr (Or.inr (Or.inl ⟨yes, v, fun q2 => q (by rw [q2]), rfl⟩)), fun z => by omega⟩⟩
        · have : ¬ 64 < i + 1 := fun z => d (nI_lt (a := 64) z (by omega))
          omega
        · have : ¬ 64 < i + 1 := fun z => d (nI_lt (a := 64) z (by omega))
          rw [nI_clamp (by omega), g (i + 1) (by omega), nx_xor, nI_1]
          exact ih (i + 1) (by omega) (by omega)
    exact lp 65 0 (by omega) (by omega)
  · exact ⟨fun _ => ⟨⟨f, rfl⟩, 24, fun _ => 0, rfl, by omega, Or.inr (Or.inl ⟨yes, v, rfl⟩), fun z => by omega⟩, fun z => absurd rfl z⟩
/-- the rings of the class, of the reference -/
def XRs (S : rz_S) (B : Nat → Nat → Bool) : Prop := ∀ t, 1 ≤ t → t ≤ 12 → rgb (B t) (8 * tN t) ∧ RgH S (11 + 2 * t) (B t)
def MRs (S : rz_S) (B : Nat → Nat → Bool) : Prop := ∀ t, 1 ≤ t → t ≤ 12 → rgb (B t) (8 * tN t) ∧ RfH S t (B t)
/-- of the class only the row a, the disk's own things, ID and STATUS have changed -/
def rF (a : Nat) (S S1 : rz_S) : Prop := (∀ q, ¬ (8 ≤ q ∧ q ≤ 12) → q ≠ a → S1.1 q = S.1 q) ∧ ∀ u z, ¬ (13 ≤ u ∧ u ≤ 35 ∧ 3 ≤ z ∧ z ≤ 7) → ¬ (u = 6 ∧ (z = 1 ∨ z = 2)) → ¬ (u = 3 ∧ z ≤ 6) → S1.2 u z = S.2 u z
theorem rF_i {a : Nat} {S S1 : rz_S} (h : iF S S1) : rF a S S1 := ⟨fun q h1 _ => h.1 q h1, fun u z h1 h2 _ => h.2 u z h1 h2⟩
theorem rF_t {a : Nat} {S S1 S2 : rz_S} (h1 : rF a S S1) (h2 : rF a S1 S2) : rF a S S2 := ⟨fun q h h' => (h2.1 q h h').trans (h1.1 q h h'), fun u z h h' h'' => (h2.2 u z h h' h'').trans (h1.2 u z h h' h'')⟩
theorem rF_s {a : Nat} {S : rz_S} {n t s : Int32} : rF a S (st_set S n t s) := ⟨fun _ _ _ => rfl, fun u z _ _ h => by
  unfold st_set
  rw [rz_uI_n (by omega), rz_uI_n (by omega), rz_uI_n (by omega), rz_uI_n (by omega), rz_uI_n (by omega)]⟩
theorem rF_a {a : Nat} {S : rz_S} {f : Nat → Int32} : rF a S (rz_fA S a f) := ⟨fun q _ h => rz_fA_n h, fun _ _ _ _ _ => rfl⟩
/-- the STATUS has been told a fault -/
def stIs (S : rz_S) (x t s : Nat) : Prop := S.2 3 0 = nI x ∧ S.2 3 1 = nI t ∧ S.2 3 2 = nI s ∧ S.2 3 5 = 0 ∧ S.2 3 6 = 0
theorem st_set_is {S : rz_S} {x t s : Nat} : stIs (st_set S (nI x) (nI t) (nI s)) x t s := ⟨rfl, rfl, rfl, rfl, rfl⟩
def rdX (B : Nat → Nat → Bool) (id : Option (Nat × Nat)) (t s a : Nat) (S : rz_S) (r : Int32) (S1 : rz_S) : Prop := ∃ x ft fs id' d, JR B id t s x ft fs id' d ∧ r = nI x ∧ x < 100 ∧ IDx S1 id' ∧ rF a S S1 ∧
  (x = 0 → (∀ k, k < 64 → S1.1 a k = nI (d k) ∧ d k < 256) ∧ ∀ z, S1.2 3 z = S.2 3 z) ∧ (x ≠ 0 → S1.1 a = S.1 a ∧ stIs S1 x ft fs ∧ S1.2 3 3 = S.2 3 3)
theorem IDx_a {S : rz_S} {k : Nat} {f : Nat → Int32} {id : Option (Nat × Nat)} (h : IDx S id) : IDx (rz_fA S k f) id := by
  cases id with
  | none => exact h
  | some q => obtain ⟨i, j⟩ := q; exact h
theorem c_Disk_readBlock {S : rz_S} {B : Nat → Nat → Bool} {id : Option (Nat × Nat)} {t s a : Nat} (hX : XRs S B) (hid : IDx S id) (h1 : 1 ≤ t) (h2 : t ≤ 12) (hs : s < 256) (ha : rz_T[a]? = some (.inl (0, 64))) (ha1 : ¬ (8 ≤ a ∧ a ≤ 36)) : rz_ev mDisk_readBlock [.ref 6, .int (nI t), .int (nI s), .ref a] S (rz_i (rdX B id t s a S)) := by
  have hk := tP h1 h2
  have eN := tN_k h1
  have hN := tN_b h2
  have ifst : ∀ {T : rz_S}, iF S T → ∀ z, T.2 3 z = S.2 3 z := fun h z => h.2 3 z (by omega) (by omega)
  -- with the ID i, j
  have go : ∀ (T : rz_S) (i j : Nat), TIx B id (some (i, j)) → iF S T → IDx T (some (i, j)) → rz mDisk_readBlock 53 [(0, .ref 6), (1, .int (nI t)), (2, .int (nI s)), (3, .ref a), (4, .ref (11 + 2 * t))] [] T (rz_i (rdX B id t s a S)) := by
    intro T i j hti hT hidT
    obtain ⟨hb, hR⟩ := hX t h1 h2
    have hRT := iF_H hk hR hT
    rw [← eN] at hb
    -- a fault
    have bad : ∀ (U : rz_S) (x : Nat) (d : Nat → Nat), cF T U → x ≠ 0 → x < 100 → RDk (B t) (gb (hpl t s i j)) (8 * tN t) x d → rz mDisk_readBlock 83 [(0, .ref 6), (1, .int (nI t)), (2, .int (nI s)), (3, .ref a), (5, .int (nI x))] [] U (rz_i (rdX B id t s a S)) := by
      intro U x d hU x0 x100 hrd
      refine p_Disk_readBlock_83 ha ⟨fun z => absurd ((nI_eq (b := 0) (by omega) (by omega)).mp z) x0, fun _ => rz_toI (c_Status_set _ _ _) ?_⟩
      have fU := iF_t hT (iF_c hU)
      refine ⟨x, t, s, some (i, j), d, ⟨hti, Or.inr ⟨i, j, rfl, rfl, rfl, hrd⟩⟩, rfl, x100, st_set_id (cF_id hidT hU), rF_t (rF_i fU) rF_s, fun z => absurd z x0, fun _ => ⟨?_, st_set_is, ?_⟩⟩
      · show U.1 a = S.1 a
        exact fU.1 a (by omega)
      · show U.2 3 3 = S.2 3 3
        exact ifst fU 3
    refine p_Disk_readBlock_53 ha hk (rz_useI (c_Disk_seek hk hb hRT (by omega) hs hidT.2.2.1 hidT.2.2.2 hidT.1 hidT.2.1) (fun x U r => ?_))
    obtain ⟨fU, _, r⟩ := r
    rw [eN] at r hb
    rcases r with ⟨q1, rfl⟩ | ⟨q1, q2, rfl⟩ | ⟨p, q1, q2, q3, q4, rfl, q5⟩
    · exact ⟨fun z => absurd z (by decide), fun _ => bad U 21 (fun _ => 0) fU (by omega) (by omega) (Or.inl ⟨q1, rfl⟩)⟩
    · exact ⟨fun z => absurd z (by decide), fun _ => bad U 20 (fun _ => 0) fU (by omega) (by omega) (Or.inr (Or.inl ⟨q1, q2, rfl⟩))⟩
    · refine ⟨fun _ => ?_, fun z => absurd rfl z⟩
      obtain ⟨n, hn, hg⟩ := ga_ex hb (by omega) q1 q2 (p + 80)
      rw [← eN] at hb hn hg q1 q2
      have hga := c_Ring_gather (S := U) hk hb (cF_H hk hRT fU) q5 q1 q2.1 hn hg
      refine rz_useV hga (fun V rV => ?_)
      obtain ⟨fV, _, hV⟩ := rV
      rw [eN] at hV hb hg q2 q1
      refine rz_useI (c_Disk_dataFault (c := cbf (B t) (8 * tN t) (sq (B t) (8 * tN t) (p + 80) (n + 1))) (fun j hj => by rw [hV j hj, cbf_by])) (fun y W rW => ?_)
      obtain ⟨⟨f, rfl⟩, xc, d, rfl, x100, hdt, hd⟩ := rW
      have hrd : RDk (B t) (gb (hpl t s i j)) (8 * tN t) xc d := Or.inr (Or.inr ⟨p, n, q1, q2, q3, q4, hg, hdt⟩)
      have fW : cF T (rz_fA V 10 f) := cF_t fU (cF_t fV (cF_a (by omega)))
      by_cases x0 : xc = 0
      · subst x0
        refine p_Disk_readBlock_83 ha ⟨fun _ => ⟨by omega, ?_⟩, fun z => absurd rfl z⟩
        have fS := iF_t hT (iF_c fW)
        refine ⟨0, t, s, some (i, j), d, ⟨hti, Or.inr ⟨i, j, rfl, rfl, rfl, hrd⟩⟩, rfl, by omega, IDx_a (cF_id hidT fW), rF_t (rF_i fS) rF_a, fun _ => ⟨fun k hk => ?_, fun z => ifst fS z⟩, fun z => absurd rfl z⟩
        rw [rz_fA_s, pk_cpy_in (by omega) (by omega), show 1 + (k - 0) = 1 + k by omega]
        exact hd rfl k hk
      · exact bad _ xc d fW x0 x100 hrd
  show rz _ 0 [(0, .ref 6), (1, .int (nI t)), (2, .int (nI s)), (3, .ref a)] [] _ _
  refine p_Disk_readBlock_0 ha (rz_toR (c_Disk_ring h1 h2) (p_Disk_readBlock_5' ha hk ⟨fun _ => ?_, fun z => absurd (by decide) z⟩))
  refine rz_toI (c_Disk_hasId hid) ?_
  cases id with
  | some q =>
    obtain ⟨i, j⟩ := q
    exact ⟨fun z => absurd z (by rw [if_neg (fun e => by cases e)]; decide), fun _ => go S i j (Or.inl ⟨fun z => (by cases z), rfl⟩) ⟨fun _ _ => rfl, fun _ _ _ _ => rfl⟩ hid⟩
  | none =>
    refine ⟨fun _ => ?_, fun z => absurd rfl z⟩
    obtain ⟨hb7, hR7⟩ := hX 7 (by omega) (by omega)
    have e7 : rgN 25 = tN 7 := by decide
    have htk := c_Disk_takeId (S := S) (b := B 7) (by rw [e7]; exact hb7) hR7
    rw [e7] at htk
    refine rz_useI htk (fun x T r => ?_)
    obtain ⟨id1, ti, idT, ⟨n0, rfl, fT⟩ | ⟨n0, rfl, U, fU, rfl⟩⟩ := r
    · refine ⟨fun _ => ?_, fun z => absurd rfl z⟩
      cases id1 with
      | none => exact absurd rfl n0
      | some q =>
        obtain ⟨i, j⟩ := q
        exact go T i j (Or.inr ⟨rfl, ti⟩) fT idT
    · subst n0
      refine ⟨fun z => absurd z (by decide), fun _ => ?_⟩
      refine ⟨74, 7, 0, none, fun _ => 0, ⟨Or.inr ⟨rfl, ti⟩, Or.inl ⟨rfl, rfl, rfl, rfl⟩⟩, rfl, by omega, idT, rF_t (rF_i fU) rF_s, fun z => by omega, fun _ => ⟨?_, ⟨rfl, rfl, rfl, rfl, rfl⟩, ?_⟩⟩
      · show U.1 a = S.1 a
        exact fU.1 a (by omega)
      · show U.2 3 3 = S.2 3 3
        exact ifst fU 3
