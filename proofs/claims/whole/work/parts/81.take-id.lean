/-! the ID is taken: what is found, and the class -/
def cntF (b : Nat → Bool) (N : Nat) : Nat → Nat
  | 0 => 0
  | p + 1 => cntF b N p + (if b p = false ∧ rn b N p = 10 then 1 else 0)
theorem cntF_no {b : Nat → Bool} {N p : Nat} : ∀ n, (∀ i, i < n → ¬ isF b N (p + i)) → cntF b N (p + n) = cntF b N p := by
  intro n
  induction n with
  | zero => intro _; rfl
  | succ n ih =>
    intro h
    show cntF b N (p + n) + (if b (p + n) = false ∧ rn b N (p + n) = 10 then 1 else 0) = _
    rw [if_neg (show ¬ (b (p + n) = false ∧ rn b N (p + n) = 10) from h n (by omega)), ih (fun i hi => h i (by omega))]
    rfl
theorem cntF_s {b : Nat → Bool} {N p : Nat} (h : isF b N p) : cntF b N (p + 1) = cntF b N p + 1 := by
  show cntF b N p + (if b p = false ∧ rn b N p = 10 then 1 else 0) = _
  rw [if_pos (show b p = false ∧ rn b N p = 10 from h)]
theorem cntF_next {b : Nat → Bool} {N p p2 : Nat} (h : isF b N p) (hp : p < p2) (hno : ∀ p', p < p' → p' < p2 → ¬ isF b N p') : cntF b N p2 = cntF b N p + 1 := by
  rw [← cntF_s h, ← cntF_no (p := p + 1) (n := p2 - (p + 1)) (fun i hi => hno _ (by omega) (by omega)), show p + 1 + (p2 - (p + 1)) = p2 by omega]
theorem cntF_0 {b : Nat → Bool} {N p : Nat} (hno : ∀ p', p' < p → ¬ isF b N p') : cntF b N p = 0 := by
  have := cntF_no (b := b) (N := N) (p := 0) p (fun i hi => by rw [Nat.zero_add]; exact hno i hi)
  rw [Nat.zero_add] at this
  exact this
/-- ten bytes are a header -/
def GH (c : Nat → Bool) : Prop := vld c 16 ∧ dec c 0 = 8 ∧ dec c 1 = ((dec c 2 ^^^ dec c 3) ^^^ dec c 4) ^^^ dec c 5
def hdc (b : Nat → Bool) (N p : Nat) : Nat → Bool := cbf b N (eN b N p)
/-- the ID that is found, if one is -/
def TI (b : Nat → Bool) (N : Nat) (r : Option (Nat × Nat)) : Prop :=
  (∃ p, p < N ∧ isF b N p ∧ GH (hdc b N p) ∧ cntF b N p < 32 ∧ (∀ p', p' < p → isF b N p' → ¬ GH (hdc b N p')) ∧ r = some (dec (hdc b N p) 5, dec (hdc b N p) 4)) ∨
  ((∀ p, p < N → isF b N p → cntF b N p < 32 → ¬ GH (hdc b N p)) ∧ r = none)
theorem TI_u {b : Nat → Bool} {N : Nat} {r r' : Option (Nat × Nat)} (h : TI b N r) (h' : TI b N r') : r = r' := by
  rcases h with ⟨p, a1, a2, a3, a4, a5, a6⟩ | ⟨a1, a2⟩
  · rcases h' with ⟨q, c1, c2, c3, c4, c5, c6⟩ | ⟨c1, c2⟩
    · have e : p = q := by
        rcases Nat.lt_trichotomy p q with z | z | z
        · exact absurd a3 (c5 p z a2)
        · exact z
        · exact absurd c3 (a5 q z c2)
      subst e
      rw [a6, c6]
    · exact absurd a3 (c1 p a1 a2 a4)
  · rcases h' with ⟨q, c1, c2, c3, c4, c5, c6⟩ | ⟨c1, c2⟩
    · exact absurd c3 (a1 q c1 c2 c4)
    · rw [a2, c2]
theorem dec_lt {c : Nat → Bool} {n j : Nat} (h : vld c n) (hj : 2 * j + 1 < n) : dec c j < 256 := by
  have a1 := h (2 * j) (by omega)
  have a2 := h (2 * j + 1) hj
  unfold dec
  omega
def IDx (S : rz_S) : Option (Nat × Nat) → Prop
  | none => S.2 6 1 = -1 ∧ S.2 6 2 = -1
  | some (i, j) => S.2 6 1 = nI i ∧ S.2 6 2 = nI j ∧ i < 256 ∧ j < 256
def IDm (S : rz_S) : Option (Nat × Nat) → Prop
  | none => S.2 116 2 = -1 ∧ S.2 116 3 = -1
  | some (i, j) => S.2 116 2 = nI i ∧ S.2 116 3 = nI j ∧ i < 256 ∧ j < 256
theorem nI_m1 {n : Nat} (h : n < 2 ^ 31) : ¬ nI n = -1 := fun z => by
  have := congrArg Int32.toInt z
  rw [nI_toInt h] at this
  have e : ((-1 : Int32)).toInt = -1 := by decide
  omega
theorem c_Disk_hasId {S : rz_S} {id : Option (Nat × Nat)} (h : IDx S id) : rz_ev mDisk_hasId [.ref 6] S (rz_i (fun x S1 => x = (if id = none then 0 else 1) ∧ S1 = S)) := by
  show rz _ 0 [(0, .ref 6)] [] _ _
  refine p_Disk_hasId_0 ?_
  cases id with
  | none => exact ⟨fun _ => ⟨rfl, rfl⟩, fun z => absurd h.1 z⟩
  | some q =>
    obtain ⟨i, j⟩ := q
    obtain ⟨h1, h2, h3, h4⟩ := h
    rw [h1]
    exact ⟨fun z => absurd z (nI_m1 (by omega)), fun _ => ⟨rfl, rfl⟩⟩
/-- as cF, the ID left out -/
def iF (S S1 : rz_S) : Prop := (∀ q, ¬ (8 ≤ q ∧ q ≤ 12) → S1.1 q = S.1 q) ∧ ∀ u z, ¬ (13 ≤ u ∧ u ≤ 35 ∧ 3 ≤ z ∧ z ≤ 7) → ¬ (u = 6 ∧ (z = 1 ∨ z = 2)) → S1.2 u z = S.2 u z
theorem iF_t {S S1 S2 : rz_S} (h1 : iF S S1) (h2 : iF S1 S2) : iF S S2 := ⟨fun q h => (h2.1 q h).trans (h1.1 q h), fun u z h h' => (h2.2 u z h h').trans (h1.2 u z h h')⟩
theorem iF_c {S S1 : rz_S} (h : cF S S1) : iF S S1 := ⟨h.1, fun u z h1 _ => h.2 u z h1⟩
theorem iF_u {S : rz_S} {j : Nat} {x : Int32} (hj : j = 1 ∨ j = 2) : iF S (rz_uI S 6 j x) := ⟨fun _ _ => rfl, fun u z _ h => rz_uI_n fun e => h ⟨e.1, by omega⟩⟩
theorem iF_H {S S1 : rz_S} {k : Nat} {b : Nat → Bool} (hk : rgP k) (h : RgH S k b) (hf : iF S S1) : RgH S1 k b := by
  obtain ⟨a, c, d⟩ := hk
  refine ⟨(hf.2 k 1 (by omega) (by omega)).trans h.1, fun j hj => ?_⟩
  rw [hf.1 (k + 1) (by omega)]
  exact h.2 j hj
theorem cF_id {S S1 : rz_S} {id : Option (Nat × Nat)} (h : IDx S id) (hf : cF S S1) : IDx S1 id := by
  cases id with
  | none => exact ⟨(hf.2 6 1 (by omega)).trans h.1, (hf.2 6 2 (by omega)).trans h.2⟩
  | some q =>
    obtain ⟨i, j⟩ := q
    exact ⟨(hf.2 6 1 (by omega)).trans h.1, (hf.2 6 2 (by omega)).trans h.2.1, h.2.2⟩
/-- the answer of takeId -/
def tiP (b : Nat → Bool) (N : Nat) (S : rz_S) (x : Int32) (S1 : rz_S) : Prop := ∃ id, TI b N id ∧ IDx S1 id ∧ ((id ≠ none ∧ x = 0 ∧ iF S S1) ∨ (id = none ∧ x = 74 ∧ ∃ T, iF S T ∧ S1 = st_set T 74 7 0))
theorem st_set_id {S : rz_S} {n t s : Int32} {id : Option (Nat × Nat)} (h : IDx S id) : IDx (st_set S n t s) id := by
  cases id with
  | none => exact h
  | some q => exact h
theorem c_takeId134 {S T : rz_S} {b : Nat → Bool} {N : Nat} {id : Option (Nat × Nat)} (hTI : TI b N id) (hid : IDx T id) (hf : iF S T) : rz mDisk_takeId 134 [(0, .ref 6)] [] T (rz_i (tiP b N S)) := by
  refine p_Disk_takeId_134 (rz_toI (c_Disk_hasId hid) ?_)
  cases id with
  | none =>
    refine ⟨fun _ => rz_toI (c_Status_set 74 7 0) ?_, fun z => absurd rfl z⟩
    exact ⟨none, hTI, st_set_id hid, Or.inr ⟨rfl, rfl, T, hf, rfl⟩⟩
  | some q => exact ⟨fun z => absurd z (by rw [if_neg (fun e => by cases e)]; decide), fun _ => ⟨some q, hTI, hid, Or.inl ⟨fun z => (by cases z), rfl, hf⟩⟩⟩
theorem c_Disk_isHeader {S : rz_S} {d : Nat → Nat} (g : ∀ j, j < 8 → S.1 8 j = nI (d j)) (lt : ∀ j, j < 8 → d j < 256) : rz_ev mDisk_isHeader [.ref 6] S (rz_i (fun x S1 => S1 = S ∧ (((d 0 = 8 ∧ d 1 = ((d 2 ^^^ d 3) ^^^ d 4) ^^^ d 5) ∧ x = 1) ∨ (¬ (d 0 = 8 ∧ d 1 = ((d 2 ^^^ d 3) ^^^ d 4) ^^^ d 5) ∧ x = 0)))) := by
  have lx : ((d 2 ^^^ d 3) ^^^ d 4) ^^^ d 5 < 256 := xor_256 (xor_256 (xor_256 (lt 2 (by omega)) (lt 3 (by omega))) (lt 4 (by omega))) (lt 5 (by omega))
  have l0 := lt 0 (by omega)
  have l1 := lt 1 (by omega)
  show rz _ 0 [(0, .ref 6)] [] _ _
  refine p_Disk_isHeader_0 ?_
  rw [g 0 (by omega), g 1 (by omega), g 2 (by omega), g 3 (by omega), g 4 (by omega), g 5 (by omega), nx_xor, nx_xor, nx_xor]
  refine ⟨fun z => ?_, fun z => ⟨rfl, Or.inr ⟨fun q => z (by rw [q.1]; rfl), rfl⟩⟩⟩
  have e0 : d 0 = 8 := (nI_eq (b := 8) (by omega) (by omega)).mp z
  exact ⟨fun z2 => ⟨rfl, Or.inl ⟨⟨e0, (nI_eq (by omega) (by omega)).mp z2⟩, rfl⟩⟩, fun z2 => ⟨rfl, Or.inr ⟨fun q => z2 (by rw [q.2]), rfl⟩⟩⟩
theorem c_Disk_setId {S : rz_S} (x y : Int32) : rz_ev mDisk_setId [.ref 6, .int x, .int y] S (rz_v (fun S1 => S1 = rz_uI (rz_uI S 6 1 x) 6 2 y)) := by
  show rz _ 0 [(0, .ref 6), (1, .int x), (2, .int y)] [] _ _
  exact p_Disk_setId_0 rfl
section TID
variable {S : rz_S} {b : Nat → Bool}
theorem lp_takeId59 {K : Int32 → rz_S → Prop} {p : Nat} {a3 : Int32} (hb : rgb b (8 * rgN 25)) (hR : RgH S 25 b) (hp : p < 8 * rgN 25) (hF : isF b (8 * rgN 25) p) (hid : IDx S none)
    (kyes : GH (hdc b (8 * rgN 25) p) → ∀ T, iF S T → IDx T (some (dec (hdc b (8 * rgN 25) p) 5, dec (hdc b (8 * rgN 25) p) 4)) → T.2 25 6 = S.2 25 6 → T.2 25 7 = S.2 25 7 → rz mDisk_takeId 123 [(0, .ref 6), (1, .ref 25), (3, .int a3)] [] T (rz_i K))
    (kno : ¬ GH (hdc b (8 * rgN 25) p) → ∀ T, iF S T → IDx T none → T.2 25 6 = S.2 25 6 → T.2 25 7 = S.2 25 7 → rz mDisk_takeId 123 [(0, .ref 6), (1, .ref 25), (3, .int a3)] [] T (rz_i K)) : ∀ (w i : Nat) (T : rz_S), 10 < w + i → i ≤ 10 → cF S T → T.2 25 6 = S.2 25 6 → T.2 25 7 = S.2 25 7 → RgAt b T 25 (sq b (8 * rgN 25) p i) → (∀ j, j < i → T.1 9 j = by8 (hdc b (8 * rgN 25) p) (8 * j)) → rz mDisk_takeId 59 [(0, .ref 6), (1, .ref 25), (3, .int a3), (4, .int (nI i))] [] T (rz_i K) := by
  have hk : rgP 25 := ⟨by omega, by omega, by omega⟩
  have hN := rgN_b hk
  intro w
  induction w with
  | zero => intro i T c1 c2; omega
  | succ w ih =>
    intro i T c1 c2 hT h6 h7 hA hj
    refine p_Disk_takeId_59 hk ⟨fun c => ?_, fun c => ?_⟩
    · have : 10 ≤ i := (nI_leI (a := 10) (by omega) (by omega)).mp c
      refine rz_useI (c_Disk_decode (a0 := 9) (a1 := 8) (n := 8) (m := 10) (cb := hdc b (8 * rgN 25) p) rfl rfl (by omega) (by omega) (by omega) (fun j hj2 => hj j (by omega))) (fun x T1 r => ?_)
      rcases r with ⟨v, rfl, f, rfl, hf⟩ | ⟨v, rfl, f, rfl⟩
      · refine ⟨fun z => absurd z (by decide), fun _ => ?_⟩
        have hT1 : cF S (rz_fA T 8 f) := cF_t hT (cF_a (by omega))
        have g : ∀ j, j < 8 → (rz_fA T 8 f).1 8 j = nI (dec (hdc b (8 * rgN 25) p) j) := fun j hj2 => by rw [rz_fA_s]; exact hf j hj2
        have lt : ∀ j, j < 8 → dec (hdc b (8 * rgN 25) p) j < 256 := fun j hj2 => dec_lt v (by omega)
        refine rz_useI (c_Disk_isHeader g lt) (fun y T2 q => ?_)
        obtain ⟨rfl, q⟩ := q
        refine ⟨fun z => ?_, fun z => ?_⟩
        · refine kno (fun gh => ?_) _ (iF_c hT1) (cF_id hid hT1) h6 h7
          rcases q with ⟨_, q⟩ | ⟨q, _⟩
          · rw [z] at q; exact absurd q (by decide)
          · exact q ⟨gh.2.1, gh.2.2⟩
        · have gh : GH (hdc b (8 * rgN 25) p) := by
            rcases q with ⟨q, _⟩ | ⟨_, q⟩
            · exact ⟨v, q.1, q.2⟩
            · exact absurd q z
          rw [g 5 (by omega), g 4 (by omega)]
          refine rz_toV (c_Disk_setId _ _) ?_
          exact kyes gh _ (iF_t (iF_c hT1) (iF_t (iF_u (Or.inl rfl)) (iF_u (Or.inr rfl)))) ⟨(rz_uI_n (by omega)).trans rz_uI_s, rz_uI_s, lt 5 (by omega), lt 4 (by omega)⟩ (((rz_uI_n (by omega)).trans (rz_uI_n (by omega))).trans h6) (((rz_uI_n (by omega)).trans (rz_uI_n (by omega))).trans h7)
      · have hT1 : cF S (rz_fA T 8 f) := cF_t hT (cF_a (by omega))
        exact ⟨fun _ => kno (fun z => v z.1) _ (iF_c hT1) (cF_id hid hT1) h6 h7, fun z => absurd rfl z⟩
    · have hi : ¬ 10 ≤ i := fun z => c (nI_le (a := 10) z (by omega))
      refine rz_useI (c_next hk hb (cF_H hk hR hT) hA hp hF.1) (fun x T1 r => ⟨rin (by omega) (by omega), ?_⟩)
      obtain ⟨rfl, r2, r3, _, r6, r7⟩ := r
      rw [nI_clamp (by omega), nI_1]
      refine ih (i + 1) _ (by omega) (by omega) (cF_t hT (cF_t (cF_g hk r2) (cF_a (by omega)))) (r6.trans h6) (r7.trans h7) ⟨r3.1, r3.2⟩ (fun j hj2 => ?_)
      rw [rz_fA_s]
      by_cases e : j = i
      · subst e
        rw [pk_us]
        unfold hdc
        rw [cbf_by, ← sq_s]
        rfl
      · rw [pk_un e, r2.1]
        exact hj j (by omega)
theorem lp_takeId28 (hb : rgb b (8 * rgN 25)) (hR : RgH S 25 b) : ∀ (w p c : Nat) (T : rz_S), 8 * rgN 25 < w + p → p < 8 * rgN 25 → isF b (8 * rgN 25) p → (∀ p', p' < p → isF b (8 * rgN 25) p' → cntF b (8 * rgN 25) p' < 32 → ¬ GH (hdc b (8 * rgN 25) p')) → (∀ p', p' < p → isF b (8 * rgN 25) p' → cntF b (8 * rgN 25) p' < cntF b (8 * rgN 25) p) → cntF b (8 * rgN 25) p ≤ p → iF S T → IDx T none → c ≤ rgN 25 → RgR b T 25 c → p < 8 * c → (∀ p', p < p' → p' < 8 * c → ¬ isF b (8 * rgN 25) p') → rz mDisk_takeId 28 [(0, .ref 6), (1, .ref 25), (2, .int (nI p)), (3, .int (nI (cntF b (8 * rgN 25) p)))] [] T (rz_i (tiP b (8 * rgN 25) S)) := by
  have hk : rgP 25 := ⟨by omega, by omega, by omega⟩
  have hN := rgN_b hk
  have hN11 : 11 ≤ 8 * rgN 25 := by omega
  intro w
  induction w with
  | zero => intro p c T c1 c2; omega
  | succ w ih =>
    intro p c T c1 c2 hF hno hcnt hcp hT hid hc hRR hpc hnc
    have hTH := iF_H hk hR hT
    -- none within the first 32
    have none32 : 32 ≤ cntF b (8 * rgN 25) p → TI b (8 * rgN 25) none := fun c32 => by
      refine Or.inr ⟨fun p' q1 q2 q3 => ?_, rfl⟩
      by_cases e : p' < p
      · exact hno p' e q2 q3
      · exfalso
        have mono : ∀ n, cntF b (8 * rgN 25) p ≤ cntF b (8 * rgN 25) (p + n) := by
          intro n
          induction n with
          | zero => exact Nat.le_refl _
          | succ n ihn =>
            show _ ≤ cntF b (8 * rgN 25) (p + n) + _
            omega
        have := mono (p' - p)
        rw [show p + (p' - p) = p' by omega] at this
        omega
    refine p_Disk_takeId_28 hk ⟨fun z => ?_, fun z => ⟨fun z2 => absurd z2 (nI_m1 (by omega)), fun _ => ?_⟩⟩
    · have c32 : 32 ≤ cntF b (8 * rgN 25) p := (nI_leI (a := 32) (by omega) (by omega)).mp z
      exact c_takeId134 (none32 c32) hid hT
    · have c32 : ¬ 32 ≤ cntF b (8 * rgN 25) p := fun q => z (nI_le (a := 32) q (by omega))
      refine rz_toI (c_Disk_hasId hid) ⟨fun _ => ?_, fun z3 => absurd rfl z3⟩
      refine rz_toI (c_Ring_onesAhead hk hb hTH c2) ?_
      refine rz_toV (c_Ring_goTo hk hTH c2 _) ?_
      have f1 : cF T (rz_uI (rz_uI T 25 3 (nI p)) 25 4 (nI (rn b (8 * rgN 25) p))) := cF_t (cF_u hk (by omega)) (cF_u hk (by omega))
      have a1 : RgAt b (rz_uI (rz_uI T 25 3 (nI p)) 25 4 (nI (rn b (8 * rgN 25) p))) 25 p := ⟨by rw [Nat.mod_eq_of_lt c2]; exact (rz_uI_n (by omega)).trans rz_uI_s, rz_uI_s⟩
      have k6 : (rz_uI (rz_uI T 25 3 (nI p)) 25 4 (nI (rn b (8 * rgN 25) p))).2 25 6 = T.2 25 6 := (rz_uI_n (by omega)).trans (rz_uI_n (by omega))
      have k7 : (rz_uI (rz_uI T 25 3 (nI p)) 25 4 (nI (rn b (8 * rgN 25) p))).2 25 7 = T.2 25 7 := (rz_uI_n (by omega)).trans (rz_uI_n (by omega))
      generalize rz_uI (rz_uI T 25 3 (nI p)) 25 4 (nI (rn b (8 * rgN 25) p)) = U at f1 a1 k6 k7
      have hUR := cF_H hk hTH f1
      refine lp_takeId59 (S := U) hb hUR c2 hF (cF_id hid f1) (fun gh V fV idV v6 v7 => ?_) (fun gh V fV idV v6 v7 => ?_) 11 0 U (by omega) (by omega) (cF_r U) rfl rfl a1 (fun j hj => by omega)
      · -- the header is found
        have hT2 : iF S V := iF_t hT (iF_t (iF_c f1) fV)
        have ti : TI b (8 * rgN 25) (some (dec (hdc b (8 * rgN 25) p) 5, dec (hdc b (8 * rgN 25) p) 4)) := Or.inl ⟨p, c2, hF, gh, by omega, fun p' q1 q2 => hno p' q1 q2 (by have := hcnt p' q1 q2; omega), rfl⟩
        refine p_Disk_takeId_123 hk (rz_useI (c_Ring_nextFirst hk hb (iF_H hk hUR fV) hc ⟨v6.trans (k6.trans hRR.1), v7.trans (k7.trans hRR.2)⟩) (fun y V2 r => ?_))
        have hid2 := cF_id idV (cF_g hk r.1)
        have hf2 : iF S V2 := iF_t hT2 (iF_c (cF_g hk r.1))
        refine p_Disk_takeId_28 hk ⟨fun _ => c_takeId134 ti hid2 hf2, fun _ => ⟨fun _ => c_takeId134 ti hid2 hf2, fun _ => rz_toI (c_Disk_hasId hid2) ⟨fun z => absurd z (by rw [if_neg (fun e => by cases e)]; decide), fun _ => c_takeId134 ti hid2 hf2⟩⟩⟩
      · have hT2 : iF S V := iF_t hT (iF_t (iF_c f1) fV)
        refine p_Disk_takeId_123 hk (rz_useI (c_Ring_nextFirst hk hb (iF_H hk hUR fV) hc ⟨v6.trans (k6.trans hRR.1), v7.trans (k7.trans hRR.2)⟩) (fun y V2 r => ?_))
        obtain ⟨rF, ⟨p2, c', r1, r2, r3, r4, rfl, r5, r6, r7, r8⟩ | ⟨r1, rfl⟩⟩ := r
        · have hf2 : iF S V2 := iF_t hT2 (iF_c (cF_g hk rF))
          have e := cntF_next (p2 := p2) hF (by omega) (fun p' q1 q2 => by
            by_cases e3 : p' < 8 * c
            · exact hnc p' q1 e3
            · exact r4 p' (by omega) q2)
          rw [nI_1, ← e]
          have old : ∀ p', p' < p2 → isF b (8 * rgN 25) p' → p' < p ∨ p' = p := fun p' q1 q2 => by
            by_cases e1 : p' < p
            · exact Or.inl e1
            · by_cases e2 : p' = p
              · exact Or.inr e2
              · by_cases e3 : p' < 8 * c
                · exact absurd q2 (hnc p' (by omega) e3)
                · exact absurd q2 (r4 p' (by omega) q1)
          refine ih p2 c' V2 (by omega) r2 r3 (fun p' q1 q2 q3 => ?_) (fun p' q1 q2 => ?_) (by omega) hf2 (cF_id idV (cF_g hk rF)) r5 r6 r7 r8
          · rcases old p' q1 q2 with h | h
            · exact hno p' h q2 q3
            · rw [h]; exact gh
          · rcases old p' q1 q2 with h | h
            · have := hcnt p' h q2; omega
            · rw [h]; omega
        · have hf2 : iF S V2 := iF_t hT2 (iF_c (cF_g hk rF))
          have hid2 := cF_id idV (cF_g hk rF)
          have ti : TI b (8 * rgN 25) none := Or.inr ⟨fun p' q1 q2 q3 => by
            by_cases e1 : p' < p
            · exact hno p' e1 q2 q3
            · by_cases e2 : p' = p
              · rw [e2]; exact gh
              · by_cases e3 : p' < 8 * c
                · exact absurd q2 (hnc p' (by omega) e3)
                · exact absurd q2 (r1 p' (by omega) q1), rfl⟩
          exact p_Disk_takeId_28 hk ⟨fun _ => c_takeId134 ti hid2 hf2, fun _ => ⟨fun _ => c_takeId134 ti hid2 hf2, fun z => absurd rfl z⟩⟩
theorem c_Disk_takeId (hb : rgb b (8 * rgN 25)) (hR : RgH S 25 b) : rz_ev mDisk_takeId [.ref 6] S (rz_i (tiP b (8 * rgN 25) S)) := by
  have hk : rgP 25 := ⟨by omega, by omega, by omega⟩
  have hN := rgN_b hk
  show rz _ 0 [(0, .ref 6)] [] _ _
  refine p_Disk_takeId_0 (rz_toV c_Disk_dropId ?_)
  have f0 : iF S (rz_uI (rz_uI S 6 1 (-1)) 6 2 (-1)) := iF_t (iF_u (Or.inl rfl)) (iF_u (Or.inr rfl))
  have hid : IDx (rz_uI (rz_uI S 6 1 (-1)) 6 2 (-1)) none := ⟨(rz_uI_n (by omega)).trans rz_uI_s, rz_uI_s⟩
  generalize rz_uI (rz_uI S 6 1 (-1)) 6 2 (-1) = T at f0 hid
  have hTR := iF_H hk hR f0
  refine rz_toI (c_Ring_onesAhead (p := 0) hk hb hTR (by omega)) ?_
  refine rz_toV (c_Ring_startRound hk _) ?_
  have f3 : cF T (rz_uI (rz_uI T 25 6 0) 25 7 (nI (rn b (8 * rgN 25) 0))) := cF_t (cF_u hk (by omega)) (cF_u hk (by omega))
  have hRR : RgR b (rz_uI (rz_uI T 25 6 0) 25 7 (nI (rn b (8 * rgN 25) 0))) 25 0 := ⟨(rz_uI_n (by omega)).trans rz_uI_s, rz_uI_s⟩
  generalize rz_uI (rz_uI T 25 6 0) 25 7 (nI (rn b (8 * rgN 25) 0)) = U at f3 hRR
  refine rz_useI (c_Ring_nextFirst hk hb (cF_H hk hTR f3) (by omega) hRR) (fun y V r => ?_)
  obtain ⟨rF, ⟨p2, c', r1, r2, r3, r4, rfl, r5, r6, r7, r8⟩ | ⟨r1, rfl⟩⟩ := r
  · have e := cntF_0 (b := b) (N := 8 * rgN 25) (p := p2) (fun p' q => r4 p' (by omega) q)
    have := lp_takeId28 (S := S) hb hR (8 * rgN 25 + 1) p2 c' V (by omega) r2 r3 (fun p' q1 q2 _ => absurd q2 (r4 p' (by omega) q1)) (fun p' q1 q2 => absurd q2 (r4 p' (by omega) q1)) (by omega) (iF_t f0 (iF_c (cF_t f3 (cF_g hk rF)))) (cF_id hid (cF_t f3 (cF_g hk rF))) r5 r6 r7 r8
    rw [e] at this
    exact this
  · have hf2 : iF S V := iF_t f0 (iF_c (cF_t f3 (cF_g hk rF)))
    have hid2 := cF_id hid (cF_t f3 (cF_g hk rF))
    have ti : TI b (8 * rgN 25) none := Or.inr ⟨fun p hp q _ => absurd q (r1 p (by omega) hp), rfl⟩
    exact p_Disk_takeId_28 hk ⟨fun _ => c_takeId134 ti hid2 hf2, fun _ => ⟨fun _ => c_takeId134 ti hid2 hf2, fun z => absurd rfl z⟩⟩
end TID
