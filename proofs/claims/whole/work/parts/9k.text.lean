/-! the TEXT that is sent: both sides -/
def Txt (n : Nat) (Sx Sm : rz_S) : Prop := n ≤ 400 ∧ Sx.2 1 2 = nI n ∧ (∀ j, j < n → Sx.1 2 j = Sm.1 151 j ∧ byt (Sx.1 2 j)) ∧ Sm.1 151 n = 0
theorem c_byteAt {S : rz_S} {n i : Nat} (hn : n ≤ 400) (hl : S.2 1 2 = nI n) (hi : i < 1000) : rz_ev mTape_byteAt [.ref 1, .int (nI i)] S (rz_i (fun x S1 => x = (if i < n then S.1 2 i else -1) ∧ S1 = S)) := by
  show rz _ 0 [(0, .ref 1), (1, .int (nI i))] [] _ _
  refine p_Tape_byteAt_0 ⟨fun c => absurd c (nI_pos (by omega)), fun _ => ?_⟩
  rw [hl]
  refine ⟨fun c => ?_, fun c => ⟨fun d => ?_, fun d => ?_⟩⟩
  · have := (nI_leI (a := n) (b := i) (by omega) (by omega)).mp c
    rw [if_neg (by omega)]
    exact ⟨rfl, rfl⟩
  · have h1 := (nI_leI (a := 400) (b := i) (by omega) (by omega)).mp d
    exact absurd (nI_le (a := n) (b := i) (by omega) (by omega)) c
  · have h1 : i < n := Nat.lt_of_not_le fun z => c (nI_le z (by omega))
    rw [if_pos h1, nI_clamp (by omega)]
    exact ⟨rin (by omega) (by omega), rfl, rfl⟩
/-- the first place from i on at which the TEXT has a byte -/
def fnd (F : Nat → Int32) (w : Int32) (n i : Nat) : Option Nat := fst1 (fun j => decide (F j = w)) (n - i) i
theorem fnd_s {F : Nat → Int32} {w : Int32} {n i : Nat} (h : i < n) : fnd F w n i = if F i = w then some i else fnd F w n (i + 1) := by
  unfold fnd
  rw [show n - i = (n - (i + 1)) + 1 by omega, fst1]
  by_cases z : F i = w
  · rw [if_pos z, if_pos (by rw [decide_eq_true z])]
  · rw [if_neg z, if_neg (by rw [decide_eq_false z]; decide)]
theorem fnd_e {F : Nat → Int32} {w : Int32} {n i : Nat} (h : n ≤ i) : fnd F w n i = none := by
  unfold fnd
  rw [show n - i = 0 by omega]
  rfl
theorem fnd_lt {F : Nat → Int32} {w : Int32} {n i j : Nat} (h : fnd F w n i = some j) : i ≤ j ∧ j < n ∧ F j = w := by
  have := fst1_lt h
  exact ⟨this.1, by omega, of_decide_eq_true this.2.2⟩
theorem fnd_c {F G : Nat → Int32} {w : Int32} {n i : Nat} (h : ∀ j, j < n → F j = G j) : fnd F w n i = fnd G w n i := by
  unfold fnd
  exact fst1_c (fun j h1 h2 => by rw [h j (by omega)])
theorem lp_find {S : rz_S} {n : Nat} {w : Int32} (hn : n ≤ 400) (hl : S.2 1 2 = nI n) : ∀ (m i : Nat), n ≤ m + i → i < 1000 → rz mTape_find 6 [(0, .ref 1), (1, .int w), (3, .int (nI i))] [] S (rz_i (fun x S1 => x = oI (fnd (S.1 2) w n i) ∧ S1 = S)) := by
  intro m
  induction m with
  | zero =>
    intro i h hi
    refine p_Tape_find_6 ?_
    rw [hl]
    refine ⟨fun _ => ⟨by rw [fnd_e (by omega)]; rfl, rfl⟩, fun c => absurd (nI_le (a := n) (b := i) (by omega) (by omega)) c⟩
  | succ m ih =>
    intro i h hi
    refine p_Tape_find_6 ?_
    rw [hl]
    by_cases z : n ≤ i
    · exact ⟨fun _ => ⟨by rw [fnd_e z]; rfl, rfl⟩, fun c => absurd (nI_le (a := n) (b := i) (by omega) (by omega)) c⟩
    · refine ⟨fun c => absurd ((nI_leI (a := n) (b := i) (by omega) (by omega)).mp c) z, fun _ => ⟨fun c => ?_, fun _ => ⟨rin (by omega) (by omega), ?_⟩⟩⟩
      · have := (nI_leI (a := 400) (b := i) (by omega) (by omega)).mp c
        omega
      · rw [nI_clamp (by omega), fnd_s (by omega)]
        refine ⟨fun c => ⟨by rw [if_pos c]; rfl, rfl⟩, fun c => ?_⟩
        rw [if_neg c, nI_1]
        exact ih (i + 1) (by omega) (by omega)
theorem c_find {S : rz_S} {n i : Nat} {w : Int32} (hn : n ≤ 400) (hl : S.2 1 2 = nI n) (hi : i < 500) : rz_ev mTape_find [.ref 1, .int w, .int (nI i)] S (rz_i (fun x S1 => x = oI (fnd (S.1 2) w n i) ∧ S1 = S)) := by
  show rz _ 0 [(0, .ref 1), (1, .int w), (2, .int (nI i))] [] _ _
  refine p_Tape_find_0 ?_
  have e : (if 0 < nI i then nI i else 0) = nI i := by
    by_cases z : i = 0
    · subst z; rfl
    · rw [if_pos (show (0 : Int32) < nI i from nI_lt (a := 0) (b := i) (by omega) (by omega))]
  rw [e]
  exact lp_find hn hl 400 i (by omega) (by omega)
/-- the TAPE's first n bytes as the reference sends them -/
theorem lp_sends {n : Nat} (hn : n ≤ 400) {K : rz_S → Prop} : ∀ (m i : Nat) (T : rz_S), m + i = n → (∀ f, (∀ j, i ≤ j → j < n → f j = T.1 150 j &&& 255) → (∀ j, j < i → f j = T.1 151 j) → f n = 0 → K (rz_uI (rz_fA T 151 f) 116 64 0)) → rz mM_sends 2 [(0, .ref 116), (1, .int (nI n)), (2, .int (nI i))] [] T (rz_v K) := by
  intro m
  induction m with
  | zero =>
    intro i T h hK
    have e : i = n := by omega
    subst e
    refine p_M_sends_2 ⟨fun _ => ⟨rin (by omega) (by omega), ?_⟩, fun c => absurd (nI_le (a := i) (b := i) (by omega) (by omega)) c⟩
    rw [nI_clamp (by omega)]
    exact hK _ (fun j h1 h2 => by omega) (fun j h1 => pk_un (by omega)) pk_us
  | succ m ih =>
    intro i T h hK
    refine p_M_sends_2 ⟨fun c => ?_, fun _ => ⟨rin (by omega) (by omega), rin (by omega) (by omega), ?_⟩⟩
    · have := (nI_leI (a := n) (b := i) (by omega) (by omega)).mp c
      omega
    rw [nI_clamp (by omega), nI_1]
    refine ih (i + 1) _ (by omega) (fun f h1 h2 h3 => ?_)
    rw [rz_fAA]
    refine hK f (fun j j1 j2 => ?_) (fun j j1 => ?_) h3
    · by_cases z : j = i
      · subst z
        rw [h2 j (by omega), rz_fA_s, pk_us]
      · rw [h1 j (by omega) j2, rz_fA_n (by omega)]
    · rw [h2 j (by omega), rz_fA_s, pk_un (by omega)]
/-- the TAPE as both have it -/
def Tpe (m : Nat) (Sx Sm : rz_S) : Prop := m ≤ 400 ∧ Sx.2 1 1 = nI m ∧ Sm.2 116 64 = nI m ∧ ∀ j, j < m → Sx.1 2 j = Sm.1 150 j &&& 255
/-- what a sending changes -/
def sdX (S S1 : rz_S) : Prop := S1.1 = S.1 ∧ ∀ u z, ¬ (u = 1 ∧ (z = 1 ∨ z = 2)) → S1.2 u z = S.2 u z
def sdM (S S1 : rz_S) : Prop := (∀ q, q ≠ 151 → S1.1 q = S.1 q) ∧ ∀ u z, ¬ (u = 116 ∧ z = 64) → S1.2 u z = S.2 u z
theorem c_isChannel {S : rz_S} (a : Int32) : rz_ev mX_isChannel [.int a] S (rz_i (fun x S1 => x = (if a < 0 then 0 else if 15 < a then 0 else 1) ∧ S1 = S)) := by
  show rz _ 0 [(0, .int a)] [] _ _
  exact p_X_isChannel_0 ⟨fun c => ⟨by rw [if_pos c], rfl⟩, fun c => ⟨fun d => ⟨by rw [if_neg c, if_pos d], rfl⟩, fun d => ⟨by rw [if_neg c, if_neg d], rfl⟩⟩⟩
/-- the class's sending: refused, or the TEXT stands -/
theorem c_sendText {S : rz_S} {m : Nat} (hm : m ≤ 400) (h1 : S.2 1 1 = nI m) (a b : Int32) : rz_ev mX_sendText [.ref 0, .int a, .int b] S (rz_i (fun x S1 => (x = 0 ∧ S1 = S ∧ ((a < 0 ∨ 15 < a) ∨ b < 0 ∨ nI m < b)) ∨ (x = 1 ∧ S1 = rz_uI (rz_uI S 1 2 b) 1 1 0 ∧ ∃ c n : Nat, c ≤ 15 ∧ n ≤ m ∧ a = nI c ∧ b = nI n))) := by
  show rz _ 0 [(0, .ref 0), (1, .int a), (2, .int b)] [] _ _
  refine p_X_sendText_0 (rz_toI (c_isChannel a) ⟨fun c => ?_, fun c => ?_⟩)
  · refine Or.inl ⟨rfl, rfl, Or.inl ?_⟩
    by_cases z : a < 0
    · exact Or.inl z
    · rw [if_neg z] at c
      by_cases y : 15 < a
      · exact Or.inr y
      · rw [if_neg y] at c
        exact absurd c (by decide)
  · have a0 : ¬ a < 0 := fun z => c (by rw [if_pos z])
    have a15 : ¬ 15 < a := fun z => c (by rw [if_neg a0, if_pos z])
    obtain ⟨k, hk, rfl⟩ := nI_of2 (M := 15) (n := 15) (by decide) a0 (Int32.not_lt.mp a15)
    show rz_ev mTape_has [.ref 1, .int b] S _
    show rz _ 0 [(0, .ref 1), (1, .int b)] [] _ _
    refine p_Tape_has_0 ?_
    rw [h1]
    refine ⟨fun d => ⟨fun _ => Or.inl ⟨rfl, rfl, Or.inr (Or.inl d)⟩, fun z => absurd rfl z⟩, fun d => ⟨fun e => ⟨fun _ => Or.inl ⟨rfl, rfl, Or.inr (Or.inr e)⟩, fun z => absurd rfl z⟩, fun e => ⟨fun z => absurd z (by decide), fun _ => ?_⟩⟩⟩
    obtain ⟨n, hn, rfl⟩ := nI_of2 (M := nI m) (n := m) (nI_toInt (by omega)) d (Int32.not_lt.mp e)
    show rz_ev mTape_send [.ref 1, .int (nI n)] S _
    show rz _ 0 [(0, .ref 1), (1, .int (nI n))] [] _ _
    exact p_Tape_send_0 (Or.inr ⟨rfl, rfl, k, n, hk, hn, rfl, rfl⟩)
theorem sd_of {m n : Nat} {Sx Sm : rz_S} {f : Nat → Int32} (h : Tpe m Sx Sm) (hn : n ≤ m) (h1 : ∀ j, 0 ≤ j → j < n → f j = Sm.1 150 j &&& 255) (h3 : f n = 0) : Txt n (rz_uI (rz_uI Sx 1 2 (nI n)) 1 1 0) (rz_uI (rz_fA Sm 151 f) 116 64 0) ∧ Tpe 0 (rz_uI (rz_uI Sx 1 2 (nI n)) 1 1 0) (rz_uI (rz_fA Sm 151 f) 116 64 0) ∧ sdX Sx (rz_uI (rz_uI Sx 1 2 (nI n)) 1 1 0) ∧ sdM Sm (rz_uI (rz_fA Sm 151 f) 116 64 0) := by
  obtain ⟨m4, t1, t2, t3⟩ := h
  refine ⟨⟨by omega, rfl, fun j hj => ?_, ?_⟩, ⟨by omega, rfl, rfl, fun j hj => by omega⟩, ⟨rfl, fun u z q => ?_⟩, ⟨fun q hq => ?_, fun u z q => ?_⟩⟩
  · have e : (rz_uI (rz_fA Sm 151 f) 116 64 0).1 151 = f := (show (rz_fA Sm 151 f).1 151 = f from rz_fA_s)
    rw [e, h1 j (by omega) hj]
    show Sx.1 2 j = _ ∧ byt (Sx.1 2 j)
    rw [t3 j (by omega)]
    exact ⟨rfl, byt_255 _⟩
  · have e : (rz_uI (rz_fA Sm 151 f) 116 64 0).1 151 = f := (show (rz_fA Sm 151 f).1 151 = f from rz_fA_s)
    rw [e]
    exact h3
  · rw [rz_uI_n (by omega), rz_uI_n (by omega)]
  · exact rz_fA_n hq
  · exact rz_uI_n (by omega)
