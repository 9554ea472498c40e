/-! the MAP: both sides' rows, free blocks, taking and giving back -/
theorem ix3 : ∀ t, t < 13 → rx_in (3 + 2 * nI t) 64 = true ∧ (3 + 2 * nI t : Int32).toNatClampNeg = 3 + 2 * t := by decide +kernel
theorem ix2 : ∀ t, t < 13 → rx_in (2 + 2 * nI t) 64 = true ∧ (2 + 2 * nI t : Int32).toNatClampNeg = 2 + 2 * t := by decide +kernel
theorem ix1 : ∀ t, t < 13 → 1 ≤ t → rx_in (nI t - 1) 12 = true ∧ sa_v 1 ((nI t - 1 : Int32).toNatClampNeg) = nI (sct t) := by decide +kernel
theorem c_Disk_sectorsOf {S : rz_S} {t : Nat} (h1 : 1 ≤ t) (h2 : t ≤ 12) : rz_ev mDisk_sectorsOf [.int (nI t)] S (rz_i (fun x S1 => x = nI (sct t) ∧ S1 = S)) := by
  show rz _ 0 [(0, .int (nI t))] [] _ _
  exact p_Disk_sectorsOf_0 ⟨fun c => absurd c (t_lo h1 h2), fun _ => ⟨fun c => absurd c (t_hi h2), fun _ => ⟨(ix1 t (by omega) h1).1, (ix1 t (by omega) h1).2, rfl⟩⟩⟩
theorem c_M_sect {S : rz_S} {t : Nat} (h1 : 1 ≤ t) (h2 : t ≤ 12) : rz_ev mM_sectorsOf [.int (nI t)] S (rz_i (fun x S1 => x = nI (sct t) ∧ S1 = S)) := by
  have := c_M_sectorsOf (S := S) (nI t)
  rw [sct_I t (by omega) h1] at this
  exact this
/-- what isLegal answers, on both sides -/
def lgI (t s : Int32) : Int32 := if t < 1 then 0 else if 12 < t then 0 else if s < 0 then 0 else if 8 - (t - 1) / 3 ≤ s then 0 else 1
theorem c_M_legal {S : rz_S} (t s : Int32) : rz_ev mM_isLegal [.int t, .int s] S (rz_i (fun x S1 => x = lgI t s ∧ S1 = S)) := c_M_isLegal t s
theorem c_Disk_legal {S : rz_S} (t s : Int32) : rz_ev mDisk_isLegal [.int t, .int s] S (rz_i (fun x S1 => x = lgI t s ∧ S1 = S)) := by
  show rz _ 0 [(0, .int t), (1, .int s)] [] _ _
  unfold lgI
  refine p_Disk_isLegal_0 ⟨fun c => ⟨by rw [if_pos c], rfl⟩, fun c1 => ⟨fun c => ⟨by rw [if_neg c1, if_pos c], rfl⟩, fun c2 => ⟨fun c => ⟨by rw [if_neg c1, if_neg c2, if_pos c], rfl⟩, fun c3 => ?_⟩⟩⟩
  obtain ⟨u, u1, u2, rfl⟩ : ∃ u : Nat, 1 ≤ u ∧ u ≤ 12 ∧ t = nI u := by
    rcases trk t with h | h
    · exact absurd h (fun z => z.elim c1 c2)
    · exact h
  obtain ⟨a1, a2⟩ := ix1 u (by omega) u1
  rw [a2, ← sct_I u (by omega) u1]
  exact ⟨a1, fun c => ⟨by rw [if_neg c1, if_neg c2, if_neg c3, if_pos c], rfl⟩, fun c => ⟨by rw [if_neg c1, if_neg c2, if_neg c3, if_neg c], rfl⟩⟩
theorem lgI_1 {t s : Int32} (h : ¬ lgI t s = 0) : ∃ u v : Nat, 1 ≤ u ∧ u ≤ 12 ∧ v < sct u ∧ t = nI u ∧ s = nI v := by
  unfold lgI at h
  by_cases c1 : t < 1
  · rw [if_pos c1] at h; exact absurd rfl h
  rw [if_neg c1] at h
  by_cases c2 : 12 < t
  · rw [if_pos c2] at h; exact absurd rfl h
  rw [if_neg c2] at h
  by_cases c3 : s < 0
  · rw [if_pos c3] at h; exact absurd rfl h
  rw [if_neg c3] at h
  obtain ⟨u, u1, u2, rfl⟩ : ∃ u : Nat, 1 ≤ u ∧ u ≤ 12 ∧ t = nI u := by
    rcases trk t with h | h
    · exact absurd h (fun z => z.elim c1 c2)
    · exact h
  rw [sct_I u (by omega) u1] at h
  have hb := sct_b u1 u2
  by_cases c4 : nI (sct u) ≤ s
  · rw [if_pos c4] at h; exact absurd rfl h
  rcases pk_ix s (n := sct u) (by omega) with z | z | ⟨v, hv, rfl⟩
  · exact absurd z c3
  · exact absurd z c4
  · exact ⟨u, v, u1, u2, hv, rfl, rfl⟩
theorem lgI_y {u v : Nat} (u1 : 1 ≤ u) (u2 : u ≤ 12) (hv : v < sct u) : lgI (nI u) (nI v) = 1 := by
  have hb := sct_b u1 u2
  unfold lgI
  rw [if_neg (t_lo u1 u2), if_neg (t_hi u2), if_neg (nI_pos (by omega)), sct_I u (by omega) u1, if_neg (fun z => by have := (nI_leI (by omega) (by omega)).mp z; omega)]
/-- block s of track t is free by a row -/
def fr (F : Nat → Int32) (t s : Nat) : Bool := bt (F (3 + 2 * t)) s
/-- the row when it is taken, and when it is given back -/
def tkR (F : Nat → Int32) (t s : Nat) : Nat → Int32 := upd (upd F (3 + 2 * t) (F (3 + 2 * t) &&& ((1 <<< (nI s &&& 31)) ^^^ (-1)))) (2 + 2 * t) ((((upd F (3 + 2 * t) (F (3 + 2 * t) &&& ((1 <<< (nI s &&& 31)) ^^^ (-1)))) (2 + 2 * t)) - 1) &&& 255)
def gbR (F : Nat → Int32) (t s : Nat) : Nat → Int32 := upd (upd F (3 + 2 * t) (F (3 + 2 * t) ||| (1 <<< (nI s &&& 31)))) (2 + 2 * t) ((((upd F (3 + 2 * t) (F (3 + 2 * t) ||| (1 <<< (nI s &&& 31)))) (2 + 2 * t)) + 1) &&& 255)
theorem c_BlockMap_isFree {S : rz_S} {t s : Nat} (h1 : 1 ≤ t) (h2 : t ≤ 12) (hs : s < sct t) : rz_ev mBlockMap_isFree [.ref 44, .int (nI t), .int (nI s)] S (rz_i (fun x S1 => x = nI (fr (S.1 45) t s).toNat ∧ S1 = S)) := by
  have hb := sct_b h1 h2
  show rz _ 0 [(0, .ref 44), (1, .int (nI t)), (2, .int (nI s))] [] _ _
  refine p_BlockMap_isFree_0 (rz_toI (c_Disk_legal _ _) ?_)
  rw [lgI_y h1 h2 hs]
  refine ⟨fun c => absurd c (by decide), fun _ => ⟨(ix3 t (by omega)).1, ?_⟩⟩
  rw [(ix3 t (by omega)).2, bit_one (by omega)]
  unfold fr
  refine ⟨fun c => ⟨by rw [(nI_b1 _).mp c]; rfl, rfl⟩, fun c => ⟨?_, rfl⟩⟩
  cases e : bt (S.1 45 (3 + 2 * t)) s
  · rfl
  · exact absurd ((nI_b1 _).mpr e) c
theorem c_M_isFree {S : rz_S} {t s : Nat} (h2 : t ≤ 12) (hs : s < 32) : rz_ev mM_isFree [.ref 116, .int (nI t), .int (nI s)] S (rz_i (fun x S1 => x = nI (fr (S.1 123) t s).toNat ∧ S1 = S)) := by
  show rz _ 0 [(0, .ref 116), (1, .int (nI t)), (2, .int (nI s))] [] _ _
  refine p_M_isFree_0 ⟨(ix3 t (by omega)).1, ?_⟩
  rw [(ix3 t (by omega)).2, bit_one (by omega)]
  unfold fr
  refine ⟨fun c => ⟨by rw [(nI_b1 _).mp c]; rfl, rfl⟩, fun c => ⟨?_, rfl⟩⟩
  cases e : bt (S.1 123 (3 + 2 * t)) s
  · rfl
  · exact absurd ((nI_b1 _).mpr e) c
theorem c_BlockMap_takeBlock {S : rz_S} {t s : Nat} (h1 : 1 ≤ t) (h2 : t ≤ 12) (hs : s < sct t) : rz_ev mBlockMap_takeBlock [.ref 44, .int (nI t), .int (nI s)] S (rz_v (fun S1 => S1 = if fr (S.1 45) t s then rz_fA S 45 (tkR (S.1 45) t s) else S)) := by
  have hb := sct_b h1 h2
  show rz _ 0 [(0, .ref 44), (1, .int (nI t)), (2, .int (nI s))] [] _ _
  refine p_BlockMap_takeBlock_0 (rz_toI (c_Disk_legal _ _) ?_)
  rw [lgI_y h1 h2 hs]
  refine ⟨fun c => absurd c (by decide), fun _ => ⟨(ix3 t (by omega)).1, ?_⟩⟩
  rw [(ix3 t (by omega)).2, (ix2 t (by omega)).2, bit_one (by omega)]
  refine ⟨fun c => ⟨(ix2 t (by omega)).1, ?_⟩, fun c => ?_⟩
  · rw [if_pos (show fr (S.1 45) t s = true from (nI_b1 _).mp c), rz_fAA]
    rfl
  · rw [if_neg (show ¬ fr (S.1 45) t s = true from fun z => c ((nI_b1 _).mpr z))]
theorem c_M_takes {S : rz_S} {t s : Nat} (h2 : t ≤ 12) : rz_ev mM_takes [.ref 116, .int (nI t), .int (nI s)] S (rz_v (fun S1 => S1 = rz_uI (rz_uI (rz_fA S 123 (tkR (S.1 123) t s)) 116 25 (nI t)) 116 26 (nI s))) := by
  show rz _ 0 [(0, .ref 116), (1, .int (nI t)), (2, .int (nI s))] [] _ _
  refine p_M_takes_0 ⟨(ix3 t (by omega)).1, (ix2 t (by omega)).1, ?_⟩
  rw [(ix3 t (by omega)).2, (ix2 t (by omega)).2, rz_fAA]
  rfl
theorem c_BlockMap_giveBack {S : rz_S} (t s : Int32) : rz_ev mBlockMap_giveBack [.ref 44, .int t, .int s] S (rz_v (fun S1 => (lgI t s = 0 ∧ S1 = S) ∨ ∃ u v : Nat, 1 ≤ u ∧ u ≤ 12 ∧ v < sct u ∧ t = nI u ∧ s = nI v ∧ S1 = if fr (S.1 45) u v then S else rz_fA S 45 (gbR (S.1 45) u v))) := by
  show rz _ 0 [(0, .ref 44), (1, .int t), (2, .int s)] [] _ _
  refine p_BlockMap_giveBack_0 (rz_toI (c_Disk_legal _ _) ⟨fun c => Or.inl ⟨c, rfl⟩, fun c => ?_⟩)
  obtain ⟨u, v, h1, h2, hs, rfl, rfl⟩ := lgI_1 c
  have hb := sct_b h1 h2
  refine ⟨(ix3 u (by omega)).1, ?_⟩
  rw [(ix3 u (by omega)).2, (ix2 u (by omega)).2, bit_one (by omega)]
  refine ⟨fun c => ⟨(ix2 u (by omega)).1, Or.inr ⟨u, v, h1, h2, hs, rfl, rfl, ?_⟩⟩, fun c => Or.inr ⟨u, v, h1, h2, hs, rfl, rfl, ?_⟩⟩
  · have e : fr (S.1 45) u v = false := (nI_b0 _).mp c
    rw [e, rz_fAA]
    rfl
  · have e : fr (S.1 45) u v = true := by
      cases z : fr (S.1 45) u v
      · exact absurd ((nI_b0 _).mpr z) c
      · rfl
    rw [e]
    rfl
theorem c_M_givesBack {S : rz_S} (t s : Int32) : rz_ev mM_givesBack [.ref 116, .int t, .int s] S (rz_v (fun S1 => (lgI t s = 0 ∧ S1 = S) ∨ ∃ u v : Nat, 1 ≤ u ∧ u ≤ 12 ∧ v < sct u ∧ t = nI u ∧ s = nI v ∧ S1 = if fr (S.1 123) u v then S else rz_fA S 123 (gbR (S.1 123) u v))) := by
  show rz _ 0 [(0, .ref 116), (1, .int t), (2, .int s)] [] _ _
  refine p_M_givesBack_0 (rz_toI (c_M_legal _ _) ⟨fun c => Or.inl ⟨c, rfl⟩, fun c => ?_⟩)
  obtain ⟨u, v, h1, h2, hs, rfl, rfl⟩ := lgI_1 c
  have hb := sct_b h1 h2
  refine rz_toI (c_M_isFree h2 (by omega)) ?_
  refine ⟨fun c => ⟨(ix3 u (by omega)).1, (ix2 u (by omega)).1, Or.inr ⟨u, v, h1, h2, hs, rfl, rfl, ?_⟩⟩, fun c => Or.inr ⟨u, v, h1, h2, hs, rfl, rfl, ?_⟩⟩
  · rw [(ix3 u (by omega)).2, (ix2 u (by omega)).2, (nI_b0 _).mp c, rz_fAA]
    rfl
  · have e : fr (S.1 123) u v = true := by
      cases z : fr (S.1 123) u v
      · exact absurd ((nI_b0 _).mpr z) c
      · rfl
    rw [e]
    rfl
/-! the first that is so -/
def fst1 (p : Nat → Bool) : Nat → Nat → Option Nat
  | 0, _ => none
  | k + 1, i => if p i then some i else fst1 p k (i + 1)
theorem fst1_s (p : Nat → Bool) : ∀ k i, fst1 p (k + 1) i = match fst1 p k i with
  | some j => some j
  | none => if p (i + k) then some (i + k) else none := by
  intro k
  induction k with
  | zero => intro i; simp [fst1]
  | succ k ih =>
    intro i
    rw [fst1, ih (i + 1), fst1]
    by_cases h : p i = true
    · simp only [h, if_true]
    · simp only [h]
      rw [show i + 1 + k = i + (k + 1) by omega]
      rfl
theorem fst1_lt {p : Nat → Bool} : ∀ {k i j : Nat}, fst1 p k i = some j → i ≤ j ∧ j < i + k ∧ p j = true := by
  intro k
  induction k with
  | zero => intro i j h; cases h
  | succ k ih =>
    intro i j h
    rw [fst1] at h
    by_cases hp : p i = true
    · rw [if_pos hp] at h; cases h; exact ⟨by omega, by omega, hp⟩
    · rw [if_neg hp] at h
      obtain ⟨a, b, c⟩ := ih h
      exact ⟨by omega, by omega, c⟩
theorem fst1_c {p q : Nat → Bool} : ∀ {k i : Nat}, (∀ j, i ≤ j → j < i + k → p j = q j) → fst1 p k i = fst1 q k i := by
  intro k
  induction k with
  | zero => intro i _; rfl
  | succ k ih =>
    intro i h
    rw [fst1, fst1, h i (by omega) (by omega), ih (fun j a b => h j (by omega) (by omega))]
/-- the block of a track that is picked, from a sector on -/
def pkO (F : Nat → Int32) (t f : Nat) : Option Nat := if F (2 + 2 * t) = 0 then none else (fst1 (fun i => fr F t ((f + i) % sct t)) (sct t) 0).map (fun i => (f + i) % sct t)
theorem pkO_lt {F : Nat → Int32} {t f s : Nat} (h1 : 1 ≤ t) (h2 : t ≤ 12) (h : pkO F t f = some s) : s < sct t ∧ fr F t s = true := by
  have hb := sct_b h1 h2
  unfold pkO at h
  split at h
  · cases h
  · cases e : fst1 (fun i => fr F t ((f + i) % sct t)) (sct t) 0 with
    | none => rw [e] at h; cases h
    | some i =>
      rw [e] at h
      cases h
      exact ⟨Nat.mod_lt _ (by omega), (fst1_lt e).2.2⟩
theorem pkO_c {F G : Nat → Int32} {t f : Nat} (h2 : t ≤ 12) (h : ∀ k, k < 64 → F k = G k) : pkO F t f = pkO G t f := by
  unfold pkO fr
  rw [h (2 + 2 * t) (by omega), h (3 + 2 * t) (by omega)]
/-- the class's state when a block has been picked -/
def xpk (S : rz_S) (t s : Nat) : rz_S := rz_uI (rz_uI (rz_fA S 45 (tkR (S.1 45) t s)) 44 1 (nI t)) 44 2 (nI s)
def mpk (S : rz_S) (t s : Nat) : rz_S := rz_uI (rz_uI (rz_fA S 123 (tkR (S.1 123) t s)) 116 25 (nI t)) 116 26 (nI s)
def pkX (o : Option Nat) (t : Nat) (S : rz_S) (x : Int32) (S1 : rz_S) : Prop := match o with
  | none => x = 0 ∧ S1 = S
  | some s => x = 1 ∧ S1 = xpk S t s
theorem c_BlockMap_pickOf {S : rz_S} {t f : Nat} (h1 : 1 ≤ t) (h2 : t ≤ 12) (hf : f < 400) : rz_ev mBlockMap_pickOf [.ref 44, .int (nI t), .int (nI f)] S (rz_i (pkX (pkO (S.1 45) t f) t S)) := by
  have hb := sct_b h1 h2
  have lp : ¬ S.1 45 (2 + 2 * t) = 0 → ∀ (w i : Nat), w + i = sct t → (fst1 (fun i => fr (S.1 45) t ((f + i) % sct t)) (sct t) 0 = fst1 (fun i => fr (S.1 45) t ((f + i) % sct t)) w i) → rz mBlockMap_pickOf 27 [(0, .ref 44), (1, .int (nI t)), (2, .int (nI f)), (3, .int (nI (sct t))), (4, .int (nI i))] [] S (rz_i (pkX (pkO (S.1 45) t f) t S)) := by
    intro h0 w
    induction w with
    | zero =>
      intro i hi he
      refine p_BlockMap_pickOf_27 ⟨fun _ => ?_, fun c => absurd (nI_le (by omega) (by omega)) c⟩
      unfold pkO
      rw [if_neg h0, he]
      exact ⟨rfl, rfl⟩
    | succ w ih =>
      intro i hi he
      refine p_BlockMap_pickOf_27 ⟨fun c => ?_, fun _ => ⟨fun c => ?_, ?_⟩⟩
      · have := (nI_leI (by omega) (by omega)).mp c
        omega
      · exact nI_ne0 (by omega) (by omega) c
      · have hm : (f + i) % sct t < sct t := Nat.mod_lt _ (by omega)
        rw [nI_add, pk_rem (by omega) (by omega) (by omega)]
        refine rz_toI (c_BlockMap_isFree h1 h2 hm) ?_
        rw [fst1] at he
        refine ⟨fun c => ?_, fun c => ?_⟩
        · have e : fr (S.1 45) t ((f + i) % sct t) = false := (nI_b0 _).mp c
          rw [if_neg (by rw [e]; decide)] at he
          rw [show (nI i + 1 : Int32) = nI (i + 1) from nI_1 i]
          exact ih (i + 1) (by omega) he
        · have e : fr (S.1 45) t ((f + i) % sct t) = true := by
            cases z : fr (S.1 45) t ((f + i) % sct t)
            · rw [z] at c; exact absurd rfl c
            · rfl
          rw [if_pos e] at he
          refine rz_toV (c_BlockMap_takeBlock h1 h2 hm) ?_
          rw [if_pos e]
          unfold pkO
          rw [if_neg h0, he]
          exact ⟨rfl, rfl⟩
  show rz _ 0 [(0, .ref 44), (1, .int (nI t)), (2, .int (nI f))] [] _ _
  refine p_BlockMap_pickOf_0 (rz_toI (c_Disk_sectorsOf h1 h2) ⟨fun c => ?_, fun _ => ⟨(ix2 t (by omega)).1, ?_⟩⟩)
  · exact absurd c (nI_ne0 (by omega) (by omega))
  rw [(ix2 t (by omega)).2]
  refine ⟨fun c => ?_, fun c => ?_⟩
  · unfold pkO
    rw [if_pos c]
    exact ⟨rfl, rfl⟩
  · exact lp c (sct t) 0 (by omega) rfl
def oI : Option Nat → Int32
  | none => -1
  | some s => nI s
theorem c_M_lowest {S : rz_S} {t : Nat} (h1 : 1 ≤ t) (h2 : t ≤ 12) : rz_ev mM_lowest [.ref 116, .int (nI t)] S (rz_i (fun x S1 => x = oI (pkO (S.1 123) t 0) ∧ S1 = S)) := by
  have hb := sct_b h1 h2
  have lp : ∀ (j : Nat) (a : Int32), j ≤ sct t → rz mM_lowest 22 [(0, .ref 116), (1, .int (nI t)), (2, .int a), (3, .int (nI j - 1))] [] S (rz_i (fun x S1 => x = (match fst1 (fr (S.1 123) t) j 0 with
      | some s => nI s
      | none => a) ∧ S1 = S)) := by
    intro j
    induction j with
    | zero =>
      intro a _
      exact p_M_lowest_22 ⟨fun _ => ⟨rfl, rfl⟩, fun c => absurd (by decide) c⟩
    | succ j ih =>
      intro a hj
      rw [show (nI (j + 1) - 1 : Int32) = nI j from pk_sub (a := j + 1) (b := 1) (by omega)]
      refine p_M_lowest_22 ⟨fun c => absurd c (nI_pos (by omega)), fun _ => rz_toI (c_M_isFree h2 (by omega)) ?_⟩
      rw [show (nI j + (-1) : Int32) = nI j - 1 from (Int32.sub_eq_add_neg (nI j) 1).symm, fst1_s, Nat.zero_add]
      refine ⟨fun c => ?_, fun c => ?_⟩
      · have e := (nI_b0 _).mp c
        rw [e]
        have := ih a (by omega)
        cases z : fst1 (fr (S.1 123) t) j 0 with
        | none => rw [z] at this; exact this
        | some s => rw [z] at this; exact this
      · have e : fr (S.1 123) t j = true := by
          cases z : fr (S.1 123) t j
          · rw [z] at c; exact absurd rfl c
          · rfl
        rw [e]
        have := ih (nI j) (by omega)
        cases z : fst1 (fr (S.1 123) t) j 0 with
        | none => rw [z] at this; exact this
        | some s => rw [z] at this; exact this
  show rz _ 0 [(0, .ref 116), (1, .int (nI t))] [] _ _
  refine p_M_lowest_0 ⟨(ix2 t (by omega)).1, ?_⟩
  rw [(ix2 t (by omega)).2]
  unfold pkO
  refine ⟨fun c => ⟨by rw [if_pos c]; rfl, rfl⟩, fun c => ?_⟩
  rw [if_neg c]
  refine rz_toI (c_M_sect h1 h2) ?_
  have := lp (sct t) (-1) (Nat.le_refl _)
  have e : fst1 (fun i => fr (S.1 123) t ((0 + i) % sct t)) (sct t) 0 = fst1 (fr (S.1 123) t) (sct t) 0 := fst1_c (fun j _ hj => by rw [Nat.zero_add, Nat.mod_eq_of_lt (by omega)])
  rw [e]
  cases z : fst1 (fr (S.1 123) t) (sct t) 0 with
  | none => rw [z] at this; exact this
  | some s =>
    rw [z] at this
    have hs := (fst1_lt z).2.1
    have e2 : oI ((some s).map (fun i => (0 + i) % sct t)) = nI s := by
      show nI ((0 + s) % sct t) = nI s
      rw [Nat.zero_add, Nat.mod_eq_of_lt (by omega)]
    rw [e2]
    exact this
/-! the tracks in their order -/
def ordT (i : Nat) : Nat := [6, 8, 5, 9, 4, 10, 3, 11, 2, 12, 1].getD i 0
theorem ord_b : ∀ i, i < 11 → 1 ≤ ordT i ∧ ordT i ≤ 12 := by decide +kernel
theorem ord_x : ∀ i, i < 11 → rx_in (nI i) 11 = true ∧ sa_v 7 ((nI i).toNatClampNeg) = nI (ordT i) := by decide +kernel
def pkA (F : Nat → Int32) : Nat → Nat → Option (Nat × Nat)
  | 0, _ => none
  | k + 1, i => match pkO F (ordT i) 0 with
    | some s => some (ordT i, s)
    | none => pkA F k (i + 1)
theorem pkA_c {F G : Nat → Int32} (h : ∀ k, k < 64 → F k = G k) : ∀ k i, k + i = 11 → pkA F k i = pkA G k i := by
  intro k
  induction k with
  | zero => intro i _; rfl
  | succ k ih =>
    intro i hi
    rw [pkA, pkA, pkO_c (ord_b i (by omega)).2 h, ih (i + 1) (by omega)]
theorem pkA_lt {F : Nat → Int32} {t s : Nat} : ∀ k i, k + i = 11 → pkA F k i = some (t, s) → 1 ≤ t ∧ t ≤ 12 ∧ s < sct t ∧ fr F t s = true := by
  intro k
  induction k with
  | zero => intro i _ h; cases h
  | succ k ih =>
    intro i hi h
    rw [pkA] at h
    have hb := ord_b i (by omega)
    cases e : pkO F (ordT i) 0 with
    | none => rw [e] at h; exact ih (i + 1) (by omega) h
    | some u =>
      rw [e] at h
      cases h
      exact ⟨hb.1, hb.2, pkO_lt hb.1 hb.2 e⟩
def pkX2 (o : Option (Nat × Nat)) (S : rz_S) (x : Int32) (S1 : rz_S) : Prop := match o with
  | none => x = 0 ∧ S1 = S
  | some (t, s) => x = 1 ∧ S1 = xpk S t s
def pkM2 (o : Option (Nat × Nat)) (S : rz_S) (x : Int32) (S1 : rz_S) : Prop := match o with
  | none => x = 72 ∧ S1 = rz_uI (rz_uI S 116 4 0) 116 5 0
  | some (t, s) => x = 0 ∧ S1 = mpk S t s
theorem c_BlockMap_pick {S : rz_S} : rz_ev mBlockMap_pick [.ref 44] S (rz_i (pkX2 (pkA (S.1 45) 11 0) S)) := by
  have lp : ∀ (w i : Nat), w + i = 11 → pkA (S.1 45) 11 0 = pkA (S.1 45) w i → rz mBlockMap_pick 2 [(0, .ref 44), (1, .int (nI i))] [] S (rz_i (pkX2 (pkA (S.1 45) 11 0) S)) := by
    intro w
    induction w with
    | zero =>
      intro i hi he
      have e : i = 11 := by omega
      subst e
      refine p_BlockMap_pick_2 ⟨fun _ => ?_, fun c => absurd (by decide) c⟩
      rw [he]
      exact ⟨rfl, rfl⟩
    | succ w ih =>
      intro i hi he
      have hb := ord_b i (by omega)
      refine p_BlockMap_pick_2 ⟨fun c => ?_, fun _ => ⟨(ord_x i (by omega)).1, ?_⟩⟩
      · have := (nI_leI (a := 11) (by omega) (by omega)).mp c
        omega
      rw [(ord_x i (by omega)).2]
      refine rz_useI (c_BlockMap_pickOf (f := 0) hb.1 hb.2 (by omega)) (fun x S1 h => ?_)
      rw [show pkA (S.1 45) (w + 1) i = (match pkO (S.1 45) (ordT i) 0 with
        | some s => some (ordT i, s)
        | none => pkA (S.1 45) w (i + 1)) from rfl] at he
      cases e : pkO (S.1 45) (ordT i) 0 with
      | none =>
        rw [e] at h he
        obtain ⟨rfl, rfl⟩ := h
        refine ⟨fun _ => ?_, fun c => absurd rfl c⟩
        rw [show (nI i + 1 : Int32) = nI (i + 1) from nI_1 i]
        exact ih (i + 1) (by omega) he
      | some s =>
        rw [e] at h he
        obtain ⟨rfl, rfl⟩ := h
        refine ⟨fun c => absurd c (by decide), fun _ => ?_⟩
        rw [he]
        exact ⟨rfl, rfl⟩
  show rz _ 0 [(0, .ref 44)] [] _ _
  exact p_BlockMap_pick_0 (lp 11 0 rfl rfl)
theorem ord_m : ∀ i, i < 11 → (nI i = 10 → (1 : Int32) = nI (ordT i)) ∧ (¬ nI i = 10 → ((nI i - nI i / 2 * 2 = 0 → 6 - nI i / 2 = nI (ordT i)) ∧ (¬ nI i - nI i / 2 * 2 = 0 → 8 + nI i / 2 = nI (ordT i)))) := by decide +kernel
theorem c_M_trackOf {S : rz_S} {i : Nat} (hi : i < 11) : rz_ev mM_trackOf [.int (nI i)] S (rz_i (fun x S1 => x = nI (ordT i) ∧ S1 = S)) := by
  show rz _ 0 [(0, .int (nI i))] [] _ _
  have h := ord_m i hi
  exact p_M_trackOf_0 ⟨fun c => ⟨h.1 c, rfl⟩, fun c => ⟨fun d => ⟨(h.2 c).1 d, rfl⟩, fun d => ⟨(h.2 c).2 d, rfl⟩⟩⟩
theorem c_M_takesOne {S : rz_S} : rz_ev mM_takesOne [.ref 116] S (rz_i (pkM2 (pkA (S.1 123) 11 0) S)) := by
  have lp : ∀ (w i : Nat), w + i = 11 → pkA (S.1 123) 11 0 = pkA (S.1 123) w i → rz mM_takesOne 2 [(0, .ref 116), (1, .int (nI i))] [] S (rz_i (pkM2 (pkA (S.1 123) 11 0) S)) := by
    intro w
    induction w with
    | zero =>
      intro i hi he
      have e : i = 11 := by omega
      subst e
      refine p_M_takesOne_2 ⟨fun _ => ?_, fun c => absurd (by decide) c⟩
      rw [he]
      exact rz_toI (c_M_fault 72 0 0) ⟨rfl, rfl⟩
    | succ w ih =>
      intro i hi he
      have hb := ord_b i (by omega)
      refine p_M_takesOne_2 ⟨fun c => ?_, fun _ => rz_toI (c_M_trackOf (by omega)) (rz_toI (c_M_lowest hb.1 hb.2) ?_)⟩
      · have := (nI_leI (a := 11) (by omega) (by omega)).mp c
        omega
      rw [show pkA (S.1 123) (w + 1) i = (match pkO (S.1 123) (ordT i) 0 with
        | some s => some (ordT i, s)
        | none => pkA (S.1 123) w (i + 1)) from rfl] at he
      cases e : pkO (S.1 123) (ordT i) 0 with
      | none =>
        rw [e] at he
        refine ⟨fun _ => ?_, fun c => absurd rfl c⟩
        rw [show (nI i + 1 : Int32) = nI (i + 1) from nI_1 i]
        exact ih (i + 1) (by omega) he
      | some s =>
        rw [e] at he
        have hs := (pkO_lt hb.1 hb.2 e).1
        have hn := sct_b hb.1 hb.2
        refine ⟨fun c => absurd c ?_, fun _ => ?_⟩
        · show ¬ nI s = -1
          have : ∀ q, q < 8 → ¬ nI q = -1 := by decide
          exact this s (by omega)
        rw [he]
        exact rz_toV (c_M_takes hb.2) ⟨rfl, rfl⟩
  show rz _ 0 [(0, .ref 116)] [] _ _
  exact p_M_takesOne_0 (lp 11 0 rfl rfl)
/-- the block behind another one -/
def pkB (F : Nat → Int32) (t s : Nat) : Option (Nat × Nat) := if t = 7 then pkA F 11 0 else match pkO F t (s + 3) with
  | some u => some (t, u)
  | none => pkA F 11 0
theorem pkB_c {F G : Nat → Int32} {t s : Nat} (h2 : t ≤ 12) (h : ∀ k, k < 64 → F k = G k) : pkB F t s = pkB G t s := by
  unfold pkB
  rw [pkA_c h 11 0 rfl, pkO_c h2 h]
theorem pkB_lt {F : Nat → Int32} {t s u v : Nat} (h1 : 1 ≤ t) (h2 : t ≤ 12) (h : pkB F t s = some (u, v)) : 1 ≤ u ∧ u ≤ 12 ∧ v < sct u ∧ fr F u v = true := by
  unfold pkB at h
  split at h
  · exact pkA_lt 11 0 rfl h
  · cases e : pkO F t (s + 3) with
    | none => rw [e] at h; exact pkA_lt 11 0 rfl h
    | some w =>
      rw [e] at h
      cases h
      exact ⟨h1, h2, pkO_lt h1 h2 e⟩
theorem c_BlockMap_pickBehind {S : rz_S} {t s : Nat} (h1 : 1 ≤ t) (h2 : t ≤ 12) (hs : s < 256) : rz_ev mBlockMap_pickBehind [.ref 44, .int (nI t), .int (nI s)] S (rz_i (pkX2 (pkB (S.1 45) t s) S)) := by
  have key : pkB (S.1 45) t s = pkA (S.1 45) 11 0 → rz mBlockMap_pickBehind 17 [(0, .ref 44)] [] S (rz_i (pkX2 (pkB (S.1 45) t s) S)) := by
    intro he
    rw [he]
    refine p_BlockMap_pickBehind_17 (rz_useI c_BlockMap_pick (fun x S1 h => ?_))
    cases e : pkA (S.1 45) 11 0 with
    | none =>
      rw [e] at h
      obtain ⟨rfl, rfl⟩ := h
      exact ⟨fun _ => ⟨rfl, rfl⟩, fun c => absurd rfl c⟩
    | some q =>
      obtain ⟨u, v⟩ := q
      rw [e] at h
      obtain ⟨rfl, rfl⟩ := h
      exact ⟨fun c => absurd c (by decide), fun _ => ⟨rfl, rfl⟩⟩
  show rz _ 0 [(0, .ref 44), (1, .int (nI t)), (2, .int (nI s))] [] _ _
  refine p_BlockMap_pickBehind_0 ⟨fun c => ?_, fun c => ?_⟩
  · have : t = 7 := (nI_eq (b := 7) (by omega) (by omega)).mp c
    exact key (by unfold pkB; rw [if_pos this])
  · have hne : ¬ t = 7 := fun z => c (by rw [z]; rfl)
    rw [show (nI s + 3 : Int32) = nI (s + 3) from nI_add s 3]
    refine rz_useI (c_BlockMap_pickOf h1 h2 (by omega)) (fun x S1 h => ?_)
    cases e : pkO (S.1 45) t (s + 3) with
    | none =>
      rw [e] at h
      obtain ⟨rfl, rfl⟩ := h
      exact ⟨fun _ => key (by unfold pkB; rw [if_neg hne, e]), fun c => absurd rfl c⟩
    | some u =>
      rw [e] at h
      obtain ⟨rfl, rfl⟩ := h
      refine ⟨fun c => absurd c (by decide), fun _ => ?_⟩
      have : pkB (S.1 45) t s = some (t, u) := by unfold pkB; rw [if_neg hne, e]
      rw [this]
      exact ⟨rfl, rfl⟩
theorem c_M_takesNext {S : rz_S} {t s : Nat} (h1 : 1 ≤ t) (h2 : t ≤ 12) (hs : s < 256) : rz_ev mM_takesNext [.ref 116, .int (nI t), .int (nI s)] S (rz_i (pkM2 (pkB (S.1 123) t s) S)) := by
  have hb := sct_b h1 h2
  have key : pkB (S.1 123) t s = pkA (S.1 123) 11 0 → rz mM_takesNext 68 [(0, .ref 116)] [] S (rz_i (pkM2 (pkB (S.1 123) t s) S)) := by
    intro he
    rw [he]
    exact p_M_takesNext_68 c_M_takesOne
  have lp : ¬ t = 7 → ¬ S.1 123 (2 + 2 * t) = 0 → ∀ (w i : Nat), w + i = sct t → (fst1 (fun i => fr (S.1 123) t ((s + 3 + i) % sct t)) (sct t) 0 = fst1 (fun i => fr (S.1 123) t ((s + 3 + i) % sct t)) w i) → rz mM_takesNext 27 [(0, .ref 116), (1, .int (nI t)), (2, .int (nI s)), (3, .int (nI (sct t))), (4, .int (nI i))] [] S (rz_i (pkM2 (pkB (S.1 123) t s) S)) := by
    intro hne h0 w
    induction w with
    | zero =>
      intro i hi he
      refine p_M_takesNext_27 ⟨fun _ => key ?_, fun c => absurd (nI_le (by omega) (by omega)) c⟩
      unfold pkB pkO
      rw [if_neg hne, if_neg h0, he]
      rfl
    | succ w ih =>
      intro i hi he
      refine p_M_takesNext_27 ⟨fun c => ?_, fun _ => ⟨nI_ne0 (by omega) (by omega), ?_⟩⟩
      · have := (nI_leI (by omega) (by omega)).mp c
        omega
      · have hm : (s + 3 + i) % sct t < sct t := Nat.mod_lt _ (by omega)
        rw [show (nI s + 3 : Int32) = nI (s + 3) from nI_add s 3, nI_add, pk_rem (by omega) (by omega) (by omega)]
        refine rz_toI (c_M_isFree h2 (by omega)) ?_
        rw [fst1] at he
        refine ⟨fun c => ?_, fun c => ?_⟩
        · have e : fr (S.1 123) t ((s + 3 + i) % sct t) = false := (nI_b0 _).mp c
          rw [if_neg (by rw [e]; decide)] at he
          rw [show (nI i + 1 : Int32) = nI (i + 1) from nI_1 i]
          exact ih (i + 1) (by omega) he
        · have e : fr (S.1 123) t ((s + 3 + i) % sct t) = true := by
            cases z : fr (S.1 123) t ((s + 3 + i) % sct t)
            · rw [z] at c; exact absurd rfl c
            · rfl
          rw [if_pos e] at he
          have : pkB (S.1 123) t s = some (t, (s + 3 + i) % sct t) := by
            unfold pkB pkO
            rw [if_neg hne, if_neg h0, he]
            rfl
          rw [this]
          exact rz_toV (c_M_takes h2) ⟨rfl, rfl⟩
  show rz _ 0 [(0, .ref 116), (1, .int (nI t)), (2, .int (nI s))] [] _ _
  refine p_M_takesNext_0 ⟨fun c => ?_, fun c => ⟨(ix2 t (by omega)).1, ?_⟩⟩
  · have : t = 7 := (nI_eq (b := 7) (by omega) (by omega)).mp c
    exact key (by unfold pkB; rw [if_pos this])
  · have hne : ¬ t = 7 := fun z => c (by rw [z]; rfl)
    rw [(ix2 t (by omega)).2]
    refine ⟨fun c => key ?_, fun c => rz_toI (c_M_sect h1 h2) (lp hne c (sct t) 0 (by omega) rfl)⟩
    unfold pkB pkO
    rw [if_neg hne, if_pos c]
theorem rz_fA_id (T : rz_S) (k : Nat) : rz_fA T k (T.1 k) = T := by
  apply Prod.ext
  · funext q
    simp only [rz_fA]
    by_cases e : q = k
    · rw [if_pos e, e]
    · rw [if_neg e]
  · rfl
/-- a MAP with all blocks free -/
def faR : Nat → Nat → (Nat → Int32) → Nat → Int32
  | 0, _, F => F
  | w + 1, t, F => faR w (t + 1) (upd (upd F (2 + 2 * t) (nI (sct t))) (3 + 2 * t) ((1 <<< (nI (sct t) &&& 31)) - 1))
theorem c_BlockMap_freeAll {S : rz_S} : rz_ev mBlockMap_freeAll [.ref 44] S (rz_v (fun S1 => S1 = rz_fA S 45 (faR 12 1 (S.1 45)))) := by
  have lp : ∀ (w t : Nat) (T : rz_S), w + t = 13 → 1 ≤ t → rz_fA T 45 (faR w t (T.1 45)) = rz_fA S 45 (faR 12 1 (S.1 45)) → rz mBlockMap_freeAll 2 [(0, .ref 44), (1, .int (nI t))] [] T (rz_v (fun S1 => S1 = rz_fA S 45 (faR 12 1 (S.1 45)))) := by
    intro w
    induction w with
    | zero =>
      intro t T ht h1 he
      have e : t = 13 := by omega
      subst e
      refine p_BlockMap_freeAll_2 ⟨fun _ => ?_, fun c => absurd (by decide) c⟩
      rw [← he]
      exact (rz_fA_id T 45).symm
    | succ w ih =>
      intro t T ht h1 he
      refine p_BlockMap_freeAll_2 ⟨fun c => absurd c (t_hi (by omega)), fun _ => rz_toI (c_Disk_sectorsOf h1 (by omega)) ⟨(ix2 t (by omega)).1, rz_toI (c_Disk_sectorsOf h1 (by omega)) ⟨(ix3 t (by omega)).1, ?_⟩⟩⟩
      rw [(ix2 t (by omega)).2, (ix3 t (by omega)).2, rz_fA_s, rz_fAA, show (nI t + 1 : Int32) = nI (t + 1) from nI_1 t]
      refine ih (t + 1) _ (by omega) (by omega) ?_
      rw [rz_fA_s, rz_fAA]
      exact he
  show rz _ 0 [(0, .ref 44)] [] _ _
  exact p_BlockMap_freeAll_0 (lp 12 1 S rfl (by omega) rfl)
theorem c_M_freesAll {S : rz_S} : rz_ev mM_freesAll [.ref 116] S (rz_v (fun S1 => S1 = rz_fA S 123 (faR 12 1 (S.1 123)))) := by
  have lp : ∀ (w t : Nat) (T : rz_S), w + t = 13 → 1 ≤ t → rz_fA T 123 (faR w t (T.1 123)) = rz_fA S 123 (faR 12 1 (S.1 123)) → rz mM_freesAll 2 [(0, .ref 116), (1, .int (nI t))] [] T (rz_v (fun S1 => S1 = rz_fA S 123 (faR 12 1 (S.1 123)))) := by
    intro w
    induction w with
    | zero =>
      intro t T ht h1 he
      have e : t = 13 := by omega
      subst e
      refine p_M_freesAll_2 ⟨fun _ => ?_, fun c => absurd (by decide) c⟩
      rw [← he]
      exact (rz_fA_id T 123).symm
    | succ w ih =>
      intro t T ht h1 he
      refine p_M_freesAll_2 ⟨fun c => absurd c (t_hi (by omega)), fun _ => rz_toI (c_M_sect h1 (by omega)) ⟨(ix2 t (by omega)).1, rz_toI (c_M_sect h1 (by omega)) ⟨(ix3 t (by omega)).1, ?_⟩⟩⟩
      rw [(ix2 t (by omega)).2, (ix3 t (by omega)).2, rz_fA_s, rz_fAA, show (nI t + 1 : Int32) = nI (t + 1) from nI_1 t]
      refine ih (t + 1) _ (by omega) (by omega) ?_
      rw [rz_fA_s, rz_fAA]
      exact he
  show rz _ 0 [(0, .ref 116)] [] _ _
  exact p_M_freesAll_0 (lp 12 1 S rfl (by omega) rfl)
/-! bytes -/
def byt (x : Int32) : Prop := ∃ n : Nat, n < 256 ∧ x = nI n
theorem byt_of {x : Int32} (h : ∀ i, 8 ≤ i → i < 32 → bt x i = false) : byt x := by
  refine ⟨x.toBitVec.toNat, ?_, ?_⟩
  · refine Nat.lt_pow_two_of_testBit (n := 8) _ (fun i hi => ?_)
    by_cases h32 : i < 32
    · exact h i hi h32
    · exact Nat.testBit_lt_two_pow (Nat.lt_of_lt_of_le x.toBitVec.isLt (Nat.pow_le_pow_right (by omega) (by omega)))
  · apply b_ext
    intro i hi
    rw [b_nI hi]
    rfl
theorem byt_hi {x : Int32} (h : byt x) {i : Nat} (hi : 8 ≤ i) (h32 : i < 32) : bt x i = false := by
  obtain ⟨n, hn, rfl⟩ := h
  rw [b_nI h32]
  exact Nat.testBit_lt_two_pow (Nat.lt_of_lt_of_le hn (Nat.pow_le_pow_right (n := 2) (by omega) hi))
theorem byt_255 (x : Int32) : byt (x &&& 255) := by
  obtain ⟨j, hj, e⟩ := pk_andE x (m := 255) 8 (by decide)
  exact ⟨j, hj, e⟩
theorem byt_and {x y : Int32} (h : byt x) : byt (x &&& y) := byt_of (fun i h8 h32 => by rw [b_and, byt_hi h h8 h32, Bool.false_and])
theorem byt_or {x y : Int32} (h : byt x) (h' : byt y) : byt (x ||| y) := byt_of (fun i h8 h32 => by rw [b_or, byt_hi h h8 h32, byt_hi h' h8 h32, Bool.false_or])
theorem byt_1s : ∀ s, s < 8 → byt ((1 : Int32) <<< (nI s &&& 31)) := fun s hs => byt_of (fun i h8 h32 => by
  rw [b_shl s (by omega) 1 h32, b_1]
  by_cases e : s ≤ i
  · rw [decide_eq_false (p := i - s = 0) (by omega), Bool.and_false]
  · rw [decide_eq_false e, Bool.false_and])
/-- both MAPs are one and the same, of bytes -/
def Mp (Sx Sm : rz_S) : Prop := ∀ k, k < 64 → Sx.1 45 k = Sm.1 123 k ∧ byt (Sx.1 45 k)
theorem eqb_upd {F G : Nat → Int32} {k : Nat} {x y : Int32} (h : ∀ j, j < 64 → F j = G j ∧ byt (F j)) (e : x = y) (hx : byt x) : ∀ j, j < 64 → upd F k x j = upd G k y j ∧ byt (upd F k x j) := by
  subst e
  intro j hj
  by_cases q : j = k
  · subst q; rw [pk_us, pk_us]; exact ⟨rfl, hx⟩
  · rw [pk_un q, pk_un q]; exact h j hj
theorem tkR_c {F G : Nat → Int32} {t s : Nat} (h2 : t ≤ 12) (h : ∀ j, j < 64 → F j = G j ∧ byt (F j)) : ∀ j, j < 64 → tkR F t s j = tkR G t s j ∧ byt (tkR F t s j) := by
  unfold tkR
  have e1 := eqb_upd (k := 3 + 2 * t) h (show (F (3 + 2 * t) &&& ((1 <<< (nI s &&& 31)) ^^^ (-1)) : Int32) = G (3 + 2 * t) &&& ((1 <<< (nI s &&& 31)) ^^^ (-1)) by rw [(h _ (by omega)).1]) (byt_and (h _ (by omega)).2)
  exact eqb_upd e1 (by rw [(e1 (2 + 2 * t) (by omega)).1]) (byt_255 _)
theorem gbR_c {F G : Nat → Int32} {t s : Nat} (h2 : t ≤ 12) (hs : s < 8) (h : ∀ j, j < 64 → F j = G j ∧ byt (F j)) : ∀ j, j < 64 → gbR F t s j = gbR G t s j ∧ byt (gbR F t s j) := by
  unfold gbR
  have e1 := eqb_upd (k := 3 + 2 * t) h (show (F (3 + 2 * t) ||| (1 <<< (nI s &&& 31)) : Int32) = G (3 + 2 * t) ||| (1 <<< (nI s &&& 31)) by rw [(h _ (by omega)).1]) (byt_or (h _ (by omega)).2 (byt_1s s hs))
  exact eqb_upd e1 (by rw [(e1 (2 + 2 * t) (by omega)).1]) (byt_255 _)
theorem fr_c {F G : Nat → Int32} {t s : Nat} (h2 : t ≤ 12) (h : ∀ j, j < 64 → F j = G j ∧ byt (F j)) : fr F t s = fr G t s := by
  unfold fr
  rw [(h _ (by omega)).1]
theorem faR_c : ∀ (w t : Nat) {F G : Nat → Int32}, w + t = 13 → 1 ≤ t → (∀ j, j < 64 → F j = G j ∧ byt (F j)) → ∀ j, j < 64 → faR w t F j = faR w t G j ∧ byt (faR w t F j) := by
  intro w
  induction w with
  | zero => intro t F G _ _ h; exact h
  | succ w ih =>
    intro t F G ht h1 h
    have hb := sct_b h1 (show t ≤ 12 by omega)
    have q : ∀ s, s < 9 → 5 ≤ s → byt ((1 <<< (nI s &&& 31)) - 1 : Int32) := by
      intro s h9 h5
      have : s = 5 ∨ s = 6 ∨ s = 7 ∨ s = 8 := by omega
      rcases this with rfl | rfl | rfl | rfl
      · exact ⟨31, by omega, by decide⟩
      · exact ⟨63, by omega, by decide⟩
      · exact ⟨127, by omega, by decide⟩
      · exact ⟨255, by omega, by decide⟩
    exact ih (t + 1) (by omega) (by omega) (eqb_upd (eqb_upd h rfl ⟨sct t, by omega, rfl⟩) rfl (q _ (by omega) hb.2.1))
/-- MAP given back to, on both sides -/
theorem PR_giveBack {Sx Sm : rz_S} (h : Mp Sx Sm) (t s : Int32) : PCv mBlockMap_giveBack mM_givesBack [.ref 44, .int t, .int s] [.ref 116, .int t, .int s] Sx Sm (fun Sx1 Sm1 => ∃ f g, Sx1 = rz_fA Sx 45 f ∧ Sm1 = rz_fA Sm 123 g ∧ Mp Sx1 Sm1) := by
  refine PCv_of (fun K hK => rz_useV (c_BlockMap_giveBack t s) (fun Sx1 a => hK Sx1 (rz_useV (c_M_givesBack t s) (fun Sm1 b => ?_))))
  rcases a with ⟨a0, rfl⟩ | ⟨u, v, u1, u2, hv, rfl, rfl, ea⟩
  · rcases b with ⟨b0, rfl⟩ | ⟨u, v, u1, u2, hv, rfl, rfl, eb⟩
    · exact ⟨_, _, (rz_fA_id _ 45).symm, (rz_fA_id _ 123).symm, h⟩
    · rw [lgI_y u1 u2 hv] at a0; exact absurd a0 (by decide)
  · rcases b with ⟨b0, rfl⟩ | ⟨u', v', _, _, hv', e1, e2, eb⟩
    · rw [lgI_y u1 u2 hv] at b0; exact absurd b0 (by decide)
    · have hb := sct_b u1 u2
      have q1 : u = u' := (nI_eq (by omega) (by omega)).mp e1
      subst q1
      have q2 : v = v' := (nI_eq (by omega) (by omega)).mp e2
      subst q2
      rw [← fr_c u2 h] at eb
      cases z : fr (Sx.1 45) u v with
      | true =>
        rw [z] at ea eb
        subst ea eb
        exact ⟨_, _, (rz_fA_id _ 45).symm, (rz_fA_id _ 123).symm, h⟩
      | false =>
        rw [z] at ea eb
        subst ea eb
        refine ⟨_, _, rfl, rfl, fun k hk => ?_⟩
        show (rz_fA Sx 45 _).1 45 k = (rz_fA Sm 123 _).1 123 k ∧ byt ((rz_fA Sx 45 _).1 45 k)
        rw [rz_fA_s, rz_fA_s]
        exact gbR_c u2 (by omega) h k hk
