/-! a LIST's line is made: both sides -/
def mlX (c : Nat) (S S1 : rz_S) : Prop := (∀ q, ¬ (8 ≤ q ∧ q ≤ 12) → q ≠ 40 → q ≠ 45 → q ≠ 47 → q ≠ 49 + 4 * c → S1.1 q = S.1 q) ∧ ∀ u z, ¬ (13 ≤ u ∧ u ≤ 35 ∧ 3 ≤ z ∧ z ≤ 7) → ¬ (u = 6 ∧ (z = 1 ∨ z = 2)) → ¬ (u = 3 ∧ z ≤ 6) → u ≠ 46 → ¬ (u = 48 + 4 * c ∧ z ≠ 0) → S1.2 u z = S.2 u z
def mlM (c : Nat) (S S1 : rz_S) : Prop := (∀ q, ¬ (118 ≤ q ∧ q ≤ 121) → ¬ (123 ≤ q ∧ q ≤ 125) → ¬ (139 ≤ q ∧ q ≤ 143) → ¬ (145 ≤ q ∧ q ≤ 146) → q ≠ 148 → q ≠ 153 → S1.1 q = S.1 q) ∧ (∀ q, 139 ≤ q → q ≤ 146 → ∀ d, d ≠ c → S1.1 q d = S.1 q d) ∧ (∀ j, ¬ (64 * c ≤ j ∧ j < 64 * c + 64) → S1.1 148 j = S.1 148 j) ∧ ∀ u z, ¬ (u = 116 ∧ (2 ≤ z ∧ z ≤ 15 ∨ z = 20 ∨ z = 70)) → S1.2 u z = S.2 u z
theorem mlX_r (c : Nat) (S : rz_S) : mlX c S S := ⟨fun _ _ _ _ _ _ => rfl, fun _ _ _ _ _ _ _ => rfl⟩
theorem mlM_r (c : Nat) (S : rz_S) : mlM c S S := ⟨fun _ _ _ _ _ _ _ => rfl, fun _ _ _ _ _ => rfl, fun _ _ => rfl, fun _ _ _ => rfl⟩
theorem mlX_t {c : Nat} {S S1 S2 : rz_S} (h : mlX c S S1) (g : mlX c S1 S2) : mlX c S S2 := ⟨fun q a b d e f => (g.1 q a b d e f).trans (h.1 q a b d e f), fun u z a b d e f => (g.2 u z a b d e f).trans (h.2 u z a b d e f)⟩
theorem mlM_t {c : Nat} {S S1 S2 : rz_S} (h : mlM c S S1) (g : mlM c S1 S2) : mlM c S S2 := ⟨fun q a b d e f k => (g.1 q a b d e f k).trans (h.1 q a b d e f k), fun q a b d e => (g.2.1 q a b d e).trans (h.2.1 q a b d e), fun j a => (g.2.2.1 j a).trans (h.2.2.1 j a), fun u z a => (g.2.2.2 u z a).trans (h.2.2.2 u z a)⟩
theorem mlX_ch {c : Nat} {S S1 : rz_S} (h : chX S S1) : mlX c S S1 := ⟨fun q a b d _ _ => h.1 q a b d, fun u z a b d _ _ => h.2 u z a b d⟩
theorem mlX_fd {c : Nat} {S S1 : rz_S} (h : fdX S S1) : mlX c S S1 := ⟨fun q a _ _ e _ => h.1 q a e, fun u z a b d e _ => h.2 u z a b d e⟩
theorem mlX_ln {c : Nat} {S S1 : rz_S} (h : lnX c S S1) : mlX c S S1 := ⟨fun q _ _ _ _ f => h.1 q f, fun u z _ _ _ _ f => h.2 u z fun e => f ⟨e.1, by omega⟩⟩
theorem mlX_u {c k : Nat} {S : rz_S} {x : Int32} (hk : k ≠ 0) : mlX c S (rz_uI S (48 + 4 * c) k x) := ⟨fun _ _ _ _ _ _ => rfl, fun u z _ _ _ _ f => rz_uI_n fun e => f ⟨e.1, by omega⟩⟩
theorem mlX_v {c k : Nat} {S : rz_S} {x : Int32} : mlX c S (rz_uI S 46 k x) := ⟨fun _ _ _ _ _ _ => rfl, fun u z _ _ _ f _ => rz_uI_n fun e => f e.1⟩
theorem mlM_ch {c : Nat} {S S1 : rz_S} (h : chM S S1) : mlM c S S1 := ⟨fun q a b _ _ _ _ => h.1 q a (by omega) (by omega), fun q a b d _ => by rw [h.1 q (by omega) (by omega) (by omega)], fun j _ => by rw [h.1 148 (by omega) (by omega) (by omega)], fun u z a => h.2 u z (by omega)⟩
theorem mlM_nx {c : Nat} {S S1 : rz_S} (h : nxM c S S1) : mlM c S S1 := ⟨fun q a b d _ _ _ => h.1 q a (by omega) (by omega), fun q a b d e => by
  by_cases z : 140 ≤ q ∧ q ≤ 143
  · exact h.2.1 q z.1 z.2 d e
  · rw [h.1 q (by omega) (by omega) z], fun j _ => by rw [h.1 148 (by omega) (by omega) (by omega)], fun u z a => h.2.2 u z (by omega)⟩
theorem mlM_wb {c : Nat} {S S1 : rz_S} (h : wbM S S1) : mlM c S S1 := ⟨fun q _ _ _ _ _ a => h.1 q a, fun q a b d _ => by rw [h.1 q (by omega)], fun j _ => by rw [h.1 148 (by omega)], fun u z a => h.2 u z (by omega)⟩
theorem mlM_u {c k : Nat} {S : rz_S} {x : Int32} (hk : k = 70) : mlM c S (rz_uI S 116 k x) := ⟨fun _ _ _ _ _ _ _ => rfl, fun _ _ _ _ _ => rfl, fun _ _ => rfl, fun u z a => rz_uI_n (by omega)⟩
theorem mlM_g {c q : Nat} {S : rz_S} {f : Nat → Int32} (hq : 139 ≤ q ∧ q ≤ 143 ∨ 145 ≤ q ∧ q ≤ 146) (h : ∀ d, d ≠ c → f d = S.1 q d) : mlM c S (rz_fA S q f) := ⟨fun p a b d e f g => rz_fA_n (by omega), fun p a b d e => by
  by_cases z : p = q
  · subst z; rw [rz_fA_s]; exact h d e
  · rw [rz_fA_n z], fun j _ => by rw [rz_fA_n (by omega)], fun _ _ _ => rfl⟩
theorem mlM_l {c : Nat} {S : rz_S} {f : Nat → Int32} (h : ∀ j, ¬ (64 * c ≤ j ∧ j < 64 * c + 64) → f j = S.1 148 j) : mlM c S (rz_fA S 148 f) := ⟨fun p _ _ _ _ a _ => rz_fA_n a, fun p a b d e => by rw [rz_fA_n (by omega)], fun j a => by rw [rz_fA_s]; exact h j a, fun _ _ _ => rfl⟩
theorem FX_ml {c : Nat} {S S1 : rz_S} (h : mlX c S S1) : FX c S S1 := ⟨fun q a => h.1 q (by omega) (by omega) (by omega) (by omega) (by omega), fun d a b => ⟨h.1 _ (by omega) (by omega) (by omega) (by omega) (by omega), h.1 _ (by omega) (by omega) (by omega) (by omega) (by omega)⟩, fun u z a => h.2 u z (by omega) (by omega) (by omega) (by omega) (by omega), fun d a b z => ⟨h.2 _ z (by omega) (by omega) (by omega) (by omega) (by omega), h.2 _ z (by omega) (by omega) (by omega) (by omega) (by omega)⟩⟩
theorem FM_ml {c : Nat} {S S1 : rz_S} (h : mlM c S S1) : FM c S S1 := ⟨fun q a => h.1 q (by omega) (by omega) (by omega) (by omega) (by omega) (by omega), fun q a b e d f => by
  by_cases z : 139 ≤ q
  · exact h.2.1 q z b d f
  · rw [h.1 q (by omega) (by omega) (by omega) (by omega) (by omega) (by omega)], fun j a => ⟨by rw [h.1 127 (by omega) (by omega) (by omega) (by omega) (by omega) (by omega)], h.2.2.1 j a⟩, fun j a => by rw [h.1 147 (by omega) (by omega) (by omega) (by omega) (by omega) (by omega)], fun z a => h.2.2.2 116 z (by omega)⟩
/-- letters are bytes -/
def bl (l : List Int32) : Prop := ∀ x, x ∈ l → byt x
theorem bl_d {l : List Int32} (h : bl l) {j : Nat} (hj : j < l.length) : byt (l.getD j 0) := by
  rw [List.getD_eq_getElem?_getD, List.getElem?_eq_getElem hj]
  exact h _ (List.getElem_mem hj)
theorem bl_a {l m : List Int32} (h : bl l) (g : bl m) : bl (l ++ m) := fun x hx => by
  rcases List.mem_append.mp hx with q | q
  · exact h x q
  · exact g x q
theorem bl_c {x : Int32} {l : List Int32} (h : byt x) (g : bl l) : bl (x :: l) := fun y hy => by
  rcases List.mem_cons.mp hy with rfl | q
  · exact h
  · exact g y q
theorem bl_n : bl [] := fun x hx => by cases hx
theorem by_n {n : Nat} (h : n < 256) : byt (nI n) := ⟨n, h, rfl⟩
theorem bl_dgs (v : Nat) : ∀ j, bl (dgs v j)
  | 0 => bl_c (by_n (by omega)) bl_n
  | j + 1 => bl_c (by_n (by omega)) (bl_dgs v j)
theorem bl_tlr {F : Nat → Int32} (h : ∀ k, k < 64 → byt (F k)) : ∀ w i, w + i ≤ 10 → bl (tlr F w i)
  | 0, _, _ => bl_n
  | w + 1, i, hi => by
    rw [tlr]
    refine bl_c ?_ (bl_tlr h w (i + 1) (by omega))
    split
    · exact by_n (n := 32) (by omega)
    · exact h _ (by omega)
theorem bl_ttl {F : Nat → Int32} (h : ∀ k, k < 64 → byt (F k)) : bl (ttl F) := bl_a (bl_a (bl_c (by_n (n := 34) (by omega)) bl_n) (bl_tlr h 10 0 (by omega))) (bl_c (by_n (n := 34) (by omega)) (bl_c (by_n (n := 32) (by omega)) (bl_c (h 38 (by omega)) (bl_c (h 39 (by omega)) (bl_c (by_n (n := 13) (by omega)) bl_n)))))
theorem bl_nmr {F : Nat → Int32} {e : Nat} (he : e < 4) (h : ∀ k, k < 64 → byt (F k)) : ∀ w i, w + i ≤ 10 → bl (nmr F e w i)
  | 0, _, _ => bl_n
  | w + 1, i, hi => by
    rw [nmr]
    split
    · exact bl_n
    · exact bl_c (h _ (by omega)) (bl_nmr he h w (i + 1) (by omega))
theorem bl_etl {F : Nat → Int32} {e : Nat} (he : e < 4) (h : ∀ k, k < 64 → byt (F k)) : bl (etl F e) := by
  rw [etl, ety]
  refine bl_a (bl_a (bl_a (bl_dgs _ _) (bl_c (by_n (n := 32) (by omega)) (bl_c (by_n (n := 34) (by omega)) bl_n))) (bl_nmr he h 10 0 (by omega))) (bl_a (bl_a (bl_c (by_n (n := 34) (by omega)) (bl_c (by_n (n := 32) (by omega)) (bl_c ?_ bl_n))) ?_) (bl_c (by_n (n := 13) (by omega)) bl_n))
  · have : ∀ j, j < 4 → byt (([63, 83, 80, 85] : List Int32).getD j 0) := fun j hj => by
      have : j = 0 ∨ j = 1 ∨ j = 2 ∨ j = 3 := by omega
      rcases this with rfl | rfl | rfl | rfl
      · exact by_n (n := 63) (by omega)
      · exact by_n (n := 83) (by omega)
      · exact by_n (n := 80) (by omega)
      · exact by_n (n := 85) (by omega)
    exact this _ (by omega)
  · split
    · exact bl_c (by_n (n := 42) (by omega)) bl_n
    · exact bl_n
theorem bl_frl (v : Nat) : bl (frl v) := bl_a (bl_dgs _ _) (bl_c (by_n (n := 32) (by omega)) (bl_c (by_n (n := 70) (by omega)) (bl_c (by_n (n := 82) (by omega)) (bl_c (by_n (n := 69) (by omega)) (bl_c (by_n (n := 69) (by omega)) (bl_c (by_n (n := 13) (by omega)) bl_n))))))
/-- the line is copied to its channel -/
theorem lc_copy {c n L : Nat} (hc : c < 15) (hL : L ≤ 40) : ∀ (w j : Nat) (S : rz_S), w + j = L → S.2 116 70 = nI L → ∃ f : Nat → Int32, (∀ i, j ≤ i → i < L → f (64 * c + i) = S.1 153 i) ∧ (∀ i, ¬ (64 * c + j ≤ i ∧ i < 64 * c + L) → f i = S.1 148 i) ∧ ∀ Q : Int32 → rz_S → Prop, rz mM_readsList 2 [(0, .ref 116), (1, .int (nI c)), (2, .int (nI n)), (3, .int 1)] [] (rz_fA (rz_fA (rz_fA S 148 f) 145 (upd (S.1 145) c (nI L))) 146 (upd (S.1 146) c 0)) (rz_i Q) → rz mM_readsList 160 [(0, .ref 116), (1, .int (nI c)), (2, .int (nI n)), (3, .int 1), (5, .int (nI j))] [] S (rz_i Q) := by
  have ecl : (nI c).toNatClampNeg = c := nI_clamp (by omega)
  have e64 : (64 * nI c : Int32) = nI (64 * c) := pk_mul 64 c
  intro w
  induction w with
  | zero =>
    intro j S hj h70
    have ej : j = L := by omega
    subst ej
    refine ⟨S.1 148, fun i a b => by omega, fun i _ => rfl, fun Q h => p_M_readsList_160 ⟨fun _ => ⟨rin hc (by omega), ?_⟩, fun d => absurd (by rw [h70]; exact nI_le (a := j) (b := j) (by omega) (by omega)) d⟩⟩
    rw [rz_fA_self] at h
    have e146 : (rz_fA S 145 (upd (S.1 145) c (nI j))).1 146 = S.1 146 := by simp (disch := omega) only [uI1, fA2, rz_fA_n, rz_uI_n, rz_fA_s, rz_uI_s, pk_us]
    rw [ecl, h70]
    exact h
  | succ w ih =>
    intro j S hj h70
    obtain ⟨f, f1, f2, f3⟩ := ih (j + 1) (rz_fA S 148 (upd (S.1 148) (64 * c + j) (S.1 153 j))) (by omega) h70
    have g153 : (rz_fA S 148 (upd (S.1 148) (64 * c + j) (S.1 153 j))).1 153 = S.1 153 := by simp (disch := omega) only [uI1, fA2, rz_fA_n, rz_uI_n, rz_fA_s, rz_uI_s, pk_us]
    have g148 : (rz_fA S 148 (upd (S.1 148) (64 * c + j) (S.1 153 j))).1 148 = upd (S.1 148) (64 * c + j) (S.1 153 j) := by simp (disch := omega) only [uI1, fA2, rz_fA_n, rz_uI_n, rz_fA_s, rz_uI_s, pk_us]
    have g145 : (rz_fA S 148 (upd (S.1 148) (64 * c + j) (S.1 153 j))).1 145 = S.1 145 := by simp (disch := omega) only [uI1, fA2, rz_fA_n, rz_uI_n, rz_fA_s, rz_uI_s, pk_us]
    have g146 : (rz_fA S 148 (upd (S.1 148) (64 * c + j) (S.1 153 j))).1 146 = S.1 146 := by simp (disch := omega) only [uI1, fA2, rz_fA_n, rz_uI_n, rz_fA_s, rz_uI_s, pk_us]
    rw [g153] at f1
    rw [g148] at f2
    rw [g145, g146, rz_fAA] at f3
    refine ⟨f, fun i a b => ?_, fun i a => ?_, fun Q h => p_M_readsList_160 ⟨fun d => ?_, fun _ => ?_⟩⟩
    · by_cases z : i = j
      · subst z
        rw [f2 _ (by omega), pk_us]
      · exact f1 i (by omega) b
    · rw [f2 i (by omega), pk_un (by omega)]
    · rw [h70] at d
      have := (nI_leI (a := L) (b := j) (by omega) (by omega)).mp d
      omega
    · rw [e64, nI_add, nI_clamp (by omega), nI_clamp (by omega), nI_1]
      exact ⟨rin (by omega) (by omega), rin (by omega) (by omega), f3 Q h⟩
theorem c_rewind {S : rz_S} : rz_ev mDirectory_rewind [.ref 46] S (rz_v (fun S1 => S1 = rz_uI (rz_uI (rz_uI (rz_uI (rz_uI S 46 1 7) 46 2 1) 46 3 1) 46 4 (-1)) 46 6 0)) := by
  show rz _ 0 [(0, .ref 46)] [] _ _
  exact p_Directory_rewind_0 (rz_toV (c_goTo _ _ _ _) rfl)
theorem c_keepEntry {S : rz_S} {c : Nat} (hc : c < 15) : rz_ev mChannel_keepEntry [.ref (48 + 4 * c), .ref 46] S (rz_v (fun S1 => S1 = rz_uI (rz_uI (rz_uI (rz_uI S (48 + 4 * c) 10 (S.2 46 1)) (48 + 4 * c) 11 (S.2 46 2)) (48 + 4 * c) 12 (S.2 46 3)) (48 + 4 * c) 13 (S.2 46 4))) := by
  show rz _ 0 [(0, .ref (48 + 4 * c)), (1, .ref 46)] [] _ _
  exact p_Channel_keepEntry_0 ⟨by omega, by omega, by omega⟩ rfl
/-- a line is made, both have it -/
theorem ml_ok {Sx Sm V W V1 W2 : rz_S} {c i n : Nat} {pr : Bool} {l : List Int32} (hc : c < 15) (hI : rcI c i pr Sx Sm V W) (m1 : V.2 (48 + 4 * c) 0 = 3) (m2 : W.1 126 c = 3) (hL : ChL c V W) (gx : mlX c V V1) (gm : mlM c W W2) (hD : ∃ B id, Dk B pr id V1 W2) (h3 : ∀ z, V1.2 3 z = V.2 3 z) (h2 : V1.2 (48 + 4 * c) 2 = 0) (lb : LB c V1 l) (wb : WB W2 l) (hl : 1 ≤ l.length ∧ l.length ≤ 40) (hb : bl l)
    (hst : (V1.2 (48 + 4 * c) 15 = 1 ∧ V1.2 (48 + 4 * c) 4 = 0 ∧ W2.1 139 c = 1 ∧ ∃ t s b e : Nat, 1 ≤ t ∧ t ≤ 12 ∧ s < sct t ∧ 1 ≤ b ∧ b ≤ 6 ∧ e ≤ 4 ∧ V1.2 (48 + 4 * c) 10 = nI t ∧ V1.2 (48 + 4 * c) 11 = nI s ∧ V1.2 (48 + 4 * c) 12 = nI b ∧ V1.2 (48 + 4 * c) 13 = nI e - 1 ∧ W2.1 140 c = nI t ∧ W2.1 141 c = nI s ∧ W2.1 142 c = nI b ∧ W2.1 143 c = nI e) ∨ (V1.2 (48 + 4 * c) 4 = 1 ∧ W2.1 139 c = 3)) :
    ∃ W1, (∀ Q : Int32 → rz_S → Prop, rz mM_readsList 2 [(0, .ref 116), (1, .int (nI c)), (2, .int (nI n)), (3, .int 1)] [] W1 (rz_i Q) → rz mM_readsList 140 [(0, .ref 116), (1, .int (nI c)), (2, .int (nI n)), (3, .int 1)] [.int 0] W2 (rz_i Q)) ∧ rcI c i pr Sx Sm V1 W1 ∧ V1.2 (48 + 4 * c) 0 = 3 ∧ W1.1 126 c = 3 ∧ ChL c V1 W1 ∧ V1.2 (48 + 4 * c) 2 < V1.2 (48 + 4 * c) 3 := by
  obtain ⟨f, f1, f2, f3⟩ := lc_copy (n := n) hc hl.2 l.length 0 W2 (by omega) wb.1
  generalize hW1 : rz_fA (rz_fA (rz_fA W2 148 f) 145 (upd (W2.1 145) c (nI l.length))) 146 (upd (W2.1 146) c 0) = W1 at f3
  have gW : mlM c W2 W1 := by
    rw [← hW1]
    exact mlM_t (mlM_l (fun j a => f2 j (by omega))) (mlM_t (mlM_g (q := 145) (by omega) (fun d hd => by simp (disch := omega) only [uI1, fA2, rz_fA_n, rz_uI_n, rz_fA_s, rz_uI_s, pk_us, pk_un])) (mlM_g (q := 146) (by omega) (fun d hd => by simp (disch := omega) only [uI1, fA2, rz_fA_n, rz_uI_n, rz_fA_s, rz_uI_s, pk_us, pk_un])))
  have gM := mlM_t gm gW
  have wq : ∀ q, q ≠ 145 → q ≠ 146 → q ≠ 148 → W1.1 q = W2.1 q := fun q a b d => by rw [← hW1]; simp (disch := omega) only [uI1, fA2, rz_fA_n, rz_uI_n, rz_fA_s, rz_uI_s, pk_us]
  have w145 : W1.1 145 c = nI l.length := by rw [← hW1]; simp (disch := omega) only [uI1, fA2, rz_fA_n, rz_uI_n, rz_fA_s, rz_uI_s, pk_us]
  have w146 : W1.1 146 c = 0 := by rw [← hW1]; simp (disch := omega) only [uI1, fA2, rz_fA_n, rz_uI_n, rz_fA_s, rz_uI_s, pk_us]
  have w148 : W1.1 148 = f := by rw [← hW1]; simp (disch := omega) only [uI1, fA2, rz_fA_n, rz_uI_n, rz_fA_s, rz_uI_s, pk_us]
  have w2 : W1.2 = W2.2 := by rw [← hW1]; rfl
  obtain ⟨a1, a2, _, a4, a5, a6, a7, a8, a9⟩ := hI
  obtain ⟨B, id, d⟩ := hD
  obtain ⟨⟨pn, p1, p2, p3, p4, p5⟩, _, _⟩ := hL
  refine ⟨W1, fun Q h => p_M_readsList_140 ⟨fun _ => f3 Q h, fun d => absurd rfl d⟩, ⟨FX_t a1 (FX_ml gx), FM_t a2 (FM_ml gM), ⟨B, id, Dk_m d (fun q x y => wq q (by omega) (by omega) (by omega)) (fun z _ => by rw [w2])⟩, fun z => (h3 z).trans (a4 z), fun z x y => (gM.2.2.2 116 z (by omega)).trans (a5 z x y), (gx.2 39 6 (by omega) (by omega) (by omega) (by omega) (by omega)).trans a6, (gM.2.2.2 116 68 (by omega)).trans a7, (gM.2.2.2 116 67 (by omega)).trans a8, fun j hj => ?_⟩, ?_, ?_, ⟨⟨pn, p1, p2, ?_, ?_, fun j hj => ?_⟩, ⟨0, l.length, by omega, hl.2, h2, w146, lb.1, w145, fun j hj => ⟨?_, ?_⟩⟩, ?_⟩, ?_⟩
  · rw [gx.1 115 (by omega) (by omega) (by omega) (by omega) (by omega), gM.1 152 (by omega) (by omega) (by omega) (by omega) (by omega) (by omega)]
    exact a9 j hj
  · exact (gx.2 _ 0 (by omega) (by omega) (by omega) (by omega) (by omega)).trans m1
  · rw [gM.1 126 (by omega) (by omega) (by omega) (by omega) (by omega) (by omega)]; exact m2
  · exact (gx.2 _ 1 (by omega) (by omega) (by omega) (by omega) (by omega)).trans p3
  · rw [gM.1 144 (by omega) (by omega) (by omega) (by omega) (by omega) (by omega)]; exact p4
  · rw [gx.1 _ (by omega) (by omega) (by omega) (by omega) (by omega), gM.1 147 (by omega) (by omega) (by omega) (by omega) (by omega) (by omega)]
    exact p5 j hj
  · rw [w148, f1 j (by omega) hj, wb.2 j hj, lb.2 j hj]
  · rw [lb.2 j hj]; exact bl_d hb hj
  · rw [wq 139 (by omega) (by omega) (by omega), wq 140 (by omega) (by omega) (by omega), wq 141 (by omega) (by omega) (by omega), wq 142 (by omega) (by omega) (by omega), wq 143 (by omega) (by omega) (by omega)]
    exact Or.inr hst
  · rw [h2, lb.1]
    exact nI_lt (a := 0) (by omega) (by omega)
/-- a fault: the channel is shut -/
theorem ml_no {Sx Sm V W V1 W2 : rz_S} {c i M n : Nat} {pr : Bool} {x : Int32} (hc : c < 15) (hi : i ≤ 300) (hx : ¬ x = 0) (hI : rcI c i pr Sx Sm V W) (gx : mlX c V V1) (gm : mlM c W W2) (hD : ∃ B id, Dk B pr id V1 W2) (ha : ans V x V1 W2) :
    ∃ W1, (∀ Q : Int32 → rz_S → Prop, Q x W1 → rz mM_readsList 140 [(0, .ref 116), (1, .int (nI c)), (2, .int (nI n)), (3, .int 1)] [.int x] W2 (rz_i Q)) ∧ rcE c M pr Sx Sm (nI i) (rz_uI V1 (48 + 4 * c) 0 0) x W1 := by
  have ecl : (nI c).toNatClampNeg = c := nI_clamp (by omega)
  obtain ⟨a1, a2, _, a4, a5, a6, a7, a8, a9⟩ := hI
  obtain ⟨B, id, d⟩ := hD
  have g39 : V1.2 39 6 = V.2 39 6 := gx.2 39 6 (by omega) (by omega) (by omega) (by omega) (by omega)
  refine ⟨rz_fA W2 126 (upd (W2.1 126) c 0), fun Q h => p_M_readsList_140 ⟨fun d => absurd d hx, fun _ => ?_⟩, i, hi, rfl, FX_t a1 (FX_t (FX_ml gx) FX_u), FM_t a2 (FM_t (FM_ml gm) (FM_a (by omega))), ⟨B, id, Dk_mf (Dk_xu d (by omega)) (by omega)⟩, ans_f (ans_u (k := 48 + 4 * c) (by omega) (ans_t a4 ha)) (fun _ => rfl) (fun _ => rfl), fun z b e => ?_, ?_, fun j hj => ?_, ?_, ?_, ?_, Or.inl ?_⟩
  · rw [ecl]
    exact ⟨rin hc (by omega), h⟩
  · exact (gm.2.2.2 116 z (by omega)).trans (a5 z b e)
  · exact (gm.2.2.2 116 67 (by omega)).trans a8
  · simp (disch := omega) only [uI1, fA2, rz_fA_n, rz_uI_n, rz_fA_s, rz_uI_s, pk_us]
    rw [gx.1 115 (by omega) (by omega) (by omega) (by omega) (by omega), gm.1 152 (by omega) (by omega) (by omega) (by omega) (by omega) (by omega)]
    exact a9 j hj
  · simp (disch := omega) only [uI1, fA2, rz_fA_n, rz_uI_n, rz_fA_s, rz_uI_s, pk_us]; rw [g39, a6, gm.2.2.2 116 68 (by omega), a7]
  · refine Or.inl ?_
    simp (disch := omega) only [uI1, fA2, rz_fA_n, rz_uI_n, rz_fA_s, rz_uI_s, pk_us]; rw [g39, a6]
  · simp (disch := omega) only [uI1, fA2, rz_fA_n, rz_uI_n, rz_fA_s, rz_uI_s, pk_us]
  · simp (disch := omega) only [uI1, fA2, rz_fA_n, rz_uI_n, rz_fA_s, rz_uI_s, pk_us]
