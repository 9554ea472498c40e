/-! the second processor: its words, its flags, its memory; the leaves of both sides -/
theorem rz_uIU {S : rz_S} {k j : Nat} {x y : Int32} : rz_uI (rz_uI S k j x) k j y = rz_uI S k j y := by
  unfold rz_uI
  congr 1
  funext q z
  by_cases h : q = k ∧ z = j
  · simp only [if_pos h]
  · simp only [if_neg h]
def z6w (l h : Int32) : Int32 := l ||| (h <<< ((8 : Int32) &&& 31))
def z6n (pc : Int32) : Int32 := (pc + 1) &&& 2047
def z6c (c : Prop) [Decidable c] : Int32 := if c then 1 else 0
def z6f (p b s : Int32) : Int32 := if s = 0 then p &&& (b ^^^ (-1)) else p ||| b
def z6k (p v : Int32) : Int32 := z6f (z6f p 2 (z6c (v &&& 255 = 0))) 128 (z6c (¬ v &&& 128 = 0))
def z6l (b i : Int32) : Int32 := if (b &&& 255) + i ≤ 255 then 0 else 1
def z6s (G : Int32 → Int32) (a v : Int32) : Int32 → Int32 := fun b => if (b &&& 2047).toNatClampNeg = (a &&& 2047).toNatClampNeg then v &&& 255 else G b
theorem z6_p {c : Prop} [Decidable c] (h : c) : z6c c = 1 := if_pos h
theorem z6_n {c : Prop} [Decidable c] (h : ¬ c) : z6c c = 0 := if_neg h
theorem z6_i (a : Int32) : rx_in (a &&& 2047) 2048 = true ∧ (a &&& 2047).toNatClampNeg < 2048 := by
  obtain ⟨j, hj, e⟩ := pk_andE a (m := 2047) 11 (by decide)
  rw [e, nI_clamp (by omega)]
  exact ⟨rin hj (by omega), hj⟩
theorem z6_i8 (a : Int32) : rx_in (a &&& 255) 2048 = true := by
  obtain ⟨j, hj, e⟩ := pk_andE a (m := 255) 8 (by decide)
  rw [e]
  exact rin (by omega) (by omega)
theorem z6_a8 (a : Int32) : (a &&& 255) &&& 2047 = a &&& 255 := by
  rw [Int32.and_assoc]
  exact congrArg (fun z => a &&& z) (by decide)
/-- the class's words and memory; the reference's -/
def z6X (S : rz_S) (r : Nat → Int32) (G : Int32 → Int32) : Prop := (∀ z, z ≤ 6 → S.2 37 z = r z) ∧ ∀ a, S.1 38 ((a &&& 2047).toNatClampNeg) = G a
def z6M (S : rz_S) (r : Nat → Int32) (G : Int32 → Int32) : Prop := (∀ z, z ≤ 6 → S.2 116 (75 + z) = r z) ∧ ∀ a, S.1 155 ((a &&& 2047).toNatClampNeg) &&& 255 = G a
def z6fX (S S1 : rz_S) : Prop := (∀ q, q ≠ 38 → S1.1 q = S.1 q) ∧ ∀ u z, u ≠ 37 → S1.2 u z = S.2 u z
def z6fM (S S1 : rz_S) : Prop := (∀ q, q ≠ 155 → S1.1 q = S.1 q) ∧ ∀ u z, ¬ (u = 116 ∧ 75 ≤ z ∧ z ≤ 83) → S1.2 u z = S.2 u z
theorem z6fX_r (S : rz_S) : z6fX S S := ⟨fun _ _ => rfl, fun _ _ _ => rfl⟩
theorem z6fM_r (S : rz_S) : z6fM S S := ⟨fun _ _ => rfl, fun _ _ _ => rfl⟩
theorem z6fX_t {S S1 S2 : rz_S} (h : z6fX S S1) (g : z6fX S1 S2) : z6fX S S2 := ⟨fun q a => (g.1 q a).trans (h.1 q a), fun u z a => (g.2 u z a).trans (h.2 u z a)⟩
theorem z6fM_t {S S1 S2 : rz_S} (h : z6fM S S1) (g : z6fM S1 S2) : z6fM S S2 := ⟨fun q a => (g.1 q a).trans (h.1 q a), fun u z a => (g.2 u z a).trans (h.2 u z a)⟩
theorem z6fX_u {S S0 : rz_S} {k : Nat} {v : Int32} (h : z6fX S0 S) : z6fX S0 (rz_uI S 37 k v) := ⟨h.1, fun u z a => (rz_uI_n (by omega)).trans (h.2 u z a)⟩
theorem z6fM_u {S S0 : rz_S} {k : Nat} {v : Int32} (h : z6fM S0 S) (hk : 75 ≤ k ∧ k ≤ 83) : z6fM S0 (rz_uI S 116 k v) := ⟨h.1, fun u z a => (rz_uI_n (by omega)).trans (h.2 u z a)⟩
theorem z6fX_m {S S0 : rz_S} {f : Nat → Int32} (h : z6fX S0 S) : z6fX S0 (rz_fA S 38 f) := ⟨fun q a => (rz_fA_n a).trans (h.1 q a), h.2⟩
theorem z6fM_m {S S0 : rz_S} {f : Nat → Int32} (h : z6fM S0 S) : z6fM S0 (rz_fA S 155 f) := ⟨fun q a => (rz_fA_n a).trans (h.1 q a), h.2⟩
section CPU
variable {S : rz_S} {r r' : Nat → Int32} {G : Int32 → Int32}
theorem z6X_e (h : z6X S r G) (e : ∀ z, z ≤ 6 → r z = r' z) : z6X S r' G := ⟨fun z hz => (h.1 z hz).trans (e z hz), h.2⟩
theorem z6M_e (h : z6M S r G) (e : ∀ z, z ≤ 6 → r z = r' z) : z6M S r' G := ⟨fun z hz => (h.1 z hz).trans (e z hz), h.2⟩
theorem z6X_u {k : Nat} {v : Int32} (h : z6X S r G) : z6X (rz_uI S 37 k v) (upd r k v) G := ⟨fun z hz => by
  by_cases e : z = k
  · subst e; rw [rz_uI_s, pk_us]
  · rw [rz_uI_n (by omega), pk_un e]; exact h.1 z hz, h.2⟩
theorem z6X_o {k : Nat} {v : Int32} (h : z6X S r G) (hk : 7 ≤ k) : z6X (rz_uI S 37 k v) r G := ⟨fun z hz => by rw [rz_uI_n (by omega)]; exact h.1 z hz, h.2⟩
theorem z6M_u {k : Nat} {v : Int32} (h : z6M S r G) : z6M (rz_uI S 116 (75 + k) v) (upd r k v) G := ⟨fun z hz => by
  by_cases e : z = k
  · subst e; rw [rz_uI_s, pk_us]
  · rw [rz_uI_n (by omega), pk_un e]; exact h.1 z hz, h.2⟩
theorem z6M_o {k : Nat} {v : Int32} (h : z6M S r G) (hk : k < 75 ∨ 82 ≤ k) : z6M (rz_uI S 116 k v) r G := ⟨fun z hz => by rw [rz_uI_n (by omega)]; exact h.1 z hz, h.2⟩
theorem z6X_s {a v : Int32} (h : z6X S r G) : z6X (rz_fA S 38 (upd (S.1 38) ((a &&& 2047).toNatClampNeg) (v &&& 255))) r (z6s G a v) := ⟨h.1, fun b => by
  rw [rz_fA_s]
  unfold upd z6s
  rw [h.2 b]⟩
theorem z6M_s {a v : Int32} (h : z6M S r G) : z6M (rz_fA S 155 (upd (S.1 155) ((a &&& 2047).toNatClampNeg) (vp_nar .byte v.toInt8.toInt32))) r (z6s G a v) := ⟨h.1, fun b => by
  rw [rz_fA_s]
  unfold upd z6s
  by_cases e : (b &&& 2047).toNatClampNeg = (a &&& 2047).toNatClampNeg
  · simp only [if_pos e]; exact fd_nar v
  · simp only [if_neg e]; exact h.2 b⟩
/-! leaves of the class -/
theorem c6_get (h : z6X S r G) (a : Int32) : rz_ev mProcessor_get [.ref 37, .int a] S (rz_i (fun x S1 => x = G a ∧ S1 = S)) := by
  show rz _ 0 [(0, .ref 37), (1, .int a)] [] _ _
  exact p_Processor_get_0 ⟨(z6_i a).1, h.2 a, rfl⟩
theorem c6_set (a v : Int32) : rz_ev mProcessor_set [.ref 37, .int a, .int v] S (rz_v (fun S1 => S1 = rz_fA S 38 (upd (S.1 38) ((a &&& 2047).toNatClampNeg) (v &&& 255)))) := by
  show rz _ 0 [(0, .ref 37), (1, .int a), (2, .int v)] [] _ _
  exact p_Processor_set_0 ⟨(z6_i a).1, rfl⟩
theorem c6_fetch (h : z6X S r G) : rz_ev mProcessor_fetch [.ref 37] S (rz_i (fun x S1 => x = G (r 5) ∧ S1 = rz_uI S 37 5 (z6n (r 5)))) := by
  show rz _ 0 [(0, .ref 37)] [] _ _
  refine p_Processor_fetch_0 ?_
  rw [h.1 5 (by omega)]
  exact ⟨(z6_i _).1, h.2 _, rfl⟩
theorem c6_fetchTwo (h : z6X S r G) : rz_ev mProcessor_fetchTwo [.ref 37] S (rz_i (fun x S1 => x = z6w (G (r 5)) (G (z6n (r 5))) ∧ S1 = rz_uI S 37 5 (z6n (z6n (r 5))))) := by
  show rz _ 0 [(0, .ref 37)] [] _ _
  exact p_Processor_fetchTwo_0 (rz_toI (c6_fetch h) (rz_toI (c6_fetch (z6X_u h)) ⟨rfl, rz_uIU⟩))
theorem c6_pair (h : z6X S r G) (a : Int32) : rz_ev mProcessor_pair [.ref 37, .int a] S (rz_i (fun x S1 => x = z6w (G (a &&& 255)) (G ((a + 1) &&& 255)) ∧ S1 = S)) := by
  show rz _ 0 [(0, .ref 37), (1, .int a)] [] _ _
  refine p_Processor_pair_0 ⟨z6_i8 _, z6_i8 _, ?_, rfl⟩
  have e1 := h.2 (a &&& 255)
  have e2 := h.2 ((a + 1) &&& 255)
  rw [z6_a8] at e1 e2
  rw [e1, e2]
  rfl
theorem c6_indexed (b i : Int32) : rz_ev mProcessor_indexed [.ref 37, .int b, .int i] S (rz_v (fun S1 => S1 = rz_uI (rz_uI S 37 8 (b + i)) 37 9 (z6l b i))) := by
  show rz _ 0 [(0, .ref 37), (1, .int b), (2, .int i)] [] _ _
  refine p_Processor_indexed_0 ⟨fun c => ?_, fun c => ?_⟩
  · rw [z6l, if_pos c]
  · rw [z6l, if_neg c]
theorem c6_flag (b s : Int32) : rz_ev mProcessor_flag [.ref 37, .int b, .int s] S (rz_v (fun S1 => S1 = rz_uI S 37 4 (z6f (S.2 37 4) b s))) := by
  show rz _ 0 [(0, .ref 37), (1, .int b), (2, .int s)] [] _ _
  refine p_Processor_flag_0 ⟨fun c => ?_, fun c => ?_⟩
  · rw [z6f, if_pos c]
  · rw [z6f, if_neg c]
theorem c6_has (b : Int32) : rz_ev mProcessor_has [.ref 37, .int b] S (rz_i (fun x S1 => x = z6c (¬ S.2 37 4 &&& b = 0) ∧ S1 = S)) := by
  show rz _ 0 [(0, .ref 37), (1, .int b)] [] _ _
  exact p_Processor_has_0 ⟨fun c => ⟨(z6_n (fun z => z c)).symm, rfl⟩, fun c => ⟨(z6_p c).symm, rfl⟩⟩
theorem c6_push (v : Int32) (hs : byt (S.2 37 3)) : rz_ev mProcessor_push [.ref 37, .int v] S (rz_v (fun S1 => S1 = rz_uI (rz_fA S 38 (upd (S.1 38) (((256 + S.2 37 3) &&& 2047).toNatClampNeg) (v &&& 255))) 37 3 ((S.2 37 3 - 1) &&& 255))) := by
  show rz _ 0 [(0, .ref 37), (1, .int v)] [] _ _
  obtain ⟨n, hn, e⟩ := hs
  refine p_Processor_push_0 ?_
  rw [e]
  have e1 : 256 + (nI n &&& 255) = nI (256 + n) := by rw [pk_andN (by omega) 8 (by decide), Nat.mod_eq_of_lt (by omega)]; exact nI_add 256 n
  have e2 : (256 + nI n) &&& 2047 = nI (256 + n) := by rw [show (256 : Int32) + nI n = nI (256 + n) from nI_add 256 n, pk_andN (by omega) 11 (by decide), Nat.mod_eq_of_lt (by omega)]
  rw [e1, e2]
  exact ⟨rin (by omega) (by omega), rfl⟩
theorem c6_pull (h : z6X S r G) : rz_ev mProcessor_pull [.ref 37] S (rz_i (fun x S1 => x = G (256 + ((r 3 + 1) &&& 255)) ∧ S1 = rz_uI S 37 3 ((r 3 + 1) &&& 255))) := by
  show rz _ 0 [(0, .ref 37)] [] _ _
  refine p_Processor_pull_0 ?_
  rw [h.1 3 (by omega)]
  obtain ⟨j, hj, e⟩ := pk_andE (r 3 + 1) (m := 255) 8 (by decide)
  rw [e]
  have e1 : 256 + (nI j &&& 255) = nI (256 + j) := by rw [pk_andN (by omega) 8 (by decide), Nat.mod_eq_of_lt (by omega)]; exact nI_add 256 j
  have e2 : (nI (256 + j)) &&& 2047 = nI (256 + j) := by rw [pk_andN (by omega) 11 (by decide), Nat.mod_eq_of_lt (by omega)]
  rw [e1]
  have e3 := h.2 (nI (256 + j))
  rw [e2] at e3
  exact ⟨rin (by omega) (by omega), e3.trans (congrArg G (nI_add 256 j).symm), rfl⟩
theorem c6_pullTwo (h : z6X S r G) : rz_ev mProcessor_pullTwo [.ref 37] S (rz_i (fun x S1 => x = z6w (G (256 + ((r 3 + 1) &&& 255))) (G (256 + ((((r 3 + 1) &&& 255) + 1) &&& 255))) ∧ S1 = rz_uI S 37 3 ((((r 3 + 1) &&& 255) + 1) &&& 255))) := by
  show rz _ 0 [(0, .ref 37)] [] _ _
  exact p_Processor_pullTwo_0 (rz_toI (c6_pull h) (rz_toI (c6_pull (z6X_u h)) ⟨rfl, rz_uIU⟩))
/-! leaves of the reference -/
theorem d6_get (h : z6M S r G) (a : Int32) : rz_ev mM_get [.ref 116, .int a] S (rz_i (fun x S1 => x = G a ∧ S1 = S)) := by
  show rz _ 0 [(0, .ref 116), (1, .int a)] [] _ _
  exact p_M_get_0 ⟨(z6_i a).1, h.2 a, rfl⟩
theorem d6_put (a v : Int32) : rz_ev mM_put [.ref 116, .int a, .int v] S (rz_v (fun S1 => S1 = rz_fA S 155 (upd (S.1 155) ((a &&& 2047).toNatClampNeg) (vp_nar .byte v.toInt8.toInt32)))) := by
  show rz _ 0 [(0, .ref 116), (1, .int a), (2, .int v)] [] _ _
  exact p_M_put_0 ⟨(z6_i a).1, rfl⟩
theorem d6_byteNext (h : z6M S r G) : rz_ev mM_byteNext [.ref 116] S (rz_i (fun x S1 => x = G (r 5) ∧ S1 = rz_uI S 116 80 (z6n (r 5)))) := by
  show rz _ 0 [(0, .ref 116)] [] _ _
  refine p_M_byteNext_0 ?_
  have e : S.2 116 80 = r 5 := h.1 5 (by omega)
  rw [e]
  refine rz_toI (d6_get h _) ⟨rfl, ?_⟩
  rw [e]
  rfl
theorem d6_wordNext (h : z6M S r G) : rz_ev mM_wordNext [.ref 116] S (rz_i (fun x S1 => x = z6w (G (r 5)) (G (z6n (r 5))) ∧ S1 = rz_uI S 116 80 (z6n (z6n (r 5))))) := by
  show rz _ 0 [(0, .ref 116)] [] _ _
  exact p_M_wordNext_0 (rz_toI (d6_byteNext h) (rz_toI (d6_byteNext (z6M_u (k := 5) h)) ⟨rfl, rz_uIU⟩))
theorem d6_is (b : Int32) : rz_ev mM_is [.ref 116, .int b] S (rz_i (fun x S1 => x = z6c (¬ S.2 116 79 &&& b = 0) ∧ S1 = S)) := by
  show rz _ 0 [(0, .ref 116), (1, .int b)] [] _ _
  exact p_M_is_0 ⟨fun c => ⟨(z6_n (fun z => z c)).symm, rfl⟩, fun c => ⟨(z6_p c).symm, rfl⟩⟩
theorem d6_flag (b s : Int32) : rz_ev mM_flag [.ref 116, .int b, .int s] S (rz_v (fun S1 => S1 = rz_uI S 116 79 (z6f (S.2 116 79) b s))) := by
  show rz _ 0 [(0, .ref 116), (1, .int b), (2, .int s)] [] _ _
  refine p_M_flag_0 ⟨fun c => ?_, fun c => ?_⟩
  · rw [z6f, if_pos c]
  · rw [z6f, if_neg c]
theorem d6_takes2 (n : Int32) : rz_ev mM_takes2 [.ref 116, .int n] S (rz_i (fun x S1 => x = 1 ∧ S1 = rz_uI S 116 81 (S.2 116 81 + n))) := by
  show rz _ 0 [(0, .ref 116), (1, .int n)] [] _ _
  exact p_M_takes2_0 ⟨rfl, rfl⟩
theorem d6_push (v : Int32) : rz_ev mM_push [.ref 116, .int v] S (rz_v (fun S1 => S1 = rz_uI (rz_fA S 155 (upd (S.1 155) (((256 + S.2 116 78) &&& 2047).toNatClampNeg) (vp_nar .byte v.toInt8.toInt32))) 116 78 ((S.2 116 78 - 1) &&& 255))) := by
  show rz _ 0 [(0, .ref 116), (1, .int v)] [] _ _
  exact p_M_push_0 (rz_toV (d6_put _ _) rfl)
theorem d6_pull (h : z6M S r G) : rz_ev mM_pull [.ref 116] S (rz_i (fun x S1 => x = G (256 + ((r 3 + 1) &&& 255)) ∧ S1 = rz_uI S 116 78 ((r 3 + 1) &&& 255))) := by
  show rz _ 0 [(0, .ref 116)] [] _ _
  refine p_M_pull_0 ?_
  have e : S.2 116 78 = r 3 := h.1 3 (by omega)
  rw [e]
  exact rz_toI (d6_get (z6M_u (k := 3) h) _) ⟨rfl, rfl⟩
theorem t6_marks35 {K : Int32 → rz_S → Prop} {v s0 s1 : Int32} (w : K (v &&& 255) (rz_uI S 116 79 (z6f (S.2 116 79) s1 s0))) : rz mM_marks 35 [(1, .int v)] [.int s0, .int s1, .ref 116] S (rz_i K) := p_M_marks_35 (rz_toV (d6_flag _ _) w)
theorem t6_marks15 {K : Int32 → rz_S → Prop} {v s0 s1 : Int32} (w : K (v &&& 255) (rz_uI S 116 79 (z6f (z6f (S.2 116 79) s1 s0) 128 (z6c (¬ v &&& 128 = 0))))) : rz mM_marks 15 [(0, .ref 116), (1, .int v)] [.int s0, .int s1, .ref 116] S (rz_i K) := by
  refine p_M_marks_15 (rz_toV (d6_flag _ _) ⟨fun c => t6_marks35 ?_, fun c => t6_marks35 ?_⟩)
  · rw [rz_uIU, rz_uI_s]; rw [z6_n (fun z => z c)] at w; exact w
  · rw [rz_uIU, rz_uI_s]; rw [z6_p c] at w; exact w
theorem d6_marks (v : Int32) : rz_ev mM_marks [.ref 116, .int v] S (rz_i (fun x S1 => x = v &&& 255 ∧ S1 = rz_uI S 116 79 (z6k (S.2 116 79) v))) := by
  show rz _ 0 [(0, .ref 116), (1, .int v)] [] _ _
  refine p_M_marks_0 ⟨fun c => t6_marks15 ⟨rfl, ?_⟩, fun c => t6_marks15 ⟨rfl, ?_⟩⟩
  · unfold z6k; rw [z6_p c]
  · unfold z6k; rw [z6_n c]
end CPU
/-! flags: all bytes at once -/
def z6b (w : Bool) : Int32 := if w then 1 else 0
theorem z6cb {c : Prop} [Decidable c] : z6c c = z6b (decide c) := by
  unfold z6c z6b
  by_cases h : c
  · rw [if_pos h, decide_eq_true h]; rfl
  · rw [if_neg h, decide_eq_false h]; rfl
theorem z6_m0 : ∀ n, n < 256 → ∀ w1 w2 : Bool, (((nI n &&& (-131)) ||| (if w2 then 128 else 0)) ||| (if w1 then 2 else 0)) = z6f (z6f (nI n) 2 (z6b w1)) 128 (z6b w2) := by decide +kernel
theorem z6_128 (v : Int32) : v &&& 128 = 0 ∨ v &&& 128 = 128 := by
  have h : ∀ n, n < 256 → nI n &&& 128 = 0 ∨ nI n &&& 128 = 128 := by decide +kernel
  obtain ⟨j, hj, e⟩ := pk_andE v (m := 255) 8 (by decide)
  have : v &&& 128 = (v &&& 255) &&& 128 := by rw [Int32.and_assoc]; exact congrArg (fun z => v &&& z) (by decide)
  rw [this, e]
  exact h j hj
theorem z6_mk {p v s0 : Int32} (hp : byt p) (hs : s0 = if v &&& 255 = 0 then 2 else 0) : (((p &&& (-131)) ||| (v &&& 128)) ||| s0) = z6k p v := by
  obtain ⟨n, hn, rfl⟩ := hp
  subst hs
  have := z6_m0 n hn (decide (v &&& 255 = 0)) (decide (¬ v &&& 128 = 0))
  unfold z6k
  rw [z6cb, z6cb, ← this]
  congr 1
  · congr 1
    rcases z6_128 v with h | h
    · rw [h]; rfl
    · rw [h]; rfl
  · by_cases c : v &&& 255 = 0
    · rw [if_pos c, decide_eq_true c]; rfl
    · rw [if_neg c, decide_eq_false c]; rfl
theorem c6_marked {S : rz_S} (v : Int32) (hp : byt (S.2 37 4)) : rz_ev mProcessor_marked [.ref 37, .int v] S (rz_i (fun x S1 => x = v &&& 255 ∧ S1 = rz_uI S 37 4 (z6k (S.2 37 4) v))) := by
  show rz _ 0 [(0, .ref 37), (1, .int v)] [] _ _
  refine p_Processor_marked_0 ⟨fun c => p_Processor_marked_13 ⟨rfl, ?_⟩, fun c => p_Processor_marked_13 ⟨rfl, ?_⟩⟩
  · rw [z6_mk hp (by rw [if_pos c])]
  · rw [z6_mk hp (by rw [if_neg c])]
theorem z6f_b {p b s : Int32} (hp : byt p) (hb : byt b) : byt (z6f p b s) := by
  unfold z6f
  split
  · exact byt_and hp
  · exact byt_or hp hb
theorem byt_lit {n : Nat} (h : n < 256) : byt (nI n) := ⟨n, h, rfl⟩
theorem z6k_b {p v : Int32} (hp : byt p) : byt (z6k p v) := z6f_b (z6f_b hp (byt_lit (n := 2) (by omega))) (byt_lit (n := 128) (by omega))
