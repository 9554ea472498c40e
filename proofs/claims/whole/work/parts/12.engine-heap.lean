/-! AN ENGINE, PART 2: what reads and writes cells. A cell: an array of ints (kind, length, contents), of references (kind, contents), an object (class, fields); references are places in the list of cells; from 1000000 on texts, from 2000000 on their bytes, from 3000000 on static arrays -/
abbrev rx_C : Type := (Nat × Nat × (Nat → Int32)) ⊕ ((Nat × List (Option Nat)) ⊕ (Nat × List Value))
abbrev rx_H : Type := List rx_C
def rx_in (i : Int32) (n : Nat) : Bool := decide (¬ (i < 0 ∨ n ≤ i.toNatClampNeg))
theorem rx_in_iff {i : Int32} {n : Nat} (h : rx_in i n = true) : vp_in i n := of_decide_eq_true (p := ¬ (i < 0 ∨ n ≤ i.toNatClampNeg)) h
/-- what a field or an array of that type takes -/
def rx_fit : FieldType → Value → Bool
  | .int, .int _ => true
  | .boolean, .int x => decide (x = 0) || decide (x = 1)
  | .object _, .ref _ => true
  | .object _, .null => true
  | .array _, .ref _ => true
  | .array _, .null => true
  | _, _ => false
theorem rx_fit_ok {ty : FieldType} {v : Value} (ad : Nat → Nat) (h : rx_fit ty v = true) : narrow ty (rx_v ad v) = rx_v ad v ∧ fits ty (rx_v ad v) = true := by
  cases ty <;> cases v <;> first
    | (cases h; done)
    | exact ⟨rfl, rfl⟩
    | (simp only [rx_fit, Bool.or_eq_true, decide_eq_true_eq] at h
       rcases h with rfl | rfl <;> exact ⟨rfl, rfl⟩)
def rx_ref (o : Option Nat) : Value := match o with
  | some k => .ref k
  | none => .null
def rx_get (co idx : Nat) (st : List Value) (h : rx_H) : Option (List Value) := match st with
  | .ref k :: r => match rx_lk rx_FLs co idx with
    | some ((ci, fk, _, _), _) => match h[k]? with
      | some (.inr (.inr (cj, fs))) => if cj = ci then match fs[fk]? with
          | some v => some (v :: r)
          | none => none
        else none
      | _ => none
    | none => match rx_lk rx_KLs co idx with
      | some (0, _) => if 1000000 ≤ k ∧ k - 1000000 < rx_tb.length then some (.int 0 :: r) else none
      | some (1, _) => if 1000000 ≤ k ∧ k - 1000000 < rx_tb.length then some (.ref (k + 1000000) :: r) else none
      | _ => none
  | _ => none
def rx_put (ini : Bool) (co idx : Nat) (st : List Value) (h : rx_H) : Option (List Value × rx_H) := match st with
  | v :: .ref k :: r => match rx_lk rx_FLs co idx with
    | some ((ci, fk, ty, fin), _) => match h[k]? with
      | some (.inr (.inr (cj, fs))) => if cj = ci ∧ fk < fs.length ∧ rx_fit ty v = true ∧ (fin = false ∨ (ini = true ∧ ci = co)) then some (r, h.set k (.inr (.inr (cj, fs.set fk v)))) else none
      | _ => none
    | none => none
  | _ => none
/-- a static array's contents -/
def rx_sa (k : Nat) : Option (Nat × List Int32) := if 3000000 ≤ k then match rx_sn[k - 3000000]? with
    | some (_, _, _, .inr a) => some a
    | _ => none
  else none
def rx_iald (st : List Value) (h : rx_H) : Option (List Value) := match st with
  | .int i :: .ref k :: r => match h[k]? with
    | some (.inl (0, n, f)) => if rx_in i n then some (.int (f i.toNatClampNeg) :: r) else none
    | some _ => none
    | none => match rx_sa k with
      | some (n, a) => if rx_in i n then some (.int (a.getD i.toNatClampNeg 0) :: r) else none
      | none => none
  | _ => none
def rx_bald (st : List Value) (h : rx_H) : Option (List Value) := match st with
  | .int i :: .ref k :: r => match h[k]? with
    | some (.inl (1, n, f)) => if rx_in i n then some (.int (f i.toNatClampNeg) :: r) else none
    | some (.inl (2, n, f)) => if rx_in i n then some (.int (f i.toNatClampNeg) :: r) else none
    | some _ => none
    | none => if 2000000 ≤ k then match rx_tb[k - 2000000]? with
        | some a => if rx_in i a.length then some (.int (a.getD i.toNatClampNeg 0) :: r) else none
        | none => none
      else none
  | _ => none
def rx_isq (t : Nat) : Bool := rx_el.any (fun q => decide (q.1 = t))
def rx_aald (st : List Value) (h : rx_H) : Option (List Value) := match st with
  | .int i :: .ref k :: r => match h[k]? with
    | some (.inr (.inl (t, a))) => if rx_in i a.length = true ∧ rx_isq t = true then some (rx_ref (a.getD i.toNatClampNeg none) :: r) else none
    | _ => none
  | _ => none
def rx_alen (st : List Value) (h : rx_H) : Option (List Value) := match st with
  | .ref k :: r => match h[k]? with
    | some (.inl (t, n, _)) => if t < 3 then some (.int (Int32.ofNat n) :: r) else none
    | some (.inr (.inl (t, a))) => if rx_isq t = true then some (.int (Int32.ofNat a.length) :: r) else none
    | some _ => none
    | none => match rx_sa k with
      | some (n, _) => some (.int (Int32.ofNat n) :: r)
      | none => if 2000000 ≤ k then match rx_tb[k - 2000000]? with
          | some a => some (.int (Int32.ofNat a.length) :: r)
          | none => none
        else none
  | _ => none
def rx_iast (st : List Value) (h : rx_H) : Option (List Value × rx_H) := match st with
  | .int x :: .int i :: .ref k :: r => match h[k]? with
    | some (.inl (0, n, f)) => if rx_in i n then some (r, h.set k (.inl (0, n, upd f i.toNatClampNeg x))) else none
    | _ => none
  | _ => none
def rx_bast (st : List Value) (h : rx_H) : Option (List Value × rx_H) := match st with
  | .int x :: .int i :: .ref k :: r => match h[k]? with
    | some (.inl (1, n, f)) => if rx_in i n then some (r, h.set k (.inl (1, n, upd f i.toNatClampNeg (vp_nar .byte x)))) else none
    | some (.inl (2, n, f)) => if rx_in i n then some (r, h.set k (.inl (2, n, upd f i.toNatClampNeg (vp_nar .boolean x)))) else none
    | _ => none
  | _ => none
def rx_aast (st : List Value) (h : rx_H) : Option (List Value × rx_H) := match st with
  | .ref q :: .int i :: .ref k :: r => match h[k]?, h[q]? with
    | some (.inr (.inl (t, a))), some (.inr (.inr (ci, _))) => if rx_in i a.length = true ∧ (t, ci) ∈ rx_el then some (r, h.set k (.inr (.inl (t, a.set i.toNatClampNeg (some q))))) else none
    | _, _ => none
  | _ => none
def rx_cats (r : List Value) : Nat := (r.map fun v => v.category).sum
def rx_copy (fr lo : Nat) (st : List Value) (h : rx_H) : Option (List Value × rx_H) := match st with
  | .int n :: .int dp :: .ref k :: .int sp :: .ref j :: r => match h[j]?, h[k]? with
    | some (.inl (0, n0, f)), some (.inl (0, n1, g)) => if ¬ sp < 0 ∧ ¬ dp < 0 ∧ ¬ n < 0 ∧ sp.toNatClampNeg + n.toNatClampNeg ≤ n0 ∧ dp.toNatClampNeg + n.toNatClampNeg ≤ n1 ∧ 1 ≤ fr ∧ rx_cats r + 40 ≤ lo then some (r, h.set k (.inl (0, n1, va_cpy f g sp.toNatClampNeg dp.toNatClampNeg n.toNatClampNeg))) else none
    | _, _ => none
  | _ => none
def rx_math (w fr lo : Nat) (st : List Value) : Option (List Value) := match st with
  | .int y :: .int x :: r => if 1 ≤ fr ∧ rx_cats r + 13 ≤ lo then match w with
      | 0 => some (.int (if x < y then y else x) :: r)
      | 1 => some (.int (if y < x then y else x) :: r)
      | _ => none
    else none
  | _ => none
def rx_stat (co idx : Nat) : Option Value := match rx_lk rx_SLs co idx with
  | some (k, _) => match rx_sn[k]? with
    | some (_, _, _, .inr _) => some (.ref (3000000 + k))
    | some (_, _, _, .inl x) => some (.int x)
    | none => none
  | none => none
def rx_ldc (co idx : Nat) : Option Value := match rx_lk rx_CIs co idx with
  | some (x, _) => some (.int x)
  | none => match rx_lk rx_STs co idx with
    | some k => if k < rx_tb.length then some (.ref (1000000 + k)) else none
    | none => none
def rx_heap (co : Nat) (ini : Bool) (fr lo : Nat) (i : Instr) (len pc : Nat) (st : List Value) (h : rx_H) : Option (Nat × List Value × rx_H) := match i, len with
  | .getfield idx, 3 => (rx_get co idx st h).map fun r => (pc + 3, r, h)
  | .putfield idx, 3 => (rx_put ini co idx st h).map fun r => (pc + 3, r.1, r.2)
  | .iaload, 1 => (rx_iald st h).map fun r => (pc + 1, r, h)
  | .baload, 1 => (rx_bald st h).map fun r => (pc + 1, r, h)
  | .aaload, 1 => (rx_aald st h).map fun r => (pc + 1, r, h)
  | .arraylength, 1 => (rx_alen st h).map fun r => (pc + 1, r, h)
  | .iastore, 1 => (rx_iast st h).map fun r => (pc + 1, r.1, r.2)
  | .bastore, 1 => (rx_bast st h).map fun r => (pc + 1, r.1, r.2)
  | .aastore, 1 => (rx_aast st h).map fun r => (pc + 1, r.1, r.2)
  | .getstatic idx, 3 => (rx_stat co idx).map fun v => (pc + 3, v :: st, h)
  | .ldc idx, 2 => (rx_ldc co idx).map fun v => (pc + 2, v :: st, h)
  | .ldc_w idx, 3 => (rx_ldc co idx).map fun v => (pc + 3, v :: st, h)
  | .ldc2_w idx, 3 => match rx_lk rx_CJs co idx with
    | some (x, _) => some (pc + 3, .long x :: st, h)
    | none => none
  | .invokespecial idx, 3 => match rx_lk rx_OLs co idx, st with
    | some _, .ref _ :: r => if 1 ≤ fr ∧ rx_cats r + 12 ≤ lo then some (pc + 3, r, h) else none
    | _, _ => none
  | .invokestatic idx, 3 => match rx_lk rx_YLs co idx with
    | some _ => (rx_copy fr lo st h).map fun r => (pc + 3, r.1, r.2)
    | none => match rx_lk rx_JLs co idx with
      | some (w, _) => (rx_math w fr lo st).map fun r => (pc + 3, r, h)
      | none => match rx_lk rx_XLs co idx, st with
        | some _, .int n :: .int i :: r => if ¬ i < 0 ∧ i < n ∧ 2 ≤ fr ∧ 43 ≤ lo ∧ rx_cats r ≤ 8 then some (pc + 3, r, h) else none
        | _, _ => none
  | _, _ => none
/-! the cells as the machine has them -/
def rx_c (ad : Nat → Nat) (tC : Nat → ClassId) : rx_C → va_E
  | .inl (t, n, f) => .inl (tC t, n, .inl f)
  | .inr (.inl (t, a)) => .inl (tC t, a.length, .inr (.inr (.inr (.inr (fun j => (a.getD j none).map ad)))))
  | .inr (.inr (ci, fs)) => .inr (ci, fs.map (rx_v ad))
def rx_w (ad : Nat → Nat) (tC : Nat → ClassId) (h : rx_H) : va_W := h.mapIdx (fun k c => (ad k, rx_c ad tC c))
def rx_tys (tC : Nat → ClassId) : List (ClassId × FieldType) := rx_ty.mapIdx (fun k ty => (tC k, ty))
theorem rx_w_get {ad : Nat → Nat} {tC : Nat → ClassId} {h : rx_H} {k : Nat} {c : rx_C} (hk : h[k]? = some c) : (rx_w ad tC h)[k]? = some (ad k, rx_c ad tC c) := by
  simp [rx_w, List.getElem?_mapIdx, hk]
theorem rx_w_set {ad : Nat → Nat} {tC : Nat → ClassId} {h : rx_H} {k : Nat} {c : rx_C} : (rx_w ad tC h).set k (ad k, rx_c ad tC c) = rx_w ad tC (h.set k c) := by
  apply List.ext_getElem?
  intro j
  simp only [rx_w, List.getElem?_set, List.getElem?_mapIdx, List.length_mapIdx]
  by_cases hj : k = j
  · subst hj
    simp only [if_true]
    split <;> simp_all
  · simp only [if_neg hj]
theorem rx_tys_get {tC : Nat → ClassId} {k : Nat} {ty : FieldType} (hk : rx_ty[k]? = some ty) : (rx_tys tC)[k]? = some (tC k, ty) := by
  simp [rx_tys, List.getElem?_mapIdx, hk]
def rx_A (base : Nat) : Nat → Prop := fun q => base ≤ q
/-- what stands of constants -/
def rx_Con (ad : Nat → Nat) (base : Nat) (s : State) : Prop :=
  vk_S rx_tb.length (rx_tb.map List.length) rx_tb (fun i => ad (1000000 + i)) (fun i => ad (2000000 + i)) (rx_A base) s s.heap ∧
  (∀ (k : Nat) (C n d : String) (N : Nat) (a : List Int32), rx_sn[k]? = some (C, n, d, .inr (N, a)) → va_Z C n d (.ref (ad (3000000 + k))) (rx_A base) s s.heap ∧ va_T .int (ad (3000000 + k)) N (fun j => .int (a.getD j 0)) (rx_A base) s s.heap) ∧
  (∀ (k : Nat) (C n d : String) (x : Int32), rx_sn[k]? = some (C, n, d, .inl x) → va_Z C n d (.int x) (rx_A base) s s.heap) ∧
  (∀ (co idx k : Nat), rx_lk rx_STs co idx = some k → ∃ tx : String, vk_R (rx_cn co) idx tx (ad (1000000 + k)) s) ∧
  (∀ (t ci : Nat), (t, ci) ∈ rx_el → va_AO (rx_cn ci) s) ∧
  (∀ (co idx j pos : Nat), rx_lk rx_MLs co idx = some ((j, true), pos) → ∀ M : rx_M, rx_MT[j]? = some M → va_Nw (.methodLinkNest (rx_cn co) idx M.2.1 rx_host) s) ∧
  va_Zq "jdk/internal/util/Preconditions" "SIOOBE_FORMATTER" "Ljava/util/function/BiFunction;" (rx_A base) s s.heap
/-- the machine's cells are these -/
def rx_Rel (D : va_G) (tC : Nat → ClassId) (ad : Nat → Nat) (base : Nat) (s : State) (H : Heap) (locs : List Loc) (h : rx_H) : Prop :=
  va_K D vwCl (rx_tys tC) s ∧ va_P D vwCl (rx_w ad tC h) H ∧ va_D (rx_A base) (rx_w ad tC h) ∧ va_S (rx_A base) s.heap H locs
