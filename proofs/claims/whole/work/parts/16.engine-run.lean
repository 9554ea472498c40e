/-! AN ENGINE, PART 4: calls, answers, and the run -/
/-- every reference is to a cell that stands, or a constant -/
def rx_od (n : Nat) : Value → Bool
  | .ref k => decide (k < n) || decide (1000000 ≤ k)
  | _ => true
def rx_old (n : Nat) (l : rx_L) (st : List Value) : Bool := l.all (fun q => rx_od n q.2) && st.all (rx_od n)
/-- who is called, of the right kind -/
def rx_who (co : Nat) (i : Instr) (len : Nat) : Option rx_M := match i, len with
  | .invokevirtual idx, 3 => match rx_lk rx_MLs co idx with
    | some ((j, false), _) => match rx_MT[j]? with
      | some Z => if rm_kind Z = 0 then some Z else none
      | none => none
    | _ => none
  | .invokestatic idx, 3 => match rx_lk rx_MLs co idx with
    | some ((j, false), _) => match rx_MT[j]? with
      | some Z => if rm_kind Z = 1 then some Z else none
      | none => none
    | _ => none
  | .invokespecial idx, 3 => match rx_lk rx_MLs co idx with
    | some ((j, _), _) => match rx_MT[j]? with
      | some Z => if rm_kind Z = 2 then some Z else none
      | none => none
    | none => none
  | _, _ => none
/-- the receiver is an object of that class -/
def rx_rcv (Z : rx_M) (h : rx_H) : List Value → Bool
  | .ref k :: _ => match h[k]? with
    | some (.inr (.inr (ci, _))) => decide (ci = rm_co Z)
    | some _ => false
    | none => decide (1000000 ≤ k) && decide (k - 1000000 < rx_tb.length) && decide ((rm_y Z).cls = "java/lang/String")
  | _ => false
def rx_isref : List Value → Bool
  | .ref _ :: _ => true
  | _ => false
/-- how many words of the stack are arguments -/
def rx_na (Z : rx_M) : Nat := if rm_kind Z = 1 then rm_np Z else rm_np Z + 1
def rx_may (M Z : rx_M) (l : rx_L) (st : List Value) (h : rx_H) (uc us : Nat) : Bool :=
  decide (rx_na Z ≤ st.length) && decide (rm_fr Z + 1 ≤ rm_fr M) && decide (8 + (rm_maxL Z + 11) + rm_lo Z ≤ rm_lo M) && decide (rx_cats (st.drop (rx_na Z)) ≤ 8) && decide (uc + rm_mc Z ≤ rm_mc M) && decide (us + rm_ms Z ≤ rm_ms M) && (decide (rm_mc Z = 0) || rx_old h.length l (st.drop (rx_na Z))) && decide (rx_cats (st.take (rx_na Z)) ≤ rm_maxL Z) &&
  (if rm_kind Z = 0 then rx_rcv Z h (st.take (rx_na Z)).reverse else if rm_kind Z = 2 then rx_isref (st.take (rx_na Z)).reverse else true)
def rx_nok : FieldType → Int32 → Bool
  | .int, _ => true
  | .boolean, x => decide (x = 0) || decide (x = 1)
  | .byte, x => decide (x.toInt8.toInt32 = x)
  | .char, x => decide ((x.toUInt32 % 65536).toInt32 = x)
  | _, _ => false
/-- an answer -/
def rx_ans (M : rx_M) (i : Instr) (len : Nat) (st : List Value) : Option (Option Value) := match i, len with
  | .ireturn, 1 => match st, rm_ret M with
    | [.int x], some ty => if rx_nok ty x then some (some (.int x)) else none
    | _, _ => none
  | .areturn, 1 => match st, rm_ret M with
    | [.ref k], some (.object _) => some (some (.ref k))
    | [.null], some (.object _) => some (some .null)
    | _, _ => none
  | .return_, 1 => match st, rm_ret M with
    | [], none => some none
    | _, _ => none
  | _, _ => none
abbrev rx_F : Type := Nat × rx_L × List Value × rx_H × Nat × Nat
def rx_ini (M : rx_M) : Bool := decide (rm_kind M = 2)
def rx_run : Nat → rx_M → rx_F → Option (Option Value × rx_H)
  | 0, _, _ => none
  | n + 1, M, (pc, l, st, h, uc, us) => match decode (rm_code M) pc with
    | .ok (i, len) => match rx_pure (rm_maxL M) i len pc l st with
      | some (pc', l', st') => rx_run n M (pc', l', st', h, uc, us)
      | none => match rx_heap (rm_co M) (rx_ini M) (rm_fr M) (rm_lo M) i len pc st h with
        | some (pc', st', h') => rx_run n M (pc', l, st', h', uc, us)
        | none => match rx_who (rm_co M) i len with
          | some Z => if rx_may M Z l st h uc us = true then match rx_run n Z (0, lv_args 0 (st.take (rx_na Z)).reverse, [], h, 0, 0) with
              | some (r, h') => rx_run n M (pc + 3, l, r.toList ++ st.drop (rx_na Z), h', uc + rm_mc Z, us + rm_ms Z)
              | none => none
            else none
          | none => match rx_ans M i len st with
            | some r => some (r, h)
            | none => match rx_alloc (rm_co M) (rm_mc M) (rm_ms M) i len pc l st h uc us with
              | some (pc', st', h', uc', us') => rx_run n M (pc', l, st', h', uc', us')
              | none => none
    | .error _ => none
/-! what must stand at a call of it, and what stands behind it -/
def rx_Pc (D : va_G) (tC : Nat → ClassId) (ad : Nat → Nat) (base : Nat) (as : List Value) (h : rx_H) : Array Value → State → Prop := va_Pc (as.map (rx_v ad)) (fun U => base ≤ U.heap.size ∧ rx_Con ad base U ∧ va_K D vwCl (rx_tys tC) U ∧ va_P D vwCl (rx_w ad tC h) U.heap ∧ va_D (rx_A base) (rx_w ad tC h))
def rx_Qc (D : va_G) (tC : Nat → ClassId) (ad : Nat → Nat) (base mc : Nat) (h : rx_H) (r : Option Value) (h' : rx_H) : Array Value → State → Outcome → State → Prop := fun _ st oc t =>
  ∃ ad' : Nat → Nat, (∀ k, k < h.length ∨ 1000000 ≤ k → ad' k = ad k) ∧ (mc = 0 → ad' = ad) ∧ h.length ≤ h'.length ∧ oc = .returned (r.map (rx_v ad')) ∧ va_P D vwCl (rx_w ad' tC h') t.heap ∧ va_D (rx_A base) (rx_w ad' tC h') ∧ va_F (rx_A base) st t
def rx_Met (l : Launch) (M : rx_M) (as : List Value) (h : rx_H) (r : Option Value) (h' : rx_H) : Prop :=
  ∀ (D : va_G) (tC : Nat → ClassId) (ad : Nat → Nat) (base : Nat), Met l (rm_y M) (rm_ws M) (rm_room M) (rx_Pc D tC ad base as h) (rx_Qc D tC ad base (rm_mc M) h r h') (rm_mc M) (rm_ms M) (rx_A base)
/-! constants stand in later states -/
theorem rx_Con_at {ad : Nat → Nat} {base : Nat} {s U : State} (hW : s.WarmedH U.vm) (hk : ∀ a : Nat, a < s.heap.size → ¬ rx_A base a → U.heap[a]? = s.heap[a]?) (h : rx_Con ad base s) : rx_Con ad base U := by
  obtain ⟨h1, h2, h3, h4, h5, h6, h7⟩ := h
  exact ⟨(vk_S.moved hW.alike h1).kept hk, fun k C n d N a q => ⟨((h2 k C n d N a q).1.moved hW.alike).kept hk, ((h2 k C n d N a q).2.moved hW.alike).kept hk⟩, fun k C n d x q => ((h3 k C n d x q).moved hW.alike).kept hk, fun co idx k q => (h4 co idx k q).imp fun _ z => z.warm hW, fun t ci q => (h5 t ci q).moved hW.alike, fun co idx j pos q M z => (h6 co idx j pos q M z).warmM hW, (h7.moved hW.alike).kept hk⟩
theorem rx_Con_vm {ad : Nat → Nat} {base : Nat} {s U : State} (hv : s.vm = U.vm) (hh : U.heap = s.heap) (h : rx_Con ad base s) : rx_Con ad base U := by
  obtain ⟨h1, h2, h3, h4, h5, h6, h7⟩ := h
  have ha : s.vm.Alike U.vm := by rw [hv]; exact Vm.Alike.refl _
  have hk : ∀ a : Nat, a < s.heap.size → ¬ rx_A base a → U.heap[a]? = s.heap[a]? := fun a _ _ => by rw [hh]
  exact ⟨(vk_S.moved ha h1).kept hk, fun k C n d N a q => ⟨((h2 k C n d N a q).1.moved ha).kept hk, ((h2 k C n d N a q).2.moved ha).kept hk⟩, fun k C n d x q => ((h3 k C n d x q).moved ha).kept hk, fun co idx k q => (h4 co idx k q).imp fun _ z => z.same hv.symm, fun t ci q => (h5 t ci q).moved ha, fun co idx j pos q M z => (h6 co idx j pos q M z).same rfl hv, (h7.moved ha).kept hk⟩
theorem rx_Con_ad {ad ad' : Nat → Nat} {base : Nat} {s : State} (he : ∀ k, 1000000 ≤ k → ad' k = ad k) (h : rx_Con ad base s) : rx_Con ad' base s := by
  obtain ⟨h1, h2, h3, h4, h5, h6, h7⟩ := h
  have e1 : (fun i => ad' (1000000 + i)) = (fun i => ad (1000000 + i)) := funext fun i => he _ (by omega)
  have e2 : (fun i => ad' (2000000 + i)) = (fun i => ad (2000000 + i)) := funext fun i => he _ (by omega)
  refine ⟨by rw [e1, e2]; exact h1, fun k C n d N a q => ?_, h3, fun co idx k q => ?_, h5, h6, h7⟩
  · rw [he _ (by omega)]; exact h2 k C n d N a q
  · rw [he _ (by omega)]; exact h4 co idx k q
theorem rx_Pc_blind {D : va_G} {tC : Nat → ClassId} {ad : Nat → Nat} {base : Nat} {as : List Value} {h : rx_H} : FrameBlind (rx_Pc D tC ad base as h) := by
  intro a U g mk q
  obtain ⟨q0, q1, q2, q3, q4, q5⟩ := q
  exact ⟨q0, q1, rx_Con_vm rfl rfl q2, va_K.moved (u := U) (U := U.calling g mk a) (Vm.Alike.refl U.vm) q3, q4, q5⟩
