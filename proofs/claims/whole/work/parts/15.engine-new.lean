/-! AN ENGINE, PART 3: new cells -/
def rx_nr (n : Nat) : Value → Bool
  | .ref k => decide (k ≠ n)
  | _ => true
def rx_nrC (n : Nat) : rx_C → Bool
  | .inl _ => true
  | .inr (.inl (_, a)) => a.all (fun o => match o with
    | some k => decide (k ≠ n)
    | none => true)
  | .inr (.inr (_, fs)) => fs.all (rx_nr n)
/-- nothing names the place n yet -/
def rx_fresh (n : Nat) (l : rx_L) (st : List Value) (h : rx_H) : Bool := decide (n < 1000000) && l.all (fun q => rx_nr n q.2) && st.all (rx_nr n) && h.all (rx_nrC n)
def rx_at : ArrayType → Option Nat
  | .int => some 0
  | .byte => some 1
  | .boolean => some 2
  | _ => none
def rx_alloc (co mc ms : Nat) (i : Instr) (len pc : Nat) (l : rx_L) (st : List Value) (h : rx_H) (uc us : Nat) : Option (Nat × List Value × rx_H × Nat × Nat) := match i, len with
  | .new idx, 3 => match rx_lk rx_NLs co idx with
    | some (ci, _) => match vwCl[ci]?, rx_cf[ci]? with
      | some (_, _, N), some ty0 => if rx_fresh h.length l st h = true ∧ uc + 1 ≤ mc ∧ us + N ≤ ms then some (pc + 3, .ref h.length :: st, h ++ [.inr (.inr (ci, (List.range N).map (fun k => defaultValue (ty0 k))))], uc + 1, us + N) else none
      | _, _ => none
    | none => none
  | .newarray a, 2 => match st, rx_at a with
    | .int n :: r, some t => if rx_fresh h.length l r h = true ∧ ¬ n < 0 ∧ n.toNatClampNeg ≤ 1000000 ∧ uc + 1 ≤ mc ∧ us + n.toNatClampNeg ≤ ms then some (pc + 2, .ref h.length :: r, h ++ [.inl (t, n.toNatClampNeg, fun _ => 0)], uc + 1, us + n.toNatClampNeg) else none
    | _, _ => none
  | .anewarray idx, 3 => match st, rx_lk rx_ALs co idx with
    | .int n :: r, some (t, _) => if rx_fresh h.length l r h = true ∧ ¬ n < 0 ∧ n.toNatClampNeg ≤ 1000000 ∧ uc + 1 ≤ mc ∧ us + n.toNatClampNeg ≤ ms then some (pc + 3, .ref h.length :: r, h ++ [.inr (.inl (t, List.replicate n.toNatClampNeg none))], uc + 1, us + n.toNatClampNeg) else none
    | _, _ => none
  | _, _ => none
set_option maxRecDepth 100000 in
theorem rx_nlchk : rx_NLs.all (fun q => match vwCl[q.2.1]? with
  | some (C, _, _) => rx_has q.2.2 (.classLink (rx_cn q.1.1) q.1.2 C)
  | none => false) = true := by decide +kernel
set_option maxRecDepth 100000 in
theorem rx_alchk : rx_ALs.all (fun q => rx_el.any (fun z => decide (z.1 = q.2.1) && rx_has q.2.2 (.classLink (rx_cn q.1.1) q.1.2 (rx_cn z.2)))) = true := by decide +kernel
set_option maxRecDepth 100000 in
theorem rx_w_ac : Cond.arrayClass .int ∈ rx_Ts ∧ Cond.arrayClass .byte ∈ rx_Ts ∧ Cond.arrayClass .boolean ∈ rx_Ts := by
  have h := rx_in2_mem (ws := [Cond.arrayClass .int, Cond.arrayClass .byte, Cond.arrayClass .boolean]) (by decide +kernel)
  exact ⟨h _ (by simp), h _ (by simp), h _ (by simp)⟩
theorem rx_RA_uniq {U : State} {a b : ClassId} {ty : FieldType} (h1 : va_RA U a ty) (h2 : va_RA U b ty) : a = b := by
  cases ty with
  | object C =>
    obtain ⟨_, _, _, _, _, e1⟩ := h1
    obtain ⟨_, _, _, _, _, e2⟩ := h2
    exact Option.some.inj (e1.symm.trans e2)
  | _ => exact Option.some.inj (Eq.trans (Eq.symm h1) h2)
section RXN
variable {p : Program} {l : Launch} {e : Env} {R : Room} {s : State} {m : MethodId} {args : Array Value} {below : List Frame} {meth : Method} {c : Code} {H : Heap} {locs : List Loc} {uc us : Nat} {Q : State → Prop}
variable {cc : ByteArray} {pc pc' nL len co idx base n uc' us' : Nat} {ls : Array Slot} {D : va_G} {tC : Nat → ClassId} {ad ad' : Nat → Nat} {lv : rx_L} {st st' : List Value} {h h' : rx_H}
theorem rx_nr_v {v : Value} (h1 : rx_nr n v = true) (ha : ∀ k, k ≠ n → ad' k = ad k) : rx_v ad' v = rx_v ad v := by
  cases v with
  | ref k => exact congrArg Value.ref (ha k (of_decide_eq_true h1))
  | _ => rfl
theorem rx_nr_c {x : rx_C} (h1 : rx_nrC n x = true) (ha : ∀ k, k ≠ n → ad' k = ad k) : rx_c ad' tC x = rx_c ad tC x := by
  rcases x with ⟨t, N, f⟩ | ⟨t, a⟩ | ⟨ci, fs⟩
  · rfl
  · simp only [rx_c]
    have hf : (fun j => (a.getD j none).map ad') = (fun j => (a.getD j none).map ad) := by
      funext j
      cases hj : a[j]? with
      | none => simp [List.getD_eq_getElem?_getD, hj]
      | some o =>
        cases o with
        | none => simp [List.getD_eq_getElem?_getD, hj]
        | some k =>
          have h2 := List.all_eq_true.mp h1 (some k) (List.mem_of_getElem? hj)
          have h3 : k ≠ n := of_decide_eq_true h2
          simp [List.getD_eq_getElem?_getD, hj, ha k h3]
    rw [hf]
  · simp only [rx_c]
    have hf : fs.map (rx_v ad') = fs.map (rx_v ad) := List.map_congr_left fun v hv => rx_nr_v (List.all_eq_true.mp h1 v hv) ha
    rw [hf]
theorem rx_fresh_all (h1 : rx_fresh n lv st h = true) (ha : ∀ k, k ≠ n → ad' k = ad k) : n < 1000000 ∧ rx_l ad' lv = rx_l ad lv ∧ st.map (rx_v ad') = st.map (rx_v ad) ∧ (h.length ≤ n → rx_w ad' tC h = rx_w ad tC h) := by
  unfold rx_fresh at h1
  simp only [Bool.and_eq_true, decide_eq_true_eq] at h1
  obtain ⟨⟨⟨h1, h2⟩, h3⟩, h4⟩ := h1
  refine ⟨h1, ?_, ?_, ?_⟩
  · exact List.map_congr_left fun q hq => by rw [rx_nr_v (List.all_eq_true.mp h2 q hq) ha]
  · exact List.map_congr_left fun v hv => rx_nr_v (List.all_eq_true.mp h3 v hv) ha
  · intro hl
    apply List.ext_getElem?
    intro j
    simp only [rx_w, List.getElem?_mapIdx]
    cases hj : h[j]? with
    | none => rfl
    | some x =>
      have hlt : j < h.length := (List.getElem?_eq_some_iff.mp hj).1
      simp only [Option.map_some]
      rw [rx_nr_c (List.all_eq_true.mp h4 x (List.mem_of_getElem? hj)) ha, ha j (by omega)]
theorem rx_w_push {x : rx_C} : rx_w ad tC (h ++ [x]) = rx_w ad tC h ++ [(ad h.length, rx_c ad tC x)] := by
  simp [rx_w, List.mapIdx_append]
/-- the goal behind a new cell -/
def rx_KN (p : Program) (l : Launch) (e : Env) (R : Room) (s : State) (m : MethodId) (args : Array Value) (below : List Frame) (meth : Method) (c : Code) (Q : State → Prop) (D : va_G) (tC : Nat → ClassId) (ad : Nat → Nat) (base : Nat) (ls : Array Slot) (lv : rx_L) (n pc : Nat) (st : List Value) (h : rx_H) (uc us : Nat) : Prop :=
  ∀ (ad' : Nat → Nat) (H : Heap) (locs : List Loc), (∀ k, k ≠ n → ad' k = ad k) → rx_l ad' lv = rx_l ad lv → rx_Rel D tC ad' base s H locs h → W p l e R s m args below meth c H locs uc us Q (F0 m pc ls (st.map (rx_v ad')))
theorem rx_up {q : Nat} : ∀ k, k ≠ n → va_up ad n q k = ad k := fun k hk => by unfold va_up; rw [if_neg hk]
theorem rx_up0 {q : Nat} : va_up ad n q n = q := by unfold va_up; rw [if_pos rfl]
theorem rx_n_new (hx : p.tables.exec = Jvm.exec) (hb : c.code = cc) (hown : s.vm.findClass (rx_cn co) = some m.cls) (hts : ∀ w ∈ rx_Ts, w.before args s = true) (hbs : base ≤ s.heap.size) (hR : rx_Rel D tC ad base s H locs h) (hd : decode cc pc = .ok (.new idx, 3)) {ci pos N : Nat} {C : String} {T : u_T} {ty0 : Nat → FieldType} (hL : rx_lk rx_NLs co idx = some (ci, pos)) (h1 : vwCl[ci]? = some (C, T, N)) (h2 : rx_cf[ci]? = some ty0) (hf : rx_fresh h.length lv st h = true) (hc1 : uc + 1 ≤ R.cells) (hc2 : us + N ≤ R.slots)
    (kk : rx_KN p l e R s m args below meth c Q D tC ad base ls lv h.length (pc + 3) (.ref h.length :: st) (h ++ [.inr (.inr (ci, (List.range N).map (fun k => defaultValue (ty0 k))))]) (uc + 1) (us + N)) :
    W p l e R s m args below meth c H locs uc us Q (F0 m pc ls (st.map (rx_v ad))) := by
  obtain ⟨hK, hP, hD, hS⟩ := hR
  have hlk := List.all_eq_true.mp rx_nlchk _ (rx_lk_mem hL)
  simp only [h1] at hlk
  obtain ⟨w1, ⟨ty1, e1, w2⟩, w3, w4, w5⟩ := rx_cl_ok h1
  cases e1.symm.trans h2
  refine va_new (D := D) (C := C) (T := T) (N := N) (ci := ci) (fs := (List.range N).map (fun k => defaultValue (ty0 k))) hx hb hts w1 ty0 w2 hown (hts _ (rx_has_mem hlk)) (hts _ w4) (hts _ w5) hK hP hD hS (fun q hq => Nat.le_trans hbs hq) h1 (fun j hj => by simp [vp_V, List.getD_eq_getElem?_getD, hj]) hc1 hc2 hd (fun q H1 a1 a2 a3 => ?_)
  obtain ⟨f1, f2, f3, f4⟩ := rx_fresh_all (ad := ad) (ad' := va_up ad h.length q) (tC := tC) hf rx_up
  have hdf : ((List.range N).map (fun k => defaultValue (ty0 k))).map (rx_v (va_up ad h.length q)) = (List.range N).map (fun k => defaultValue (ty0 k)) := by
    rw [List.map_map]
    apply List.map_congr_left
    intro k _
    show rx_v _ (defaultValue (ty0 k)) = defaultValue (ty0 k)
    cases ty0 k <;> rfl
  have hw : rx_w (va_up ad h.length q) tC (h ++ [.inr (.inr (ci, (List.range N).map (fun k => defaultValue (ty0 k))))]) = rx_w ad tC h ++ [(q, .inr (ci, (List.range N).map (fun k => defaultValue (ty0 k))))] := by
    rw [rx_w_push, f4 (Nat.le_refl _), rx_up0]
    simp only [rx_c, hdf]
  have := kk (va_up ad h.length q) H1 locs rx_up f2 ⟨hK, hw ▸ a1, hw ▸ a2, a3⟩
  simp only [List.map_cons, f3] at this
  have e2 : rx_v (va_up ad h.length q) (.ref h.length) = .ref q := congrArg Value.ref rx_up0
  rw [e2] at this
  exact this
theorem rx_n_arr (hx : p.tables.exec = Jvm.exec) (hb : c.code = cc) (hts : ∀ w ∈ rx_Ts, w.before args s = true) (hbs : base ≤ s.heap.size) (hR : rx_Rel D tC ad base s H locs h) {a : ArrayType} (hd : decode cc pc = .ok (.newarray a, 2)) {x : Int32} {t : Nat} (ht : rx_at a = some t) (hf : rx_fresh h.length lv st h = true) (hn : ¬ x < 0) (hn2 : x.toNatClampNeg ≤ 1000000) (hc1 : uc + 1 ≤ R.cells) (hc2 : us + x.toNatClampNeg ≤ R.slots)
    (kk : rx_KN p l e R s m args below meth c Q D tC ad base ls lv h.length (pc + 2) (.ref h.length :: st) (h ++ [.inl (t, x.toNatClampNeg, fun _ => 0)]) (uc + 1) (us + x.toNatClampNeg)) :
    W p l e R s m args below meth c H locs uc us Q (F0 m pc ls (.int x :: st.map (rx_v ad))) := by
  obtain ⟨hK, hP, hD, hS⟩ := hR
  obtain ⟨g1, g2, g3⟩ := rx_w_ac
  have key : ∃ ty, newarray.typeOf a = ty ∧ rx_ty[t]? = some ty ∧ Cond.arrayClass ty ∈ rx_Ts ∧ (∀ cA : ClassId, vp_cell cA (x.toNatClampNeg, .inl (fun _ => 0)) = arrV cA x.toNatClampNeg (fun _ => defaultValue ty)) ∧ componentBytes ty ≤ 8 := by
    cases a <;> first
      | (cases ht; done)
      | (cases ht; exact ⟨_, rfl, rfl, g1, fun _ => rfl, by decide⟩)
      | (cases ht; exact ⟨_, rfl, rfl, g2, fun _ => rfl, by decide⟩)
      | (cases ht; exact ⟨_, rfl, rfl, g3, fun _ => rfl, by decide⟩)
  obtain ⟨ty, k1, k2, k3, k4, k5⟩ := key
  subst k1
  refine va_newa (D := D) hx hb (hts _ k3) rfl hK hP hD hS (fun q hq => Nat.le_trans hbs hq) k4 hn rfl (by
    have := Nat.mul_le_mul hn2 k5
    omega) hc1 hc2 hd (fun q cA H1 a0 a1 a2 a3 => ?_)
  have hcA : cA = tC t := by
    have e1 := (a0.2 (rx_tys tC).length (cA, newarray.typeOf a) (by simp)).2
    have e2 := (hK.2 t _ (rx_tys_get k2)).2
    exact rx_RA_uniq e1 e2
  subst hcA
  obtain ⟨f1, f2, f3, f4⟩ := rx_fresh_all (ad := ad) (ad' := va_up ad h.length q) (tC := tC) hf rx_up
  have hw : rx_w (va_up ad h.length q) tC (h ++ [.inl (t, x.toNatClampNeg, fun _ => 0)]) = rx_w ad tC h ++ [(q, .inl (tC t, x.toNatClampNeg, .inl (fun _ => 0)))] := by
    rw [rx_w_push, f4 (Nat.le_refl _), rx_up0]
    rfl
  have := kk (va_up ad h.length q) H1 locs rx_up f2 ⟨hK, hw ▸ a1, hw ▸ a2, a3⟩
  simp only [List.map_cons, f3] at this
  have e2 : rx_v (va_up ad h.length q) (.ref h.length) = .ref q := congrArg Value.ref rx_up0
  rw [e2] at this
  exact this
theorem rx_n_arq (hx : p.tables.exec = Jvm.exec) (hb : c.code = cc) (hown : s.vm.findClass (rx_cn co) = some m.cls) (hts : ∀ w ∈ rx_Ts, w.before args s = true) (hC : rx_Con ad base s) (hbs : base ≤ s.heap.size) (hR : rx_Rel D tC ad base s H locs h) (hd : decode cc pc = .ok (.anewarray idx, 3)) {x : Int32} {t pos : Nat} (hL : rx_lk rx_ALs co idx = some (t, pos)) (hf : rx_fresh h.length lv st h = true) (hn : ¬ x < 0) (hn2 : x.toNatClampNeg ≤ 1000000) (hc1 : uc + 1 ≤ R.cells) (hc2 : us + x.toNatClampNeg ≤ R.slots)
    (kk : rx_KN p l e R s m args below meth c Q D tC ad base ls lv h.length (pc + 3) (.ref h.length :: st) (h ++ [.inr (.inl (t, List.replicate x.toNatClampNeg none))]) (uc + 1) (us + x.toNatClampNeg)) :
    W p l e R s m args below meth c H locs uc us Q (F0 m pc ls (.int x :: st.map (rx_v ad))) := by
  obtain ⟨hK, hP, hD, hS⟩ := hR
  have hlk := List.all_eq_true.mp rx_alchk _ (rx_lk_mem hL)
  obtain ⟨⟨t2, ci⟩, hz1, hz2⟩ := List.any_eq_true.mp hlk
  simp only [Bool.and_eq_true, decide_eq_true_eq] at hz2
  obtain ⟨e0, hz2⟩ := hz2
  subst e0
  obtain ⟨C, T, N, h1, h2, h3⟩ := rx_el_has hz1
  refine va_newq (D := D) (C := rx_cn ci) hx hb hown (hts _ (rx_has_mem hz2)) (hC.2.2.2.2.1 _ _ hz1) hK hP hD hS (fun q hq => Nat.le_trans hbs hq) hn rfl (by omega) hc1 hc2 hd (fun q cA H1 a0 a1 a2 a3 => ?_)
  have hcA : cA = tC t2 := by
    have e1 := (a0.2 (rx_tys tC).length (cA, .object (rx_cn ci)) (by simp)).2
    have e2 := (hK.2 t2 _ (rx_tys_get h2)).2
    rw [← h3] at e2
    exact rx_RA_uniq e1 e2
  subst hcA
  obtain ⟨f1, f2, f3, f4⟩ := rx_fresh_all (ad := ad) (ad' := va_up ad h.length q) (tC := tC) hf rx_up
  have hw : rx_w (va_up ad h.length q) tC (h ++ [.inr (.inl (t2, List.replicate x.toNatClampNeg none))]) = rx_w ad tC h ++ [(q, .inl (tC t2, x.toNatClampNeg, .inr (.inr (.inr (.inr (fun _ => none))))))] := by
    rw [rx_w_push, f4 (Nat.le_refl _), rx_up0]
    simp only [rx_c, List.length_replicate]
    have hfn : (fun j => ((List.replicate x.toNatClampNeg (none : Option Nat)).getD j none).map (va_up ad h.length q)) = (fun _ => none) := by
      funext j
      simp only [List.getD_eq_getElem?_getD, List.getElem?_replicate]
      split <;> rfl
    rw [hfn]
  have := kk (va_up ad h.length q) H1 locs rx_up f2 ⟨hK, hw ▸ a1, hw ▸ a2, a3⟩
  simp only [List.map_cons, f3] at this
  have e2 : rx_v (va_up ad h.length q) (.ref h.length) = .ref q := congrArg Value.ref rx_up0
  rw [e2] at this
  exact this
theorem rx_alloc_sim (hx : p.tables.exec = Jvm.exec) (hb : c.code = cc) (hown : s.vm.findClass (rx_cn co) = some m.cls) (hts : ∀ w ∈ rx_Ts, w.before args s = true) (hC : rx_Con ad base s) (hbs : base ≤ s.heap.size) (hR : rx_Rel D tC ad base s H locs h) {i : Instr} (hd : decode cc pc = .ok (i, len)) (hs : rx_alloc co R.cells R.slots i len pc lv st h uc us = some (pc', st', h', uc', us')) (kk : rx_KN p l e R s m args below meth c Q D tC ad base ls lv h.length pc' st' h' uc' us') :
    h.length < 1000000 ∧ uc < R.cells ∧ W p l e R s m args below meth c H locs uc us Q (F0 m pc ls (st.map (rx_v ad))) := by
  have hz : ∀ {st0 : List Value}, rx_fresh h.length lv st0 h = true → h.length < 1000000 := fun q => (rx_fresh_all (ad := ad) (ad' := ad) (tC := tC) q (fun _ _ => rfl)).1
  unfold rx_alloc at hs
  split at hs
  · split at hs
    · next ci pos hL =>
      split at hs
      · next C T N ty0 h1 h2 =>
        split at hs
        · next hi => cases hs; exact ⟨hz hi.1, hi.2.1, rx_n_new hx hb hown hts hbs hR hd hL h1 h2 hi.1 hi.2.1 hi.2.2 kk⟩
        · cases hs
      · cases hs
    · cases hs
  · split at hs
    · next n r t ht =>
      split at hs
      · next hi => cases hs; exact ⟨hz hi.1, hi.2.2.2.1, rx_n_arr hx hb hts hbs hR hd ht hi.1 hi.2.1 hi.2.2.1 hi.2.2.2.1 hi.2.2.2.2 kk⟩
      · cases hs
    · cases hs
  · split at hs
    · next n r t pos hL =>
      split at hs
      · next hi => cases hs; exact ⟨hz hi.1, hi.2.2.2.1, rx_n_arq hx hb hown hts hC hbs hR hd hL hi.1 hi.2.1 hi.2.2.1 hi.2.2.2.1 hi.2.2.2.2 kk⟩
      · cases hs
    · cases hs
  · cases hs
end RXN
