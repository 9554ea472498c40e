/-! the machine does what rx_heap does: all of it -/
set_option maxRecDepth 100000 in
theorem rx_jlchk : rx_JLs.all (fun q => if q.2.1 = 0 then rx_has q.2.2 (.methodLink (rx_cn q.1.1) q.1.2 Lib.Math.max.name) else if q.2.1 = 1 then rx_has q.2.2 (.methodLink (rx_cn q.1.1) q.1.2 Lib.Math.min.name) else true) = true := by decide +kernel
set_option maxRecDepth 100000 in
theorem rx_w_mx : Cond.static Lib.Math.max.name ∈ rx_Ts ∧ Cond.initialized "java/lang/Math" ∈ rx_Ts ∧ Cond.code Lib.Math.max.name Lib.Math.max.code 2 (some .int) ∈ rx_Ts ∧ Cond.static Lib.Math.min.name ∈ rx_Ts ∧ Cond.code Lib.Math.min.name Lib.Math.min.code 2 (some .int) ∈ rx_Ts := by
  have h := rx_in2_mem (ws := [Cond.static Lib.Math.max.name, Cond.initialized "java/lang/Math", Cond.code Lib.Math.max.name Lib.Math.max.code 2 (some .int), Cond.static Lib.Math.min.name, Cond.code Lib.Math.min.name Lib.Math.min.code 2 (some .int)]) (by decide +kernel)
  exact ⟨h _ (by simp), h _ (by simp), h _ (by simp), h _ (by simp), h _ (by simp)⟩
section RXI
variable {p : Program} {l : Launch} {e : Env} {R : Room} {s : State} {m : MethodId} {args : Array Value} {below : List Frame} {meth : Method} {c : Code} {H : Heap} {locs : List Loc} {cells slots : Nat} {Q : State → Prop}
variable {cc : ByteArray} {pc pc' nL len co idx base : Nat} {ini : Bool} {ls : Array Slot} {D : va_G} {tC : Nat → ClassId} {ad : Nat → Nat} {st st' : List Value} {h h' : rx_H}
theorem rx_h_stat (hx : p.tables.exec = Jvm.exec) (hb : c.code = cc) (hown : s.vm.findClass (rx_cn co) = some m.cls) (hts : ∀ w ∈ rx_Ts, w.before args s = true) (hC : rx_Con ad base s) (hR : rx_Rel D tC ad base s H locs h) (hd : decode cc pc = .ok (.getstatic idx, 3)) {v : Value} (hs : rx_stat co idx = some v) (kk : W p l e R s m args below meth c H locs cells slots Q (F0 m (pc + 3) ls (rx_v ad v :: st.map (rx_v ad)))) :
    W p l e R s m args below meth c H locs cells slots Q (F0 m pc ls (st.map (rx_v ad))) := by
  obtain ⟨hK, hP, hD, hS⟩ := hR
  unfold rx_stat at hs
  split at hs
  · next k pos hL =>
    have h1 := List.all_eq_true.mp rx_schk _ (rx_lk_mem hL)
    split at hs
    · next C n d a he =>
      cases hs
      obtain ⟨N, a⟩ := a
      simp only [he] at h1
      exact va_gets hx hb (hC.2.1 _ _ _ _ _ _ he).1 hS hown (hts _ (rx_has_mem h1)) (fun _ q => q) hd kk
    · next C n d x he =>
      cases hs
      simp only [he] at h1
      exact va_gets hx hb (hC.2.2.1 _ _ _ _ _ he) hS hown (hts _ (rx_has_mem h1)) (fun _ q => q) hd kk
    · cases hs
  · cases hs
theorem rx_h_ldc (hx : p.tables.exec = Jvm.exec) (hb : c.code = cc) (hown : s.vm.findClass (rx_cn co) = some m.cls) (hts : ∀ w ∈ rx_Ts, w.before args s = true) (hC : rx_Con ad base s) (hd : decode cc pc = .ok (.ldc idx, 2)) {v : Value} (hs : rx_ldc co idx = some v) (kk : W p l e R s m args below meth c H locs cells slots Q (F0 m (pc + 2) ls (rx_v ad v :: st.map (rx_v ad)))) :
    W p l e R s m args below meth c H locs cells slots Q (F0 m pc ls (st.map (rx_v ad))) := by
  unfold rx_ldc at hs
  split at hs
  · next x pos hL =>
    cases hs
    have h1 := List.all_eq_true.mp rx_cichk _ (rx_lk_mem hL)
    exact lv_ldc hx hb hown (hts _ (rx_has_mem h1)) hd kk
  · split at hs
    · next k hk =>
      split at hs
      · cases hs
        obtain ⟨tx, hr⟩ := hC.2.2.2.1 co idx k hk
        exact va_ldcS hx hb hown hr hd kk
      · cases hs
    · cases hs
theorem rx_h_math (hx : p.tables.exec = Jvm.exec) (hb : c.code = cc) (hml : c.maxLocals = ls.size) (hown : s.vm.findClass (rx_cn co) = some m.cls) (hts : ∀ w ∈ rx_Ts, w.before args s = true) (hcs : cells ≤ R.cells ∧ slots ≤ R.slots) {w pos : Nat} (hJ : rx_lk rx_JLs co idx = some (w, pos)) (hd : decode cc pc = .ok (.invokestatic idx, 3)) (hs : rx_math w R.frames R.locals st = some st') (kk : W p l e R s m args below meth c H locs cells slots Q (F0 m (pc + 3) ls (st'.map (rx_v ad)))) :
    W p l e R s m args below meth c H locs cells slots Q (F0 m pc ls (st.map (rx_v ad))) := by
  have h1 := List.all_eq_true.mp rx_jlchk _ (rx_lk_mem hJ)
  obtain ⟨w1, w2, w3, w4, w5⟩ := rx_w_mx
  unfold rx_math at hs
  split at hs
  · next y x r =>
    split at hs
    · next hi =>
      split at hs
      · cases hs
        simp only [if_true] at h1
        exact va_mmax hx hb hml hown (hts _ (rx_has_mem h1)) (hts _ w1) (hts _ w2) (hts _ w3) hi.1 (by rw [rx_cats_map]; exact hi.2) hcs.1 hcs.2 hd kk
      · cases hs
        simp only [show (1 : Nat) ≠ 0 by decide, if_false, if_true] at h1
        exact va_mmin hx hb hml hown (hts _ (rx_has_mem h1)) (hts _ w4) (hts _ w2) (hts _ w5) hi.1 (by rw [rx_cats_map]; exact hi.2) hcs.1 hcs.2 hd kk
      · cases hs
    · cases hs
  · cases hs
theorem rx_cn_cl : ∀ ci C T N, vwCl[ci]? = some (C, T, N) → rx_cn ci = C := by
  intro ci C T N h
  have h1 : (List.range vwCl.length).all (fun i => match vwCl[i]? with
    | some (C, _, _) => decide (rx_cn i = C)
    | none => true) = true := by decide +kernel
  have hl : ci < vwCl.length := (List.getElem?_eq_some_iff.mp h).1
  have h2 := List.all_eq_true.mp h1 ci (List.mem_range.mpr hl)
  simp only [h, decide_eq_true_eq] at h2
  exact h2
theorem rx_map1 {α β : Type} {o : Option α} {f : α → β} {b : β} (h : o.map f = some b) : ∃ a, o = some a ∧ f a = b := by
  cases o with
  | none => cases h
  | some a => exact ⟨a, rfl, Option.some.inj h⟩
set_option maxHeartbeats 2000000 in
theorem rx_heap_sim (hx : p.tables.exec = Jvm.exec) (hb : c.code = cc) (hml : c.maxLocals = ls.size) (hown : s.vm.findClass (rx_cn co) = some m.cls) (hts : ∀ w ∈ rx_Ts, w.before args s = true) (hin : ini = true → meth.name = "<init>") (hcs : cells ≤ R.cells ∧ slots ≤ R.slots) (hC : rx_Con ad base s) (hR : rx_Rel D tC ad base s H locs h) {i : Instr} (hd : decode cc pc = .ok (i, len)) (hs : rx_heap co ini R.frames R.locals i len pc st h = some (pc', st', h')) (kk : rx_KH p l e R s m args below meth c cells slots Q D tC ad base ls pc' st' h') :
    W p l e R s m args below meth c H locs cells slots Q (F0 m pc ls (st.map (rx_v ad))) := by
  unfold rx_heap at hs
  split at hs
  · obtain ⟨r, h1, h2⟩ := rx_map1 hs
    cases h2
    exact rx_h_get hx hb hown hts hC hR hd h1 (kk H locs hR)
  · obtain ⟨⟨r, hh⟩, h1, h2⟩ := rx_map1 hs
    cases h2
    exact rx_h_put hx hb hown hts hin rx_cn_cl hR hd h1 kk
  · obtain ⟨r, h1, h2⟩ := rx_map1 hs
    cases h2
    exact rx_h_iald hx hb hC hR hd h1 (kk H locs hR)
  · obtain ⟨r, h1, h2⟩ := rx_map1 hs
    cases h2
    exact rx_h_bald hx hb hC hR hd h1 (kk H locs hR)
  · obtain ⟨r, h1, h2⟩ := rx_map1 hs
    cases h2
    exact rx_h_aald hx hb hR hd h1 (kk H locs hR)
  · obtain ⟨r, h1, h2⟩ := rx_map1 hs
    cases h2
    exact rx_h_alen hx hb hC hR hd h1 (kk H locs hR)
  · obtain ⟨⟨r, hh⟩, h1, h2⟩ := rx_map1 hs
    cases h2
    exact rx_h_iast hx hb hR hd h1 kk
  · obtain ⟨⟨r, hh⟩, h1, h2⟩ := rx_map1 hs
    cases h2
    exact rx_h_bast hx hb hR hd h1 kk
  · obtain ⟨⟨r, hh⟩, h1, h2⟩ := rx_map1 hs
    cases h2
    exact rx_h_aast hx hb hR hd h1 kk
  · obtain ⟨v, h1, h2⟩ := rx_map1 hs
    cases h2
    exact rx_h_stat hx hb hown hts hC hR hd h1 (kk H locs hR)
  · obtain ⟨v, h1, h2⟩ := rx_map1 hs
    cases h2
    exact rx_h_ldc hx hb hown hts hC hd h1 (kk H locs hR)
  · split at hs
    · next x pos hL =>
      cases hs
      have h1 := List.all_eq_true.mp rx_cichk _ (rx_lk_mem hL)
      exact lv_ldcw hx hb hown (hts _ (rx_has_mem h1)) hd (kk H locs hR)
    · cases hs
  · split at hs
    · next x pos hL =>
      cases hs
      have h1 := List.all_eq_true.mp rx_cjchk _ (rx_lk_mem hL)
      exact lv_ldc2 hx hb hown (hts _ (rx_has_mem h1)) hd (kk H locs hR)
    · cases hs
  · split at hs
    · next pos k r hL =>
      split at hs
      · next hi =>
        cases hs
        have h1 := List.all_eq_true.mp rx_olchk _ (rx_lk_mem hL)
        have hw := rx_w_oi
        exact W.objInit hx hb hown (hts _ (rx_has_mem h1)) (hts _ hw.1) (hts _ hw.2.1) rfl hml.symm rfl hd hi.1 (by
          have hz := hi.2
          show 2 * (F0 m pc ls _).monitorRoom + _ + 12 ≤ _
          have e0 : ∀ x, (F0 m pc ls x).monitorRoom = 0 := fun _ => rfl
          rw [rx_cats_map, e0]
          omega) (kk H locs hR)
      · cases hs
    · cases hs
  · split at hs
    · next pos hL =>
      obtain ⟨⟨r, hh⟩, h1, h2⟩ := rx_map1 hs
      cases h2
      exact rx_h_copy hx hb hml hown hts hL hR hd h1 kk
    · split at hs
      · next w pos hJ =>
        obtain ⟨r, h1, h2⟩ := rx_map1 hs
        cases h2
        exact rx_h_math hx hb hml hown hts hcs hJ hd h1 (kk H locs hR)
      · cases hs
  · cases hs
end RXI
