/-! the machine does what rx_heap does: all of it -/
set_option maxRecDepth 100000 in
theorem rx_jlchk : rx_JLs.all (fun q => if q.2.1 = 0 then rx_has q.2.2 (.methodLink (rx_cn q.1.1) q.1.2 Lib.Math.max.name) else if q.2.1 = 1 then rx_has q.2.2 (.methodLink (rx_cn q.1.1) q.1.2 Lib.Math.min.name) else true) = true := by decide +kernel
set_option maxRecDepth 100000 in
theorem rx_w_mx : Cond.static Lib.Math.max.name ∈ rx_Ts ∧ Cond.initialized "java/lang/Math" ∈ rx_Ts ∧ Cond.code Lib.Math.max.name Lib.Math.max.code 2 (some .int) ∈ rx_Ts ∧ Cond.static Lib.Math.min.name ∈ rx_Ts ∧ Cond.code Lib.Math.min.name Lib.Math.min.code 2 (some .int) ∈ rx_Ts := by
  have h := rx_in2_mem (ws := [Cond.static Lib.Math.max.name, Cond.initialized "java/lang/Math", Cond.code Lib.Math.max.name Lib.Math.max.code 2 (some .int), Cond.static Lib.Math.min.name, Cond.code Lib.Math.min.name Lib.Math.min.code 2 (some .int)]) (by decide +kernel)
  exact ⟨h _ (by simp), h _ (by simp), h _ (by simp), h _ (by simp), h _ (by simp)⟩
section RXW
variable {p : Program} {l : Launch} {e : Env} {R : Room} {s : State} {m : MethodId} {args : Array Value} {below : List Frame} {meth : Method} {c : Code} {H : Heap} {locs : List Loc} {uc us : Nat} {Q : State → Prop} {pc : Nat} {ls : Array Slot}
theorem rx_callW {mc ms : Nat} {st0 rest : List Value} {Qa : State → Outcome → State → Prop} {free : Addr → Prop} (hr : va_Run p l e R s m args below meth c H locs uc us mc ms (F0 m pc ls st0) rest Qa free)
    (kk : ∀ (v : Option Value) (st₀ t : State) (H1 : Heap) (L : List Loc), st₀.heap = H → t.heap = H1 → Qa st₀ (.returned v) t → (∀ q ∈ L, free q.base) → W p l e R s m args below meth c H1 (locs ++ L) (uc + mc) (us + ms) Q (F0 m (pc + 3) ls (v.toList ++ rest))) : W p l e R s m args below meth c H locs uc us Q (F0 m pc ls st0) := by
  intro T hT X
  obtain ⟨v, st₀, t, T', L, h0, X', hL, e1, e2, hq, st⟩ := hr T hT X
  obtain ⟨t2, a1, b1⟩ := kk v st₀ t T'.heap L h0 e1.symm hq hL T' rfl X'
  exact ⟨t2, st t2 a1, b1⟩
end RXW
/-! String.checkIndex of an index within: by hand -/
set_option maxRecDepth 100000 in
theorem rx_xlchk : rx_XLs.all (fun q => rx_has q.2 (.methodLink (rx_cn q.1.1) q.1.2 (rm_y rx_ciM))) = true := by decide +kernel
set_option maxRecDepth 100000 in
theorem rx_w_ci : Cond.fieldLink "java/lang/String" rx_cii.1 "jdk/internal/util/Preconditions" "SIOOBE_FORMATTER" "Ljava/util/function/BiFunction;" ∈ rx_Ts ∧ Cond.methodLink "java/lang/String" rx_cii.2 (rm_y rx_pcM) ∈ rx_Ts := by
  have h := rx_in2_mem (ws := [Cond.fieldLink "java/lang/String" rx_cii.1 "jdk/internal/util/Preconditions" "SIOOBE_FORMATTER" "Ljava/util/function/BiFunction;", Cond.methodLink "java/lang/String" rx_cii.2 (rm_y rx_pcM)]) (by decide +kernel)
  exact ⟨h _ (by simp), h _ (by simp)⟩
theorem rx_ci_in : rx_ciM ∈ rx_MT ∧ rx_pcM ∈ rx_MT := by
  have e : ∃ i j, rx_MT[i]? = some rx_ciM ∧ rx_MT[j]? = some rx_pcM := ⟨181, 182, rfl, rfl⟩
  obtain ⟨i, j, h1, h2⟩ := e
  exact ⟨List.mem_of_getElem? h1, List.mem_of_getElem? h2⟩
theorem rx_d_pc : decode (rm_code rx_pcM) 0 = .ok (.iload_n 0, 1) ∧ decode (rm_code rx_pcM) 1 = .ok (.ifCond .lt 8, 3) ∧ decode (rm_code rx_pcM) 4 = .ok (.iload_n 0, 1) ∧ decode (rm_code rx_pcM) 5 = .ok (.iload_n 1, 1) ∧ decode (rm_code rx_pcM) 6 = .ok (.if_icmp .lt 10, 3) ∧ decode (rm_code rx_pcM) 16 = .ok (.iload_n 0, 1) ∧ decode (rm_code rx_pcM) 17 = .ok (.ireturn, 1) := by decide +kernel
theorem rx_d_ci : decode (rm_code rx_ciM) 0 = .ok (.iload_n 0, 1) ∧ decode (rm_code rx_ciM) 1 = .ok (.iload_n 1, 1) ∧ decode (rm_code rx_ciM) 2 = .ok (.getstatic rx_cii.1, 3) ∧ decode (rm_code rx_ciM) 5 = .ok (.invokestatic rx_cii.2, 3) ∧ decode (rm_code rx_ciM) 8 = .ok (.pop, 1) ∧ decode (rm_code rx_ciM) 9 = .ok (.return_, 1) := by decide +kernel
theorem rx_good {w : Cond} (h : w ∈ rx_Ts) : (w.onTables && w.keeps) = true ∨ ∃ ty, w = .arrayClass ty := good_of_word (List.mem_filter.mp h).2
theorem rx_GoodIn {Z : rx_M} (hZ : Z ∈ rx_MT) : GoodIn rx_Ts (rm_ws Z) := by
  intro w hw
  have : w ∈ rx_Ts := (List.mem_cons.mp hw).elim (fun e => e ▸ rx_cw_all Z hZ) id
  exact ⟨this, rx_good this⟩
theorem rx_m_pc (l : Launch) {i n : Int32} {v : Value} (hv : v = .null ∨ ∃ t, v = .ref t) (h1 : ¬ i < 0) (h2 : i < n) : Met l (rm_y rx_pcM) (rm_ws rx_pcM) { frames := 0, cells := 0, slots := 0, locals := 0 } (va_Pc [.int i, .int n, v] (fun _ => True)) (fun _ st oc t => oc = .returned (some (.int i)) ∧ t.heap = st.heap) 0 0 (fun _ => False) := by
  obtain ⟨d0, d1, d4, d5, d6, d16, d17⟩ := rx_d_pc
  refine Met.ofW (cc := rm_code rx_pcM) (maxL := 3) (ret := some .int) (by decide) rfl ?_
  intro p e s m args below meth c s₁ B hml hv0
  obtain ⟨rfl, -⟩ := hv0
  have hx := B.exec
  have hb := B.bytes
  have hr := B.returns
  have hlocks := B.notSynchronized
  have hl := lv_entry ([.int i, .int n, v]) (n := 3) (by rcases hv with rfl | ⟨t, rfl⟩ <;> exact Nat.le_of_ble_eq_true rfl)
  rw [lg_entry_eq]
  generalize (lg_sl ([.int i, .int n, v]) ++ List.replicate (3 - (lg_sl ([.int i, .int n, v])).length) Slot.unset).toArray = ls at hl ⊢
  have hl0 : ls[0]? = some (.val (.int i)) := lv_at hl 0 rfl
  have hl1 : ls[1]? = some (.val (.int n)) := lv_at hl 1 rfl
  refine lv_iload_n hx hb d0 rfl hl0 ?_
  refine lv_if_lt (tgt := 9) hx hb d1 (by decide) (fun q => absurd q h1) (fun _ => ?_)
  refine lv_iload_n hx hb d4 rfl hl0 ?_
  refine lv_iload_n hx hb d5 rfl hl1 ?_
  refine lv_icmp_lt (tgt := 16) hx hb d6 (by decide) (fun _ => ?_) (fun q => absurd h2 q)
  refine lv_iload_n hx hb d16 rfl hl0 ?_
  exact W.iret hx hb hr (fun t ht _ => ⟨rfl, ht⟩) (fun _ h => by cases h) d17 hlocks
theorem rx_m_ci (l : Launch) (base : Nat) {i n : Int32} (h1 : ¬ i < 0) (h2 : i < n) : Met l (rm_y rx_ciM) (rm_ws rx_ciM) { frames := 1, cells := 0, slots := 0, locals := 22 } (va_Pc [.int i, .int n] (fun U => va_Zq "jdk/internal/util/Preconditions" "SIOOBE_FORMATTER" "Ljava/util/function/BiFunction;" (rx_A base) U U.heap)) (fun _ st oc t => oc = .returned none ∧ t.heap = st.heap) 0 0 (fun _ => False) := by
  obtain ⟨d0, d1, d2, d5, d8, d9⟩ := rx_d_ci
  obtain ⟨w1, w2⟩ := rx_w_ci
  refine Met.ofW (cc := rm_code rx_ciM) (maxL := 2) (ret := none) (by decide) rfl ?_
  intro p e s m args below meth c s₁ B hml hv0
  obtain ⟨rfl, hZ⟩ := hv0
  have hx := B.exec
  have hb := B.bytes
  have hr := B.returns
  have hlocks := B.notSynchronized
  have hts0 := atoms_spec (ws := rm_ws rx_ciM) B.pre
  have hts : ∀ w ∈ rx_Ts, w.before #[Value.int i, Value.int n] s = true := fun w hw => hts0 w (List.mem_cons_of_mem _ hw)
  have hown : s.vm.findClass "java/lang/String" = some m.cls := findClass_of_methodNamed B.named
  have hl := lv_entry ([.int i, .int n]) (n := 2) (Nat.le_of_ble_eq_true rfl)
  rw [lg_entry_eq]
  generalize (lg_sl ([.int i, .int n]) ++ List.replicate (2 - (lg_sl ([.int i, .int n])).length) Slot.unset).toArray = ls at hl ⊢
  have hl : lv_has ls 2 [(0, .int i), (1, .int n)] := hl
  refine lv_iload_n hx hb d0 rfl (lv_at hl 0 rfl) ?_
  refine lv_iload_n hx hb d1 rfl (lv_at hl 1 rfl) ?_
  have hS : va_S (rx_A base) s.heap s.heap [] := va_S.rf
  have go : ∀ v : Value, (v = .null ∨ ∃ t, v = .ref t) → va_Z "jdk/internal/util/Preconditions" "SIOOBE_FORMATTER" "Ljava/util/function/BiFunction;" v (rx_A base) s s.heap → W p l e (headSpec (rm_ws rx_ciM) { frames := 1, cells := 0, slots := 0, locals := 22 }).room s m #[Value.int i, Value.int n] below meth c s.heap [] 0 0 (MQ below (fun _ st oc t => oc = .returned none ∧ t.heap = st.heap) #[Value.int i, Value.int n] s 0 0 (fun _ => False)) (F0 m 2 ls [.int n, .int i]) := by
    intro v hv hz
    refine va_gets hx hb hz hS hown (hts _ w1) (fun _ q => q) d2 ?_
    obtain ⟨q, hq⟩ := rx_mt_all rx_pcM rx_ci_in.2
    have hw := rx_GoodIn rx_ci_in.2
    have hk : Cond.initialized (rm_y rx_pcM).cls ∈ rx_Ts ∧ Cond.static (rm_y rx_pcM) ∈ rx_Ts := by
      unfold rx_mchk at hq
      simp only [Bool.and_eq_true, decide_eq_true_eq] at hq
      have h7 := hq.2
      rw [if_pos (by decide)] at h7
      exact ⟨rx_has_mem hq.1.1.1.1.1.1, rx_has_mem h7⟩
    refine rx_callW (rest := []) (va_runS (As := [.int i, .int n, v]) (rest := []) ⟨hx, hb, hml, hown, hts⟩ (rx_m_pc l hv h1 h2) ⟨callB_of 3 hts hw rfl rfl rfl (hts _ hk.1) (hts _ w2) (by decide) ⟨Nat.le_refl _, Nat.le_of_ble_eq_true rfl⟩, hts _ hk.2⟩ ⟨fun a U g mk q => q, fun U hU hW => ⟨rfl, trivial⟩⟩ rfl rfl hl.1 rfl (by exact Nat.le_of_ble_eq_true rfl) d5 ⟨Nat.le_refl _, Nat.le_refl _⟩) (fun v1 st₀ t H1 L e0 e1 hq1 hL => ?_)
    obtain ⟨g1, g2⟩ := hq1
    cases g1
    have eH : H1 = s.heap := by rw [← e1, g2, e0]
    subst eH
    refine lv_pop hx hb d8 rfl ?_
    exact W.vret hx hb hr (fun t ht _ => ⟨rfl, ht⟩) (fun q hq => by
      rcases List.mem_append.mp hq with h | h
      · cases h
      · exact (hL q h).elim) d9 hlocks
  rcases hZ with hz | ⟨t, hz⟩
  · exact go .null (Or.inl rfl) hz
  · exact go (.ref t) (Or.inr ⟨t, rfl⟩) hz
section RXI
variable {p : Program} {l : Launch} {e : Env} {R : Room} {s : State} {m : MethodId} {args : Array Value} {below : List Frame} {meth : Method} {c : Code} {H : Heap} {locs : List Loc} {cells slots : Nat} {Q : State → Prop}
variable {cc : ByteArray} {pc pc' nL len co idx base : Nat} {ini : Bool} {ls : Array Slot} {D : va_G} {tC : Nat → ClassId} {ad : Nat → Nat} {st st' : List Value} {h h' : rx_H}
theorem rx_h_stat (hx : p.tables.exec = Jvm.exec) (hb : c.code = cc) (hown : s.vm.findClass (rx_cn co) = some m.cls) (hts : ∀ w ∈ rx_Ts, w.before args s = true) (hC : rx_Con ad base s) (hR : rx_Rel D tC ad base s H locs h) (hd : decode cc pc = .ok (.getstatic idx, 3)) {v : Value} (hs : rx_stat co idx = some v) (kk : W p l e R s m args below meth c H locs cells slots Q (F0 m (pc + 3) ls (rx_v ad v :: st.map (rx_v ad)))) :
    W p l e R s m args below meth c H locs cells slots Q (F0 m pc ls (st.map (rx_v ad))) := by
  obtain ⟨hK, hP, hD, hS⟩ := hR
  unfold rx_stat at hs
  split at hs
  · next k pos hL =>
    have h1 := List.all_eq_true.mp rx_schk _ (rx_lk_mem hL)
    split at hs
    · next C n d a he =>
      cases hs
      obtain ⟨N, a⟩ := a
      simp only [he] at h1
      exact va_gets hx hb (hC.2.1 _ _ _ _ _ _ he).1 hS hown (hts _ (rx_has_mem h1)) (fun _ q => q) hd kk
    · next C n d x he =>
      cases hs
      simp only [he] at h1
      exact va_gets hx hb (hC.2.2.1 _ _ _ _ _ he) hS hown (hts _ (rx_has_mem h1)) (fun _ q => q) hd kk
    · cases hs
  · cases hs
theorem rx_h_ldc (hx : p.tables.exec = Jvm.exec) (hb : c.code = cc) (hown : s.vm.findClass (rx_cn co) = some m.cls) (hts : ∀ w ∈ rx_Ts, w.before args s = true) (hC : rx_Con ad base s) (hd : decode cc pc = .ok (.ldc idx, 2)) {v : Value} (hs : rx_ldc co idx = some v) (kk : W p l e R s m args below meth c H locs cells slots Q (F0 m (pc + 2) ls (rx_v ad v :: st.map (rx_v ad)))) :
    W p l e R s m args below meth c H locs cells slots Q (F0 m pc ls (st.map (rx_v ad))) := by
  unfold rx_ldc at hs
  split at hs
  · next x pos hL =>
    cases hs
    have h1 := List.all_eq_true.mp rx_cichk _ (rx_lk_mem hL)
    exact lv_ldc hx hb hown (hts _ (rx_has_mem h1)) hd kk
  · split at hs
    · next k hk =>
      split at hs
      · cases hs
        obtain ⟨tx, hr⟩ := hC.2.2.2.1 co idx k hk
        exact va_ldcS hx hb hown hr hd kk
      · cases hs
    · cases hs
theorem rx_ldcwS {T : State} (X : Stand p l e R s m args below meth c T locs cells slots) (hexec : p.tables.exec = Jvm.exec) {own text : String} {index : Nat} {a : Addr} (hown : s.vm.findClass own = some m.cls)
    (hconst : (Cond.stringRef own index text).before args s = true) (hev : (Term.string own index).eval args s none [] s = some (.ref a)) {g : JFrame} (hg : g.method = m) (hdg : decode c.code g.pc = .ok (.ldc_w index, 3)) :
    ∀ target, Steps p.tables e below (T.setTop { g with pc := g.pc + 3, stack := .ref a :: g.stack }) target → Steps p.tables e below (T.setTop g) target := by
  obtain ⟨k, cf, i, a', hk, hcf, hcp, -, hr, hev'⟩ := Cond.stringRef_spec hown hconst
  cases hev.symm.trans hev'
  obtain ⟨k', hk', he⟩ := X.warmed.alike.2.2 _ _ hk
  have hr' : k'.resolved[index]? = some (some (.string a)) := by
    rcases X.warmed.entry hk hk' index with h | ⟨h, -⟩
    · rw [h]; exact hr
    · rw [hr] at h; cases h
  intro target hrest
  subst hg
  jvm_step X.here [hexec, hdg, Op.ldc_w.wp_string (e := e) (s := T) (f := g) X.here.top hk' (by rw [he]; exact hcf) hcp hr']
  exact hrest
theorem rx_h_ldcw (hx : p.tables.exec = Jvm.exec) (hb : c.code = cc) (hown : s.vm.findClass (rx_cn co) = some m.cls) (hts : ∀ w ∈ rx_Ts, w.before args s = true) (hC : rx_Con ad base s) (hd : decode cc pc = .ok (.ldc_w idx, 3)) {v : Value} (hs : rx_ldc co idx = some v) (kk : W p l e R s m args below meth c H locs cells slots Q (F0 m (pc + 3) ls (rx_v ad v :: st.map (rx_v ad)))) :
    W p l e R s m args below meth c H locs cells slots Q (F0 m pc ls (st.map (rx_v ad))) := by
  unfold rx_ldc at hs
  split at hs
  · next x pos hL =>
    cases hs
    have h1 := List.all_eq_true.mp rx_cichk _ (rx_lk_mem hL)
    exact lv_ldcw hx hb hown (hts _ (rx_has_mem h1)) hd kk
  · split at hs
    · next k hk =>
      split at hs
      · cases hs
        obtain ⟨tx, hr⟩ := hC.2.2.2.1 co idx k hk
        intro T hT X
        obtain ⟨t, a1, b1⟩ := kk T hT X
        exact ⟨t, rx_ldcwS X hx hown (text := tx) (a := ad (1000000 + k)) hr.1 hr.2 (g := F0 m pc ls (st.map (rx_v ad))) rfl (by rw [hb]; exact hd) t a1, b1⟩
      · cases hs
    · cases hs
theorem rx_h_math (hx : p.tables.exec = Jvm.exec) (hb : c.code = cc) (hml : c.maxLocals = ls.size) (hown : s.vm.findClass (rx_cn co) = some m.cls) (hts : ∀ w ∈ rx_Ts, w.before args s = true) (hcs : cells ≤ R.cells ∧ slots ≤ R.slots) {w pos : Nat} (hJ : rx_lk rx_JLs co idx = some (w, pos)) (hd : decode cc pc = .ok (.invokestatic idx, 3)) (hs : rx_math w R.frames R.locals st = some st') (kk : W p l e R s m args below meth c H locs cells slots Q (F0 m (pc + 3) ls (st'.map (rx_v ad)))) :
    W p l e R s m args below meth c H locs cells slots Q (F0 m pc ls (st.map (rx_v ad))) := by
  have h1 := List.all_eq_true.mp rx_jlchk _ (rx_lk_mem hJ)
  obtain ⟨w1, w2, w3, w4, w5⟩ := rx_w_mx
  unfold rx_math at hs
  split at hs
  · next y x r =>
    split at hs
    · next hi =>
      split at hs
      · cases hs
        simp only [if_true] at h1
        exact va_mmax hx hb hml hown (hts _ (rx_has_mem h1)) (hts _ w1) (hts _ w2) (hts _ w3) hi.1 (by rw [rx_cats_map]; exact hi.2) hcs.1 hcs.2 hd kk
      · cases hs
        simp only [show (1 : Nat) ≠ 0 by decide, if_false, if_true] at h1
        exact va_mmin hx hb hml hown (hts _ (rx_has_mem h1)) (hts _ w4) (hts _ w2) (hts _ w5) hi.1 (by rw [rx_cats_map]; exact hi.2) hcs.1 hcs.2 hd kk
      · cases hs
    · cases hs
  · cases hs
theorem rx_h_ci (hx : p.tables.exec = Jvm.exec) (hb : c.code = cc) (hml : c.maxLocals = ls.size) (hown : s.vm.findClass (rx_cn co) = some m.cls) (hts : ∀ w ∈ rx_Ts, w.before args s = true) (hcs : cells ≤ R.cells ∧ slots ≤ R.slots) (hC : rx_Con ad base s) (hR : rx_Rel D tC ad base s H locs h) {pos : Nat} (hX : rx_lk rx_XLs co idx = some pos) (hd : decode cc pc = .ok (.invokestatic idx, 3)) {i n : Int32} {r : List Value} (h1 : ¬ i < 0) (h2 : i < n) (h3 : 2 ≤ R.frames) (h4 : 43 ≤ R.locals) (h5 : rx_cats r ≤ 8)
    (kk : rx_KH p l e R s m args below meth c cells slots Q D tC ad base ls (pc + 3) r h) :
    W p l e R s m args below meth c H locs cells slots Q (F0 m pc ls (.int n :: .int i :: r.map (rx_v ad))) := by
  have hlk := List.all_eq_true.mp rx_xlchk _ (rx_lk_mem hX)
  obtain ⟨q, hq⟩ := rx_mt_all rx_ciM rx_ci_in.1
  have hk : Cond.initialized (rm_y rx_ciM).cls ∈ rx_Ts ∧ Cond.static (rm_y rx_ciM) ∈ rx_Ts := by
    unfold rx_mchk at hq
    simp only [Bool.and_eq_true, decide_eq_true_eq] at hq
    have h7 := hq.2
    rw [if_pos (by decide)] at h7
    exact ⟨rx_has_mem hq.1.1.1.1.1.1, rx_has_mem h7⟩
  obtain ⟨hK, hP, hD, hS⟩ := hR
  have e0 : ∀ x, (F0 m pc ls x).monitorRoom = 0 := fun _ => rfl
  refine rx_callW (rest := r.map (rx_v ad)) (va_runS (As := [.int i, .int n]) (rest := r.map (rx_v ad)) ⟨hx, hb, hml, hown, hts⟩ (rx_m_ci l base h1 h2) ⟨callB_of 2 hts (rx_GoodIn rx_ci_in.1) rfl rfl rfl (hts _ hk.1) (hts _ (rx_has_mem hlk)) (by decide) ⟨h3, h4⟩, hts _ hk.2⟩ ⟨fun a U g mk q => q, fun U hU hW => ⟨rfl, ((hC.2.2.2.2.2.2).moved hW.alike).kept (fun a g1 g2 => by rw [hU]; exact hS.2.1 a g1 g2)⟩⟩ rfl rfl rfl rfl (by rw [rx_cats_map, e0]; omega) hd ⟨hcs.1, hcs.2⟩) (fun v1 st₀ t H1 L e2 e1 hq1 hL => ?_)
  obtain ⟨g1, g2⟩ := hq1
  cases g1
  have eH : H1 = H := by rw [← e1, g2, e2]
  subst eH
  exact kk H1 (locs ++ L) ⟨hK, hP, hD, hS.1, hS.2.1, fun z hz => (List.mem_append.mp hz).elim (hS.2.2 z) (fun h => (hL z h).elim)⟩
theorem rx_cn_cl : ∀ ci C T N, vwCl[ci]? = some (C, T, N) → rx_cn ci = C := by
  intro ci C T N h
  have h1 : (List.range vwCl.length).all (fun i => match vwCl[i]? with
    | some (C, _, _) => decide (rx_cn i = C)
    | none => true) = true := by decide +kernel
  have hl : ci < vwCl.length := (List.getElem?_eq_some_iff.mp h).1
  have h2 := List.all_eq_true.mp h1 ci (List.mem_range.mpr hl)
  simp only [h, decide_eq_true_eq] at h2
  exact h2
theorem rx_map1 {α β : Type} {o : Option α} {f : α → β} {b : β} (h : o.map f = some b) : ∃ a, o = some a ∧ f a = b := by
  cases o with
  | none => cases h
  | some a => exact ⟨a, rfl, Option.some.inj h⟩
set_option maxHeartbeats 2000000 in
theorem rx_heap_sim (hx : p.tables.exec = Jvm.exec) (hb : c.code = cc) (hml : c.maxLocals = ls.size) (hown : s.vm.findClass (rx_cn co) = some m.cls) (hts : ∀ w ∈ rx_Ts, w.before args s = true) (hin : ini = true → meth.name = "<init>") (hcs : cells ≤ R.cells ∧ slots ≤ R.slots) (hC : rx_Con ad base s) (hR : rx_Rel D tC ad base s H locs h) {i : Instr} (hd : decode cc pc = .ok (i, len)) (hs : rx_heap co ini R.frames R.locals i len pc st h = some (pc', st', h')) (kk : rx_KH p l e R s m args below meth c cells slots Q D tC ad base ls pc' st' h') :
    W p l e R s m args below meth c H locs cells slots Q (F0 m pc ls (st.map (rx_v ad))) := by
  unfold rx_heap at hs
  split at hs
  · obtain ⟨r, h1, h2⟩ := rx_map1 hs
    cases h2
    exact rx_h_get hx hb hown hts hC hR hd h1 (kk H locs hR)
  · obtain ⟨⟨r, hh⟩, h1, h2⟩ := rx_map1 hs
    cases h2
    exact rx_h_put hx hb hown hts hin rx_cn_cl hR hd h1 kk
  · obtain ⟨r, h1, h2⟩ := rx_map1 hs
    cases h2
    exact rx_h_iald hx hb hC hR hd h1 (kk H locs hR)
  · obtain ⟨r, h1, h2⟩ := rx_map1 hs
    cases h2
    exact rx_h_bald hx hb hC hR hd h1 (kk H locs hR)
  · obtain ⟨r, h1, h2⟩ := rx_map1 hs
    cases h2
    exact rx_h_aald hx hb hR hd h1 (kk H locs hR)
  · obtain ⟨r, h1, h2⟩ := rx_map1 hs
    cases h2
    exact rx_h_alen hx hb hC hR hd h1 (kk H locs hR)
  · obtain ⟨⟨r, hh⟩, h1, h2⟩ := rx_map1 hs
    cases h2
    exact rx_h_iast hx hb hR hd h1 kk
  · obtain ⟨⟨r, hh⟩, h1, h2⟩ := rx_map1 hs
    cases h2
    exact rx_h_bast hx hb hR hd h1 kk
  · obtain ⟨⟨r, hh⟩, h1, h2⟩ := rx_map1 hs
    cases h2
    exact rx_h_aast hx hb hR hd h1 kk
  · obtain ⟨v, h1, h2⟩ := rx_map1 hs
    cases h2
    exact rx_h_stat hx hb hown hts hC hR hd h1 (kk H locs hR)
  · obtain ⟨v, h1, h2⟩ := rx_map1 hs
    cases h2
    exact rx_h_ldc hx hb hown hts hC hd h1 (kk H locs hR)
  · obtain ⟨v, h1, h2⟩ := rx_map1 hs
    cases h2
    exact rx_h_ldcw hx hb hown hts hC hd h1 (kk H locs hR)
  · split at hs
    · next x pos hL =>
      cases hs
      have h1 := List.all_eq_true.mp rx_cjchk _ (rx_lk_mem hL)
      exact lv_ldc2 hx hb hown (hts _ (rx_has_mem h1)) hd (kk H locs hR)
    · cases hs
  · split at hs
    · next pos k r hL =>
      split at hs
      · next hi =>
        cases hs
        have h1 := List.all_eq_true.mp rx_olchk _ (rx_lk_mem hL)
        have hw := rx_w_oi
        exact W.objInit hx hb hown (hts _ (rx_has_mem h1)) (hts _ hw.1) (hts _ hw.2.1) rfl hml.symm rfl hd hi.1 (by
          have hz := hi.2
          show 2 * (F0 m pc ls _).monitorRoom + _ + 12 ≤ _
          have e0 : ∀ x, (F0 m pc ls x).monitorRoom = 0 := fun _ => rfl
          rw [rx_cats_map, e0]
          omega) (kk H locs hR)
      · cases hs
    · cases hs
  · split at hs
    · next pos hL =>
      obtain ⟨⟨r, hh⟩, h1, h2⟩ := rx_map1 hs
      cases h2
      exact rx_h_copy hx hb hml hown hts hL hR hd h1 kk
    · split at hs
      · next w pos hJ =>
        obtain ⟨r, h1, h2⟩ := rx_map1 hs
        cases h2
        exact rx_h_math hx hb hml hown hts hcs hJ hd h1 (kk H locs hR)
      · split at hs
        · next pos n i r hX =>
          split at hs
          · next hi =>
            cases hs
            exact rx_h_ci hx hb hml hown hts hcs hC hR hX hd hi.1 hi.2.1 hi.2.2.1 hi.2.2.2.1 hi.2.2.2.2 kk
          · cases hs
        · cases hs
  · cases hs
end RXI
