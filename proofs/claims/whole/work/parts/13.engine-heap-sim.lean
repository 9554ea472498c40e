/-! the machine does what rx_heap does -/
theorem rx_n1 {k : Nat} (h : 1000000 ≤ k) : 1000000 + (k - 1000000) = k := by omega
theorem rx_n2 {k : Nat} (h : 1000000 ≤ k) : 2000000 + (k - 1000000) = k + 1000000 := by omega
theorem rx_n3 {k : Nat} (h : 2000000 ≤ k) : 2000000 + (k - 2000000) = k := by omega
theorem rx_n4 {k : Nat} (h : 3000000 ≤ k) : 3000000 + (k - 3000000) = k := by omega
set_option maxRecDepth 100000 in
theorem rx_schk : rx_SLs.all (fun q => match rx_sn[q.2.1]? with
  | some (C, n, d, _) => rx_has q.2.2 (.fieldLink (rx_cn q.1.1) q.1.2 C n d)
  | none => false) = true := by decide +kernel
set_option maxRecDepth 100000 in
theorem rx_kchk : rx_KLs.all (fun q => if q.2.1 = 0 then rx_has q.2.2 (.fieldLink (rx_cn q.1.1) q.1.2 "java/lang/String" "coder" "B") else rx_has q.2.2 (.fieldLink (rx_cn q.1.1) q.1.2 "java/lang/String" "value" "[B")) = true := by decide +kernel
set_option maxRecDepth 100000 in
theorem rx_cichk : rx_CIs.all (fun q => rx_has q.2.2 (.constant (rx_cn q.1.1) q.1.2 q.2.1)) = true := by decide +kernel
set_option maxRecDepth 100000 in
theorem rx_cjchk : rx_CJs.all (fun q => rx_has q.2.2 (.constantLong (rx_cn q.1.1) q.1.2 q.2.1)) = true := by decide +kernel
set_option maxRecDepth 100000 in
theorem rx_olchk : rx_OLs.all (fun q => rx_has q.2 (.methodLink (rx_cn q.1.1) q.1.2 Lib.objectInit)) = true := by decide +kernel
set_option maxRecDepth 100000 in
theorem rx_ylchk : rx_YLs.all (fun q => rx_has q.2 (.methodLink (rx_cn q.1.1) q.1.2 arraycopyName)) = true := by decide +kernel
set_option maxRecDepth 100000 in
theorem rx_w_oi : Cond.instanceMethod Lib.objectInit ∈ rx_Ts ∧ Cond.code Lib.objectInit ⟨#[0xb1]⟩ 1 none ∈ rx_Ts ∧ Cond.native arraycopyName ∈ rx_Ts ∧ Cond.static arraycopyName ∈ rx_Ts ∧ Cond.initialized "java/lang/System" ∈ rx_Ts := by
  have h := rx_in2_mem (ws := [Cond.instanceMethod Lib.objectInit, Cond.code Lib.objectInit ⟨#[0xb1]⟩ 1 none, Cond.native arraycopyName, Cond.static arraycopyName, Cond.initialized "java/lang/System"]) (by decide +kernel)
  exact ⟨h _ (by simp), h _ (by simp), h _ (by simp), h _ (by simp), h _ (by simp)⟩
theorem rx_nfw : nativeFrameWords "java/lang/System" "arraycopy" 5 + 11 ≤ 40 := by decide +kernel
theorem rx_el_ok : rx_el.all (fun q => match vwCl[q.2]? with
  | some (C, _, _) => decide (rx_ty[q.1]? = some (.object C)) && decide (rx_cn q.2 = C)
  | none => false) = true := by decide +kernel
section RXH
variable {p : Program} {l : Launch} {e : Env} {R : Room} {s : State} {m : MethodId} {args : Array Value} {below : List Frame} {meth : Method} {c : Code} {H : Heap} {locs : List Loc} {cells slots : Nat} {Q : State → Prop}
variable {cc : ByteArray} {pc pc' nL len co idx base : Nat} {ini : Bool} {ls : Array Slot} {D : va_G} {tC : Nat → ClassId} {ad : Nat → Nat} {st st' : List Value} {h h' : rx_H}
/-- the goal behind an instruction that may write -/
def rx_KH (p : Program) (l : Launch) (e : Env) (R : Room) (s : State) (m : MethodId) (args : Array Value) (below : List Frame) (meth : Method) (c : Code) (cells slots : Nat) (Q : State → Prop) (D : va_G) (tC : Nat → ClassId) (ad : Nat → Nat) (base : Nat) (ls : Array Slot) (pc : Nat) (st : List Value) (h : rx_H) : Prop :=
  ∀ (H : Heap) (locs : List Loc), rx_Rel D tC ad base s H locs h → W p l e R s m args below meth c H locs cells slots Q (F0 m pc ls (st.map (rx_v ad)))
theorem rx_h_get (hx : p.tables.exec = Jvm.exec) (hb : c.code = cc) (hown : s.vm.findClass (rx_cn co) = some m.cls) (hts : ∀ w ∈ rx_Ts, w.before args s = true) (hC : rx_Con ad base s) (hR : rx_Rel D tC ad base s H locs h) (hd : decode cc pc = .ok (.getfield idx, 3)) (hs : rx_get co idx st h = some st') (kk : W p l e R s m args below meth c H locs cells slots Q (F0 m (pc + 3) ls (st'.map (rx_v ad)))) :
    W p l e R s m args below meth c H locs cells slots Q (F0 m pc ls (st.map (rx_v ad))) := by
  obtain ⟨hK, hP, hD, hS⟩ := hR
  unfold rx_get at hs
  split at hs
  · next k r =>
    split at hs
    · next ci fk ty fin pos hL =>
      split at hs
      · next cj fs hk =>
        split at hs
        · next hcc =>
          subst hcc
          split at hs
          · next v hv =>
            cases hs
            obtain ⟨C, T, N, h1, h2, h3, h4, h5, h6⟩ := rx_FL_ok hL
            exact va_get (D := D) (C := C) (T := T) (N := N) hx hb hts (rx_cl_ok h1).1 hown hK hP k (rx_w_get hk) h1 fk h2 (hts _ h3) (fun _ q => q) (by simp [hv]) hd kk
          · cases hs
        · cases hs
      · cases hs
    · next hL =>
      split at hs
      · next pos hk2 =>
        split at hs
        · next hk =>
          cases hs
          have h1 := List.all_eq_true.mp rx_kchk _ (rx_lk_mem hk2)
          simp only [if_true] at h1
          have h2 := (hC.1.1 _ hk.2).2.1
          dsimp only at h2
          rw [rx_n1 hk.1] at h2
          exact vk_getf hx hb h2 hS hown (hts _ (rx_has_mem h1)) (fun _ q => q) hd kk
        · cases hs
      · next pos hk2 =>
        split at hs
        · next hk =>
          cases hs
          have h1 := List.all_eq_true.mp rx_kchk _ (rx_lk_mem hk2)
          simp only [show (1 : Nat) ≠ 0 by decide, if_false] at h1
          have h2 := (hC.1.1 _ hk.2).2.2.1
          dsimp only at h2
          rw [rx_n1 hk.1, rx_n2 hk.1] at h2
          exact vk_getf hx hb h2 hS hown (hts _ (rx_has_mem h1)) (fun _ q => q) hd kk
        · cases hs
      · cases hs
  · cases hs
theorem rx_h_put (hx : p.tables.exec = Jvm.exec) (hb : c.code = cc) (hown : s.vm.findClass (rx_cn co) = some m.cls) (hts : ∀ w ∈ rx_Ts, w.before args s = true) (hin : ini = true → meth.name = "<init>") (hcn : ∀ ci C T N, vwCl[ci]? = some (C, T, N) → rx_cn ci = C) (hR : rx_Rel D tC ad base s H locs h) (hd : decode cc pc = .ok (.putfield idx, 3)) (hs : rx_put ini co idx st h = some (st', h')) (kk : rx_KH p l e R s m args below meth c cells slots Q D tC ad base ls (pc + 3) st' h') :
    W p l e R s m args below meth c H locs cells slots Q (F0 m pc ls (st.map (rx_v ad))) := by
  obtain ⟨hK, hP, hD, hS⟩ := hR
  unfold rx_put at hs
  split at hs
  · next v k r =>
    split at hs
    · next ci fk ty fin pos hL =>
      split at hs
      · next cj fs hk =>
        split at hs
        · next hcc =>
          obtain ⟨e1, hlen, hfit, hfin⟩ := hcc
          subst e1
          simp only [Option.some.injEq, Prod.mk.injEq] at hs
          obtain ⟨e2, e3⟩ := hs
          subst e2
          subst e3
          obtain ⟨C, T, N, h1, h2, h3, h4, h5, h6⟩ := rx_FL_ok hL
          obtain ⟨f1, f2⟩ := rx_fit_ok ad hfit
          obtain ⟨w1, ⟨ty0, -, w2⟩, w3, -, -⟩ := rx_cl_ok h1
          have hfs : (fs.map (rx_v ad)).set fk (rx_v ad v) = (fs.set fk v).map (rx_v ad) := by simp [List.map_set]
          have kk' : ∀ (H1 : Heap) (locs1 : List Loc), va_P D vwCl ((rx_w ad tC h).set k (ad k, .inr (cj, (fs.map (rx_v ad)).set fk (rx_v ad v)))) H1 → va_D (rx_A base) ((rx_w ad tC h).set k (ad k, .inr (cj, (fs.map (rx_v ad)).set fk (rx_v ad v)))) → va_S (rx_A base) s.heap H1 locs1 → W p l e R s m args below meth c H1 locs1 cells slots Q (F0 m (pc + 3) ls (r.map (rx_v ad))) := by
            intro H1 locs1 a1 a2 a3
            rw [hfs] at a1 a2
            have e2 := rx_w_set (ad := ad) (tC := tC) (h := h) (k := k) (c := .inr (.inr (cj, fs.set fk v)))
            exact kk H1 locs1 ⟨hK, e2 ▸ a1, e2 ▸ a2, a3⟩
          cases hb2 : fin with
          | false =>
            rw [hb2] at h5
            exact va_put (D := D) (C := C) (T := T) (N := N) hx hb hts w1 ty0 w2 w3 hown hK hP hD hS k (rx_w_get hk) h1 fk h2 (hts _ h3) (fun _ q => q) h5 h4 f1 f2 (by simpa using hlen) hd kk'
          | true =>
            rw [hb2] at h5 hfin
            rcases hfin with q | ⟨q1, q2⟩
            · cases q
            · subst q2
              exact va_putF (D := D) (C := C) (T := T) (N := N) hx hb hts w1 ty0 w2 w3 hown hK hP hD hS k (rx_w_get hk) h1 fk h2 (hts _ h3) (fun _ q => q) h5 (hin q1) (h6.trans (hcn _ _ _ _ h1).symm) h4 f1 f2 (by simpa using hlen) hd kk'
        · cases hs
      · cases hs
    · cases hs
  · cases hs
theorem rx_sa_ok (hC : rx_Con ad base s) {k N : Nat} {a : List Int32} (h1 : rx_sa k = some (N, a)) : va_T .int (ad k) N (fun j => .int (a.getD j 0)) (rx_A base) s s.heap := by
  unfold rx_sa at h1
  split at h1
  · next hk =>
    split at h1
    · next C n d a' he =>
      cases h1
      have := (hC.2.1 _ _ _ _ _ _ he).2
      rwa [rx_n4 hk] at this
    · cases h1
  · cases h1
theorem rx_tb_ok (hC : rx_Con ad base s) {k : Nat} {a : List Int32} (hk : 2000000 ≤ k) (h1 : rx_tb[k - 2000000]? = some a) : va_T .byte (ad k) a.length (fun j => .int (a.getD j 0)) (rx_A base) s s.heap := by
  have hl : k - 2000000 < rx_tb.length := (List.getElem?_eq_some_iff.mp h1).1
  have := (hC.1.1 _ hl).2.2.2
  have e1 : (rx_tb.map List.length).getD (k - 2000000) 0 = a.length := by simp [List.getD_eq_getElem?_getD, h1]
  have e2 : rx_tb.getD (k - 2000000) [] = a := by simp [List.getD_eq_getElem?_getD, h1]
  rw [e1, e2] at this
  dsimp only at this
  rwa [rx_n3 hk] at this
theorem rx_h_iald (hx : p.tables.exec = Jvm.exec) (hb : c.code = cc) (hC : rx_Con ad base s) (hR : rx_Rel D tC ad base s H locs h) (hd : decode cc pc = .ok (.iaload, 1)) (hs : rx_iald st h = some st') (kk : W p l e R s m args below meth c H locs cells slots Q (F0 m (pc + 1) ls (st'.map (rx_v ad)))) :
    W p l e R s m args below meth c H locs cells slots Q (F0 m pc ls (st.map (rx_v ad))) := by
  obtain ⟨hK, hP, hD, hS⟩ := hR
  unfold rx_iald at hs
  split at hs
  · next i k r =>
    split at hs
    · next n f hk =>
      split at hs
      · next hi => cases hs; exact va_iald hx hb hK hP k 0 (rx_w_get hk) (rx_tys_get rfl) (rx_in_iff hi) hd kk
      · cases hs
    · cases hs
    · split at hs
      · next N a ha =>
        split at hs
        · next hi => cases hs; exact va_ti hx hb (rx_sa_ok hC ha) hS (rx_in_iff hi) rfl hd kk
        · cases hs
      · cases hs
  · cases hs
theorem rx_h_bald (hx : p.tables.exec = Jvm.exec) (hb : c.code = cc) (hC : rx_Con ad base s) (hR : rx_Rel D tC ad base s H locs h) (hd : decode cc pc = .ok (.baload, 1)) (hs : rx_bald st h = some st') (kk : W p l e R s m args below meth c H locs cells slots Q (F0 m (pc + 1) ls (st'.map (rx_v ad)))) :
    W p l e R s m args below meth c H locs cells slots Q (F0 m pc ls (st.map (rx_v ad))) := by
  obtain ⟨hK, hP, hD, hS⟩ := hR
  unfold rx_bald at hs
  split at hs
  · next i k r =>
    split at hs
    · next n f hk =>
      split at hs
      · next hi => cases hs; exact va_bald hx hb hK hP k 1 (rx_w_get hk) (rx_tys_get rfl) (rx_in_iff hi) hd kk
      · cases hs
    · next n f hk =>
      split at hs
      · next hi => cases hs; exact va_zald hx hb hK hP k 2 (rx_w_get hk) (rx_tys_get rfl) (rx_in_iff hi) hd kk
      · cases hs
    · cases hs
    · split at hs
      · next hk =>
        split at hs
        · next a ha =>
          split at hs
          · next hi => cases hs; exact va_tb hx hb (rx_tb_ok hC hk ha) hS (rx_in_iff hi) rfl hd kk
          · cases hs
        · cases hs
      · cases hs
  · cases hs
theorem rx_v_ref (o : Option Nat) : rx_v ad (rx_ref o) = va_rf (o.map ad) := by cases o <;> rfl
theorem rx_isq_ok {t : Nat} (h1 : rx_isq t = true) : ∃ C : String, rx_ty[t]? = some (.object C) := by
  unfold rx_isq at h1
  obtain ⟨q, hq, he⟩ := List.any_eq_true.mp h1
  have h2 := List.all_eq_true.mp rx_el_ok q hq
  split at h2
  · next C T N hc =>
    simp only [Bool.and_eq_true, decide_eq_true_eq] at h2 he
    exact ⟨C, he ▸ h2.1⟩
  · cases h2
theorem rx_el_has {t ci : Nat} (h1 : (t, ci) ∈ rx_el) : ∃ (C : String) (T : u_T) (N : Nat), vwCl[ci]? = some (C, T, N) ∧ rx_ty[t]? = some (.object C) ∧ rx_cn ci = C := by
  have h2 := List.all_eq_true.mp rx_el_ok _ h1
  split at h2
  · next C T N hc =>
    simp only [Bool.and_eq_true, decide_eq_true_eq] at h2
    exact ⟨C, T, N, hc, h2.1, h2.2⟩
  · cases h2
theorem rx_ty3 {t : Nat} (h1 : t < 3) : ∃ ty, rx_ty[t]? = some ty := by
  match t, h1 with
  | 0, _ => exact ⟨_, rfl⟩
  | 1, _ => exact ⟨_, rfl⟩
  | 2, _ => exact ⟨_, rfl⟩
theorem rx_h_aald (hx : p.tables.exec = Jvm.exec) (hb : c.code = cc) (hR : rx_Rel D tC ad base s H locs h) (hd : decode cc pc = .ok (.aaload, 1)) (hs : rx_aald st h = some st') (kk : W p l e R s m args below meth c H locs cells slots Q (F0 m (pc + 1) ls (st'.map (rx_v ad)))) :
    W p l e R s m args below meth c H locs cells slots Q (F0 m pc ls (st.map (rx_v ad))) := by
  obtain ⟨hK, hP, hD, hS⟩ := hR
  unfold rx_aald at hs
  split at hs
  · next i k r =>
    split at hs
    · next t a hk =>
      split at hs
      · next hi =>
        cases hs
        obtain ⟨C, hC⟩ := rx_isq_ok hi.2
        refine va_aldq hx hb hK hP k t (rx_w_get hk) (rx_tys_get hC) (rx_in_iff hi.1) hd ?_
        have e : rx_v ad (rx_ref (a.getD i.toNatClampNeg none)) = va_rf ((a.getD i.toNatClampNeg none).map ad) := rx_v_ref _
        rw [← e]
        exact kk
      · cases hs
    · cases hs
  · cases hs
theorem rx_h_alen (hx : p.tables.exec = Jvm.exec) (hb : c.code = cc) (hC : rx_Con ad base s) (hR : rx_Rel D tC ad base s H locs h) (hd : decode cc pc = .ok (.arraylength, 1)) (hs : rx_alen st h = some st') (kk : W p l e R s m args below meth c H locs cells slots Q (F0 m (pc + 1) ls (st'.map (rx_v ad)))) :
    W p l e R s m args below meth c H locs cells slots Q (F0 m pc ls (st.map (rx_v ad))) := by
  obtain ⟨hK, hP, hD, hS⟩ := hR
  unfold rx_alen at hs
  split at hs
  · next k r =>
    split at hs
    · next t n f hk =>
      split at hs
      · next ht =>
        cases hs
        obtain ⟨ty, hty⟩ := rx_ty3 ht
        exact va_alen hx hb hK hP k t (rx_w_get hk) (rx_tys_get hty) rfl hd kk
      · cases hs
    · next t a hk =>
      split at hs
      · next ht =>
        cases hs
        obtain ⟨C, hty⟩ := rx_isq_ok ht
        exact va_alen hx hb hK hP k t (rx_w_get hk) (rx_tys_get hty) rfl hd kk
      · cases hs
    · cases hs
    · split at hs
      · next N a ha => cases hs; exact va_tlen hx hb (rx_sa_ok hC ha) hS rfl hd kk
      · split at hs
        · next hk =>
          split at hs
          · next a ha => cases hs; exact va_tlen hx hb (rx_tb_ok hC hk ha) hS rfl hd kk
          · cases hs
        · cases hs
  · cases hs
theorem rx_h_iast (hx : p.tables.exec = Jvm.exec) (hb : c.code = cc) (hR : rx_Rel D tC ad base s H locs h) (hd : decode cc pc = .ok (.iastore, 1)) (hs : rx_iast st h = some (st', h')) (kk : rx_KH p l e R s m args below meth c cells slots Q D tC ad base ls (pc + 1) st' h') :
    W p l e R s m args below meth c H locs cells slots Q (F0 m pc ls (st.map (rx_v ad))) := by
  obtain ⟨hK, hP, hD, hS⟩ := hR
  unfold rx_iast at hs
  split at hs
  · next x i k r =>
    split at hs
    · next n f hk =>
      split at hs
      · next hi =>
        simp only [Option.some.injEq, Prod.mk.injEq] at hs
        obtain ⟨e2, e3⟩ := hs
        subst e2; subst e3
        have e2 := rx_w_set (ad := ad) (tC := tC) (h := h) (k := k) (c := .inl (0, n, upd f i.toNatClampNeg x))
        exact va_iast hx hb hK hP hD hS k 0 (rx_w_get hk) (rx_tys_get rfl) (rx_in_iff hi) hd (fun H1 locs1 a1 a2 a3 => kk H1 locs1 ⟨hK, e2 ▸ a1, e2 ▸ a2, a3⟩)
      · cases hs
    · cases hs
  · cases hs
theorem rx_h_bast (hx : p.tables.exec = Jvm.exec) (hb : c.code = cc) (hR : rx_Rel D tC ad base s H locs h) (hd : decode cc pc = .ok (.bastore, 1)) (hs : rx_bast st h = some (st', h')) (kk : rx_KH p l e R s m args below meth c cells slots Q D tC ad base ls (pc + 1) st' h') :
    W p l e R s m args below meth c H locs cells slots Q (F0 m pc ls (st.map (rx_v ad))) := by
  obtain ⟨hK, hP, hD, hS⟩ := hR
  unfold rx_bast at hs
  split at hs
  · next x i k r =>
    split at hs
    · next n f hk =>
      split at hs
      · next hi =>
        simp only [Option.some.injEq, Prod.mk.injEq] at hs
        obtain ⟨e2, e3⟩ := hs
        subst e2; subst e3
        have e2 := rx_w_set (ad := ad) (tC := tC) (h := h) (k := k) (c := .inl (1, n, upd f i.toNatClampNeg (vp_nar .byte x)))
        exact va_bast hx hb hK hP hD hS k 1 (rx_w_get hk) (rx_tys_get rfl) (rx_in_iff hi) hd (fun H1 locs1 a1 a2 a3 => kk H1 locs1 ⟨hK, e2 ▸ a1, e2 ▸ a2, a3⟩)
      · cases hs
    · next n f hk =>
      split at hs
      · next hi =>
        simp only [Option.some.injEq, Prod.mk.injEq] at hs
        obtain ⟨e2, e3⟩ := hs
        subst e2; subst e3
        have e2 := rx_w_set (ad := ad) (tC := tC) (h := h) (k := k) (c := .inl (2, n, upd f i.toNatClampNeg (vp_nar .boolean x)))
        exact va_zast hx hb hK hP hD hS k 2 (rx_w_get hk) (rx_tys_get rfl) (rx_in_iff hi) hd (fun H1 locs1 a1 a2 a3 => kk H1 locs1 ⟨hK, e2 ▸ a1, e2 ▸ a2, a3⟩)
      · cases hs
    · cases hs
  · cases hs
theorem rx_q_set {a : List (Option Nat)} {i q : Nat} (hi : i < a.length) : (fun j => ((a.set i (some q)).getD j none).map ad) = va_up (fun j => (a.getD j none).map ad) i (some (ad q)) := by
  funext j
  unfold va_up
  simp only [List.getD_eq_getElem?_getD, List.getElem?_set]
  by_cases hj : j = i
  · subst hj; simp [hi]
  · simp [hj, Ne.symm hj]
theorem rx_h_aast (hx : p.tables.exec = Jvm.exec) (hb : c.code = cc) (hR : rx_Rel D tC ad base s H locs h) (hd : decode cc pc = .ok (.aastore, 1)) (hs : rx_aast st h = some (st', h')) (kk : rx_KH p l e R s m args below meth c cells slots Q D tC ad base ls (pc + 1) st' h') :
    W p l e R s m args below meth c H locs cells slots Q (F0 m pc ls (st.map (rx_v ad))) := by
  obtain ⟨hK, hP, hD, hS⟩ := hR
  unfold rx_aast at hs
  split at hs
  · next q i k r =>
    split at hs
    · next t a ci fs hk hq =>
      split at hs
      · next hi =>
        simp only [Option.some.injEq, Prod.mk.injEq] at hs
        obtain ⟨e2, e3⟩ := hs
        subst e2; subst e3
        obtain ⟨C, T, N, h1, h2, h3⟩ := rx_el_has hi.2
        have hlt : i.toNatClampNeg < a.length := Nat.not_le.mp fun z => rx_in_iff hi.1 (Or.inr z)
        have e2 := rx_w_set (ad := ad) (tC := tC) (h := h) (k := k) (c := .inr (.inl (t, a.set i.toNatClampNeg (some q))))
        simp only [rx_c, List.length_set, rx_q_set hlt] at e2
        exact va_astq (r := (C, T, N)) hx hb hK hP hD hS k t q ci (rx_w_get hk) (rx_tys_get h2) (rx_w_get hq) h1 (rx_in_iff hi.1) hd (fun H1 locs1 a1 a2 a3 => kk H1 locs1 ⟨hK, e2 ▸ a1, e2 ▸ a2, a3⟩)
      · cases hs
    · cases hs
  · cases hs
theorem rx_cats_map (r : List Value) : ((r.map (rx_v ad)).map fun v => v.category).sum = rx_cats r := by
  unfold rx_cats
  rw [List.map_map]
  congr 1
  apply List.map_congr_left
  intro v _
  exact rx_cat ad v
theorem rx_h_copy (hx : p.tables.exec = Jvm.exec) (hb : c.code = cc) (hml : c.maxLocals = ls.size) (hown : s.vm.findClass (rx_cn co) = some m.cls) (hts : ∀ w ∈ rx_Ts, w.before args s = true) {pos : Nat} (hY : rx_lk rx_YLs co idx = some pos) (hR : rx_Rel D tC ad base s H locs h) (hd : decode cc pc = .ok (.invokestatic idx, 3)) (hs : rx_copy R.frames R.locals st h = some (st', h')) (kk : rx_KH p l e R s m args below meth c cells slots Q D tC ad base ls (pc + 3) st' h') :
    W p l e R s m args below meth c H locs cells slots Q (F0 m pc ls (st.map (rx_v ad))) := by
  obtain ⟨hK, hP, hD, hS⟩ := hR
  unfold rx_copy at hs
  split at hs
  · next n dp k sp j r =>
    split at hs
    · next n0 f n1 g hj hk =>
      split at hs
      · next hi =>
        obtain ⟨i1, i2, i3, i4, i5, i6, i7⟩ := hi
        simp only [Option.some.injEq, Prod.mk.injEq] at hs
        obtain ⟨e2, e3⟩ := hs
        subst e2; subst e3
        have h1 := List.all_eq_true.mp rx_ylchk _ (rx_lk_mem hY)
        have e2 := rx_w_set (ad := ad) (tC := tC) (h := h) (k := k) (c := .inl (0, n1, va_cpy f g sp.toNatClampNeg dp.toNatClampNeg n.toNatClampNeg))
        have hw := rx_w_oi
        have hnf := rx_nfw
        exact va_copyi hx hb hml hown (hts _ (rx_has_mem h1)) (hts _ hw.2.2.1) (hts _ hw.2.2.2.1) (hts _ hw.2.2.2.2) hK hP hD hS j k 0 0 (rx_w_get hj) (rx_w_get hk) (rx_tys_get rfl) (rx_tys_get rfl) rfl i1 i2 i3 i4 i5 (fun _ _ => rfl) i6 (by rw [rx_cats_map]; omega) hd (fun H1 locs1 a1 a2 a3 => kk H1 locs1 ⟨hK, e2 ▸ a1, e2 ▸ a2, a3⟩)
      · cases hs
    · cases hs
  · cases hs
end RXH
