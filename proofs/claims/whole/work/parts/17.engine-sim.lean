/-! the machine does what rx_run does -/
theorem rx_mk_of {M : rx_M} {q : Nat × Nat × Nat × Nat} (h : rx_mchk M q = true) :
    Cond.initialized (rm_y M).cls ∈ rx_Ts ∧ plainName (rm_y M).cls = true ∧ (rm_y M).cls ≠ "java/lang/invoke/MethodHandle" ∧ (rm_y M).cls ≠ "java/lang/invoke/VarHandle" ∧ (parseMethodDescriptor (rm_y M).desc).map (fun d => d.parameters.length) = some (rm_np M) ∧ rx_cn (rm_co M) = (rm_y M).cls ∧
    (rm_kind M = 1 → Cond.static (rm_y M) ∈ rx_Ts) ∧ (rm_kind M ≠ 1 → Cond.instanceMethod (rm_y M) ∈ rx_Ts) ∧ (rm_kind M = 2 → (rm_y M).name = "<init>" ∧ rm_ret M = none) ∧ (rm_kind M = 0 → Cond.selects (rm_y M).cls (rm_y M) (rm_y M) ∈ rx_Ts) := by
  unfold rx_mchk at h
  simp only [Bool.and_eq_true, decide_eq_true_eq] at h
  obtain ⟨⟨⟨⟨⟨⟨h1, h2⟩, h3⟩, h4⟩, h5⟩, h6⟩, h7⟩ := h
  refine ⟨rx_has_mem h1, h2, h3, h4, h5, h6, fun k => ?_, fun k => ?_, fun k => ?_, fun k => ?_⟩
  · rw [if_pos k] at h7; exact rx_has_mem h7
  · rw [if_neg k] at h7
    simp only [Bool.and_eq_true] at h7
    exact rx_has_mem h7.1
  · rw [if_neg (by omega)] at h7
    simp only [Bool.and_eq_true] at h7
    have h8 := h7.2
    rw [if_pos k] at h8
    simp only [Bool.and_eq_true, decide_eq_true_eq] at h8
    exact h8
  · rw [if_neg (by omega)] at h7
    simp only [Bool.and_eq_true] at h7
    have h8 := h7.2
    rw [if_neg (by omega)] at h8
    exact rx_has_mem h8
theorem rx_sl_len (as : List Value) : (lg_sl as).length = rx_cats as := by
  unfold lg_sl rx_cats
  induction as with
  | nil => rfl
  | cons v t ih =>
    simp only [List.flatMap_cons, List.length_append, List.map_cons, List.sum_cons, ih]
    rcases lv_cat v with h | h
    · rw [h, if_neg (by omega)]; rfl
    · rw [h, if_pos rfl]; rfl
theorem rx_args_map (ad : Nat → Nat) (as : List Value) : ∀ i, lv_args i (as.map (rx_v ad)) = rx_l ad (lv_args i as) := by
  induction as with
  | nil => intro i; rfl
  | cons v t ih =>
    intro i
    show (i, rx_v ad v) :: lv_args (if (rx_v ad v).category = 2 then i + 2 else i + 1) (t.map (rx_v ad)) = (i, rx_v ad v) :: rx_l ad (lv_args (if v.category = 2 then i + 2 else i + 1) t)
    rw [rx_cat, ih]
theorem rx_od_v {n : Nat} {ad ad' : Nat → Nat} {v : Value} (h : rx_od n v = true) (ha : ∀ k, k < n ∨ 1000000 ≤ k → ad' k = ad k) : rx_v ad' v = rx_v ad v := by
  cases v with
  | ref k =>
    simp only [rx_od, Bool.or_eq_true, decide_eq_true_eq] at h
    exact congrArg Value.ref (ha k h)
  | _ => rfl
theorem rx_old_ok {n : Nat} {ad ad' : Nat → Nat} {lv : rx_L} {st : List Value} (h : rx_old n lv st = true) (ha : ∀ k, k < n ∨ 1000000 ≤ k → ad' k = ad k) : rx_l ad' lv = rx_l ad lv ∧ st.map (rx_v ad') = st.map (rx_v ad) := by
  unfold rx_old at h
  simp only [Bool.and_eq_true] at h
  exact ⟨List.map_congr_left fun q hq => by rw [rx_od_v (List.all_eq_true.mp h.1 q hq) ha], List.map_congr_left fun v hv => rx_od_v (List.all_eq_true.mp h.2 v hv) ha⟩
section RXR
variable {p : Program} {l : Launch} {e : Env} {R : Room} {s : State} {m : MethodId} {args : Array Value} {below : List Frame} {meth : Method} {c : Code} {H : Heap} {locs : List Loc} {uc us : Nat} {Q : State → Prop}
variable {cc : ByteArray} {pc nL len base : Nat} {ls : Array Slot} {D : va_G} {tC : Nat → ClassId} {ad : Nat → Nat} {lv : rx_L} {st : List Value} {h : rx_H}
/-- the room of a call -/
theorem rx_may_ok {M Z : rx_M} (h1 : rx_may M Z lv st h uc us = true) : rx_na Z ≤ st.length ∧ rm_fr Z + 1 ≤ rm_fr M ∧ 8 + (rm_maxL Z + 11) + rm_lo Z ≤ rm_lo M ∧ rx_cats (st.drop (rx_na Z)) ≤ 8 ∧ uc + rm_mc Z ≤ rm_mc M ∧ us + rm_ms Z ≤ rm_ms M ∧ (rm_mc Z = 0 ∨ rx_old h.length lv (st.drop (rx_na Z)) = true) ∧ rx_cats (st.take (rx_na Z)) ≤ rm_maxL Z ∧ (rm_kind Z = 0 → rx_rcv Z h (st.take (rx_na Z)).reverse = true) ∧ (rm_kind Z = 2 → rx_isref (st.take (rx_na Z)).reverse = true) := by
  unfold rx_may at h1
  simp only [Bool.and_eq_true, Bool.or_eq_true, decide_eq_true_eq] at h1
  obtain ⟨⟨⟨⟨⟨⟨⟨⟨a1, a2⟩, a3⟩, a4⟩, a5⟩, a6⟩, a7⟩, a8⟩, a9⟩ := h1
  refine ⟨a1, a2, a3, a4, a5, a6, a7, a8, fun k => ?_, fun k => ?_⟩
  · rw [if_pos k] at a9; exact a9
  · rw [if_neg (by omega), if_pos k] at a9; exact a9
theorem rx_cats_rev (r : List Value) : rx_cats r.reverse = rx_cats r := by
  unfold rx_cats
  rw [List.map_reverse, List.sum_reverse]
/-- a call's own walk, by its kind -/
theorem rx_call_run {M Z : rx_M} {i : Instr} (hZ : Z ∈ rx_MT) (hx : p.tables.exec = Jvm.exec) (hb : c.code = rm_code M) (hml : c.maxLocals = ls.size) (hown : s.vm.findClass (rx_cn (rm_co M)) = some m.cls) (hts : ∀ w ∈ rx_Ts, w.before args s = true) (hbs : base ≤ s.heap.size) (hC : rx_Con ad base s) (hR : rx_Rel D tC ad base s H locs h) (hd : decode (rm_code M) pc = .ok (i, len)) (hw : rx_who (rm_co M) i len = some Z) (hm : rx_may M Z lv st h uc us = true) {r : Option Value} {h' : rx_H} (hM : rx_Met l Z (st.take (rx_na Z)).reverse h r h') :
    va_Run p l e (rm_room M) s m args below meth c H locs uc us (rm_mc Z) (rm_ms Z) (F0 m pc ls (st.map (rx_v ad))) ((st.drop (rx_na Z)).map (rx_v ad)) (rx_Qc D tC ad base (rm_mc Z) h r h' ((st.take (rx_na Z)).reverse.map (rx_v ad)).toArray) (rx_A base) := by
  obtain ⟨a1, a2, a3, a4, a5, a6, a7, a8, a9, a10⟩ := rx_may_ok hm
  obtain ⟨q, hq⟩ := rx_mt_all Z hZ
  obtain ⟨k1, k2, k3, k4, k5, k6, k7, k8, k9, k10⟩ := rx_mk_of hq
  obtain ⟨hK, hP, hD, hS⟩ := hR
  have hPc : ∀ U : State, U.heap = H → s.WarmedH U.vm → rx_Pc D tC ad base (st.take (rx_na Z)).reverse h ((st.take (rx_na Z)).reverse.map (rx_v ad)).toArray U := by
    intro U hU hW
    refine ⟨rfl, ?_, rx_Con_at hW (fun a h1 h2 => by rw [hU]; exact hS.2.1 a h1 h2) hC, va_K.moved hW.alike hK, by rw [hU]; exact hP, hD⟩
    rw [hU]; exact Nat.le_trans hbs hS.1
  have hst : st.map (rx_v ad) = ((st.take (rx_na Z)).reverse.map (rx_v ad)).reverse ++ (st.drop (rx_na Z)).map (rx_v ad) := by
    rw [← List.map_reverse, List.reverse_reverse, ← List.map_append, List.take_append_drop]
  have hlen : ((st.take (rx_na Z)).reverse.map (rx_v ad)).length = rx_na Z := by simp [a1]
  have hroom : 2 * (F0 m pc ls (st.map (rx_v ad))).monitorRoom + (((st.drop (rx_na Z)).map (rx_v ad)).map fun v => v.category).sum ≤ 8 := by
    have e0 : ∀ x, (F0 m pc ls x).monitorRoom = 0 := fun _ => rfl
    rw [rx_cats_map, e0]; omega
  have hCB : ∀ {idx : Nat}, Cond.methodLink (rx_cn (rm_co M)) idx (rm_y Z) ∈ rx_Ts → CallB (rm_room M) s args (rx_cn (rm_co M)) idx (rm_y Z) (rm_code Z) (rm_maxL Z) (rm_ret Z) (rm_ws Z) (rm_room Z) (rm_mc Z) (rm_ms Z) (rm_np Z) := fun hl => callB_of (rm_np Z) hts (rx_GoodIn hZ) rfl rfl rfl (hts _ k1) (hts _ hl) ⟨k3, k4, k5⟩ ⟨a2, a3⟩
  have hM' := hM D tC ad base
  unfold rx_who at hw
  split at hw
  · next idx =>
    split at hw
    · next j pos hL =>
      split at hw
      · next Z' hj =>
        split at hw
        · next hk =>
          cases hw
          have hna : rx_na Z = rm_np Z + 1 := by unfold rx_na; rw [if_neg (by omega)]
          have hrc := a9 hk
          cases has : (st.take (rx_na Z)).reverse with
          | nil => rw [has] at hrc; cases hrc
          | cons v t =>
            cases v <;> first
              | (rw [has] at hrc; cases hrc; done)
              | skip
            next k =>
            have hrecv : ∃ cellB : Cell, H[ad k]? = some cellB ∧ cellB.vm.isStatics = false ∧ s.vm.findClass (rm_y Z).cls = some cellB.cls := by
              rw [has] at hrc
              simp only [rx_rcv] at hrc
              split at hrc
              · next ci fs hk2 =>
                have hci := of_decide_eq_true hrc
                subst hci
                have hex : ∃ q : vw_C, vwCl[rm_co Z]? = some q := by
                  obtain ⟨r2, hr2, -⟩ := hP k _ (rx_w_get hk2)
                  exact ⟨r2, hr2⟩
                obtain ⟨⟨C, T, N⟩, hcl⟩ := hex
                have := va_recv hK hP hcl (rx_w_get hk2)
                rw [← k6, rx_cn_cl _ _ _ _ hcl]
                exact this
              · cases hrc
              · simp only [Bool.and_eq_true, decide_eq_true_eq] at hrc
                have := vk_recv hC.1 hrc.1.2 hS
                rw [rx_n1 hrc.1.1] at this
                rw [hrc.2]
                exact this
            rw [has] at hst hlen hPc hM'
            refine va_runV (C := (rm_y Z).cls) (b := ad k) (As := t.map (rx_v ad)) ⟨hx, hb, hml, hown, hts⟩ hM' ⟨hCB (rx_ml_ok hL hj), hts _ (k8 (by omega)), hts _ (k10 hk)⟩ ⟨rx_Pc_blind, hrecv, hPc⟩ rfl (by simp only [List.map_cons, List.length_cons] at hlen; omega) rfl ?_ hroom hd ⟨a5, a6⟩
            show st.map (rx_v ad) = _
            rw [hst]
            simp [rx_v]
        · cases hw
      · cases hw
    · cases hw
  · next idx =>
    split at hw
    · next j pos hL =>
      split at hw
      · next Z' hj =>
        split at hw
        · next hk =>
          cases hw
          have hna : rx_na Z = rm_np Z := by unfold rx_na; rw [if_pos hk]
          exact va_runS (As := (st.take (rx_na Z)).reverse.map (rx_v ad)) ⟨hx, hb, hml, hown, hts⟩ hM' ⟨hCB (rx_ml_ok hL hj), hts _ (k7 hk)⟩ ⟨rx_Pc_blind, hPc⟩ rfl (by omega) rfl hst hroom hd ⟨a5, a6⟩
        · cases hw
      · cases hw
    · cases hw
  · next idx =>
    split at hw
    · next j nest pos hL =>
      split at hw
      · next Z' hj =>
        split at hw
        · next hk =>
          cases hw
          have hna : rx_na Z = rm_np Z + 1 := by unfold rx_na; rw [if_neg (by omega)]
          have hrc := a10 hk
          obtain ⟨n1, n2⟩ := k9 hk
          cases has : (st.take (rx_na Z)).reverse with
          | nil => rw [has] at hrc; cases hrc
          | cons v t =>
            cases v <;> first
              | (rw [has] at hrc; cases hrc; done)
              | skip
            next k =>
            rw [has] at hst hlen hPc hM'
            have hst2 : (F0 m pc ls (st.map (rx_v ad))).stack = (t.map (rx_v ad)).reverse ++ .ref (ad k) :: (st.drop (rx_na Z)).map (rx_v ad) := by
              show st.map (rx_v ad) = _
              rw [hst]
              simp [rx_v]
            have hl2 : (t.map (rx_v ad)).length = rm_np Z := by simp only [List.map_cons, List.length_cons] at hlen; omega
            cases nest with
            | false =>
              have hcb := hCB (rx_ml_ok hL hj)
              rw [n2] at hcb
              exact va_runI (b := ad k) (As := t.map (rx_v ad)) ⟨hx, hb, hml, hown, hts⟩ hM' ⟨hcb, n1, hts _ (k8 (by omega))⟩ ⟨rx_Pc_blind, hPc⟩ rfl hl2 rfl hst2 hroom hd ⟨a5, a6⟩
            | true =>
              have hcn := va_cnB (R := rm_room M) (own := rx_cn (rm_co M)) (index := idx) (bytes := rm_code Z) (maxL := rm_maxL Z) (ret := rm_ret Z) (ws := rm_ws Z) (rm := rm_room Z) (mc := rm_mc Z) (ms := rm_ms Z) (rm_np Z) hts (rx_GoodIn hZ) rfl rfl rfl (hC.2.2.2.2.2.1 _ _ _ _ hL Z hj) (hts _ k1) ⟨k3, k4, k5⟩ ⟨a2, a3⟩
              rw [n2] at hcn
              exact va_runIN (b := ad k) (As := t.map (rx_v ad)) ⟨hx, hb, hml, hown, hts⟩ hM' ⟨hcn, n1, hts _ (k8 (by omega))⟩ ⟨rx_Pc_blind, hPc⟩ rfl hl2 rfl hst2 hroom hd ⟨a5, a6⟩
        · cases hw
      · cases hw
    · cases hw
  · cases hw
end RXR
