/-! THE ENGINE'S THEOREM: what rx_run answers, the machine answers -/
theorem rx_nok_ok {ty : FieldType} {x : Int32} (h : rx_nok ty x = true) : narrow ty (.int x) = .int x := by
  cases ty <;> first
    | rfl
    | (cases h; done)
    | (simp only [rx_nok, Bool.or_eq_true, decide_eq_true_eq] at h
       rcases h with rfl | rfl <;> rfl)
    | (simp only [rx_nok, decide_eq_true_eq] at h
       exact congrArg Value.int h)
section RXZ
variable {p : Program} {l : Launch} {e : Env} {R : Room} {s : State} {m : MethodId} {args : Array Value} {below : List Frame} {meth : Method} {c : Code} {H : Heap} {locs : List Loc} {uc us : Nat}
variable {cc : ByteArray} {pc nL len base : Nat} {ls : Array Slot} {ad : Nat → Nat} {lv : rx_L} {st : List Value} {h : rx_H}
theorem rx_ans_W {M : rx_M} {i : Instr} {r : Option Value} {Qc : Array Value → State → Outcome → State → Prop} {free : Addr → Prop} (hx : p.tables.exec = Jvm.exec) (hb : c.code = cc) (hr : meth.sig.returnType = rm_ret M) (hlocks : meth.locks = false) (hd : decode cc pc = .ok (i, len)) (ha : rx_ans M i len st = some r)
    (hq : ∀ t : State, t.heap = H → s.WarmedH t.vm → Qc args s (.returned (r.map (rx_v ad))) t) (hf : ∀ q ∈ locs, free q.base) : W p l e R s m args below meth c H locs uc us (MQ below Qc args s uc us free) (F0 m pc ls (st.map (rx_v ad))) := by
  unfold rx_ans at ha
  split at ha
  · split at ha
    · next x ty hty =>
      split at ha
      · next hn => cases ha; exact W.zret hx hb (hr.trans hty) (rx_nok_ok hn) hq hf hd hlocks
      · cases ha
    · cases ha
  · split at ha
    · next k C hty => cases ha; exact W.aret hx hb (hr.trans hty) (Or.inl ⟨_, rfl⟩) (Or.inr ⟨_, rfl⟩) hq hf hd hlocks
    · next C hty => cases ha; exact W.aret hx hb (hr.trans hty) (Or.inl ⟨_, rfl⟩) (Or.inl rfl) hq hf hd hlocks
    · cases ha
  · split at ha
    · next hty => cases ha; exact W.vret hx hb (hr.trans hty) hq hf hd hlocks
    · cases ha
  · cases ha
end RXZ
theorem rx_put_len {ini : Bool} {co idx : Nat} {st st' : List Value} {h h' : rx_H} (hs : rx_put ini co idx st h = some (st', h')) : h'.length = h.length := by
  unfold rx_put at hs
  repeat' (split at hs)
  all_goals first
    | (cases hs; done)
    | (simp only [Option.some.injEq, Prod.mk.injEq] at hs; rw [← hs.2]; simp)
theorem rx_iast_len {st st' : List Value} {h h' : rx_H} (hs : rx_iast st h = some (st', h')) : h'.length = h.length := by
  unfold rx_iast at hs
  repeat' (split at hs)
  all_goals first
    | (cases hs; done)
    | (simp only [Option.some.injEq, Prod.mk.injEq] at hs; rw [← hs.2]; simp)
theorem rx_bast_len {st st' : List Value} {h h' : rx_H} (hs : rx_bast st h = some (st', h')) : h'.length = h.length := by
  unfold rx_bast at hs
  repeat' (split at hs)
  all_goals first
    | (cases hs; done)
    | (simp only [Option.some.injEq, Prod.mk.injEq] at hs; rw [← hs.2]; simp)
theorem rx_aast_len {st st' : List Value} {h h' : rx_H} (hs : rx_aast st h = some (st', h')) : h'.length = h.length := by
  unfold rx_aast at hs
  repeat' (split at hs)
  all_goals first
    | (cases hs; done)
    | (simp only [Option.some.injEq, Prod.mk.injEq] at hs; rw [← hs.2]; simp)
theorem rx_copy_len {fr lo : Nat} {st st' : List Value} {h h' : rx_H} (hs : rx_copy fr lo st h = some (st', h')) : h'.length = h.length := by
  unfold rx_copy at hs
  repeat' (split at hs)
  all_goals first
    | (cases hs; done)
    | (simp only [Option.some.injEq, Prod.mk.injEq] at hs; rw [← hs.2]; simp)
theorem rx_heap_len {co : Nat} {ini : Bool} {fr lo : Nat} {i : Instr} {len pc pc' : Nat} {st st' : List Value} {h h' : rx_H} (hs : rx_heap co ini fr lo i len pc st h = some (pc', st', h')) : h'.length = h.length := by
  unfold rx_heap at hs
  split at hs
  · obtain ⟨r, h1, h2⟩ := rx_map1 hs; cases h2; rfl
  · obtain ⟨⟨r, hh⟩, h1, h2⟩ := rx_map1 hs; cases h2; exact rx_put_len h1
  · obtain ⟨r, h1, h2⟩ := rx_map1 hs; cases h2; rfl
  · obtain ⟨r, h1, h2⟩ := rx_map1 hs; cases h2; rfl
  · obtain ⟨r, h1, h2⟩ := rx_map1 hs; cases h2; rfl
  · obtain ⟨r, h1, h2⟩ := rx_map1 hs; cases h2; rfl
  · obtain ⟨⟨r, hh⟩, h1, h2⟩ := rx_map1 hs; cases h2; exact rx_iast_len h1
  · obtain ⟨⟨r, hh⟩, h1, h2⟩ := rx_map1 hs; cases h2; exact rx_bast_len h1
  · obtain ⟨⟨r, hh⟩, h1, h2⟩ := rx_map1 hs; cases h2; exact rx_aast_len h1
  · obtain ⟨v, h1, h2⟩ := rx_map1 hs; cases h2; rfl
  · obtain ⟨v, h1, h2⟩ := rx_map1 hs; cases h2; rfl
  · obtain ⟨v, h1, h2⟩ := rx_map1 hs; cases h2; rfl
  · split at hs
    · cases hs; rfl
    · cases hs
  · split at hs
    · split at hs
      · cases hs; rfl
      · cases hs
    · cases hs
  · split at hs
    · obtain ⟨⟨r, hh⟩, h1, h2⟩ := rx_map1 hs; cases h2; exact rx_copy_len h1
    · split at hs
      · obtain ⟨r, h1, h2⟩ := rx_map1 hs; cases h2; rfl
      · split at hs
        · split at hs
          · cases hs; rfl
          · cases hs
        · cases hs
  · cases hs
theorem rx_alloc_len {co mc ms : Nat} {i : Instr} {len pc pc' uc us uc' us' : Nat} {lv : rx_L} {st st' : List Value} {h h' : rx_H} (hs : rx_alloc co mc ms i len pc lv st h uc us = some (pc', st', h', uc', us')) : h'.length = h.length + 1 ∧ uc' ≤ mc ∧ us' ≤ ms ∧ uc < mc ∧ h.length < 1000000 := by
  have hz : ∀ {st0 : List Value}, rx_fresh h.length lv st0 h = true → h.length < 1000000 := fun q => (rx_fresh_all (ad := id) (ad' := id) (tC := fun _ => 0) q (fun _ _ => rfl)).1
  unfold rx_alloc at hs
  repeat' (split at hs)
  all_goals first
    | (cases hs; done)
    | (rename_i hi
       simp only [Option.some.injEq, Prod.mk.injEq] at hs
       obtain ⟨-, -, e1, e2, e3⟩ := hs
       subst e1; subst e2; subst e3
       exact ⟨by simp, by omega, by omega, by omega, hz hi.1⟩)
theorem rx_who_mem {co : Nat} {i : Instr} {len : Nat} {Z : rx_M} (hw : rx_who co i len = some Z) : Z ∈ rx_MT := by
  unfold rx_who at hw
  repeat' (split at hw)
  all_goals first
    | (cases hw; done)
    | (rename_i hj _; cases hw; exact List.mem_of_getElem? hj)
    | (rename_i hj _ _; cases hw; exact List.mem_of_getElem? hj)
/-- what is claimed of n steps -/
def rx_Sim (l : Launch) (n : Nat) : Prop := ∀ (M : rx_M), M ∈ rx_MT → ∀ (as : List Value) (h : rx_H) (r : Option Value) (h' : rx_H), rx_cats as ≤ rm_maxL M → rx_run n M (0, lv_args 0 as, [], h, 0, 0) = some (r, h') → rx_Met l M as h r h'
section RXB
variable {p : Program} {l : Launch} {e : Env} {s : State} {m : MethodId} {args : Array Value} {below : List Frame} {meth : Method} {c : Code}
variable {base : Nat} {D : va_G} {tC : Nat → ClassId} {ad0 : Nat → Nat} {h0 : rx_H} {M : rx_M}
set_option maxHeartbeats 4000000 in
theorem rx_body {n : Nat} (IH : ∀ k, k < n → rx_Sim l k) (hM : M ∈ rx_MT) (hx : p.tables.exec = Jvm.exec) (hb : c.code = rm_code M) (hml : c.maxLocals = rm_maxL M) (hown : s.vm.findClass (rx_cn (rm_co M)) = some m.cls) (hts : ∀ w ∈ rx_Ts, w.before args s = true) (hin : rx_ini M = true → meth.name = "<init>") (hr : meth.sig.returnType = rm_ret M) (hlocks : meth.locks = false) (hbs : base ≤ s.heap.size) (hC0 : rx_Con ad0 base s) :
    ∀ k, k ≤ n → ∀ (pc : Nat) (lv : rx_L) (st : List Value) (h : rx_H) (uc us : Nat) (ad : Nat → Nat) (H : Heap) (locs : List Loc) (ls : Array Slot) (r : Option Value) (h' : rx_H), rx_run k M (pc, lv, st, h, uc, us) = some (r, h') → rx_Rel D tC ad base s H locs h → lv_has ls (rm_maxL M) (rx_l ad lv) → uc ≤ rm_mc M → us ≤ rm_ms M → (∀ k, k < h0.length ∨ 1000000 ≤ k → ad k = ad0 k) → (rm_mc M = 0 → ad = ad0) → h0.length ≤ h.length →
      W p l e (rm_room M) s m args below meth c H locs uc us (MQ below (rx_Qc D tC ad0 base (rm_mc M) h0 r h') args s (rm_mc M) (rm_ms M) (rx_A base)) (F0 m pc ls (st.map (rx_v ad))) := by
  intro k
  induction k with
  | zero => intro _ pc lv st h uc us ad H locs ls r h' hs; cases hs
  | succ k ih =>
    intro hk pc lv st h uc us ad H locs ls r h' hs hR hl huc hus hag ha0 hlen
    have hC : rx_Con ad base s := rx_Con_ad (fun k hk => hag k (Or.inr hk)) hC0
    have hml' : c.maxLocals = ls.size := hml.trans hl.1.symm
    unfold rx_run at hs
    split at hs
    · next i len hd =>
      split at hs
      · next pc' lv' st' hp => exact rx_pure_sim hx hb hd hp (fun ls' hl' => ih (by omega) pc' lv' st' h uc us ad H locs ls' r h' hs hR hl' huc hus hag ha0 hlen) hl
      · split at hs
        · next pc' st' h1 hp =>
          exact rx_heap_sim (R := rm_room M) hx hb hml' hown hts hin ⟨huc, hus⟩ hC hR hd hp (fun H1 locs1 hR1 => ih (by omega) pc' lv st' h1 uc us ad H1 locs1 ls r h' hs hR1 hl huc hus hag ha0 (by rw [rx_heap_len hp]; exact hlen))
        · split at hs
          · next Z hw =>
            split at hs
            · next hmay =>
              split at hs
              · next r1 h1 hrun =>
                obtain ⟨a1, a2, a3, a4, a5, a6, a7, a8, a9, a10⟩ := rx_may_ok hmay
                have hZ := rx_who_mem hw
                have hMet := IH k (by omega) Z hZ _ h r1 h1 (by rw [rx_cats_rev]; exact a8) hrun
                refine rx_callW (rx_call_run hZ hx hb hml' hown hts hbs hC hR hd hw hmay hMet) (fun v st₀ t H1 L e0 e1 hq hL => ?_)
                obtain ⟨ad', g1, g2, g3, g4, g5, g6, g7⟩ := hq
                have hv : v = r1.map (rx_v ad') := by
                  have := g4
                  simp only [Outcome.returned.injEq] at this
                  exact this
                subst hv
                obtain ⟨hK, hP, hD, hS⟩ := hR
                have hst : rx_l ad' lv = rx_l ad lv ∧ (st.drop (rx_na Z)).map (rx_v ad') = (st.drop (rx_na Z)).map (rx_v ad) := by
                  rcases a7 with z | z
                  · rw [g2 z]; exact ⟨rfl, rfl⟩
                  · exact rx_old_ok z g1
                have hR1 : rx_Rel D tC ad' base s H1 (locs ++ L) h1 := by
                  obtain ⟨f1, f2⟩ := g7
                  rw [e0] at f1 f2
                  rw [e1] at f1 f2 g5
                  exact ⟨hK, g5, g6, Nat.le_trans hS.1 f1, fun q q1 q2 => (f2 q (Nat.lt_of_lt_of_le q1 hS.1) q2).trans (hS.2.1 q q1 q2), fun q hq => (List.mem_append.mp hq).elim (hS.2.2 q) (hL q)⟩
                have := ih (by omega) (pc + 3) lv (r1.toList ++ st.drop (rx_na Z)) h1 (uc + rm_mc Z) (us + rm_ms Z) ad' H1 (locs ++ L) ls r h' hs hR1 (by rw [hst.1]; exact hl) a5 a6 (fun k hk => (g1 k (hk.imp (fun z => Nat.lt_of_lt_of_le z hlen) id)).trans (hag k hk)) (fun z => (g2 (by omega)).trans (ha0 z)) (Nat.le_trans hlen g3)
                rw [List.map_append, hst.2] at this
                have e3 : r1.toList.map (rx_v ad') = (r1.map (rx_v ad')).toList := by cases r1 <;> rfl
                rw [e3] at this
                exact this
              · cases hs
            · cases hs
          · split at hs
            · next r1 ha =>
              cases hs
              obtain ⟨hK, hP, hD, hS⟩ := hR
              refine W.widen (k := rm_mc M) (n := rm_ms M) huc hus ?_
              exact rx_ans_W hx hb hr hlocks hd ha (fun t ht hW => ⟨ad, hag, ha0, hlen, rfl, by rw [ht]; exact hP, hD, hS.F ht⟩) hS.2.2
            · split at hs
              · next pc' st' h1 uc' us' hp =>
                have hlen2 := rx_alloc_len hp
                have key := rx_alloc_sim (R := rm_room M) (Q := MQ below (rx_Qc D tC ad0 base (rm_mc M) h0 r h') args s (rm_mc M) (rm_ms M) (rx_A base)) (p := p) (l := l) (e := e) (below := below) (meth := meth) (ls := ls) hx hb hown hts hC hbs hR hd hp
                have hlt : h.length < 1000000 ∧ uc < rm_mc M := ⟨hlen2.2.2.2.2, hlen2.2.2.2.1⟩
                exact (key (fun ad' H1 locs1 f1 f2 f3 => ih (by omega) pc' lv st' h1 uc' us' ad' H1 locs1 ls r h' hs f3 (by rw [f2]; exact hl) hlen2.2.1 hlen2.2.2.1 (fun k hk => (f1 k (by omega)).trans (hag k hk)) (fun z => by omega) (by omega))).2.2
              · cases hs
    · cases hs
end RXB
/-- what rx_run answers, the machine answers -/
theorem rx_sim (l : Launch) : ∀ n, rx_Sim l n := by
  intro n
  induction n using Nat.strongRecOn with
  | ind n IH =>
    intro M hM as h r h' hcat hrun D tC ad base
    obtain ⟨q, hq⟩ := rx_mt_all M hM
    obtain ⟨k1, k2, k3, k4, k5, k6, k7, k8, k9, k10⟩ := rx_mk_of hq
    refine Met.ofW (cc := rm_code M) (maxL := rm_maxL M) (ret := rm_ret M) k2 rfl ?_
    intro p e s m args below meth c s₁ B hml hv
    obtain ⟨rfl, hbs, hC, hK, hP, hD⟩ := hv
    have hts0 := atoms_spec (ws := rm_ws M) B.pre
    have hts : ∀ w ∈ rx_Ts, w.before ((as.map (rx_v ad)).toArray) s = true := fun w hw => hts0 w (List.mem_cons_of_mem _ hw)
    have hown : s.vm.findClass (rx_cn (rm_co M)) = some m.cls := by rw [k6]; exact findClass_of_methodNamed B.named
    have hin : rx_ini M = true → meth.name = "<init>" := fun z => by rw [(name_of_methodNamed B.named B.method).1]; exact (k9 (of_decide_eq_true z)).1
    have hl := lv_entry (as.map (rx_v ad)) (n := rm_maxL M) (by rw [rx_sl_len]; show rx_cats _ ≤ _; unfold rx_cats; rw [rx_cats_map]; exact hcat)
    rw [lg_entry_eq]
    rw [rx_args_map] at hl
    exact rx_body (D := D) (tC := tC) (ad0 := ad) (h0 := h) IH hM B.exec B.bytes hml hown hts hin B.returns B.notSynchronized hbs hC n (Nat.le_refl _) 0 (lv_args 0 as) [] h 0 0 ad s.heap [] _ r h' hrun ⟨hK, hP, hD, va_S.rf⟩ hl (Nat.zero_le _) (Nat.zero_le _) (fun _ _ => rfl) (fun _ => rfl) (Nat.le_refl _)
