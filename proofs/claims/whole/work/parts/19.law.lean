/-! THE CLAIM OUT OF ONE WALK OF THE LAW'S BODY. Your part is whole_start (and what it stands on); all else here is the same for every law, but numbers. -/
def R_law : String := "RingDriveLaw"
def lw_P (b : Addr) (xs : List Int32) (args : Array Value) (s : State) : Prop := args = #[.ref b] ∧ s.IntsAt b xs ∧ xs.length ≤ 3072 ∧ (Jvm.Cond.and given_1 narrow_1).before args s = true
def lw_Q (_ : Array Value) (s : State) (o : Outcome) (t : State) : Prop := o = .returned (some (.int 1)) ∧ Framed s o t [] 600000 7302250
def lw_Z (below : List Frame) (a : Array Value) (s : State) : State → Prop := fun t => ∃ o, t.status = .running ∧ Ended t below o ∧ lw_Q a s o t
/-- the law's own end, with 1 on the stack, nothing written that was there before, its room as the claim has it -/
theorem lw_ret {p : Program} {l : Launch} {e : Env} {s : State} {m : MethodId} {below : List Frame} {meth : Method} {c : Code} {b : Nat} (hx : p.tables.exec = Jvm.exec) (hb : c.code = code) (hr : meth.sig.returnType = ret) (hlocks : meth.locks = false) {pc : Nat} {H : Heap} {ls : Array Slot} (hdg : decode code pc = .ok (.ireturn, 1)) : W p l e room_1 s m #[Value.ref b] below meth c H [] 600000 7302250 (lw_Z below #[Value.ref b] s) (F0 m pc ls [.int 1]) := by
  intro T hT X
  obtain ⟨fs, hret, hrun, hended, hW, hframe⟩ := X.leave (v := some (.int 1)) (hlocks := hlocks) (fun h => by rw [hr] at h; cases h)
  have hmeth' : T.vm.method? m = some meth := X.method'
  refine ⟨T.setFrames fs, ?_, .returned (some (.int 1)), hrun, hended, rfl, ⟨_, rfl⟩, hW, hframe⟩
  jvm_step X.here [X.here.top, hx, hb, hdg, hmeth', hr, ret, narrow_b1]
  (try refine ⟨rfl, ?_⟩); (try refine ⟨rfl, ?_⟩)
  first | (intro acts; rw [hret _ acts rfl rfl rfl]) | rw [hret _ _ rfl rfl rfl]
  exact Steps.refl _
/-- what holds at the law's entry: the machine, the code, the tables' words (any of lw_tbl by 'hts w (by decide +kernel)'), the script of L ints xs at the cell b, what the Statement gives of the start (any of its parts by flat_of_before) -/
def lw_At (p : Program) (s : State) (m : MethodId) (meth : Method) (c : Code) (b L : Nat) (xs : Nat → Int32) : Prop :=
  p.tables.exec = Jvm.exec ∧ c.code = code ∧ meth.sig.returnType = ret ∧ c.maxLocals = 4 ∧ s.vm.findClass R_law = some m.cls ∧ (∀ w ∈ lw_tbl, w.before #[Value.ref b] s = true) ∧ va_X b L xs s s.heap ∧ b < s.heap.size ∧ meth.locks = false ∧ (Jvm.Cond.and given_1 narrow_1).before #[Value.ref b] s = true
/-! the law, run by a function: its script is the array at the place 5000000 -/
def rx_lawM : rx_M := (13, x, code, 4, some .boolean, 1, 1, 14, 600, 600000, 7302250)
def rx_scr (L : Nat) (xs : Nat → Int32) (i : Instr) (len : Nat) (st : List Value) : Option (List Value) := match i, len, st with
  | .iaload, 1, .int j :: .ref k :: r => if k = 5000000 ∧ rx_in j L = true then some (.int (xs j.toNatClampNeg) :: r) else none
  | .arraylength, 1, .ref k :: r => if k = 5000000 then some (.int (Int32.ofNat L) :: r) else none
  | _, _, _ => none
def rx_end (i : Instr) (len : Nat) (st : List Value) : Bool := match i, len, st with
  | .ireturn, 1, [.int x] => decide (x = 1)
  | _, _, _ => false
def rx_runL (M : rx_M) (L : Nat) (xs : Nat → Int32) : Nat → rx_F → Option rx_H
  | 0, _ => none
  | n + 1, (pc, l, st, h, uc, us) => match decode (rm_code M) pc with
    | .ok (i, len) => match rx_scr L xs i len st with
      | some st' => rx_runL M L xs n (pc + 1, l, st', h, uc, us)
      | none => match rx_pure (rm_maxL M) i len pc l st with
        | some (pc', l', st') => rx_runL M L xs n (pc', l', st', h, uc, us)
        | none => match rx_who (rm_co M) i len with
          | some Z => if rx_may M Z l st h uc us = true then match rx_run n Z (0, lv_args 0 (st.take (rx_na Z)).reverse, [], h, 0, 0) with
              | some (r, h') => rx_runL M L xs n (pc + 3, l, r.toList ++ st.drop (rx_na Z), h', uc + rm_mc Z, us + rm_ms Z)
              | none => none
            else none
          | none => if rx_end i len st = true then some h else match rx_alloc (rm_co M) (rm_mc M) (rm_ms M) i len pc l st h uc us with
            | some (pc', st', h', uc', us') => rx_runL M L xs n (pc', l, st', h', uc', us')
            | none => none
    | .error _ => none
theorem rx_law_room : room_1 = rm_room rx_lawM := rfl
section RXL
variable {p : Program} {l : Launch} {e : Env} {s : State} {m : MethodId} {below : List Frame} {meth : Method} {c : Code} {b L : Nat} {xs : Nat → Int32}
variable {D : va_G} {tC : Nat → ClassId} {ad0 : Nat → Nat} {M : rx_M}
set_option maxRecDepth 20000 in
set_option maxHeartbeats 4000000 in
theorem rx_bodyL (hret : ∀ (pc : Nat) (H : Heap) (ls : Array Slot), decode (rm_code M) pc = .ok (.ireturn, 1) → W p l e (rm_room M) s m #[Value.ref b] below meth c H [] (rm_mc M) (rm_ms M) (lw_Z below #[Value.ref b] s) (F0 m pc ls [.int 1])) (hx : p.tables.exec = Jvm.exec) (hb : c.code = rm_code M) (hml : c.maxLocals = rm_maxL M) (hown : s.vm.findClass (rx_cn (rm_co M)) = some m.cls) (hts : ∀ w ∈ rx_Ts, w.before #[Value.ref b] s = true) (hC0 : rx_Con ad0 s.heap.size s) (hX : va_X b L xs s s.heap) (hbl : b < s.heap.size) (hb0 : ad0 5000000 = b) :
    ∀ k, ∀ (pc : Nat) (lv : rx_L) (st : List Value) (h : rx_H) (uc us : Nat) (ad : Nat → Nat) (H : Heap) (locs : List Loc) (ls : Array Slot) (h' : rx_H), rx_runL M L xs k (pc, lv, st, h, uc, us) = some h' → rx_Rel D tC ad s.heap.size s H locs h → lv_has ls (rm_maxL M) (rx_l ad lv) → uc ≤ rm_mc M → us ≤ rm_ms M → (∀ k, 1000000 ≤ k → ad k = ad0 k) →
      W p l e (rm_room M) s m #[Value.ref b] below meth c H locs uc us (lw_Z below #[Value.ref b] s) (F0 m pc ls (st.map (rx_v ad))) := by
  intro k
  induction k with
  | zero => intro pc lv st h uc us ad H locs ls h' hs; cases hs
  | succ k ih =>
    intro pc lv st h uc us ad H locs ls h' hs hR hl huc hus hag
    have hC : rx_Con ad s.heap.size s := rx_Con_ad hag hC0
    have hml' : c.maxLocals = ls.size := hml.trans hl.1.symm
    have hbA : ¬ rx_A s.heap.size b := Nat.not_le.mpr hbl
    have hadb : ad 5000000 = b := (hag _ (by omega)).trans hb0
    unfold rx_runL at hs
    split at hs
    · next i len hd =>
      split at hs
      · next st' hp =>
        have kk := ih (pc + 1) lv st' h uc us ad H locs ls h' hs hR hl huc hus hag
        unfold rx_scr at hp
        split at hp
        · next j k' r =>
          split at hp
          · next hi =>
            cases hp
            obtain ⟨e1, hi⟩ := hi
            subst e1
            show W p l e (rm_room M) s m #[Value.ref b] below meth c H locs uc us (lw_Z below #[Value.ref b] s) (F0 m pc ls (.int j :: .ref (ad 5000000) :: r.map (rx_v ad)))
            rw [hadb]
            exact va_sld hx hb hX hbl hbA hR.2.2.2 (rx_in_iff hi) hd kk
          · cases hp
        · next k' r =>
          split at hp
          · next hi =>
            cases hp
            subst hi
            show W p l e (rm_room M) s m #[Value.ref b] below meth c H locs uc us (lw_Z below #[Value.ref b] s) (F0 m pc ls (.ref (ad 5000000) :: r.map (rx_v ad)))
            rw [hadb]
            exact va_slen hx hb hX hbl hbA hR.2.2.2 hd kk
          · cases hp
        · cases hp
      · split at hs
        · next pc' lv' st' hp => exact rx_pure_sim hx hb hd hp (fun ls' hl' => ih pc' lv' st' h uc us ad H locs ls' h' hs hR hl' huc hus hag) hl
        · split at hs
          · next Z hw =>
            split at hs
            · next hmay =>
              split at hs
              · next r1 h1 hrun =>
                obtain ⟨a1, a2, a3, a4, a5, a6, a7, a8, a9, a10⟩ := rx_may_ok hmay
                have hZ := rx_who_mem hw
                have hMet := rx_sim l k Z hZ _ h r1 h1 (by rw [rx_cats_rev]; exact a8) hrun
                refine rx_callW (rx_call_run (M := M) hZ hx hb hml' hown hts (Nat.le_refl _) hC hR hd hw hmay hMet) (fun v st₀ t H1 L' e0 e1 hq hL => ?_)
                obtain ⟨ad', g1, g2, g3, g4, g5, g6, g7⟩ := hq
                have hv : v = r1.map (rx_v ad') := by
                  have := g4
                  simp only [Outcome.returned.injEq] at this
                  exact this
                subst hv
                obtain ⟨hK, hP, hD, hS⟩ := hR
                have hst : rx_l ad' lv = rx_l ad lv ∧ (st.drop (rx_na Z)).map (rx_v ad') = (st.drop (rx_na Z)).map (rx_v ad) := by
                  rcases a7 with z | z
                  · rw [g2 z]; exact ⟨rfl, rfl⟩
                  · exact rx_old_ok z g1
                have hR1 : rx_Rel D tC ad' s.heap.size s H1 (locs ++ L') h1 := by
                  obtain ⟨f1, f2⟩ := g7
                  rw [e0] at f1 f2
                  rw [e1] at f1 f2 g5
                  exact ⟨hK, g5, g6, Nat.le_trans hS.1 f1, fun q q1 q2 => (f2 q (Nat.lt_of_lt_of_le q1 hS.1) q2).trans (hS.2.1 q q1 q2), fun q hq => (List.mem_append.mp hq).elim (hS.2.2 q) (hL q)⟩
                have := ih (pc + 3) lv (r1.toList ++ st.drop (rx_na Z)) h1 (uc + rm_mc Z) (us + rm_ms Z) ad' H1 (locs ++ L') ls h' hs hR1 (by rw [hst.1]; exact hl) a5 a6 (fun k hk => (g1 k (Or.inr hk)).trans (hag k hk))
                rw [List.map_append, hst.2] at this
                have e3 : r1.toList.map (rx_v ad') = (r1.map (rx_v ad')).toList := by cases r1 <;> rfl
                rw [e3] at this
                exact this
              · cases hs
            · cases hs
          · split at hs
            · next hend =>
              unfold rx_end at hend
              split at hend
              · next y =>
                have hy := of_decide_eq_true hend
                subst hy
                refine va_forget (fun q hq => hR.2.2.2.2.2 q hq) ?_
                refine W.widen (k := rm_mc M) (n := rm_ms M) huc hus ?_
                exact hret pc H ls hd
              · cases hend
            · split at hs
              · next pc' st' h1 uc' us' hp =>
                have hlen2 := rx_alloc_len hp
                exact (rx_alloc_sim (R := rm_room M) (co := rm_co M) hx hb hown hts hC (Nat.le_refl _) hR hd hp (fun ad' H1 locs1 f1 f2 f3 => ih pc' lv st' h1 uc' us' ad' H1 locs1 ls h' hs f3 (by rw [f2]; exact hl) hlen2.2.1 hlen2.2.2.1 (fun k hk => (f1 k (by omega)).trans (hag k hk)))).2.2
              · cases hs
    · cases hs
end RXL
