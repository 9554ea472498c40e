/-! the machine does what rx_pure does -/
section RXP
variable {p : Program} {l : Launch} {e : Env} {R : Room} {s : State} {m : MethodId} {args : Array Value} {below : List Frame} {meth : Method} {c : Code} {H : Heap} {locs : List Loc} {cells slots : Nat} {Q : State → Prop}
variable {cc : ByteArray} {pc pc' nL len : Nat} {ls : Array Slot} {ad : Nat → Nat} {lv lv' : rx_L} {st st' : List Value}
/-- the goal behind an instruction -/
def rx_K (p : Program) (l : Launch) (e : Env) (R : Room) (s : State) (m : MethodId) (args : Array Value) (below : List Frame) (meth : Method) (c : Code) (H : Heap) (locs : List Loc) (cells slots : Nat) (Q : State → Prop) (ad : Nat → Nat) (nL pc : Nat) (lv : rx_L) (st : List Value) : Prop :=
  ∀ ls : Array Slot, lv_has ls nL (rx_l ad lv) → W p l e R s m args below meth c H locs cells slots Q (F0 m pc ls (st.map (rx_v ad)))
theorem rx_k_ld (hx : p.tables.exec = Jvm.exec) (hb : c.code = cc) {i n : Nat} (hs : rx_ld lv i n st = some (pc', lv', st')) (kk : rx_K p l e R s m args below meth c H locs cells slots Q ad nL pc' lv' st') (hl : lv_has ls nL (rx_l ad lv)) :
    ∃ x : Int32, ls[i]? = some (.val (.int x)) ∧ W p l e R s m args below meth c H locs cells slots Q (F0 m n ls (.int x :: st.map (rx_v ad))) := by
  unfold rx_ld at hs
  split at hs
  · next x hg => cases hs; exact ⟨x, rx_l_at hl hg, kk ls hl⟩
  · cases hs
theorem rx_k_ldl (hx : p.tables.exec = Jvm.exec) (hb : c.code = cc) {i n : Nat} (hs : rx_ldl lv i n st = some (pc', lv', st')) (kk : rx_K p l e R s m args below meth c H locs cells slots Q ad nL pc' lv' st') (hl : lv_has ls nL (rx_l ad lv)) :
    ∃ x : Int64, ls[i]? = some (.val (.long x)) ∧ W p l e R s m args below meth c H locs cells slots Q (F0 m n ls (.long x :: st.map (rx_v ad))) := by
  unfold rx_ldl at hs
  split at hs
  · next x hg => cases hs; exact ⟨x, rx_l_at hl hg, kk ls hl⟩
  · cases hs
theorem rx_k_lda (hx : p.tables.exec = Jvm.exec) (hb : c.code = cc) {i n : Nat} (hs : rx_lda lv i n st = some (pc', lv', st')) (kk : rx_K p l e R s m args below meth c H locs cells slots Q ad nL pc' lv' st') (hl : lv_has ls nL (rx_l ad lv)) :
    (∃ x : Nat, ls[i]? = some (.val (.ref x)) ∧ W p l e R s m args below meth c H locs cells slots Q (F0 m n ls (.ref x :: st.map (rx_v ad)))) ∨ (ls[i]? = some (.val .null) ∧ W p l e R s m args below meth c H locs cells slots Q (F0 m n ls (.null :: st.map (rx_v ad)))) := by
  unfold rx_lda at hs
  split at hs
  · next x hg => cases hs; exact Or.inl ⟨ad x, rx_l_at hl hg, kk ls hl⟩
  · next hg => cases hs; exact Or.inr ⟨rx_l_at hl hg, kk ls hl⟩
  · cases hs
theorem rx_k_sti {i n : Nat} (hs : rx_sti nL lv i n st = some (pc', lv', st')) (kk : rx_K p l e R s m args below meth c H locs cells slots Q ad nL pc' lv' st') :
    ∃ (x : Int32) (r : List Value), st = .int x :: r ∧ i < nL ∧ ∀ ls : Array Slot, lv_has ls nL (rx_l ad (rx_si lv i (.int x))) → W p l e R s m args below meth c H locs cells slots Q (F0 m n ls (r.map (rx_v ad))) := by
  unfold rx_sti at hs
  split at hs
  · split at hs
    · next hi => cases hs; exact ⟨_, _, rfl, hi, fun ls hl => kk ls hl⟩
    · cases hs
  · cases hs
theorem rx_k_sta {i n : Nat} (hs : rx_sta nL lv i n st = some (pc', lv', st')) (kk : rx_K p l e R s m args below meth c H locs cells slots Q ad nL pc' lv' st') :
    i < nL ∧ ((∃ (x : Nat) (r : List Value), st = .ref x :: r ∧ ∀ ls : Array Slot, lv_has ls nL (rx_l ad (rx_si lv i (.ref x))) → W p l e R s m args below meth c H locs cells slots Q (F0 m n ls (r.map (rx_v ad)))) ∨
    (∃ (r : List Value), st = .null :: r ∧ ∀ ls : Array Slot, lv_has ls nL (rx_l ad (rx_si lv i .null)) → W p l e R s m args below meth c H locs cells slots Q (F0 m n ls (r.map (rx_v ad))))) := by
  unfold rx_sta at hs
  split at hs
  · split at hs
    · next hi => cases hs; exact ⟨hi, Or.inl ⟨_, _, rfl, fun ls hl => kk ls hl⟩⟩
    · cases hs
  · split at hs
    · next hi => cases hs; exact ⟨hi, Or.inr ⟨_, rfl, fun ls hl => kk ls hl⟩⟩
    · cases hs
  · cases hs
theorem rx_k_inc (hx : p.tables.exec = Jvm.exec) (hb : c.code = cc) {i : Nat} {d : Int} (hd : decode cc pc = .ok (.iinc i d, 3)) (hs : rx_inc nL lv i (pc + 3) d st = some (pc', lv', st')) (kk : rx_K p l e R s m args below meth c H locs cells slots Q ad nL pc' lv' st') (hl : lv_has ls nL (rx_l ad lv)) :
    W p l e R s m args below meth c H locs cells slots Q (F0 m pc ls (st.map (rx_v ad))) := by
  unfold rx_inc at hs
  split at hs
  · next x hg =>
    split at hs
    · next hi =>
      cases hs
      have hm : (i, Value.int x) ∈ rx_l ad lv := by
        have : ∀ l : rx_L, rx_gi l i = some (.int x) → (i, Value.int x) ∈ rx_l ad l := by
          intro l
          induction l with
          | nil => intro h; cases h
          | cons q l ih =>
            intro h
            unfold rx_gi at h
            split at h
            · next he => subst he; obtain ⟨q1, q2⟩ := q; cases h; exact List.mem_cons_self
            · exact List.mem_cons_of_mem _ (ih h)
        exact this lv hg
      obtain ⟨k, hk⟩ := List.getElem?_of_mem hm
      exact lv_iinc hx hb hd hl hk rfl hi (rx_l_si ad lv i (.int (x + Int32.ofInt d))) (fun ls hl => kk ls hl)
    · cases hs
  · cases hs
theorem rx_k_ii {f : Int32 → Int32 → Int32} {n : Nat} (hs : rx_ii f n lv st = some (pc', lv', st')) (kk : rx_K p l e R s m args below meth c H locs cells slots Q ad nL pc' lv' st') (hl : lv_has ls nL (rx_l ad lv)) :
    ∃ (x y : Int32) (r : List Value), st = .int y :: .int x :: r ∧ W p l e R s m args below meth c H locs cells slots Q (F0 m n ls (.int (f x y) :: r.map (rx_v ad))) := by
  unfold rx_ii at hs
  split at hs
  · cases hs; exact ⟨_, _, _, rfl, kk ls hl⟩
  · cases hs
theorem rx_k_id {f : Int32 → Int32 → Int32} {n : Nat} (hs : rx_id f n lv st = some (pc', lv', st')) (kk : rx_K p l e R s m args below meth c H locs cells slots Q ad nL pc' lv' st') (hl : lv_has ls nL (rx_l ad lv)) :
    ∃ (x y : Int32) (r : List Value), st = .int y :: .int x :: r ∧ ¬ y = 0 ∧ W p l e R s m args below meth c H locs cells slots Q (F0 m n ls (.int (f x y) :: r.map (rx_v ad))) := by
  unfold rx_id at hs
  split at hs
  · split at hs
    · cases hs
    · next hy => cases hs; exact ⟨_, _, _, rfl, hy, kk ls hl⟩
  · cases hs
theorem rx_k_b1 {P : Int32 → Bool} {off : Int} (hs : rx_b1 P pc off lv st = some (pc', lv', st')) (kk : rx_K p l e R s m args below meth c H locs cells slots Q ad nL pc' lv' st') (hl : lv_has ls nL (rx_l ad lv)) :
    ∃ (x : Int32) (r : List Value) (t : Nat), st = .int x :: r ∧ (pc : Int) + off = (t : Int) ∧ (P x = true → W p l e R s m args below meth c H locs cells slots Q (F0 m t ls (r.map (rx_v ad)))) ∧ (¬ P x = true → W p l e R s m args below meth c H locs cells slots Q (F0 m (pc + 3) ls (r.map (rx_v ad)))) := by
  unfold rx_b1 at hs
  split at hs
  · next x r =>
    split at hs
    · next t ht =>
      split at hs
      · next hp => cases hs; exact ⟨x, _, _, rfl, rx_tg_eq ht, fun _ => kk ls hl, fun h => absurd hp h⟩
      · next hp => cases hs; exact ⟨x, _, _, rfl, rx_tg_eq ht, fun h => absurd h hp, fun _ => kk ls hl⟩
    · cases hs
  · cases hs
theorem rx_k_b2 {P : Int32 → Int32 → Bool} {off : Int} (hs : rx_b2 P pc off lv st = some (pc', lv', st')) (kk : rx_K p l e R s m args below meth c H locs cells slots Q ad nL pc' lv' st') (hl : lv_has ls nL (rx_l ad lv)) :
    ∃ (x y : Int32) (r : List Value) (t : Nat), st = .int y :: .int x :: r ∧ (pc : Int) + off = (t : Int) ∧ (P x y = true → W p l e R s m args below meth c H locs cells slots Q (F0 m t ls (r.map (rx_v ad)))) ∧ (¬ P x y = true → W p l e R s m args below meth c H locs cells slots Q (F0 m (pc + 3) ls (r.map (rx_v ad)))) := by
  unfold rx_b2 at hs
  split at hs
  · next y x r =>
    split at hs
    · next t ht =>
      split at hs
      · next hp => cases hs; exact ⟨x, y, _, _, rfl, rx_tg_eq ht, fun _ => kk ls hl, fun h => absurd hp h⟩
      · next hp => cases hs; exact ⟨x, y, _, _, rfl, rx_tg_eq ht, fun h => absurd h hp, fun _ => kk ls hl⟩
    · cases hs
  · cases hs
/-- a branch of one number, of two -/
theorem rx_k_if (hx : p.tables.exec = Jvm.exec) (hb : c.code = cc) {cd : ClassFile.Cond} {off : Int} (hd : decode cc pc = .ok (.ifCond cd off, 3)) (hs : rx_b1 (rx_c1 cd) pc off lv st = some (pc', lv', st')) (kk : rx_K p l e R s m args below meth c H locs cells slots Q ad nL pc' lv' st') (hl : lv_has ls nL (rx_l ad lv)) :
    W p l e R s m args below meth c H locs cells slots Q (F0 m pc ls (st.map (rx_v ad))) := by
  obtain ⟨x, r, t, rfl, ht, h1, h2⟩ := rx_k_b1 hs kk hl
  show W p l e R s m args below meth c H locs cells slots Q (F0 m pc ls (.int x :: r.map (rx_v ad)))
  cases cd
  · exact lv_if_eq hx hb hd ht (fun q => h1 (decide_eq_true q)) (fun q => h2 (fun z => q (of_decide_eq_true z)))
  · exact lv_if_ne hx hb hd ht (fun q => h1 (decide_eq_true q)) (fun q => h2 (fun z => absurd q (of_decide_eq_true z)))
  · exact lv_if_lt hx hb hd ht (fun q => h1 (decide_eq_true q)) (fun q => h2 (fun z => q (of_decide_eq_true z)))
  · exact lv_if_ge hx hb hd ht (fun q => h1 (decide_eq_true q)) (fun q => h2 (fun z => q (of_decide_eq_true z)))
  · exact lv_if_gt hx hb hd ht (fun q => h1 (decide_eq_true q)) (fun q => h2 (fun z => q (of_decide_eq_true z)))
  · exact lv_if_le hx hb hd ht (fun q => h1 (decide_eq_true q)) (fun q => h2 (fun z => q (of_decide_eq_true z)))
theorem rx_k_icmp (hx : p.tables.exec = Jvm.exec) (hb : c.code = cc) {cd : ClassFile.Cond} {off : Int} (hd : decode cc pc = .ok (.if_icmp cd off, 3)) (hs : rx_b2 (rx_c2 cd) pc off lv st = some (pc', lv', st')) (kk : rx_K p l e R s m args below meth c H locs cells slots Q ad nL pc' lv' st') (hl : lv_has ls nL (rx_l ad lv)) :
    W p l e R s m args below meth c H locs cells slots Q (F0 m pc ls (st.map (rx_v ad))) := by
  obtain ⟨x, y, r, t, rfl, ht, h1, h2⟩ := rx_k_b2 hs kk hl
  show W p l e R s m args below meth c H locs cells slots Q (F0 m pc ls (.int y :: .int x :: r.map (rx_v ad)))
  cases cd
  · exact lv_icmp_eq hx hb hd ht (fun q => h1 (decide_eq_true q)) (fun q => h2 (fun z => q (of_decide_eq_true z)))
  · exact lv_icmp_ne hx hb hd ht (fun q => h1 (decide_eq_true q)) (fun q => h2 (fun z => absurd q (of_decide_eq_true z)))
  · exact lv_icmp_lt hx hb hd ht (fun q => h1 (decide_eq_true q)) (fun q => h2 (fun z => q (of_decide_eq_true z)))
  · exact lv_icmp_ge hx hb hd ht (fun q => h1 (decide_eq_true q)) (fun q => h2 (fun z => q (of_decide_eq_true z)))
  · exact lv_icmp_gt hx hb hd ht (fun q => h1 (decide_eq_true q)) (fun q => h2 (fun z => q (of_decide_eq_true z)))
  · exact lv_icmp_le hx hb hd ht (fun q => h1 (decide_eq_true q)) (fun q => h2 (fun z => q (of_decide_eq_true z)))
theorem rx_k_tsw (hx : p.tables.exec = Jvm.exec) (hb : c.code = cc) {d lo hi : Int} {offs : Array Int} (hd : decode cc pc = .ok (.tableswitch d lo hi offs, len)) (hs : rx_tsw pc d lo hi offs lv st = some (pc', lv', st')) (kk : rx_K p l e R s m args below meth c H locs cells slots Q ad nL pc' lv' st') (hl : lv_has ls nL (rx_l ad lv)) :
    W p l e R s m args below meth c H locs cells slots Q (F0 m pc ls (st.map (rx_v ad))) := by
  unfold rx_tsw at hs
  split at hs
  · next x r =>
    show W p l e R s m args below meth c H locs cells slots Q (F0 m pc ls (.int x :: r.map (rx_v ad)))
    split at hs
    · next hc =>
      obtain ⟨h1, rfl, rfl⟩ := rx_go_eq hs
      exact lv_tableOut hx hb hd hc h1 (kk ls hl)
    · next hc =>
      split at hs
      · next o ho =>
        obtain ⟨h1, rfl, rfl⟩ := rx_go_eq hs
        exact lv_tableIn hx hb hd (fun q => hc (Or.inl q)) (fun q => hc (Or.inr q)) ho h1 (kk ls hl)
      · cases hs
  · cases hs
theorem rx_k_lsw (hx : p.tables.exec = Jvm.exec) (hb : c.code = cc) {d : Int} {ps : Array (Int × Int)} (hd : decode cc pc = .ok (.lookupswitch d ps, len)) (hs : rx_lsw pc d ps lv st = some (pc', lv', st')) (kk : rx_K p l e R s m args below meth c H locs cells slots Q ad nL pc' lv' st') (hl : lv_has ls nL (rx_l ad lv)) :
    W p l e R s m args below meth c H locs cells slots Q (F0 m pc ls (st.map (rx_v ad))) := by
  unfold rx_lsw at hs
  split at hs
  · next x r =>
    show W p l e R s m args below meth c H locs cells slots Q (F0 m pc ls (.int x :: r.map (rx_v ad)))
    split at hs
    · next hc =>
      obtain ⟨h1, rfl, rfl⟩ := rx_go_eq hs
      exact lv_lookup hx hb hd hc rfl h1 (kk ls hl)
    · cases hs
  · cases hs
set_option maxHeartbeats 4000000 in
theorem rx_pure_sim (hx : p.tables.exec = Jvm.exec) (hb : c.code = cc) {i : Instr} (hd : decode cc pc = .ok (i, len)) (hs : rx_pure nL i len pc lv st = some (pc', lv', st')) (kk : rx_K p l e R s m args below meth c H locs cells slots Q ad nL pc' lv' st') (hl : lv_has ls nL (rx_l ad lv)) :
    W p l e R s m args below meth c H locs cells slots Q (F0 m pc ls (st.map (rx_v ad))) := by
  unfold rx_pure at hs
  split at hs
  · cases hs; exact lv_iconst hx hb hd rfl (kk ls hl)
  · cases hs; exact lv_bipush hx hb hd rfl (kk ls hl)
  · cases hs; exact lv_sipush hx hb hd rfl (kk ls hl)
  · cases hs; exact lv_null hx hb hd (kk ls hl)
  · obtain ⟨x, h1, h2⟩ := rx_k_ld hx hb hs kk hl
    exact lv_iload_n hx hb hd rfl h1 h2
  · obtain ⟨x, h1, h2⟩ := rx_k_ld hx hb hs kk hl
    exact lv_iload hx hb hd h1 h2
  · obtain ⟨x, h1, h2⟩ := rx_k_ldl hx hb hs kk hl
    exact lv_lload_n hx hb hd rfl h1 h2
  · rcases rx_k_lda hx hb hs kk hl with ⟨x, h1, h2⟩ | ⟨h1, h2⟩
    · exact lv_aload_n hx hb hd rfl h1 h2
    · exact lv_aload_nN hx hb hd rfl h1 h2
  · rcases rx_k_lda hx hb hs kk hl with ⟨x, h1, h2⟩ | ⟨h1, h2⟩
    · exact lv_aload hx hb hd h1 h2
    · exact lv_aloadN hx hb hd h1 h2
  · obtain ⟨x, r, rfl, hi, h2⟩ := rx_k_sti hs kk
    exact lv_istore_n hx hb hd rfl hl hi (rx_l_si ad lv _ (.int x)) h2
  · obtain ⟨x, r, rfl, hi, h2⟩ := rx_k_sti hs kk
    exact lv_istore hx hb hd hl hi (rx_l_si ad lv _ (.int x)) h2
  · obtain ⟨hi, ⟨x, r, rfl, h2⟩ | ⟨r, rfl, h2⟩⟩ := rx_k_sta hs kk
    · exact lv_astore_n hx hb hd rfl hl hi (rx_l_si ad lv _ (.ref x)) h2
    · exact lv_astore_nN hx hb hd rfl hl hi (rx_l_si ad lv _ .null) h2
  · obtain ⟨hi, ⟨x, r, rfl, h2⟩ | ⟨r, rfl, h2⟩⟩ := rx_k_sta hs kk
    · exact lv_astore hx hb hd hl hi (rx_l_si ad lv _ (.ref x)) h2
    · exact lv_astoreN hx hb hd hl hi (rx_l_si ad lv _ .null) h2
  · exact rx_k_inc hx hb hd hs kk hl
  · obtain ⟨x, y, r, rfl, h2⟩ := rx_k_ii hs kk hl
    exact lv_iadd hx hb hd h2
  · obtain ⟨x, y, r, rfl, h2⟩ := rx_k_ii hs kk hl
    exact lv_isub hx hb hd h2
  · obtain ⟨x, y, r, rfl, h2⟩ := rx_k_ii hs kk hl
    exact lv_imul hx hb hd h2
  · obtain ⟨x, y, r, rfl, h2⟩ := rx_k_ii hs kk hl
    exact lv_iand hx hb hd h2
  · obtain ⟨x, y, r, rfl, h2⟩ := rx_k_ii hs kk hl
    exact lv_ior hx hb hd h2
  · obtain ⟨x, y, r, rfl, h2⟩ := rx_k_ii hs kk hl
    exact lv_ixor hx hb hd h2
  · obtain ⟨x, y, r, rfl, h2⟩ := rx_k_ii hs kk hl
    exact lv_ishl hx hb hd h2
  · obtain ⟨x, y, r, rfl, h2⟩ := rx_k_ii hs kk hl
    exact lv_ishr hx hb hd h2
  · obtain ⟨x, y, r, rfl, hy, h2⟩ := rx_k_id hs kk hl
    exact lv_idiv hx hb hd hy h2
  · obtain ⟨x, y, r, rfl, hy, h2⟩ := rx_k_id hs kk hl
    exact lv_irem hx hb hd hy h2
  · split at hs
    · cases hs; exact lv_i2b hx hb hd rfl (kk ls hl)
    · cases hs
  · split at hs
    · cases hs; exact lv_i2c hx hb hd rfl (kk ls hl)
    · cases hs
  · split at hs
    · cases hs; exact lv_l2i hx hb hd rfl (kk ls hl)
    · cases hs
  · split at hs
    · cases hs; exact lv_land hx hb hd (kk ls hl)
    · cases hs
  · split at hs
    · cases hs; exact lv_lshr hx hb hd rfl (kk ls hl)
    · cases hs
  · split at hs
    · split at hs
      · next hc => cases hs; exact lv_dup hx hb hd ((rx_cat ad _).trans hc) (kk ls hl)
      · cases hs
    · cases hs
  · split at hs
    · split at hs
      · next hc => cases hs; exact lv_pop hx hb hd ((rx_cat ad _).trans hc) (kk ls hl)
      · cases hs
    · cases hs
  · split at hs
    · split at hs
      · next hc => cases hs; exact lv_dup2_11 hx hb hd ((rx_cat ad _).trans hc.1) ((rx_cat ad _).trans hc.2) (kk ls hl)
      · cases hs
    · cases hs
  · exact rx_k_if hx hb hd hs kk hl
  · exact rx_k_icmp hx hb hd hs kk hl
  · obtain ⟨h1, rfl, rfl⟩ := rx_go_eq hs
    exact lv_goto hx hb hd h1 (kk ls hl)
  · split at hs
    · cases hs; exact lv_ifnull hx hb hd (kk ls hl)
    · obtain ⟨h1, rfl, rfl⟩ := rx_go_eq hs
      exact lv_ifnullN hx hb hd h1 (kk ls hl)
    · cases hs
  · split at hs
    · obtain ⟨h1, rfl, rfl⟩ := rx_go_eq hs
      exact lv_ifnonnull hx hb hd h1 (kk ls hl)
    · cases hs; exact lv_ifnonnullN hx hb hd (kk ls hl)
    · cases hs
  · exact rx_k_tsw hx hb hd hs kk hl
  · exact rx_k_lsw hx hb hd hs kk hl
  · cases hs
end RXP
