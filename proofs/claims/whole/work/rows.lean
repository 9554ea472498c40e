section
/-! AN ENGINE: a small machine over abstract cells that is run by a function; what it does, the machine does. PART 1: what touches no cell. -/
abbrev rx_L : Type := List (Nat × Value)
def rx_v (ad : Nat → Nat) : Value → Value
  | .ref k => .ref (ad k)
  | v => v
def rx_l (ad : Nat → Nat) (l : rx_L) : rx_L := l.map (fun q => (q.1, rx_v ad q.2))
def rx_gi : rx_L → Nat → Option Value
  | [], _ => none
  | q :: l, i => if q.1 = i then some q.2 else rx_gi l i
def rx_si (l : rx_L) (i : Nat) (v : Value) : rx_L := (i, v) :: l.filter (fun q => !(q.1 == i) && !(q.1 + 1 == i && q.2.category == 2))
def rx_tg (pc : Nat) (off : Int) : Option Nat := if 0 ≤ (pc : Int) + off then some ((pc : Int) + off).toNat else none
def rx_go (pc : Nat) (off : Int) (l : rx_L) (st : List Value) : Option (Nat × rx_L × List Value) := match rx_tg pc off with
  | some t => some (t, l, st)
  | none => none
def rx_ld (l : rx_L) (i n : Nat) (st : List Value) : Option (Nat × rx_L × List Value) := match rx_gi l i with
  | some (.int x) => some (n, l, .int x :: st)
  | _ => none
def rx_ldl (l : rx_L) (i n : Nat) (st : List Value) : Option (Nat × rx_L × List Value) := match rx_gi l i with
  | some (.long x) => some (n, l, .long x :: st)
  | _ => none
def rx_lda (l : rx_L) (i n : Nat) (st : List Value) : Option (Nat × rx_L × List Value) := match rx_gi l i with
  | some (.ref x) => some (n, l, .ref x :: st)
  | some .null => some (n, l, .null :: st)
  | _ => none
def rx_sti (nL : Nat) (l : rx_L) (i n : Nat) (st : List Value) : Option (Nat × rx_L × List Value) := match st with
  | .int x :: r => if i < nL then some (n, rx_si l i (.int x), r) else none
  | _ => none
def rx_sta (nL : Nat) (l : rx_L) (i n : Nat) (st : List Value) : Option (Nat × rx_L × List Value) := match st with
  | .ref x :: r => if i < nL then some (n, rx_si l i (.ref x), r) else none
  | .null :: r => if i < nL then some (n, rx_si l i .null, r) else none
  | _ => none
def rx_inc (nL : Nat) (l : rx_L) (i n : Nat) (d : Int) (st : List Value) : Option (Nat × rx_L × List Value) := match rx_gi l i with
  | some (.int x) => if i < nL then some (n, rx_si l i (.int (x + Int32.ofInt d)), st) else none
  | _ => none
def rx_ii (f : Int32 → Int32 → Int32) (n : Nat) (l : rx_L) (st : List Value) : Option (Nat × rx_L × List Value) := match st with
  | .int y :: .int x :: r => some (n, l, .int (f x y) :: r)
  | _ => none
def rx_id (f : Int32 → Int32 → Int32) (n : Nat) (l : rx_L) (st : List Value) : Option (Nat × rx_L × List Value) := match st with
  | .int y :: .int x :: r => if y = 0 then none else some (n, l, .int (f x y) :: r)
  | _ => none
def rx_b1 (P : Int32 → Bool) (pc : Nat) (off : Int) (l : rx_L) (st : List Value) : Option (Nat × rx_L × List Value) := match st with
  | .int x :: r => match rx_tg pc off with
    | some t => if P x then some (t, l, r) else some (pc + 3, l, r)
    | none => none
  | _ => none
def rx_b2 (P : Int32 → Int32 → Bool) (pc : Nat) (off : Int) (l : rx_L) (st : List Value) : Option (Nat × rx_L × List Value) := match st with
  | .int y :: .int x :: r => match rx_tg pc off with
    | some t => if P x y then some (t, l, r) else some (pc + 3, l, r)
    | none => none
  | _ => none
def rx_c1 : ClassFile.Cond → Int32 → Bool
  | .eq, x => decide (x = 0)
  | .ne, x => decide (¬ x = 0)
  | .lt, x => decide (x < 0)
  | .ge, x => decide (0 ≤ x)
  | .gt, x => decide (0 < x)
  | .le, x => decide (x ≤ 0)
def rx_c2 : ClassFile.Cond → Int32 → Int32 → Bool
  | .eq, x, y => decide (x = y)
  | .ne, x, y => decide (¬ x = y)
  | .lt, x, y => decide (x < y)
  | .ge, x, y => decide (y ≤ x)
  | .gt, x, y => decide (y < x)
  | .le, x, y => decide (x ≤ y)
def rx_tsw (pc : Nat) (d lo hi : Int) (offs : Array Int) (l : rx_L) (st : List Value) : Option (Nat × rx_L × List Value) := match st with
  | .int x :: r => if x.toInt < lo ∨ hi < x.toInt then rx_go pc d l r else match offs[(x.toInt - lo).toNat]? with
    | some o => rx_go pc o l r
    | none => none
  | _ => none
def rx_lsw (pc : Nat) (d : Int) (ps : Array (Int × Int)) (l : rx_L) (st : List Value) : Option (Nat × rx_L × List Value) := match st with
  | .int x :: r => if (ps.toList.zip (ps.toList.drop 1)).all (fun (a, next) => a.1 < next.1) = true then rx_go pc (Op.lookupswitch.offset ps.toList d x.toInt) l r else none
  | _ => none
def rx_pure (nL : Nat) (i : Instr) (len pc : Nat) (l : rx_L) (st : List Value) : Option (Nat × rx_L × List Value) := match i, len with
  | .iconst n, 1 => some (pc + 1, l, .int (Int32.ofInt n) :: st)
  | .bipush n, 2 => some (pc + 2, l, .int (Int8.ofInt n).toInt32 :: st)
  | .sipush n, 3 => some (pc + 3, l, .int (Int16.ofInt n).toInt32 :: st)
  | .aconst_null, 1 => some (pc + 1, l, .null :: st)
  | .iload_n k, 1 => rx_ld l k (pc + 1) st
  | .iload k, 2 => rx_ld l k (pc + 2) st
  | .lload_n k, 1 => rx_ldl l k (pc + 1) st
  | .aload_n k, 1 => rx_lda l k (pc + 1) st
  | .aload k, 2 => rx_lda l k (pc + 2) st
  | .istore_n k, 1 => rx_sti nL l k (pc + 1) st
  | .istore k, 2 => rx_sti nL l k (pc + 2) st
  | .astore_n k, 1 => rx_sta nL l k (pc + 1) st
  | .astore k, 2 => rx_sta nL l k (pc + 2) st
  | .iinc k d, 3 => rx_inc nL l k (pc + 3) d st
  | .iadd, 1 => rx_ii (fun x y => x + y) (pc + 1) l st
  | .isub, 1 => rx_ii (fun x y => x - y) (pc + 1) l st
  | .imul, 1 => rx_ii (fun x y => x * y) (pc + 1) l st
  | .iand, 1 => rx_ii (fun x y => x &&& y) (pc + 1) l st
  | .ior, 1 => rx_ii (fun x y => x ||| y) (pc + 1) l st
  | .ixor, 1 => rx_ii (fun x y => x ^^^ y) (pc + 1) l st
  | .ishl, 1 => rx_ii (fun x y => x <<< (y &&& 31)) (pc + 1) l st
  | .ishr, 1 => rx_ii (fun x y => x >>> (y &&& 31)) (pc + 1) l st
  | .idiv, 1 => rx_id (fun x y => x / y) (pc + 1) l st
  | .irem, 1 => rx_id (fun x y => x - x / y * y) (pc + 1) l st
  | .i2b, 1 => match st with
    | .int x :: r => some (pc + 1, l, .int x.toInt8.toInt32 :: r)
    | _ => none
  | .i2c, 1 => match st with
    | .int x :: r => some (pc + 1, l, .int (x.toUInt32 % 65536).toInt32 :: r)
    | _ => none
  | .l2i, 1 => match st with
    | .long x :: r => some (pc + 1, l, .int x.toInt32 :: r)
    | _ => none
  | .land, 1 => match st with
    | .long y :: .long x :: r => some (pc + 1, l, .long (x &&& y) :: r)
    | _ => none
  | .lshr, 1 => match st with
    | .int y :: .long x :: r => some (pc + 1, l, .long (x >>> (y.toInt64 &&& 63)) :: r)
    | _ => none
  | .dup, 1 => match st with
    | v :: r => if v.category = 1 then some (pc + 1, l, v :: v :: r) else none
    | _ => none
  | .pop, 1 => match st with
    | v :: r => if v.category = 1 then some (pc + 1, l, r) else none
    | _ => none
  | .dup2, 1 => match st with
    | v :: w :: r => if v.category = 1 ∧ w.category = 1 then some (pc + 1, l, v :: w :: v :: w :: r) else none
    | _ => none
  | .ifCond c off, 3 => rx_b1 (rx_c1 c) pc off l st
  | .if_icmp c off, 3 => rx_b2 (rx_c2 c) pc off l st
  | .goto off, 3 => rx_go pc off l st
  | .ifnull off, 3 => match st with
    | .ref _ :: r => some (pc + 3, l, r)
    | .null :: r => rx_go pc off l r
    | _ => none
  | .ifnonnull off, 3 => match st with
    | .ref _ :: r => rx_go pc off l r
    | .null :: r => some (pc + 3, l, r)
    | _ => none
  | .tableswitch d lo hi offs, _ => rx_tsw pc d lo hi offs l st
  | .lookupswitch d ps, _ => rx_lsw pc d ps l st
  | _, _ => none
theorem rx_cat (ad : Nat → Nat) (v : Value) : (rx_v ad v).category = v.category := by cases v <;> rfl
theorem rx_l_at {ad : Nat → Nat} {ls : Array Slot} {nL i : Nat} {l : rx_L} {v : Value} (hl : lv_has ls nL (rx_l ad l)) (h : rx_gi l i = some v) : ls[i]? = some (.val (rx_v ad v)) := by
  have : (i, v) ∈ l := by
    clear hl
    induction l with
    | nil => cases h
    | cons q l ih =>
      unfold rx_gi at h
      split at h
      · next he => subst he; cases h; exact List.mem_cons_self
      · exact List.mem_cons_of_mem _ (ih h)
  exact hl.2.2 (i, rx_v ad v) (List.mem_map.mpr ⟨(i, v), this, rfl⟩)
theorem rx_l_si (ad : Nat → Nat) (l : rx_L) (i : Nat) (v : Value) : (i, rx_v ad v) :: (rx_l ad l).filter (fun q => !(q.1 == i) && !(q.1 + 1 == i && q.2.category == 2)) = rx_l ad (rx_si l i v) := by
  simp only [rx_l, rx_si, List.map_cons, List.filter_map, Function.comp_def, rx_cat]
theorem rx_tg_eq {pc t : Nat} {off : Int} (h : rx_tg pc off = some t) : (pc : Int) + off = (t : Int) := by
  unfold rx_tg at h
  split at h
  · cases h; omega
  · cases h
theorem rx_go_eq {pc t : Nat} {off : Int} {l l' : rx_L} {st st' : List Value} (h : rx_go pc off l st = some (t, l', st')) : (pc : Int) + off = (t : Int) ∧ l' = l ∧ st' = st := by
  unfold rx_go at h
  split at h
  · next e => cases h; exact ⟨rx_tg_eq e, rfl, rfl⟩
  · cases h
end
section
/-! the machine does what rx_pure does -/
section RXP
variable {p : Program} {l : Launch} {e : Env} {R : Room} {s : State} {m : MethodId} {args : Array Value} {below : List Frame} {meth : Method} {c : Code} {H : Heap} {locs : List Loc} {cells slots : Nat} {Q : State → Prop}
variable {cc : ByteArray} {pc pc' nL len : Nat} {ls : Array Slot} {ad : Nat → Nat} {lv lv' : rx_L} {st st' : List Value}
/-- the goal behind an instruction -/
def rx_K (p : Program) (l : Launch) (e : Env) (R : Room) (s : State) (m : MethodId) (args : Array Value) (below : List Frame) (meth : Method) (c : Code) (H : Heap) (locs : List Loc) (cells slots : Nat) (Q : State → Prop) (ad : Nat → Nat) (nL pc : Nat) (lv : rx_L) (st : List Value) : Prop :=
  ∀ ls : Array Slot, lv_has ls nL (rx_l ad lv) → W p l e R s m args below meth c H locs cells slots Q (F0 m pc ls (st.map (rx_v ad)))
theorem rx_k_ld (hx : p.tables.exec = Jvm.exec) (hb : c.code = cc) {i n : Nat} (hs : rx_ld lv i n st = some (pc', lv', st')) (kk : rx_K p l e R s m args below meth c H locs cells slots Q ad nL pc' lv' st') (hl : lv_has ls nL (rx_l ad lv)) :
    ∃ x : Int32, ls[i]? = some (.val (.int x)) ∧ W p l e R s m args below meth c H locs cells slots Q (F0 m n ls (.int x :: st.map (rx_v ad))) := by
  unfold rx_ld at hs
  split at hs
  · next x hg => cases hs; exact ⟨x, rx_l_at hl hg, kk ls hl⟩
  · cases hs
theorem rx_k_ldl (hx : p.tables.exec = Jvm.exec) (hb : c.code = cc) {i n : Nat} (hs : rx_ldl lv i n st = some (pc', lv', st')) (kk : rx_K p l e R s m args below meth c H locs cells slots Q ad nL pc' lv' st') (hl : lv_has ls nL (rx_l ad lv)) :
    ∃ x : Int64, ls[i]? = some (.val (.long x)) ∧ W p l e R s m args below meth c H locs cells slots Q (F0 m n ls (.long x :: st.map (rx_v ad))) := by
  unfold rx_ldl at hs
  split at hs
  · next x hg => cases hs; exact ⟨x, rx_l_at hl hg, kk ls hl⟩
  · cases hs
theorem rx_k_lda (hx : p.tables.exec = Jvm.exec) (hb : c.code = cc) {i n : Nat} (hs : rx_lda lv i n st = some (pc', lv', st')) (kk : rx_K p l e R s m args below meth c H locs cells slots Q ad nL pc' lv' st') (hl : lv_has ls nL (rx_l ad lv)) :
    (∃ x : Nat, ls[i]? = some (.val (.ref x)) ∧ W p l e R s m args below meth c H locs cells slots Q (F0 m n ls (.ref x :: st.map (rx_v ad)))) ∨ (ls[i]? = some (.val .null) ∧ W p l e R s m args below meth c H locs cells slots Q (F0 m n ls (.null :: st.map (rx_v ad)))) := by
  unfold rx_lda at hs
  split at hs
  · next x hg => cases hs; exact Or.inl ⟨ad x, rx_l_at hl hg, kk ls hl⟩
  · next hg => cases hs; exact Or.inr ⟨rx_l_at hl hg, kk ls hl⟩
  · cases hs
theorem rx_k_sti {i n : Nat} (hs : rx_sti nL lv i n st = some (pc', lv', st')) (kk : rx_K p l e R s m args below meth c H locs cells slots Q ad nL pc' lv' st') :
    ∃ (x : Int32) (r : List Value), st = .int x :: r ∧ i < nL ∧ ∀ ls : Array Slot, lv_has ls nL (rx_l ad (rx_si lv i (.int x))) → W p l e R s m args below meth c H locs cells slots Q (F0 m n ls (r.map (rx_v ad))) := by
  unfold rx_sti at hs
  split at hs
  · split at hs
    · next hi => cases hs; exact ⟨_, _, rfl, hi, fun ls hl => kk ls hl⟩
    · cases hs
  · cases hs
theorem rx_k_sta {i n : Nat} (hs : rx_sta nL lv i n st = some (pc', lv', st')) (kk : rx_K p l e R s m args below meth c H locs cells slots Q ad nL pc' lv' st') :
    i < nL ∧ ((∃ (x : Nat) (r : List Value), st = .ref x :: r ∧ ∀ ls : Array Slot, lv_has ls nL (rx_l ad (rx_si lv i (.ref x))) → W p l e R s m args below meth c H locs cells slots Q (F0 m n ls (r.map (rx_v ad)))) ∨
    (∃ (r : List Value), st = .null :: r ∧ ∀ ls : Array Slot, lv_has ls nL (rx_l ad (rx_si lv i .null)) → W p l e R s m args below meth c H locs cells slots Q (F0 m n ls (r.map (rx_v ad))))) := by
  unfold rx_sta at hs
  split at hs
  · split at hs
    · next hi => cases hs; exact ⟨hi, Or.inl ⟨_, _, rfl, fun ls hl => kk ls hl⟩⟩
    · cases hs
  · split at hs
    · next hi => cases hs; exact ⟨hi, Or.inr ⟨_, rfl, fun ls hl => kk ls hl⟩⟩
    · cases hs
  · cases hs
theorem rx_k_inc (hx : p.tables.exec = Jvm.exec) (hb : c.code = cc) {i : Nat} {d : Int} (hd : decode cc pc = .ok (.iinc i d, 3)) (hs : rx_inc nL lv i (pc + 3) d st = some (pc', lv', st')) (kk : rx_K p l e R s m args below meth c H locs cells slots Q ad nL pc' lv' st') (hl : lv_has ls nL (rx_l ad lv)) :
    W p l e R s m args below meth c H locs cells slots Q (F0 m pc ls (st.map (rx_v ad))) := by
  unfold rx_inc at hs
  split at hs
  · next x hg =>
    split at hs
    · next hi =>
      cases hs
      have hm : (i, Value.int x) ∈ rx_l ad lv := by
        have : ∀ l : rx_L, rx_gi l i = some (.int x) → (i, Value.int x) ∈ rx_l ad l := by
          intro l
          induction l with
          | nil => intro h; cases h
          | cons q l ih =>
            intro h
            unfold rx_gi at h
            split at h
            · next he => subst he; obtain ⟨q1, q2⟩ := q; cases h; exact List.mem_cons_self
            · exact List.mem_cons_of_mem _ (ih h)
        exact this lv hg
      obtain ⟨k, hk⟩ := List.getElem?_of_mem hm
      exact lv_iinc hx hb hd hl hk rfl hi (rx_l_si ad lv i (.int (x + Int32.ofInt d))) (fun ls hl => kk ls hl)
    · cases hs
  · cases hs
theorem rx_k_ii {f : Int32 → Int32 → Int32} {n : Nat} (hs : rx_ii f n lv st = some (pc', lv', st')) (kk : rx_K p l e R s m args below meth c H locs cells slots Q ad nL pc' lv' st') (hl : lv_has ls nL (rx_l ad lv)) :
    ∃ (x y : Int32) (r : List Value), st = .int y :: .int x :: r ∧ W p l e R s m args below meth c H locs cells slots Q (F0 m n ls (.int (f x y) :: r.map (rx_v ad))) := by
  unfold rx_ii at hs
  split at hs
  · cases hs; exact ⟨_, _, _, rfl, kk ls hl⟩
  · cases hs
theorem rx_k_id {f : Int32 → Int32 → Int32} {n : Nat} (hs : rx_id f n lv st = some (pc', lv', st')) (kk : rx_K p l e R s m args below meth c H locs cells slots Q ad nL pc' lv' st') (hl : lv_has ls nL (rx_l ad lv)) :
    ∃ (x y : Int32) (r : List Value), st = .int y :: .int x :: r ∧ ¬ y = 0 ∧ W p l e R s m args below meth c H locs cells slots Q (F0 m n ls (.int (f x y) :: r.map (rx_v ad))) := by
  unfold rx_id at hs
  split at hs
  · split at hs
    · cases hs
    · next hy => cases hs; exact ⟨_, _, _, rfl, hy, kk ls hl⟩
  · cases hs
theorem rx_k_b1 {P : Int32 → Bool} {off : Int} (hs : rx_b1 P pc off lv st = some (pc', lv', st')) (kk : rx_K p l e R s m args below meth c H locs cells slots Q ad nL pc' lv' st') (hl : lv_has ls nL (rx_l ad lv)) :
    ∃ (x : Int32) (r : List Value) (t : Nat), st = .int x :: r ∧ (pc : Int) + off = (t : Int) ∧ (P x = true → W p l e R s m args below meth c H locs cells slots Q (F0 m t ls (r.map (rx_v ad)))) ∧ (¬ P x = true → W p l e R s m args below meth c H locs cells slots Q (F0 m (pc + 3) ls (r.map (rx_v ad)))) := by
  unfold rx_b1 at hs
  split at hs
  · next x r =>
    split at hs
    · next t ht =>
      split at hs
      · next hp => cases hs; exact ⟨x, _, _, rfl, rx_tg_eq ht, fun _ => kk ls hl, fun h => absurd hp h⟩
      · next hp => cases hs; exact ⟨x, _, _, rfl, rx_tg_eq ht, fun h => absurd h hp, fun _ => kk ls hl⟩
    · cases hs
  · cases hs
theorem rx_k_b2 {P : Int32 → Int32 → Bool} {off : Int} (hs : rx_b2 P pc off lv st = some (pc', lv', st')) (kk : rx_K p l e R s m args below meth c H locs cells slots Q ad nL pc' lv' st') (hl : lv_has ls nL (rx_l ad lv)) :
    ∃ (x y : Int32) (r : List Value) (t : Nat), st = .int y :: .int x :: r ∧ (pc : Int) + off = (t : Int) ∧ (P x y = true → W p l e R s m args below meth c H locs cells slots Q (F0 m t ls (r.map (rx_v ad)))) ∧ (¬ P x y = true → W p l e R s m args below meth c H locs cells slots Q (F0 m (pc + 3) ls (r.map (rx_v ad)))) := by
  unfold rx_b2 at hs
  split at hs
  · next y x r =>
    split at hs
    · next t ht =>
      split at hs
      · next hp => cases hs; exact ⟨x, y, _, _, rfl, rx_tg_eq ht, fun _ => kk ls hl, fun h => absurd hp h⟩
      · next hp => cases hs; exact ⟨x, y, _, _, rfl, rx_tg_eq ht, fun h => absurd h hp, fun _ => kk ls hl⟩
    · cases hs
  · cases hs
/-- a branch of one number, of two -/
theorem rx_k_if (hx : p.tables.exec = Jvm.exec) (hb : c.code = cc) {cd : ClassFile.Cond} {off : Int} (hd : decode cc pc = .ok (.ifCond cd off, 3)) (hs : rx_b1 (rx_c1 cd) pc off lv st = some (pc', lv', st')) (kk : rx_K p l e R s m args below meth c H locs cells slots Q ad nL pc' lv' st') (hl : lv_has ls nL (rx_l ad lv)) :
    W p l e R s m args below meth c H locs cells slots Q (F0 m pc ls (st.map (rx_v ad))) := by
  obtain ⟨x, r, t, rfl, ht, h1, h2⟩ := rx_k_b1 hs kk hl
  show W p l e R s m args below meth c H locs cells slots Q (F0 m pc ls (.int x :: r.map (rx_v ad)))
  cases cd
  · exact lv_if_eq hx hb hd ht (fun q => h1 (decide_eq_true q)) (fun q => h2 (fun z => q (of_decide_eq_true z)))
  · exact lv_if_ne hx hb hd ht (fun q => h1 (decide_eq_true q)) (fun q => h2 (fun z => absurd q (of_decide_eq_true z)))
  · exact lv_if_lt hx hb hd ht (fun q => h1 (decide_eq_true q)) (fun q => h2 (fun z => q (of_decide_eq_true z)))
  · exact lv_if_ge hx hb hd ht (fun q => h1 (decide_eq_true q)) (fun q => h2 (fun z => q (of_decide_eq_true z)))
  · exact lv_if_gt hx hb hd ht (fun q => h1 (decide_eq_true q)) (fun q => h2 (fun z => q (of_decide_eq_true z)))
  · exact lv_if_le hx hb hd ht (fun q => h1 (decide_eq_true q)) (fun q => h2 (fun z => q (of_decide_eq_true z)))
theorem rx_k_icmp (hx : p.tables.exec = Jvm.exec) (hb : c.code = cc) {cd : ClassFile.Cond} {off : Int} (hd : decode cc pc = .ok (.if_icmp cd off, 3)) (hs : rx_b2 (rx_c2 cd) pc off lv st = some (pc', lv', st')) (kk : rx_K p l e R s m args below meth c H locs cells slots Q ad nL pc' lv' st') (hl : lv_has ls nL (rx_l ad lv)) :
    W p l e R s m args below meth c H locs cells slots Q (F0 m pc ls (st.map (rx_v ad))) := by
  obtain ⟨x, y, r, t, rfl, ht, h1, h2⟩ := rx_k_b2 hs kk hl
  show W p l e R s m args below meth c H locs cells slots Q (F0 m pc ls (.int y :: .int x :: r.map (rx_v ad)))
  cases cd
  · exact lv_icmp_eq hx hb hd ht (fun q => h1 (decide_eq_true q)) (fun q => h2 (fun z => q (of_decide_eq_true z)))
  · exact lv_icmp_ne hx hb hd ht (fun q => h1 (decide_eq_true q)) (fun q => h2 (fun z => absurd q (of_decide_eq_true z)))
  · exact lv_icmp_lt hx hb hd ht (fun q => h1 (decide_eq_true q)) (fun q => h2 (fun z => q (of_decide_eq_true z)))
  · exact lv_icmp_ge hx hb hd ht (fun q => h1 (decide_eq_true q)) (fun q => h2 (fun z => q (of_decide_eq_true z)))
  · exact lv_icmp_gt hx hb hd ht (fun q => h1 (decide_eq_true q)) (fun q => h2 (fun z => q (of_decide_eq_true z)))
  · exact lv_icmp_le hx hb hd ht (fun q => h1 (decide_eq_true q)) (fun q => h2 (fun z => q (of_decide_eq_true z)))
theorem rx_k_tsw (hx : p.tables.exec = Jvm.exec) (hb : c.code = cc) {d lo hi : Int} {offs : Array Int} (hd : decode cc pc = .ok (.tableswitch d lo hi offs, len)) (hs : rx_tsw pc d lo hi offs lv st = some (pc', lv', st')) (kk : rx_K p l e R s m args below meth c H locs cells slots Q ad nL pc' lv' st') (hl : lv_has ls nL (rx_l ad lv)) :
    W p l e R s m args below meth c H locs cells slots Q (F0 m pc ls (st.map (rx_v ad))) := by
  unfold rx_tsw at hs
  split at hs
  · next x r =>
    show W p l e R s m args below meth c H locs cells slots Q (F0 m pc ls (.int x :: r.map (rx_v ad)))
    split at hs
    · next hc =>
      obtain ⟨h1, rfl, rfl⟩ := rx_go_eq hs
      exact lv_tableOut hx hb hd hc h1 (kk ls hl)
    · next hc =>
      split at hs
      · next o ho =>
        obtain ⟨h1, rfl, rfl⟩ := rx_go_eq hs
        exact lv_tableIn hx hb hd (fun q => hc (Or.inl q)) (fun q => hc (Or.inr q)) ho h1 (kk ls hl)
      · cases hs
  · cases hs
theorem rx_k_lsw (hx : p.tables.exec = Jvm.exec) (hb : c.code = cc) {d : Int} {ps : Array (Int × Int)} (hd : decode cc pc = .ok (.lookupswitch d ps, len)) (hs : rx_lsw pc d ps lv st = some (pc', lv', st')) (kk : rx_K p l e R s m args below meth c H locs cells slots Q ad nL pc' lv' st') (hl : lv_has ls nL (rx_l ad lv)) :
    W p l e R s m args below meth c H locs cells slots Q (F0 m pc ls (st.map (rx_v ad))) := by
  unfold rx_lsw at hs
  split at hs
  · next x r =>
    show W p l e R s m args below meth c H locs cells slots Q (F0 m pc ls (.int x :: r.map (rx_v ad)))
    split at hs
    · next hc =>
      obtain ⟨h1, rfl, rfl⟩ := rx_go_eq hs
      exact lv_lookup hx hb hd hc rfl h1 (kk ls hl)
    · cases hs
  · cases hs
set_option maxHeartbeats 4000000 in
theorem rx_pure_sim (hx : p.tables.exec = Jvm.exec) (hb : c.code = cc) {i : Instr} (hd : decode cc pc = .ok (i, len)) (hs : rx_pure nL i len pc lv st = some (pc', lv', st')) (kk : rx_K p l e R s m args below meth c H locs cells slots Q ad nL pc' lv' st') (hl : lv_has ls nL (rx_l ad lv)) :
    W p l e R s m args below meth c H locs cells slots Q (F0 m pc ls (st.map (rx_v ad))) := by
  unfold rx_pure at hs
  split at hs
  · cases hs; exact lv_iconst hx hb hd rfl (kk ls hl)
  · cases hs; exact lv_bipush hx hb hd rfl (kk ls hl)
  · cases hs; exact lv_sipush hx hb hd rfl (kk ls hl)
  · cases hs; exact lv_null hx hb hd (kk ls hl)
  · obtain ⟨x, h1, h2⟩ := rx_k_ld hx hb hs kk hl
    exact lv_iload_n hx hb hd rfl h1 h2
  · obtain ⟨x, h1, h2⟩ := rx_k_ld hx hb hs kk hl
    exact lv_iload hx hb hd h1 h2
  · obtain ⟨x, h1, h2⟩ := rx_k_ldl hx hb hs kk hl
    exact lv_lload_n hx hb hd rfl h1 h2
  · rcases rx_k_lda hx hb hs kk hl with ⟨x, h1, h2⟩ | ⟨h1, h2⟩
    · exact lv_aload_n hx hb hd rfl h1 h2
    · exact lv_aload_nN hx hb hd rfl h1 h2
  · rcases rx_k_lda hx hb hs kk hl with ⟨x, h1, h2⟩ | ⟨h1, h2⟩
    · exact lv_aload hx hb hd h1 h2
    · exact lv_aloadN hx hb hd h1 h2
  · obtain ⟨x, r, rfl, hi, h2⟩ := rx_k_sti hs kk
    exact lv_istore_n hx hb hd rfl hl hi (rx_l_si ad lv _ (.int x)) h2
  · obtain ⟨x, r, rfl, hi, h2⟩ := rx_k_sti hs kk
    exact lv_istore hx hb hd hl hi (rx_l_si ad lv _ (.int x)) h2
  · obtain ⟨hi, ⟨x, r, rfl, h2⟩ | ⟨r, rfl, h2⟩⟩ := rx_k_sta hs kk
    · exact lv_astore_n hx hb hd rfl hl hi (rx_l_si ad lv _ (.ref x)) h2
    · exact lv_astore_nN hx hb hd rfl hl hi (rx_l_si ad lv _ .null) h2
  · obtain ⟨hi, ⟨x, r, rfl, h2⟩ | ⟨r, rfl, h2⟩⟩ := rx_k_sta hs kk
    · exact lv_astore hx hb hd hl hi (rx_l_si ad lv _ (.ref x)) h2
    · exact lv_astoreN hx hb hd hl hi (rx_l_si ad lv _ .null) h2
  · exact rx_k_inc hx hb hd hs kk hl
  · obtain ⟨x, y, r, rfl, h2⟩ := rx_k_ii hs kk hl
    exact lv_iadd hx hb hd h2
  · obtain ⟨x, y, r, rfl, h2⟩ := rx_k_ii hs kk hl
    exact lv_isub hx hb hd h2
  · obtain ⟨x, y, r, rfl, h2⟩ := rx_k_ii hs kk hl
    exact lv_imul hx hb hd h2
  · obtain ⟨x, y, r, rfl, h2⟩ := rx_k_ii hs kk hl
    exact lv_iand hx hb hd h2
  · obtain ⟨x, y, r, rfl, h2⟩ := rx_k_ii hs kk hl
    exact lv_ior hx hb hd h2
  · obtain ⟨x, y, r, rfl, h2⟩ := rx_k_ii hs kk hl
    exact lv_ixor hx hb hd h2
  · obtain ⟨x, y, r, rfl, h2⟩ := rx_k_ii hs kk hl
    exact lv_ishl hx hb hd h2
  · obtain ⟨x, y, r, rfl, h2⟩ := rx_k_ii hs kk hl
    exact lv_ishr hx hb hd h2
  · obtain ⟨x, y, r, rfl, hy, h2⟩ := rx_k_id hs kk hl
    exact lv_idiv hx hb hd hy h2
  · obtain ⟨x, y, r, rfl, hy, h2⟩ := rx_k_id hs kk hl
    exact lv_irem hx hb hd hy h2
  · split at hs
    · cases hs; exact lv_i2b hx hb hd rfl (kk ls hl)
    · cases hs
  · split at hs
    · cases hs; exact lv_i2c hx hb hd rfl (kk ls hl)
    · cases hs
  · split at hs
    · cases hs; exact lv_l2i hx hb hd rfl (kk ls hl)
    · cases hs
  · split at hs
    · cases hs; exact lv_land hx hb hd (kk ls hl)
    · cases hs
  · split at hs
    · cases hs; exact lv_lshr hx hb hd rfl (kk ls hl)
    · cases hs
  · split at hs
    · split at hs
      · next hc => cases hs; exact lv_dup hx hb hd ((rx_cat ad _).trans hc) (kk ls hl)
      · cases hs
    · cases hs
  · split at hs
    · split at hs
      · next hc => cases hs; exact lv_pop hx hb hd ((rx_cat ad _).trans hc) (kk ls hl)
      · cases hs
    · cases hs
  · split at hs
    · split at hs
      · next hc => cases hs; exact lv_dup2_11 hx hb hd ((rx_cat ad _).trans hc.1) ((rx_cat ad _).trans hc.2) (kk ls hl)
      · cases hs
    · cases hs
  · exact rx_k_if hx hb hd hs kk hl
  · exact rx_k_icmp hx hb hd hs kk hl
  · obtain ⟨h1, rfl, rfl⟩ := rx_go_eq hs
    exact lv_goto hx hb hd h1 (kk ls hl)
  · split at hs
    · cases hs; exact lv_ifnull hx hb hd (kk ls hl)
    · obtain ⟨h1, rfl, rfl⟩ := rx_go_eq hs
      exact lv_ifnullN hx hb hd h1 (kk ls hl)
    · cases hs
  · split at hs
    · obtain ⟨h1, rfl, rfl⟩ := rx_go_eq hs
      exact lv_ifnonnull hx hb hd h1 (kk ls hl)
    · cases hs; exact lv_ifnonnullN hx hb hd (kk ls hl)
    · cases hs
  · exact rx_k_tsw hx hb hd hs kk hl
  · exact rx_k_lsw hx hb hd hs kk hl
  · cases hs
end RXP
end
