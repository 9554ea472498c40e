/-! AN ENGINE: a small machine over abstract cells that is run by a function; what it does, the machine does. PART 1: what touches no cell. -/
abbrev rx_L : Type := List (Nat × Value)
def rx_v (ad : Nat → Nat) : Value → Value
  | .ref k => .ref (ad k)
  | v => v
def rx_l (ad : Nat → Nat) (l : rx_L) : rx_L := l.map (fun q => (q.1, rx_v ad q.2))
def rx_gi : rx_L → Nat → Option Value
  | [], _ => none
  | q :: l, i => if q.1 = i then some q.2 else rx_gi l i
def rx_si (l : rx_L) (i : Nat) (v : Value) : rx_L := (i, v) :: l.filter (fun q => !(q.1 == i) && !(q.1 + 1 == i && q.2.category == 2))
def rx_tg (pc : Nat) (off : Int) : Option Nat := if 0 ≤ (pc : Int) + off then some ((pc : Int) + off).toNat else none
def rx_go (pc : Nat) (off : Int) (l : rx_L) (st : List Value) : Option (Nat × rx_L × List Value) := match rx_tg pc off with
  | some t => some (t, l, st)
  | none => none
def rx_ld (l : rx_L) (i n : Nat) (st : List Value) : Option (Nat × rx_L × List Value) := match rx_gi l i with
  | some (.int x) => some (n, l, .int x :: st)
  | _ => none
def rx_ldl (l : rx_L) (i n : Nat) (st : List Value) : Option (Nat × rx_L × List Value) := match rx_gi l i with
  | some (.long x) => some (n, l, .long x :: st)
  | _ => none
def rx_lda (l : rx_L) (i n : Nat) (st : List Value) : Option (Nat × rx_L × List Value) := match rx_gi l i with
  | some (.ref x) => some (n, l, .ref x :: st)
  | some .null => some (n, l, .null :: st)
  | _ => none
def rx_sti (nL : Nat) (l : rx_L) (i n : Nat) (st : List Value) : Option (Nat × rx_L × List Value) := match st with
  | .int x :: r => if i < nL then some (n, rx_si l i (.int x), r) else none
  | _ => none
def rx_sta (nL : Nat) (l : rx_L) (i n : Nat) (st : List Value) : Option (Nat × rx_L × List Value) := match st with
  | .ref x :: r => if i < nL then some (n, rx_si l i (.ref x), r) else none
  | .null :: r => if i < nL then some (n, rx_si l i .null, r) else none
  | _ => none
def rx_inc (nL : Nat) (l : rx_L) (i n : Nat) (d : Int) (st : List Value) : Option (Nat × rx_L × List Value) := match rx_gi l i with
  | some (.int x) => if i < nL then some (n, rx_si l i (.int (x + Int32.ofInt d)), st) else none
  | _ => none
def rx_ii (f : Int32 → Int32 → Int32) (n : Nat) (l : rx_L) (st : List Value) : Option (Nat × rx_L × List Value) := match st with
  | .int y :: .int x :: r => some (n, l, .int (f x y) :: r)
  | _ => none
def rx_id (f : Int32 → Int32 → Int32) (n : Nat) (l : rx_L) (st : List Value) : Option (Nat × rx_L × List Value) := match st with
  | .int y :: .int x :: r => if y = 0 then none else some (n, l, .int (f x y) :: r)
  | _ => none
def rx_b1 (P : Int32 → Bool) (pc : Nat) (off : Int) (l : rx_L) (st : List Value) : Option (Nat × rx_L × List Value) := match st with
  | .int x :: r => match rx_tg pc off with
    | some t => if P x then some (t, l, r) else some (pc + 3, l, r)
    | none => none
  | _ => none
def rx_b2 (P : Int32 → Int32 → Bool) (pc : Nat) (off : Int) (l : rx_L) (st : List Value) : Option (Nat × rx_L × List Value) := match st with
  | .int y :: .int x :: r => match rx_tg pc off with
    | some t => if P x y then some (t, l, r) else some (pc + 3, l, r)
    | none => none
  | _ => none
def rx_c1 : ClassFile.Cond → Int32 → Bool
  | .eq, x => decide (x = 0)
  | .ne, x => decide (¬ x = 0)
  | .lt, x => decide (x < 0)
  | .ge, x => decide (0 ≤ x)
  | .gt, x => decide (0 < x)
  | .le, x => decide (x ≤ 0)
def rx_c2 : ClassFile.Cond → Int32 → Int32 → Bool
  | .eq, x, y => decide (x = y)
  | .ne, x, y => decide (¬ x = y)
  | .lt, x, y => decide (x < y)
  | .ge, x, y => decide (y ≤ x)
  | .gt, x, y => decide (y < x)
  | .le, x, y => decide (x ≤ y)
def rx_tsw (pc : Nat) (d lo hi : Int) (offs : Array Int) (l : rx_L) (st : List Value) : Option (Nat × rx_L × List Value) := match st with
  | .int x :: r => if x.toInt < lo ∨ hi < x.toInt then rx_go pc d l r else match offs[(x.toInt - lo).toNat]? with
    | some o => rx_go pc o l r
    | none => none
  | _ => none
def rx_lsw (pc : Nat) (d : Int) (ps : Array (Int × Int)) (l : rx_L) (st : List Value) : Option (Nat × rx_L × List Value) := match st with
  | .int x :: r => if (ps.toList.zip (ps.toList.drop 1)).all (fun (a, next) => a.1 < next.1) = true then rx_go pc (Op.lookupswitch.offset ps.toList d x.toInt) l r else none
  | _ => none
def rx_pure (nL : Nat) (i : Instr) (len pc : Nat) (l : rx_L) (st : List Value) : Option (Nat × rx_L × List Value) := match i, len with
  | .iconst n, 1 => some (pc + 1, l, .int (Int32.ofInt n) :: st)
  | .bipush n, 2 => some (pc + 2, l, .int (Int8.ofInt n).toInt32 :: st)
  | .sipush n, 3 => some (pc + 3, l, .int (Int16.ofInt n).toInt32 :: st)
  | .aconst_null, 1 => some (pc + 1, l, .null :: st)
  | .iload_n k, 1 => rx_ld l k (pc + 1) st
  | .iload k, 2 => rx_ld l k (pc + 2) st
  | .lload_n k, 1 => rx_ldl l k (pc + 1) st
  | .aload_n k, 1 => rx_lda l k (pc + 1) st
  | .aload k, 2 => rx_lda l k (pc + 2) st
  | .istore_n k, 1 => rx_sti nL l k (pc + 1) st
  | .istore k, 2 => rx_sti nL l k (pc + 2) st
  | .astore_n k, 1 => rx_sta nL l k (pc + 1) st
  | .astore k, 2 => rx_sta nL l k (pc + 2) st
  | .iinc k d, 3 => rx_inc nL l k (pc + 3) d st
  | .iadd, 1 => rx_ii (fun x y => x + y) (pc + 1) l st
  | .isub, 1 => rx_ii (fun x y => x - y) (pc + 1) l st
  | .imul, 1 => rx_ii (fun x y => x * y) (pc + 1) l st
  | .iand, 1 => rx_ii (fun x y => x &&& y) (pc + 1) l st
  | .ior, 1 => rx_ii (fun x y => x ||| y) (pc + 1) l st
  | .ixor, 1 => rx_ii (fun x y => x ^^^ y) (pc + 1) l st
  | .ishl, 1 => rx_ii (fun x y => x <<< (y &&& 31)) (pc + 1) l st
  | .ishr, 1 => rx_ii (fun x y => x >>> (y &&& 31)) (pc + 1) l st
  | .idiv, 1 => rx_id (fun x y => x / y) (pc + 1) l st
  | .irem, 1 => rx_id (fun x y => x - x / y * y) (pc + 1) l st
  | .i2b, 1 => match st with
    | .int x :: r => some (pc + 1, l, .int x.toInt8.toInt32 :: r)
    | _ => none
  | .i2c, 1 => match st with
    | .int x :: r => some (pc + 1, l, .int (x.toUInt32 % 65536).toInt32 :: r)
    | _ => none
  | .l2i, 1 => match st with
    | .long x :: r => some (pc + 1, l, .int x.toInt32 :: r)
    | _ => none
  | .land, 1 => match st with
    | .long y :: .long x :: r => some (pc + 1, l, .long (x &&& y) :: r)
    | _ => none
  | .lshr, 1 => match st with
    | .int y :: .long x :: r => some (pc + 1, l, .long (x >>> (y.toInt64 &&& 63)) :: r)
    | _ => none
  | .dup, 1 => match st with
    | v :: r => if v.category = 1 then some (pc + 1, l, v :: v :: r) else none
    | _ => none
  | .pop, 1 => match st with
    | v :: r => if v.category = 1 then some (pc + 1, l, r) else none
    | _ => none
  | .dup2, 1 => match st with
    | v :: w :: r => if v.category = 1 ∧ w.category = 1 then some (pc + 1, l, v :: w :: v :: w :: r) else none
    | _ => none
  | .ifCond c off, 3 => rx_b1 (rx_c1 c) pc off l st
  | .if_icmp c off, 3 => rx_b2 (rx_c2 c) pc off l st
  | .goto off, 3 => rx_go pc off l st
  | .ifnull off, 3 => match st with
    | .ref _ :: r => some (pc + 3, l, r)
    | .null :: r => rx_go pc off l r
    | _ => none
  | .ifnonnull off, 3 => match st with
    | .ref _ :: r => rx_go pc off l r
    | .null :: r => some (pc + 3, l, r)
    | _ => none
  | .tableswitch d lo hi offs, _ => rx_tsw pc d lo hi offs l st
  | .lookupswitch d ps, _ => rx_lsw pc d ps l st
  | _, _ => none
theorem rx_cat (ad : Nat → Nat) (v : Value) : (rx_v ad v).category = v.category := by cases v <;> rfl
theorem rx_l_at {ad : Nat → Nat} {ls : Array Slot} {nL i : Nat} {l : rx_L} {v : Value} (hl : lv_has ls nL (rx_l ad l)) (h : rx_gi l i = some v) : ls[i]? = some (.val (rx_v ad v)) := by
  have : (i, v) ∈ l := by
    clear hl
    induction l with
    | nil => cases h
    | cons q l ih =>
      unfold rx_gi at h
      split at h
      · next he => subst he; cases h; exact List.mem_cons_self
      · exact List.mem_cons_of_mem _ (ih h)
  exact hl.2.2 (i, rx_v ad v) (List.mem_map.mpr ⟨(i, v), this, rfl⟩)
theorem rx_l_si (ad : Nat → Nat) (l : rx_L) (i : Nat) (v : Value) : (i, rx_v ad v) :: (rx_l ad l).filter (fun q => !(q.1 == i) && !(q.1 + 1 == i && q.2.category == 2)) = rx_l ad (rx_si l i v) := by
  simp only [rx_l, rx_si, List.map_cons, List.filter_map, Function.comp_def, rx_cat]
theorem rx_tg_eq {pc t : Nat} {off : Int} (h : rx_tg pc off = some t) : (pc : Int) + off = (t : Int) := by
  unfold rx_tg at h
  split at h
  · cases h; omega
  · cases h
theorem rx_go_eq {pc t : Nat} {off : Int} {l l' : rx_L} {st st' : List Value} (h : rx_go pc off l st = some (t, l', st')) : (pc : Int) + off = (t : Int) ∧ l' = l ∧ st' = st := by
  unfold rx_go at h
  split at h
  · next e => cases h; exact ⟨rx_tg_eq e, rfl, rfl⟩
  · cases h
