/-! runs over the fixed cells: a state is the arrays' contents and the objects' numbers -/
abbrev rz_S : Type := (Nat → Nat → Int32) × (Nat → Nat → Int32)
def rz_f (S : rz_S) (k : Nat) (j : Nat) (o : Option Value) : Value := match o with
  | some v => v
  | none => .int (S.2 k j)
def rz_c (S : rz_S) (k : Nat) : rz_C → rx_C
  | .inl (t, n) => .inl (t, n, S.1 k)
  | .inr (.inl a) => .inr (.inl a)
  | .inr (.inr (ci, fs)) => .inr (.inr (ci, fs.mapIdx (rz_f S k)))
def rz_H (S : rz_S) : rx_H := rz_T.mapIdx (rz_c S)
def rz_uA (S : rz_S) (k i : Nat) (x : Int32) : rz_S := (fun q => if q = k then upd (S.1 k) i x else S.1 q, S.2)
def rz_fA (S : rz_S) (k : Nat) (f : Nat → Int32) : rz_S := (fun q => if q = k then f else S.1 q, S.2)
def rz_uI (S : rz_S) (k j : Nat) (x : Int32) : rz_S := (S.1, fun q z => if q = k ∧ z = j then x else S.2 q z)
theorem rz_get {S : rz_S} {k : Nat} {t : rz_C} (h : rz_T[k]? = some t) : (rz_H S)[k]? = some (rz_c S k t) := by
  simp [rz_H, List.getElem?_mapIdx, h]
theorem rz_none {S : rz_S} {k : Nat} (h : rz_T[k]? = none) : (rz_H S)[k]? = none := by
  simp only [rz_H, List.getElem?_mapIdx, h, Option.map_none]
theorem rz_ext {S S' : rz_S} {k : Nat} {t : rz_C} (h : rz_T[k]? = some t) (hq : ∀ q u, q ≠ k → rz_c S' q u = rz_c S q u) : (rz_H S).set k (rz_c S' k t) = rz_H S' := by
  apply List.ext_getElem?
  intro j
  simp only [rz_H, List.getElem?_set, List.getElem?_mapIdx, List.length_mapIdx]
  by_cases hj : k = j
  · subst hj
    obtain ⟨hl, he⟩ := List.getElem?_eq_some_iff.mp h
    simp [hl, he]
  · simp only [if_neg hj]
    cases hT : rz_T[j]? with
    | none => rfl
    | some u => simp only [Option.map_some]; rw [hq j u (Ne.symm hj)]
theorem rz_setA {S : rz_S} {k t n : Nat} (h : rz_T[k]? = some (.inl (t, n))) (f : Nat → Int32) : (rz_H S).set k (.inl (t, n, f)) = rz_H (rz_fA S k f) := by
  have e : rz_c (rz_fA S k f) k (.inl (t, n)) = .inl (t, n, f) := by simp [rz_c, rz_fA]
  rw [← e]
  refine rz_ext h (fun q u hq => ?_)
  rcases u with ⟨t, n⟩ | ⟨a⟩ | ⟨ci, fs⟩ <;> simp [rz_c, rz_fA, hq] <;> rfl
theorem rz_setI {S : rz_S} {k ci j : Nat} {fs : List (Option Value)} (h : rz_T[k]? = some (.inr (.inr (ci, fs)))) (hj : fs[j]? = some none) (x : Int32) : (rz_H S).set k (.inr (.inr (ci, (fs.mapIdx (rz_f S k)).set j (.int x)))) = rz_H (rz_uI S k j x) := by
  have e : rz_c (rz_uI S k j x) k (.inr (.inr (ci, fs))) = .inr (.inr (ci, (fs.mapIdx (rz_f S k)).set j (.int x))) := by
    simp only [rz_c]
    congr 3
    apply List.ext_getElem?
    intro i
    simp only [List.getElem?_set, List.getElem?_mapIdx, List.length_mapIdx]
    by_cases hi : j = i
    · subst hi
      obtain ⟨hl, he⟩ := List.getElem?_eq_some_iff.mp hj
      simp [hl, he, rz_f, rz_uI]
    · simp only [if_neg hi]
      cases hf : fs[i]? with
      | none => rfl
      | some o =>
        cases o with
        | some v => rfl
        | none => simp [rz_f, rz_uI, Ne.symm hi]
  rw [← e]
  refine rz_ext h (fun q u hq => ?_)
  rcases u with ⟨t, n⟩ | ⟨a⟩ | ⟨ci, fs⟩
  · rfl
  · rfl
  · simp only [rz_c]
    congr 3
    apply List.ext_getElem?
    intro i
    simp only [List.getElem?_mapIdx]
    cases fs[i]? with
    | none => rfl
    | some o => cases o <;> simp [rz_f, rz_uI, hq]
/-! more fuel does no harm -/
theorem rx_mono1 : ∀ (n : Nat) (M : rx_M) (f : rx_F) (z : Option Value × rx_H), rx_run n M f = some z → rx_run (n + 1) M f = some z := by
  intro n
  induction n with
  | zero => intro M f z h; cases h
  | succ n ih =>
    intro M f z h
    obtain ⟨pc, l, st, hh, uc, us⟩ := f
    unfold rx_run at h
    rw [rx_run]
    cases hd : decode (rm_code M) pc with
    | error e => rw [hd] at h; cases h
    | ok q =>
      obtain ⟨i, len⟩ := q
      rw [hd] at h
      dsimp only at h ⊢
      cases hp : rx_pure (rm_maxL M) i len pc l st with
      | some q => rw [hp] at h; exact ih _ _ _ h
      | none =>
        rw [hp] at h
        dsimp only at h ⊢
        cases hq : rx_heap (rm_co M) (rx_ini M) (rm_fr M) (rm_lo M) i len pc st hh with
        | some q => rw [hq] at h; exact ih _ _ _ h
        | none =>
          rw [hq] at h
          dsimp only at h ⊢
          cases hw : rx_who (rm_co M) i len with
          | some Z =>
            rw [hw] at h
            dsimp only at h ⊢
            by_cases hm : rx_may M Z l st hh uc us = true
            · rw [if_pos hm] at h ⊢
              cases hr : rx_run n Z (0, lv_args 0 (st.take (rx_na Z)).reverse, [], hh, 0, 0) with
              | none => rw [hr] at h; cases h
              | some r =>
                rw [hr] at h
                rw [ih _ _ _ hr]
                exact ih _ _ _ h
            · rw [if_neg hm] at h; cases h
          | none =>
            rw [hw] at h
            dsimp only at h ⊢
            cases ha : rx_ans M i len st with
            | some r => rw [ha] at h; exact h
            | none =>
              rw [ha] at h
              dsimp only at h ⊢
              cases hl : rx_alloc (rm_co M) (rm_mc M) (rm_ms M) i len pc l st hh uc us with
              | none => rw [hl] at h; cases h
              | some q => rw [hl] at h; exact ih _ _ _ h
theorem rx_mono {n m : Nat} {M : rx_M} {f : rx_F} {z : Option Value × rx_H} (h : rx_run n M f = some z) (hnm : n ≤ m) : rx_run m M f = some z := by
  induction hnm with
  | refl => exact h
  | step _ ih => exact rx_mono1 _ _ _ _ ih
/-- from that frame it comes to an answer r and a state S' with Q Q -/
def rz (M : rx_M) (pc : Nat) (l : rx_L) (st : List Value) (S : rz_S) (Q : Option Value → rz_S → Prop) : Prop := ∃ (n : Nat) (r : Option Value) (S' : rz_S), rx_run n M (pc, l, st, rz_H S, 0, 0) = some (r, rz_H S') ∧ Q r S'
/-- called with as -/
def rz_ev (M : rx_M) (as : List Value) (S : rz_S) (Q : Option Value → rz_S → Prop) : Prop := rz M 0 (lv_args 0 as) [] S Q
section RZ
variable {M : rx_M} {pc pc' len : Nat} {i : Instr} {l l' : rx_L} {st st' : List Value} {S S1 : rz_S} {Q : Option Value → rz_S → Prop}
theorem rz_pure (hd : decode (rm_code M) pc = .ok (i, len)) (hp : rx_pure (rm_maxL M) i len pc l st = some (pc', l', st')) (k : rz M pc' l' st' S Q) : rz M pc l st S Q := by
  obtain ⟨n, r, S', hn, hq⟩ := k
  refine ⟨n + 1, r, S', ?_, hq⟩
  rw [rx_run, hd]
  simp only [hp]
  exact hn
theorem rz_heap (hd : decode (rm_code M) pc = .ok (i, len)) (h0 : rx_pure (rm_maxL M) i len pc l st = none) (hp : rx_heap (rm_co M) (rx_ini M) (rm_fr M) (rm_lo M) i len pc st (rz_H S) = some (pc', st', rz_H S1)) (k : rz M pc' l st' S1 Q) : rz M pc l st S Q := by
  obtain ⟨n, r, S', hn, hq⟩ := k
  refine ⟨n + 1, r, S', ?_, hq⟩
  rw [rx_run, hd]
  simp only [h0, hp]
  exact hn
/-- a field that is a number -/
theorem rz_geti {idx ci j k pos : Nat} {ty : FieldType} {fin : Bool} {fs : List (Option Value)} {rest : List Value} (hd : decode (rm_code M) pc = .ok (.getfield idx, 3)) (hL : rx_lk rx_FLs (rm_co M) idx = some ((ci, j, ty, fin), pos)) (hT : rz_T[k]? = some (.inr (.inr (ci, fs)))) (hj : fs[j]? = some none) (kk : rz M (pc + 3) l (.int (S.2 k j) :: rest) S Q) : rz M pc l (.ref k :: rest) S Q := by
  refine rz_heap (S1 := S) hd rfl ?_ kk
  have e1 : (rz_H S)[k]? = some (.inr (.inr (ci, fs.mapIdx (rz_f S k)))) := rz_get hT
  have e2 : (fs.mapIdx (rz_f S k))[j]? = some (.int (S.2 k j)) := by simp [List.getElem?_mapIdx, hj, rz_f]
  simp [rx_heap, rx_get, hL, e1, e2]
/-- a field that is a reference -/
theorem rz_getr {idx ci j k pos : Nat} {ty : FieldType} {fin : Bool} {fs : List (Option Value)} {rest : List Value} {v : Value} (hd : decode (rm_code M) pc = .ok (.getfield idx, 3)) (hL : rx_lk rx_FLs (rm_co M) idx = some ((ci, j, ty, fin), pos)) (hT : rz_T[k]? = some (.inr (.inr (ci, fs)))) (hj : fs[j]? = some (some v)) (kk : rz M (pc + 3) l (v :: rest) S Q) : rz M pc l (.ref k :: rest) S Q := by
  refine rz_heap (S1 := S) hd rfl ?_ kk
  have e1 : (rz_H S)[k]? = some (.inr (.inr (ci, fs.mapIdx (rz_f S k)))) := rz_get hT
  have e2 : (fs.mapIdx (rz_f S k))[j]? = some v := by simp [List.getElem?_mapIdx, hj, rz_f]
  simp [rx_heap, rx_get, hL, e1, e2]
theorem rz_puti {idx ci j k pos : Nat} {ty : FieldType} {fs : List (Option Value)} {rest : List Value} {x : Int32} (hd : decode (rm_code M) pc = .ok (.putfield idx, 3)) (hL : rx_lk rx_FLs (rm_co M) idx = some ((ci, j, ty, false), pos)) (hT : rz_T[k]? = some (.inr (.inr (ci, fs)))) (hj : fs[j]? = some none) (hf : rx_fit ty (.int x) = true) (kk : rz M (pc + 3) l rest (rz_uI S k j x) Q) : rz M pc l (.int x :: .ref k :: rest) S Q := by
  refine rz_heap (S1 := rz_uI S k j x) hd rfl ?_ kk
  have e1 : (rz_H S)[k]? = some (.inr (.inr (ci, fs.mapIdx (rz_f S k)))) := rz_get hT
  have hl : j < fs.length := (List.getElem?_eq_some_iff.mp hj).1
  simp [rx_heap, rx_put, hL, e1, hl, hf, rz_setI hT hj]
theorem rz_iald {k n : Nat} {x : Int32} {rest : List Value} (hd : decode (rm_code M) pc = .ok (.iaload, 1)) (hT : rz_T[k]? = some (.inl (0, n))) (hi : rx_in x n = true) (kk : rz M (pc + 1) l (.int (S.1 k x.toNatClampNeg) :: rest) S Q) : rz M pc l (.int x :: .ref k :: rest) S Q := by
  refine rz_heap (S1 := S) hd rfl ?_ kk
  have e1 : (rz_H S)[k]? = some (.inl (0, n, S.1 k)) := rz_get hT
  simp [rx_heap, rx_iald, e1, hi]
theorem rz_bald {k t n : Nat} {x : Int32} {rest : List Value} (hd : decode (rm_code M) pc = .ok (.baload, 1)) (hT : rz_T[k]? = some (.inl (t, n))) (ht : t = 1 ∨ t = 2) (hi : rx_in x n = true) (kk : rz M (pc + 1) l (.int (S.1 k x.toNatClampNeg) :: rest) S Q) : rz M pc l (.int x :: .ref k :: rest) S Q := by
  refine rz_heap (S1 := S) hd rfl ?_ kk
  have e1 : (rz_H S)[k]? = some (.inl (t, n, S.1 k)) := rz_get hT
  rcases ht with rfl | rfl <;> simp [rx_heap, rx_bald, e1, hi]
theorem rz_stald {k n : Nat} {x : Int32} {a : List Int32} {rest : List Value} (hd : decode (rm_code M) pc = .ok (.iaload, 1)) (hT : rz_T[k]? = none) (ha : rx_sa k = some (n, a)) (hi : rx_in x n = true) (kk : rz M (pc + 1) l (.int (a.getD x.toNatClampNeg 0) :: rest) S Q) : rz M pc l (.int x :: .ref k :: rest) S Q := by
  refine rz_heap (S1 := S) hd rfl ?_ kk
  have e1 : (rz_H S)[k]? = none := rz_none hT
  simp [rx_heap, rx_iald, e1, ha, hi]
theorem rz_iast {k n : Nat} {x y : Int32} {rest : List Value} (hd : decode (rm_code M) pc = .ok (.iastore, 1)) (hT : rz_T[k]? = some (.inl (0, n))) (hi : rx_in x n = true) (kk : rz M (pc + 1) l rest (rz_fA S k (upd (S.1 k) x.toNatClampNeg y)) Q) : rz M pc l (.int y :: .int x :: .ref k :: rest) S Q := by
  refine rz_heap (S1 := rz_fA S k (upd (S.1 k) x.toNatClampNeg y)) hd rfl ?_ kk
  have e1 : (rz_H S)[k]? = some (.inl (0, n, S.1 k)) := rz_get hT
  simp [rx_heap, rx_iast, e1, hi, rz_setA hT]
theorem rz_bast {k n : Nat} {x y : Int32} {rest : List Value} (hd : decode (rm_code M) pc = .ok (.bastore, 1)) (hT : rz_T[k]? = some (.inl (1, n))) (hi : rx_in x n = true) (kk : rz M (pc + 1) l rest (rz_fA S k (upd (S.1 k) x.toNatClampNeg (vp_nar .byte y))) Q) : rz M pc l (.int y :: .int x :: .ref k :: rest) S Q := by
  refine rz_heap (S1 := rz_fA S k (upd (S.1 k) x.toNatClampNeg (vp_nar .byte y))) hd rfl ?_ kk
  have e1 : (rz_H S)[k]? = some (.inl (1, n, S.1 k)) := rz_get hT
  simp [rx_heap, rx_bast, e1, hi, rz_setA hT]
theorem rz_zast {k n : Nat} {x y : Int32} {rest : List Value} (hd : decode (rm_code M) pc = .ok (.bastore, 1)) (hT : rz_T[k]? = some (.inl (2, n))) (hi : rx_in x n = true) (kk : rz M (pc + 1) l rest (rz_fA S k (upd (S.1 k) x.toNatClampNeg (vp_nar .boolean y))) Q) : rz M pc l (.int y :: .int x :: .ref k :: rest) S Q := by
  refine rz_heap (S1 := rz_fA S k (upd (S.1 k) x.toNatClampNeg (vp_nar .boolean y))) hd rfl ?_ kk
  have e1 : (rz_H S)[k]? = some (.inl (2, n, S.1 k)) := rz_get hT
  simp [rx_heap, rx_bast, e1, hi, rz_setA hT]
theorem rz_aald {k t : Nat} {a : List (Option Nat)} {x : Int32} {rest : List Value} (hd : decode (rm_code M) pc = .ok (.aaload, 1)) (hT : rz_T[k]? = some (.inr (.inl (t, a)))) (ht : rx_isq t = true) (hi : rx_in x a.length = true) (kk : rz M (pc + 1) l (rx_ref (a.getD x.toNatClampNeg none) :: rest) S Q) : rz M pc l (.int x :: .ref k :: rest) S Q := by
  refine rz_heap (S1 := S) hd rfl ?_ kk
  have e1 : (rz_H S)[k]? = some (.inr (.inl (t, a))) := rz_get hT
  simp [rx_heap, rx_aald, e1, hi, ht]
theorem rz_alen {k t n : Nat} {rest : List Value} (hd : decode (rm_code M) pc = .ok (.arraylength, 1)) (hT : rz_T[k]? = some (.inl (t, n))) (ht : t < 3) (kk : rz M (pc + 1) l (.int (Int32.ofNat n) :: rest) S Q) : rz M pc l (.ref k :: rest) S Q := by
  refine rz_heap (S1 := S) hd rfl ?_ kk
  have e1 : (rz_H S)[k]? = some (.inl (t, n, S.1 k)) := rz_get hT
  simp [rx_heap, rx_alen, e1, ht]
theorem rz_stat {idx : Nat} {v : Value} (hd : decode (rm_code M) pc = .ok (.getstatic idx, 3)) (hs : rx_stat (rm_co M) idx = some v) (kk : rz M (pc + 3) l (v :: st) S Q) : rz M pc l st S Q := by
  refine rz_heap (S1 := S) hd rfl ?_ kk
  simp [rx_heap, hs]
/-- a call -/
theorem rz_call {Z : rx_M} {Q1 : Option Value → rz_S → Prop} (hd : decode (rm_code M) pc = .ok (i, len)) (h0 : rx_pure (rm_maxL M) i len pc l st = none) (h1 : rx_heap (rm_co M) (rx_ini M) (rm_fr M) (rm_lo M) i len pc st (rz_H S) = none) (hw : rx_who (rm_co M) i len = some Z) (hm : rx_may M Z l st (rz_H S) 0 0 = true) (hz : rm_mc Z = 0 ∧ rm_ms Z = 0) (hc : rz_ev Z (st.take (rx_na Z)).reverse S Q1) (k : ∀ r1 S1, Q1 r1 S1 → rz M (pc + 3) l (r1.toList ++ st.drop (rx_na Z)) S1 Q) : rz M pc l st S Q := by
  obtain ⟨n1, r1, S1, hn1, hq1⟩ := hc
  obtain ⟨n2, r, S', hn2, hq⟩ := k r1 S1 hq1
  refine ⟨(max n1 n2) + 1, r, S', ?_, hq⟩
  rw [rx_run, hd]
  simp only [h0, h1, hw, hm, if_true]
  rw [rx_mono hn1 (Nat.le_max_left _ _)]
  simp only [hz.1, hz.2, Nat.add_zero]
  exact rx_mono hn2 (Nat.le_max_right _ _)
theorem rz_ret {r : Option Value} (hd : decode (rm_code M) pc = .ok (i, len)) (h0 : rx_pure (rm_maxL M) i len pc l st = none) (h1 : rx_heap (rm_co M) (rx_ini M) (rm_fr M) (rm_lo M) i len pc st (rz_H S) = none) (hw : rx_who (rm_co M) i len = none) (ha : rx_ans M i len st = some r) (hq : Q r S) : rz M pc l st S Q := by
  refine ⟨1, r, S, ?_, hq⟩
  rw [rx_run, hd]
  simp only [h0, h1, hw, ha]
/-- weaker -/
theorem rz_weak {Q1 : Option Value → rz_S → Prop} (h : rz M pc l st S Q1) (hq : ∀ r S', Q1 r S' → Q r S') : rz M pc l st S Q := by
  obtain ⟨n, r, S', h1, h2⟩ := h
  exact ⟨n, r, S', h1, hq r S' h2⟩
end RZ
/-- answers: a number, none, a value -/
def rz_i (P : Int32 → rz_S → Prop) : Option Value → rz_S → Prop := fun r S => ∃ x, r = some (.int x) ∧ P x S
def rz_v (P : rz_S → Prop) : Option Value → rz_S → Prop := fun r S => r = none ∧ P S
def rz_r (P : Value → rz_S → Prop) : Option Value → rz_S → Prop := fun r S => ∃ v, r = some v ∧ P v S
