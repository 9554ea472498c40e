/-! rows over the law's own run -/
theorem rx_monoL1 {M : rx_M} {L : Nat} {xs : Nat → Int32} : ∀ (n : Nat) (f : rx_F) (z : rx_H), rx_runL M L xs n f = some z → rx_runL M L xs (n + 1) f = some z := by
  intro n
  induction n with
  | zero => intro f z h; cases h
  | succ n ih =>
    intro f z h
    obtain ⟨pc, l, st, hh, uc, us⟩ := f
    unfold rx_runL at h
    rw [rx_runL]
    cases hd : decode (rm_code M) pc with
    | error e => rw [hd] at h; cases h
    | ok q =>
      obtain ⟨i, len⟩ := q
      rw [hd] at h
      dsimp only at h ⊢
      cases hs : rx_scr L xs i len st with
      | some q => rw [hs] at h; exact ih _ _ h
      | none =>
        rw [hs] at h
        dsimp only at h ⊢
        cases hp : rx_pure (rm_maxL M) i len pc l st with
        | some q => rw [hp] at h; exact ih _ _ h
        | none =>
          rw [hp] at h
          dsimp only at h ⊢
          cases hw : rx_who (rm_co M) i len with
          | some Z =>
            rw [hw] at h
            dsimp only at h ⊢
            by_cases hm : rx_may M Z l st hh uc us = true
            · rw [if_pos hm] at h ⊢
              cases hr : rx_run n Z (0, lv_args 0 (st.take (rx_na Z)).reverse, [], hh, 0, 0) with
              | none => rw [hr] at h; cases h
              | some r =>
                rw [hr] at h
                rw [rx_mono1 _ _ _ _ hr]
                exact ih _ _ h
            · rw [if_neg hm] at h; cases h
          | none =>
            rw [hw] at h
            dsimp only at h ⊢
            by_cases he : rx_end i len st = true
            · rw [if_pos he] at h ⊢; exact h
            · rw [if_neg he] at h ⊢
              cases hl : rx_alloc (rm_co M) (rm_mc M) (rm_ms M) i len pc l st hh uc us with
              | none => rw [hl] at h; cases h
              | some q => rw [hl] at h; exact ih _ _ h
theorem rx_monoL {M : rx_M} {L : Nat} {xs : Nat → Int32} {n m : Nat} {f : rx_F} {z : rx_H} (h : rx_runL M L xs n f = some z) (hnm : n ≤ m) : rx_runL M L xs m f = some z := by
  induction hnm with
  | refl => exact h
  | step _ ih => exact rx_monoL1 _ _ _ ih
/-- from that frame the law comes to its end with 1 -/
def rl (M : rx_M) (L : Nat) (xs : Nat → Int32) (f : rx_F) : Prop := ∃ (n : Nat) (h' : rx_H), rx_runL M L xs n f = some h'
section RL
variable {M : rx_M} {L pc pc' len uc us uc' us' : Nat} {xs : Nat → Int32} {i : Instr} {l l' : rx_L} {st st' : List Value} {h h' : rx_H}
theorem rl_pure (hd : decode (rm_code M) pc = .ok (i, len)) (h0 : rx_scr L xs i len st = none) (hp : rx_pure (rm_maxL M) i len pc l st = some (pc', l', st')) (k : rl M L xs (pc', l', st', h, uc, us)) : rl M L xs (pc, l, st, h, uc, us) := by
  obtain ⟨n, z, hn⟩ := k
  refine ⟨n + 1, z, ?_⟩
  rw [rx_runL, hd]
  simp only [h0, hp]
  exact hn
theorem rl_scr (hd : decode (rm_code M) pc = .ok (i, len)) (h0 : rx_scr L xs i len st = some st') (k : rl M L xs (pc + 1, l, st', h, uc, us)) : rl M L xs (pc, l, st, h, uc, us) := by
  obtain ⟨n, z, hn⟩ := k
  refine ⟨n + 1, z, ?_⟩
  rw [rx_runL, hd]
  simp only [h0]
  exact hn
theorem rl_call {Z : rx_M} {n1 : Nat} {r1 : Option Value} {h1 : rx_H} (hd : decode (rm_code M) pc = .ok (i, len)) (h0 : rx_scr L xs i len st = none) (hp : rx_pure (rm_maxL M) i len pc l st = none) (hw : rx_who (rm_co M) i len = some Z) (hm : rx_may M Z l st h uc us = true) (hr : rx_run n1 Z (0, lv_args 0 (st.take (rx_na Z)).reverse, [], h, 0, 0) = some (r1, h1)) (k : rl M L xs (pc + 3, l, r1.toList ++ st.drop (rx_na Z), h1, uc + rm_mc Z, us + rm_ms Z)) : rl M L xs (pc, l, st, h, uc, us) := by
  obtain ⟨n, z, hn⟩ := k
  refine ⟨(max n1 n) + 1, z, ?_⟩
  rw [rx_runL, hd]
  simp only [h0, hp, hw, hm, if_true]
  rw [rx_mono hr (Nat.le_max_left _ _)]
  exact rx_monoL hn (Nat.le_max_right _ _)
theorem rl_alloc (hd : decode (rm_code M) pc = .ok (i, len)) (h0 : rx_scr L xs i len st = none) (hp : rx_pure (rm_maxL M) i len pc l st = none) (hw : rx_who (rm_co M) i len = none) (he : rx_end i len st = false) (ha : rx_alloc (rm_co M) (rm_mc M) (rm_ms M) i len pc l st h uc us = some (pc', st', h', uc', us')) (k : rl M L xs (pc', l, st', h', uc', us')) : rl M L xs (pc, l, st, h, uc, us) := by
  obtain ⟨n, z, hn⟩ := k
  refine ⟨n + 1, z, ?_⟩
  rw [rx_runL, hd]
  simp only [h0, hp, hw, he, ha]
  exact hn
theorem rl_end (hd : decode (rm_code M) pc = .ok (i, len)) (h0 : rx_scr L xs i len st = none) (hp : rx_pure (rm_maxL M) i len pc l st = none) (hw : rx_who (rm_co M) i len = none) (he : rx_end i len st = true) : rl M L xs (pc, l, st, h, uc, us) := by
  refine ⟨1, h, ?_⟩
  rw [rx_runL, hd]
  simp only [h0, hp, hw, he, if_true]
end RL
