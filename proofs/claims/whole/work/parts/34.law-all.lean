/-! the law out of a relation -/
section RDM
variable {L uc us : Nat} {xs : Nat → Int32} {S : rz_S}
theorem rd_c_protect {R : Nat → rz_S → Prop} {i n : Nat} (hL : L ≤ 3072) (hi : i + 6 ≤ L) (hu : uc ≤ 600000 ∧ us ≤ 7302250) (hc : ∀ a : Int32, a = 0 ∨ a = 1 → rd_twov mX_protect mM_protect [.int a] S (R n)) (kk : ∀ S1, R n S1 → rl rx_lawM L xs (474, rd_l (nI i), [], rz_H S1, uc, us)) : rl rx_lawM L xs (403, rd_l (nI i), [], rz_H S, uc, us) := by
  refine rl_pure (pc' := 404) (l' := rd_l (nI i)) (st' := [.ref 0]) d_law_403 rfl rfl ?_
  refine rd_arg (k := 1) d_law_404 d_law_405 d_law_406 d_law_407 d_law_408 (by decide) (by omega) hL ?_
  have go : ∀ a : Int32, a = 0 ∨ a = 1 → (a = 0 ↔ xs (i + 1) = 0) → rl rx_lawM L xs (417, rd_l (nI i), [.int a, .ref 0], rz_H S, uc, us) := by
    intro a ha hx
    refine rd_callV (k := 0) (t := [.int a]) (rest := []) d_law_417 w_law_53 rfl rfl rfl hu (hc a ha) (fun r1 S1 q1 => ?_)
    obtain ⟨rfl, hc⟩ := q1
    refine rl_pure (pc' := 421) (l' := rd_l (nI i)) (st' := [.ref 116]) d_law_420 rfl rfl ?_
    refine rd_arg (k := 1) d_law_421 d_law_422 d_law_423 d_law_424 d_law_425 (by decide) (by omega) hL ?_
    have fin : rl rx_lawM L xs (434, rd_l (nI i), [.int a, .ref 116], rz_H S1, uc, us) := by
      refine rd_callV (k := 116) (t := [.int a]) (rest := []) d_law_434 w_law_57 rfl rfl rfl hu hc (fun r2 S2 q2 => ?_)
      obtain ⟨rfl, hR⟩ := q2
      refine rl_pure (pc' := 474) (l' := rd_l (nI i)) (st' := []) d_law_437 rfl rfl ?_
      exact kk _ hR
    by_cases h0 : xs (i + 1) = 0
    · have ha0 : a = 0 := hx.mpr h0
      subst ha0
      refine rl_pure (pc' := 433) (l' := rd_l (nI i)) (st' := [.ref 116]) d_law_426 rfl (by simp [rx_pure, rx_b1, rx_c1, rx_tg, h0]) ?_
      refine rl_pure (pc' := 434) (l' := rd_l (nI i)) (st' := [.int 0, .ref 116]) d_law_433 rfl rfl ?_
      exact fin
    · have ha1 : a = 1 := ha.resolve_left (fun z => h0 (hx.mp z))
      subst ha1
      refine rl_pure (pc' := 429) (l' := rd_l (nI i)) (st' := [.ref 116]) d_law_426 rfl (by simp [rx_pure, rx_b1, rx_c1, rx_tg, h0]) ?_
      refine rl_pure (pc' := 430) (l' := rd_l (nI i)) (st' := [.int 1, .ref 116]) d_law_429 rfl rfl ?_
      refine rl_pure (pc' := 434) (l' := rd_l (nI i)) (st' := [.int 1, .ref 116]) d_law_430 rfl rfl ?_
      exact fin
  by_cases h0 : xs (i + 1) = 0
  · refine rl_pure (pc' := 416) (l' := rd_l (nI i)) (st' := [.ref 0]) d_law_409 rfl (by simp [rx_pure, rx_b1, rx_c1, rx_tg, h0]) ?_
    refine rl_pure (pc' := 417) (l' := rd_l (nI i)) (st' := [.int 0, .ref 0]) d_law_416 rfl rfl ?_
    exact go 0 (Or.inl rfl) ⟨fun _ => h0, fun _ => rfl⟩
  · refine rl_pure (pc' := 412) (l' := rd_l (nI i)) (st' := [.ref 0]) d_law_409 rfl (by simp [rx_pure, rx_b1, rx_c1, rx_tg, h0]) ?_
    refine rl_pure (pc' := 413) (l' := rd_l (nI i)) (st' := [.int 1, .ref 0]) d_law_412 rfl rfl ?_
    refine rl_pure (pc' := 417) (l' := rd_l (nI i)) (st' := [.int 1, .ref 0]) d_law_413 rfl rfl ?_
    exact go 1 (Or.inr rfl) ⟨fun z => absurd z (by decide), fun z => absurd z h0⟩
theorem rd_cmp {j : Nat} (hL : L ≤ 3072) (hj : j ≤ 6000) : Int32.ofNat L - 6 < nI j ↔ L < j + 6 := by
  have e1 : (nI L - nI 6).toInt = (L : Int) - (6 : Nat) := pk_sub_toInt (by omega) (by decide)
  have e2 : (nI j).toInt = (j : Int) := nI_toInt (by omega)
  have e3 : Int32.ofNat L - 6 = nI L - nI 6 := rfl
  rw [e3, Int32.lt_iff_toInt_lt, e1, e2]
  omega
theorem rd_next {i : Nat} (k : rl rx_lawM L xs (18, rd_l (nI (i + 6)), [], rz_H S, uc, us)) : rl rx_lawM L xs (474, rd_l (nI i), [], rz_H S, uc, us) := by
  refine rl_pure (pc' := 477) (l' := rd_l (nI (i + 6))) (st' := []) d_law_474 rfl ?_ ?_
  · have : nI (i + 6) = nI i + 6 := (nI_add i 6).symm
    rw [this]
    rfl
  · exact rl_pure (pc' := 18) (l' := rd_l (nI (i + 6))) (st' := []) d_law_477 rfl rfl k
set_option maxHeartbeats 1000000 in
theorem rd_loop {R : Nat → rz_S → Prop} (hs : rd_step R) (hL : L ≤ 3072) (hu : uc ≤ 600000 ∧ us ≤ 7302250) : ∀ (m i : Nat) (S : rz_S), 513 ≤ m + i → i ≤ 512 → R i S → rl rx_lawM L xs (18, rd_l (nI (6 * i)), [], rz_H S, uc, us) := by
  intro m
  induction m with
  | zero => intro i S h1 h2; omega
  | succ m ih =>
    intro i S h1 h2 hR
    refine rl_pure (pc' := 19) (l' := rd_l (nI (6 * i))) (st' := [.int (nI (6 * i))]) d_law_18 rfl rfl ?_
    refine rl_pure (pc' := 20) (l' := rd_l (nI (6 * i))) (st' := [.ref 5000000, .int (nI (6 * i))]) d_law_19 rfl rfl ?_
    refine rl_scr (st' := [.int (Int32.ofNat L), .int (nI (6 * i))]) d_law_20 (by simp [rx_scr]) ?_
    refine rl_pure (pc' := 23) (l' := rd_l (nI (6 * i))) (st' := [.int 6, .int (Int32.ofNat L), .int (nI (6 * i))]) d_law_21 rfl rfl ?_
    refine rl_pure (pc' := 24) (l' := rd_l (nI (6 * i))) (st' := [.int (Int32.ofNat L - 6), .int (nI (6 * i))]) d_law_23 rfl rfl ?_
    have hcmp := rd_cmp (L := L) (j := 6 * i) hL (by omega)
    by_cases hend : L < 6 * i + 6
    · have hc := hcmp.mpr hend
      refine rl_pure (pc' := 480) (l' := rd_l (nI (6 * i))) (st' := []) d_law_24 rfl (by simp [rx_pure, rx_b2, rx_c2, rx_tg, hc]) ?_
      refine rl_pure (pc' := 481) (l' := rd_l (nI (6 * i))) (st' := [.int 1]) d_law_480 rfl rfl ?_
      exact rl_end d_law_481 rfl rfl rfl rfl
    · have hc : ¬ Int32.ofNat L - 6 < nI (6 * i) := fun z => hend (hcmp.mp z)
      have hi6 : 6 * i + 6 ≤ L := by omega
      have hi : i < 512 := by omega
      refine rl_pure (pc' := 27) (l' := rd_l (nI (6 * i))) (st' := []) d_law_24 rfl (by simp [rx_pure, rx_b2, rx_c2, rx_tg, hc]) ?_
      refine rl_pure (pc' := 28) (l' := rd_l (nI (6 * i))) (st' := [.ref 5000000]) d_law_27 rfl rfl ?_
      refine rl_pure (pc' := 29) (l' := rd_l (nI (6 * i))) (st' := [.int (nI (6 * i)), .ref 5000000]) d_law_28 rfl rfl ?_
      refine rl_scr (st' := [.int (xs (6 * i))]) d_law_29 (by
        have e1 := rd_in (L := L) (j := 6 * i) (by omega) hL
        have e2 : (nI (6 * i)).toNatClampNeg = 6 * i := nI_clamp (by omega)
        simp [rx_scr, e1, e2]) ?_
      refine rl_pure (pc' := 32) (l' := rd_l (nI (6 * i))) (st' := [.int 15, .int (xs (6 * i))]) d_law_30 rfl rfl ?_
      refine rl_pure (pc' := 33) (l' := rd_l (nI (6 * i))) (st' := [.int (xs (6 * i) &&& 15)]) d_law_32 rfl rfl ?_
      obtain ⟨t0, c0, c1, c2, c3, c4, c5, c6, c7, c8, c9, c10, c11⟩ := hs i S hi hR
      have kk : ∀ S1, R (i + 1) S1 → rl rx_lawM L xs (474, rd_l (nI (6 * i)), [], rz_H S1, uc, us) := fun S1 hR1 => rd_next (by
        have := ih (i + 1) S1 (by omega) (by omega) hR1
        rwa [show 6 * (i + 1) = 6 * i + 6 by omega] at this)
      obtain ⟨j, hj, hv⟩ := pk_andE (xs (6 * i)) (m := 15) 4 (by decide)
      rw [hv]
      match j, hj with
      | 0, _ => exact rl_pure (pc' := 96) (l' := rd_l (nI (6 * i))) (st' := []) d_law_33 rfl rfl (rd_c_feed hL hi6 hu (c0 _ _ _ _ _) kk)
      | 1, _ => exact rl_pure (pc' := 159) (l' := rd_l (nI (6 * i))) (st' := []) d_law_33 rfl rfl (rd_c_open hL hi6 hu (c1 _ _) kk)
      | 2, _ => exact rl_pure (pc' := 192) (l' := rd_l (nI (6 * i))) (st' := []) d_law_33 rfl rfl (rd_c_write hL hi6 hu (c2 _ _) kk)
      | 3, _ => exact rl_pure (pc' := 225) (l' := rd_l (nI (6 * i))) (st' := []) d_law_33 rfl rfl (rd_c_close hL hi6 hu (c3 _) kk)
      | 4, _ => exact rl_pure (pc' := 248) (l' := rd_l (nI (6 * i))) (st' := []) d_law_33 rfl rfl (rd_c_read hL hi6 hu (c4 _ _) kk)
      | 5, _ => exact rl_pure (pc' := 281) (l' := rd_l (nI (6 * i))) (st' := []) d_law_33 rfl rfl (rd_c_out hL hi6 hu (c5 _) kk)
      | 6, _ => exact rl_pure (pc' := 304) (l' := rd_l (nI (6 * i))) (st' := []) d_law_33 rfl rfl (rd_c_look hL hi6 hu (c6 _) kk)
      | 7, _ => exact rl_pure (pc' := 327) (l' := rd_l (nI (6 * i))) (st' := []) d_law_33 rfl rfl (rd_c_bits hL hi6 hu (c7 _ _) kk)
      | 8, _ => exact rl_pure (pc' := 360) (l' := rd_l (nI (6 * i))) (st' := []) d_law_33 rfl rfl (rd_c_turn hL hi6 hu (c8 _ _ _) kk)
      | 9, _ => exact rl_pure (pc' := 403) (l' := rd_l (nI (6 * i))) (st' := []) d_law_33 rfl rfl (rd_c_protect hL hi6 hu c9 kk)
      | 10, _ => exact rl_pure (pc' := 440) (l' := rd_l (nI (6 * i))) (st' := []) d_law_33 rfl rfl (rd_c_power hL hi6 hu c10 kk)
      | 11, _ => exact rl_pure (pc' := 451) (l' := rd_l (nI (6 * i))) (st' := []) d_law_33 rfl rfl (rd_c_memory hL hi6 hu (c11 _) kk)
      | 12, _ => exact rl_pure (pc' := 474) (l' := rd_l (nI (6 * i))) (st' := []) d_law_33 rfl rfl (kk S t0)
      | 13, _ => exact rl_pure (pc' := 474) (l' := rd_l (nI (6 * i))) (st' := []) d_law_33 rfl rfl (kk S t0)
      | 14, _ => exact rl_pure (pc' := 474) (l' := rd_l (nI (6 * i))) (st' := []) d_law_33 rfl rfl (kk S t0)
      | 15, _ => exact rl_pure (pc' := 474) (l' := rd_l (nI (6 * i))) (st' := []) d_law_33 rfl rfl (kk S t0)
      | j + 16, h => exact absurd h (by omega)
end RDM
/-- THE CLAIM OUT OF A RELATION -/
theorem law_of {R : Nat → rz_S → Prop} (h0 : ∀ S, rz_first S → R 0 S) (hs : rd_step R) : law_pure := by
  intro L xs hL
  have : rl rx_lawM L xs (0, [(0, .ref 5000000)], [], [], 0, 0) := rs_head (fun S hS => rd_loop hs hL ⟨by decide, by decide⟩ 513 0 S (by omega) (by omega) (h0 S hS))
  exact this
