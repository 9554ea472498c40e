/-! the law up to its loop -/
def rz_of (h : rx_H) : rz_S := (fun k => match h[k]? with
  | some (.inl (_, _, f)) => f
  | _ => fun _ => 0, fun k j => match h[k]? with
  | some (.inr (.inr (_, fs))) => match fs[j]? with
    | some (.int x) => x
    | _ => 0
  | _ => 0)
/-- as the constructors leave it -/
def rz_first (S : rz_S) : Prop := (∀ k t n : Nat, rz_T[k]? = some (.inl (t, n)) → ∀ j, j < n → S.1 k j = rz_A0 k j) ∧ (∀ (k ci : Nat) (fs : List (Option Value)) (j : Nat), rz_T[k]? = some (.inr (.inr (ci, fs))) → fs[j]? = some none → S.2 k j = rz_I0 k j)
theorem rs_cell {h : rx_H} {k : Nat} {c : rx_C} {t : rz_C} (hc : h[k]? = some c) (ho : rs_ok k c t = true) : rz_c (rz_of h) k t = c := by
  rcases c with ⟨t1, n1, f⟩ | a | ⟨c1, fs⟩ <;> rcases t with ⟨t2, n2⟩ | b | ⟨c2, gs⟩ <;> first
    | (cases ho; done)
    | skip
  · simp only [rs_ok, Bool.and_eq_true, decide_eq_true_eq] at ho
    obtain ⟨⟨e1, e2⟩, -⟩ := ho
    subst e1; subst e2
    simp [rz_c, rz_of, hc]
  · simp only [rs_ok, decide_eq_true_eq] at ho
    subst ho
    rfl
  · simp only [rs_ok, Bool.and_eq_true, decide_eq_true_eq] at ho
    obtain ⟨⟨e1, e2⟩, e3⟩ := ho
    subst e1
    simp only [rz_c]
    congr 3
    apply List.ext_getElem?
    intro j
    simp only [List.getElem?_mapIdx]
    by_cases hj : j < fs.length
    · have h1 := List.all_eq_true.mp e3 j (List.mem_range.mpr hj)
      have hg : j < gs.length := by rw [← e2]; exact hj
      rw [List.getElem?_eq_getElem hj, List.getElem?_eq_getElem hg] at h1 ⊢
      have hf : fs[j]? = some fs[j] := List.getElem?_eq_getElem hj
      generalize fs[j] = v at h1 hf ⊢
      generalize gs[j] = w at h1 ⊢
      simp only [Option.map_some]
      congr 1
      cases w with
      | some w =>
        simp only [decide_eq_true_eq] at h1
        subst h1
        rfl
      | none =>
        cases v <;> first
          | (simp at h1; done)
          | simp [rz_f, rz_of, hc, hf]
    · have hg : ¬ j < gs.length := by rw [← e2]; exact hj
      rw [List.getElem?_eq_none (by omega), List.getElem?_eq_none (by omega)]
      rfl
theorem rs_eq {h : rx_H} (hl : h.length = rz_T.length) (ha : ∀ (k : Nat) (c : rx_C) (t : rz_C), h[k]? = some c → rz_T[k]? = some t → rs_ok k c t = true) : h = rz_H (rz_of h) ∧ rz_first (rz_of h) := by
  have hex : ∀ (k : Nat) (t : rz_C), rz_T[k]? = some t → ∃ c : rx_C, h[k]? = some c := by
    intro k t ht
    have : k < h.length := by rw [hl]; exact (List.getElem?_eq_some_iff.mp ht).1
    exact ⟨h[k], List.getElem?_eq_getElem this⟩
  refine ⟨?_, ?_, ?_⟩
  · apply List.ext_getElem?
    intro k
    simp only [rz_H, List.getElem?_mapIdx]
    cases ht : rz_T[k]? with
    | none =>
      have : rz_T.length ≤ k := by simpa using ht
      rw [List.getElem?_eq_none (by omega)]
      rfl
    | some t =>
      obtain ⟨c, hc⟩ := hex k t ht
      rw [hc]
      simp only [Option.map_some]
      rw [rs_cell hc (ha k c t hc ht)]
  · intro k t n ht j hj
    obtain ⟨c, hc⟩ := hex k _ ht
    have ho := ha k c _ hc ht
    rcases c with ⟨t1, n1, f⟩ | a | ⟨c1, fs⟩ <;> first
      | (cases ho; done)
      | skip
    simp only [rs_ok, Bool.and_eq_true, decide_eq_true_eq] at ho
    obtain ⟨⟨e1, e2⟩, e3⟩ := ho
    subst e2
    have h1 := of_decide_eq_true (List.all_eq_true.mp e3 j (List.mem_range.mpr hj))
    simp only [rz_of, hc]
    exact h1
  · intro k ci gs j ht hj
    obtain ⟨c, hc⟩ := hex k _ ht
    have ho := ha k c _ hc ht
    rcases c with ⟨t1, n1, f⟩ | a | ⟨c1, fs⟩ <;> first
      | (cases ho; done)
      | skip
    simp only [rs_ok, Bool.and_eq_true, decide_eq_true_eq] at ho
    obtain ⟨⟨e1, e2⟩, e3⟩ := ho
    have hj2 : j < fs.length := by rw [e2]; exact (List.getElem?_eq_some_iff.mp hj).1
    have h1 := List.all_eq_true.mp e3 j (List.mem_range.mpr hj2)
    have hf : fs[j]? = some fs[j] := List.getElem?_eq_getElem hj2
    rw [hf, hj] at h1
    generalize fs[j] = v at h1 hf
    cases v <;> first
      | (simp at h1; done)
      | (simp only [decide_eq_true_eq] at h1
         simp only [rz_of, hc, hf]
         exact h1)
/-- what the check says -/
theorem rs_facts : rs_r1 = some (none, rs_h1) ∧ rs_h1.length = 116 ∧ rx_fresh 116 [(1, .ref 0), (0, .ref 5000000)] [] rs_h1 = true ∧ rx_may rx_lawM mM_init [(1, .ref 0), (0, .ref 5000000)] [.ref 116, .ref 116] (rs_h1 ++ [rs_c1]) 117 (9 + rm_ms mX_init + 84) = true ∧ rs_r2 = some (none, rs_h2) ∧ rs_h2 = rz_H (rz_of rs_h2) ∧ rz_first (rz_of rs_h2) := by
  have h := rs_all
  unfold rs_chk at h
  split at h
  · next h1 e1 =>
    have eh1 : rs_h1 = h1 := by unfold rs_h1; rw [e1]
    simp only [Bool.and_eq_true, decide_eq_true_eq] at h
    obtain ⟨⟨⟨a1, a2⟩, a3⟩, a4⟩ := h
    rw [← eh1] at a1 a2 a3 a4
    split at a4
    · next h2 e2 =>
      have e2' : rs_r2 = some (none, h2) := e2
      have eh2 : rs_h2 = h2 := by unfold rs_h2; rw [e2']
      simp only [Bool.and_eq_true, decide_eq_true_eq] at a4
      obtain ⟨b1, b2⟩ := a4
      rw [← eh2] at b1 b2
      have := rs_eq (h := rs_h2) b1 (fun k c t hc ht => by
        have hk : k < rs_h2.length := (List.getElem?_eq_some_iff.mp hc).1
        have h3 := List.all_eq_true.mp b2 k (List.mem_range.mpr hk)
        rw [hc, ht] at h3
        exact h3)
      exact ⟨by rw [eh1]; exact e1, a1, a2, a3, by rw [eh2]; exact e2', this.1, this.2⟩
    · cases a4
  · cases h
theorem d_law_0 : decode (rm_code rx_lawM) 0 = .ok (.new 7, 3) := by decide +kernel
theorem d_law_3 : decode (rm_code rx_lawM) 3 = .ok (.dup, 1) := by decide +kernel
theorem d_law_4 : decode (rm_code rx_lawM) 4 = .ok (.invokespecial 9, 3) := by decide +kernel
theorem d_law_7 : decode (rm_code rx_lawM) 7 = .ok (.astore_n 1, 1) := by decide +kernel
theorem d_law_8 : decode (rm_code rx_lawM) 8 = .ok (.new 10, 3) := by decide +kernel
theorem d_law_11 : decode (rm_code rx_lawM) 11 = .ok (.dup, 1) := by decide +kernel
theorem d_law_12 : decode (rm_code rx_lawM) 12 = .ok (.invokespecial 12, 3) := by decide +kernel
theorem d_law_15 : decode (rm_code rx_lawM) 15 = .ok (.astore_n 2, 1) := by decide +kernel
theorem d_law_16 : decode (rm_code rx_lawM) 16 = .ok (.iconst 0, 1) := by decide +kernel
theorem d_law_17 : decode (rm_code rx_lawM) 17 = .ok (.istore_n 3, 1) := by decide +kernel
set_option maxRecDepth 100000 in
theorem rs_may1 : rx_may rx_lawM mX_init [(0, .ref 5000000)] [.ref 0, .ref 0] [rs_c0] 1 9 = true := by decide +kernel
set_option maxRecDepth 100000 in
theorem rs_fresh0 : rx_fresh 0 [(0, .ref 5000000)] [] [] = true ∧ rx_lk rx_NLs 13 7 = some (11, 1021) ∧ rx_lk rx_NLs 13 10 = some (12, 9054) := by decide +kernel
theorem rs_who1 : rx_who 13 (.invokespecial 9) 3 = some mX_init := rx_whoI (j := 0) (pos := 1023) (n := false) (by decide +kernel) j_X_init rfl
theorem rs_who2 : rx_who 13 (.invokespecial 12) 3 = some mM_init := rx_whoI (j := 350) (pos := 9055) (n := false) (by decide +kernel) j_M_init rfl
/-- the law's entry, up to its loop -/
theorem rs_head {L : Nat} {xs : Nat → Int32} (k : ∀ S, rz_first S → rl rx_lawM L xs (18, [(3, .int 0), (2, .ref 116), (1, .ref 0), (0, .ref 5000000)], [], rz_H S, 117 + rm_mc mM_init, 9 + rm_ms mX_init + 84 + rm_ms mM_init)) : rl rx_lawM L xs (0, [(0, .ref 5000000)], [], [], 0, 0) := by
  obtain ⟨f1, f2, f3, f4, f5, f6, f7⟩ := rs_facts
  obtain ⟨g1, g2, g3⟩ := rs_fresh0
  refine rl_alloc (pc' := 3) (st' := [.ref 0]) (h' := [rs_c0]) (uc' := 1) (us' := 9) d_law_0 rfl rfl rfl rfl ?_ ?_
  · show rx_alloc 13 _ _ _ _ _ _ _ _ _ _ = _
    unfold rx_alloc
    simp only [g2]
    rfl
  refine rl_pure (pc' := 4) (l' := [(0, .ref 5000000)]) (st' := [.ref 0, .ref 0]) d_law_3 rfl rfl ?_
  refine rl_call (Z := mX_init) (n1 := 6000) (r1 := none) (h1 := rs_h1) d_law_4 rfl rfl rs_who1 rs_may1 f1 ?_
  show rl rx_lawM L xs (7, [(0, .ref 5000000)], [.ref 0], rs_h1, 116, 9 + rm_ms mX_init)
  refine rl_pure (pc' := 8) (l' := [(1, .ref 0), (0, .ref 5000000)]) (st' := []) d_law_7 rfl rfl ?_
  refine rl_alloc (pc' := 11) (st' := [.ref 116]) (h' := rs_h1 ++ [rs_c1]) (uc' := 117) (us' := 9 + rm_ms mX_init + 84) d_law_8 rfl rfl rfl rfl ?_ ?_
  · show rx_alloc 13 _ _ _ _ _ _ _ _ _ _ = _
    unfold rx_alloc
    simp only [g3, f2]
    have e1 : vwCl[12]? = some (RX12, TX12, 84) := rfl
    have e2 : rx_cf[12]? = some tyX12 := rfl
    simp only [e1, e2]
    rw [if_pos ⟨f3, by decide, by decide⟩]
    rfl
  refine rl_pure (pc' := 12) (l' := [(1, .ref 0), (0, .ref 5000000)]) (st' := [.ref 116, .ref 116]) d_law_11 rfl rfl ?_
  refine rl_call (Z := mM_init) (n1 := 6000) (r1 := none) (h1 := rs_h2) d_law_12 rfl rfl rs_who2 f4 f5 ?_
  show rl rx_lawM L xs (15, [(1, .ref 0), (0, .ref 5000000)], [.ref 116], rs_h2, 117 + rm_mc mM_init, 9 + rm_ms mX_init + 84 + rm_ms mM_init)
  refine rl_pure (pc' := 16) (l' := [(2, .ref 116), (1, .ref 0), (0, .ref 5000000)]) (st' := []) d_law_15 rfl rfl ?_
  refine rl_pure (pc' := 17) (l' := [(2, .ref 116), (1, .ref 0), (0, .ref 5000000)]) (st' := [.int 0]) d_law_16 rfl rfl ?_
  refine rl_pure (pc' := 18) (l' := [(3, .int 0), (2, .ref 116), (1, .ref 0), (0, .ref 5000000)]) (st' := []) d_law_17 rfl rfl ?_
  rw [f6]
  exact k _ f7
