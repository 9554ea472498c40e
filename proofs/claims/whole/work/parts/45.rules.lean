/-! rows for the walks that are written by wp.py: fewer words in the frame's locals do no harm; numbers and rows get the names that the text gives them -/
def rx_ndb : rx_L → Bool
  | [] => true
  | q :: l => (l.all (fun z => !(Nat.beq z.1 q.1))) && rx_ndb l
def rx_nd (l : rx_L) : Prop := (l.map (fun q => q.1)).Nodup
theorem rx_nd_of : ∀ {l : rx_L}, rx_ndb l = true → rx_nd l := by
  intro l
  induction l with
  | nil => intro _; exact List.nodup_nil
  | cons q l ih =>
    intro h
    simp only [rx_ndb, Bool.and_eq_true, List.all_eq_true] at h
    refine List.nodup_cons.mpr ⟨fun hm => ?_, ih h.2⟩
    obtain ⟨z, hz, e⟩ := List.mem_map.mp hm
    have := h.1 z hz
    simp only at e
    rw [e] at this
    simp at this
theorem rx_gi_mem {l : rx_L} {i : Nat} {v : Value} (h : rx_gi l i = some v) : (i, v) ∈ l := by
  induction l with
  | nil => cases h
  | cons q l ih =>
    unfold rx_gi at h
    split at h
    · next he => subst he; cases h; exact List.mem_cons_self
    · exact List.mem_cons_of_mem _ (ih h)
theorem rx_mem_gi {l : rx_L} {i : Nat} {v : Value} (hn : rx_nd l) (h : (i, v) ∈ l) : rx_gi l i = some v := by
  induction l with
  | nil => cases h
  | cons q l ih =>
    have hn' := List.nodup_cons.mp hn
    unfold rx_gi
    rcases List.mem_cons.mp h with e | e
    · subst e; simp
    · have : ¬ q.1 = i := fun he => hn'.1 (List.mem_map.mpr ⟨(i, v), e, he.symm⟩)
      rw [if_neg this]
      exact ih hn'.2 e
def rx_sub (l l' : rx_L) : Prop := rx_nd l ∧ rx_nd l' ∧ ∀ q, q ∈ l → q ∈ l'
theorem rx_sub_gi {l l' : rx_L} {i : Nat} {v : Value} (hs : rx_sub l l') (h : rx_gi l i = some v) : rx_gi l' i = some v := rx_mem_gi hs.2.1 (hs.2.2 _ (rx_gi_mem h))
theorem rx_nd_si {l : rx_L} {i : Nat} {v : Value} (h : rx_nd l) : rx_nd (rx_si l i v) := by
  unfold rx_si
  refine List.nodup_cons.mpr ⟨fun hm => ?_, ?_⟩
  · obtain ⟨z, hz, e⟩ := List.mem_map.mp hm
    have := (List.mem_filter.mp hz).2
    simp only at e
    rw [e] at this
    simp at this
  · exact List.Nodup.sublist (List.Sublist.map _ List.filter_sublist) h
theorem rx_sub_si {l l' : rx_L} {i : Nat} {v : Value} (hs : rx_sub l l') : rx_sub (rx_si l i v) (rx_si l' i v) := by
  refine ⟨rx_nd_si hs.1, rx_nd_si hs.2.1, fun q hq => ?_⟩
  unfold rx_si at hq ⊢
  rcases List.mem_cons.mp hq with e | e
  · rw [e]; exact List.mem_cons_self
  · have := List.mem_filter.mp e
    exact List.mem_cons_of_mem _ (List.mem_filter.mpr ⟨hs.2.2 q this.1, this.2⟩)
section RXS
variable {l l' l1 : rx_L} {st st' : List Value} {pc pc' i n nL : Nat}
theorem rx_ld_sub (hs : rx_sub l l') (h : rx_ld l i n st = some (pc', l1, st')) : ∃ l2, rx_ld l' i n st = some (pc', l2, st') ∧ rx_sub l1 l2 := by
  unfold rx_ld at h
  split at h
  · next e => cases h; exact ⟨l', by unfold rx_ld; rw [rx_sub_gi hs e], hs⟩
  · cases h
theorem rx_ldl_sub (hs : rx_sub l l') (h : rx_ldl l i n st = some (pc', l1, st')) : ∃ l2, rx_ldl l' i n st = some (pc', l2, st') ∧ rx_sub l1 l2 := by
  unfold rx_ldl at h
  split at h
  · next e => cases h; exact ⟨l', by unfold rx_ldl; rw [rx_sub_gi hs e], hs⟩
  · cases h
theorem rx_lda_sub (hs : rx_sub l l') (h : rx_lda l i n st = some (pc', l1, st')) : ∃ l2, rx_lda l' i n st = some (pc', l2, st') ∧ rx_sub l1 l2 := by
  unfold rx_lda at h
  split at h
  · next e => cases h; exact ⟨l', by unfold rx_lda; rw [rx_sub_gi hs e], hs⟩
  · next e => cases h; exact ⟨l', by unfold rx_lda; rw [rx_sub_gi hs e], hs⟩
  · cases h
theorem rx_sti_sub (hs : rx_sub l l') (h : rx_sti nL l i n st = some (pc', l1, st')) : ∃ l2, rx_sti nL l' i n st = some (pc', l2, st') ∧ rx_sub l1 l2 := by
  unfold rx_sti at h
  split at h
  · split at h
    · next e => cases h; exact ⟨_, by unfold rx_sti; simp only [e, if_true], rx_sub_si hs⟩
    · cases h
  · cases h
theorem rx_sta_sub (hs : rx_sub l l') (h : rx_sta nL l i n st = some (pc', l1, st')) : ∃ l2, rx_sta nL l' i n st = some (pc', l2, st') ∧ rx_sub l1 l2 := by
  unfold rx_sta at h
  split at h
  · split at h
    · next e => cases h; exact ⟨_, by unfold rx_sta; simp only [e, if_true], rx_sub_si hs⟩
    · cases h
  · split at h
    · next e => cases h; exact ⟨_, by unfold rx_sta; simp only [e, if_true], rx_sub_si hs⟩
    · cases h
  · cases h
theorem rx_inc_sub {d : Int} (hs : rx_sub l l') (h : rx_inc nL l i n d st = some (pc', l1, st')) : ∃ l2, rx_inc nL l' i n d st = some (pc', l2, st') ∧ rx_sub l1 l2 := by
  unfold rx_inc at h
  split at h
  · next e =>
    split at h
    · next e2 => cases h; exact ⟨_, by unfold rx_inc; rw [rx_sub_gi hs e]; simp only [e2, if_true], rx_sub_si hs⟩
    · cases h
  · cases h
theorem rx_ii_sub {f : Int32 → Int32 → Int32} (hs : rx_sub l l') (h : rx_ii f n l st = some (pc', l1, st')) : ∃ l2, rx_ii f n l' st = some (pc', l2, st') ∧ rx_sub l1 l2 := by
  unfold rx_ii at h
  split at h
  · cases h; exact ⟨l', rfl, hs⟩
  · cases h
theorem rx_id_sub {f : Int32 → Int32 → Int32} (hs : rx_sub l l') (h : rx_id f n l st = some (pc', l1, st')) : ∃ l2, rx_id f n l' st = some (pc', l2, st') ∧ rx_sub l1 l2 := by
  unfold rx_id at h
  split at h
  · split at h
    · cases h
    · next e => cases h; exact ⟨l', by unfold rx_id; simp only [e, if_false], hs⟩
  · cases h
theorem rx_go_sub {off : Int} (hs : rx_sub l l') (h : rx_go pc off l st = some (pc', l1, st')) : ∃ l2, rx_go pc off l' st = some (pc', l2, st') ∧ rx_sub l1 l2 := by
  unfold rx_go at h
  split at h
  · next e => cases h; exact ⟨l', by unfold rx_go; rw [e], hs⟩
  · cases h
theorem rx_b1_sub {P : Int32 → Bool} {off : Int} (hs : rx_sub l l') (h : rx_b1 P pc off l st = some (pc', l1, st')) : ∃ l2, rx_b1 P pc off l' st = some (pc', l2, st') ∧ rx_sub l1 l2 := by
  unfold rx_b1 at h
  split at h
  · split at h
    · next e =>
      split at h
      · next e2 => cases h; exact ⟨l', by unfold rx_b1; simp only [e, e2, if_true], hs⟩
      · next e2 => cases h; exact ⟨l', by unfold rx_b1; simp only [e]; rw [if_neg e2], hs⟩
    · cases h
  · cases h
theorem rx_b2_sub {P : Int32 → Int32 → Bool} {off : Int} (hs : rx_sub l l') (h : rx_b2 P pc off l st = some (pc', l1, st')) : ∃ l2, rx_b2 P pc off l' st = some (pc', l2, st') ∧ rx_sub l1 l2 := by
  unfold rx_b2 at h
  split at h
  · split at h
    · next e =>
      split at h
      · next e2 => cases h; exact ⟨l', by unfold rx_b2; simp only [e, e2, if_true], hs⟩
      · next e2 => cases h; exact ⟨l', by unfold rx_b2; simp only [e]; rw [if_neg e2], hs⟩
    · cases h
  · cases h
theorem rx_tsw_sub {d lo hi : Int} {offs : Array Int} (hs : rx_sub l l') (h : rx_tsw pc d lo hi offs l st = some (pc', l1, st')) : ∃ l2, rx_tsw pc d lo hi offs l' st = some (pc', l2, st') ∧ rx_sub l1 l2 := by
  unfold rx_tsw at h
  split at h
  · split at h
    · next e =>
      obtain ⟨l2, a, b⟩ := rx_go_sub hs h
      exact ⟨l2, by unfold rx_tsw; simp only [if_pos e]; exact a, b⟩
    · next e =>
      split at h
      · next e2 =>
        obtain ⟨l2, a, b⟩ := rx_go_sub hs h
        exact ⟨l2, by unfold rx_tsw; simp only [if_neg e, e2]; exact a, b⟩
      · cases h
  · cases h
theorem rx_lsw_sub {d : Int} {ps : Array (Int × Int)} (hs : rx_sub l l') (h : rx_lsw pc d ps l st = some (pc', l1, st')) : ∃ l2, rx_lsw pc d ps l' st = some (pc', l2, st') ∧ rx_sub l1 l2 := by
  unfold rx_lsw at h
  split at h
  · split at h
    · next e =>
      obtain ⟨l2, a, b⟩ := rx_go_sub hs h
      exact ⟨l2, by unfold rx_lsw; simp only [if_pos e]; exact a, b⟩
    · cases h
  · cases h
set_option maxHeartbeats 4000000 in
theorem rx_pure_sub {i : Instr} {len : Nat} (hs : rx_sub l l') (h : rx_pure nL i len pc l st = some (pc', l1, st')) : ∃ l2, rx_pure nL i len pc l' st = some (pc', l2, st') ∧ rx_sub l1 l2 := by
  unfold rx_pure at h
  split at h
  all_goals first
    | (cases h; done)
    | (cases h; exact ⟨l', rfl, hs⟩)
    | exact rx_ld_sub hs h
    | exact rx_ldl_sub hs h
    | exact rx_lda_sub hs h
    | exact rx_sti_sub hs h
    | exact rx_sta_sub hs h
    | exact rx_inc_sub hs h
    | exact rx_ii_sub hs h
    | exact rx_id_sub hs h
    | exact rx_b1_sub hs h
    | exact rx_b2_sub hs h
    | exact rx_go_sub hs h
    | exact rx_tsw_sub hs h
    | exact rx_lsw_sub hs h
    | (split at h <;> first
        | (cases h; done)
        | (cases h; exact ⟨l', rfl, hs⟩)
        | exact rx_go_sub hs h
        | (split at h
           · next e => cases h; exact ⟨l', by simp only [rx_pure, if_pos e], hs⟩
           · cases h))
end RXS
set_option maxHeartbeats 4000000 in
theorem rx_pure_else {M : rx_M} {nL co fr lo : Nat} {ini : Bool} {i : Instr} {len pc : Nat} {l : rx_L} {st : List Value} {h : rx_H} {q : Nat × rx_L × List Value} (e : rx_pure nL i len pc l st = some q) : rx_heap co ini fr lo i len pc st h = none ∧ rx_who co i len = none ∧ rx_ans M i len st = none := by
  unfold rx_pure at e
  split at e
  all_goals first
    | exact ⟨rfl, rfl, rfl⟩
    | cases e
theorem rx_alloc0 {co ms : Nat} {i : Instr} {len pc : Nat} {l : rx_L} {st : List Value} {h : rx_H} {us : Nat} {q : Nat × List Value × rx_H × Nat × Nat} (e : rx_alloc co 0 ms i len pc l st h 0 us = some q) : False := by
  unfold rx_alloc at e
  split at e
  · split at e
    · split at e
      · split at e
        · next z => exact absurd z.2.1 (by omega)
        · cases e
      · cases e
    · cases e
  · split at e
    · split at e
      · next z => exact absurd z.2.2.2.1 (by omega)
      · cases e
    · cases e
  · split at e
    · split at e
      · next z => exact absurd z.2.2.2.1 (by omega)
      · cases e
    · cases e
  · cases e

theorem rx_run_sub : ∀ (n : Nat) (M : rx_M) (pc : Nat) (l l' : rx_L) (st : List Value) (h : rx_H) (z : Option Value × rx_H), rm_mc M = 0 → rm_ms M = 0 → rx_sub l l' → rx_run n M (pc, l, st, h, 0, 0) = some z → rx_run n M (pc, l', st, h, 0, 0) = some z := by
  intro n
  induction n with
  | zero => intro M pc l l' st h z _ _ _ e; cases e
  | succ n ih =>
    intro M pc l l' st hh z hM hS hs e
    rw [rx_run] at e ⊢
    cases hd : decode (rm_code M) pc with
    | error _ => rw [hd] at e; cases e
    | ok q =>
      obtain ⟨i, len⟩ := q
      rw [hd] at e
      dsimp only at e ⊢
      cases hp : rx_pure (rm_maxL M) i len pc l st with
      | some q =>
        obtain ⟨pc', l1, st'⟩ := q
        rw [hp] at e
        obtain ⟨l2, hp2, hs2⟩ := rx_pure_sub hs hp
        rw [hp2]
        exact ih _ _ _ _ _ _ _ hM hS hs2 e
      | none =>
        rw [hp] at e
        dsimp only at e
        cases hp' : rx_pure (rm_maxL M) i len pc l' st with
        | some q =>
          obtain ⟨h1, h2, h3⟩ := rx_pure_else (M := M) (co := rm_co M) (fr := rm_fr M) (lo := rm_lo M) (ini := rx_ini M) (h := hh) hp'
          rw [h1, h2, h3] at e
          dsimp only at e
          rw [hM] at e
          cases ha : rx_alloc (rm_co M) 0 (rm_ms M) i len pc l st hh 0 0 with
          | none => rw [ha] at e; cases e
          | some q => exact (rx_alloc0 ha).elim
        | none =>
          dsimp only
          cases hq : rx_heap (rm_co M) (rx_ini M) (rm_fr M) (rm_lo M) i len pc st hh with
          | some q => rw [hq] at e; exact ih _ _ _ _ _ _ _ hM hS hs e
          | none =>
            rw [hq] at e
            dsimp only at e ⊢
            cases hw : rx_who (rm_co M) i len with
            | some Z =>
              rw [hw] at e
              dsimp only at e ⊢
              by_cases hm : rx_may M Z l st hh 0 0 = true
              · rw [if_pos hm] at e
                have hm0 := hm
                unfold rx_may at hm
                simp only [Bool.and_eq_true, decide_eq_true_eq, Bool.or_eq_true] at hm
                obtain ⟨⟨⟨⟨⟨⟨⟨⟨a1, a2⟩, a3⟩, a4⟩, a5⟩, a6⟩, a7⟩, a8⟩, a9⟩ := hm
                have b1 : rm_mc Z = 0 := by omega
                have b2 : rm_ms Z = 0 := by omega
                have hm2 : rx_may M Z l' st hh 0 0 = true := by
                  unfold rx_may
                  simp only [Bool.and_eq_true, decide_eq_true_eq, Bool.or_eq_true]
                  exact ⟨⟨⟨⟨⟨⟨⟨⟨a1, a2⟩, a3⟩, a4⟩, a5⟩, a6⟩, Or.inl b1⟩, a8⟩, a9⟩
                rw [if_pos hm2]
                cases hr : rx_run n Z (0, lv_args 0 (st.take (rx_na Z)).reverse, [], hh, 0, 0) with
                | none => rw [hr] at e; cases e
                | some r =>
                  rw [hr] at e
                  obtain ⟨r, h'⟩ := r
                  dsimp only at e ⊢
                  rw [b1, b2] at e ⊢
                  exact ih _ _ _ _ _ _ _ hM hS hs e
              · rw [if_neg hm] at e; cases e
            | none =>
              rw [hw] at e
              dsimp only at e ⊢
              cases ha : rx_ans M i len st with
              | some r => rw [ha] at e; exact e
              | none =>
                rw [ha] at e
                dsimp only at e
                rw [hM] at e
                cases hl : rx_alloc (rm_co M) 0 (rm_ms M) i len pc l st hh 0 0 with
                | none => rw [hl] at e; cases e
                | some q => exact (rx_alloc0 hl).elim
def rx_pick (ks : List Nat) (l : rx_L) : rx_L := ks.filterMap (fun k => (rx_gi l k).map (fun v => (k, v)))
theorem rx_pick_mem {ks : List Nat} {l : rx_L} {q : Nat × Value} (h : q ∈ rx_pick ks l) : q.1 ∈ ks ∧ q ∈ l := by
  obtain ⟨k, hk, e⟩ := List.mem_filterMap.mp h
  cases hg : rx_gi l k with
  | none => rw [hg] at e; cases e
  | some v =>
    rw [hg] at e
    cases e
    exact ⟨hk, rx_gi_mem hg⟩
theorem rx_pick_nd {l : rx_L} : ∀ {ks : List Nat}, ks.Nodup → rx_nd (rx_pick ks l) := by
  intro ks
  induction ks with
  | nil => intro _; exact List.nodup_nil
  | cons k ks ih =>
    intro h
    have h' := List.nodup_cons.mp h
    unfold rx_pick
    rw [List.filterMap_cons]
    cases hg : rx_gi l k with
    | none => exact ih h'.2
    | some v =>
      refine List.nodup_cons.mpr ⟨fun hm => ?_, ih h'.2⟩
      obtain ⟨z, hz, e⟩ := List.mem_map.mp hm
      have e2 : z.1 = k := e
      exact h'.1 (e2 ▸ (rx_pick_mem (ks := ks) hz).1)
theorem rz_pick {M : rx_M} {pc : Nat} {l l0 : rx_L} {ks : List Nat} {st : List Value} {S : rz_S} {Q : Option Value → rz_S → Prop} (e : rx_pick ks l0 = l) (hM : rm_mc M + rm_ms M = 0) (hk : ks.Nodup) (hl : rx_ndb l0 = true) (h : rz M pc l st S Q) : rz M pc l0 st S Q := by
  obtain ⟨n, r, S', h1, h2⟩ := h
  refine ⟨n, r, S', rx_run_sub n M pc l l0 st _ _ (by omega) (by omega) ⟨?_, rx_nd_of hl, fun q hq => ?_⟩ h1, h2⟩
  · rw [← e]; exact rx_pick_nd hk
  · rw [← e] at hq; exact (rx_pick_mem hq).2
/-! the many of a kind: rings, channels, patterns -/
def rgP (k : Nat) : Prop := 13 ≤ k ∧ k ≤ 35 ∧ k % 2 = 1
def rgN (k : Nat) : Nat := 1000 - 120 * ((k - 13) / 6)
def rgL : List (Option Nat) := [some 13, some 15, some 17, some 19, some 21, some 23, some 25, some 27, some 29, some 31, some 33, some 35]
theorem rgZ {k : Nat} (h : rgP k) : 13 ≤ k ∧ k ≤ 35 ∧ k % 2 = 1 := h
theorem rg_cases {k : Nat} (h : rgP k) : k = 13 ∨ k = 15 ∨ k = 17 ∨ k = 19 ∨ k = 21 ∨ k = 23 ∨ k = 25 ∨ k = 27 ∨ k = 29 ∨ k = 31 ∨ k = 33 ∨ k = 35 := by
  obtain ⟨h1, h2, h3⟩ := h
  omega
theorem rgT {k : Nat} (h : rgP k) : rz_T[k]? = some (.inr (.inr (8, [none, none, some (.ref (k + 1)), none, none, none, none, none]))) := by
  rcases rg_cases h with rfl | rfl | rfl | rfl | rfl | rfl | rfl | rfl | rfl | rfl | rfl | rfl <;> rfl
theorem rgC {k : Nat} (h : rgP k) : rz_T[k + 1]? = some (.inl (0, rgN k)) := by
  rcases rg_cases h with rfl | rfl | rfl | rfl | rfl | rfl | rfl | rfl | rfl | rfl | rfl | rfl <;> rfl
theorem rx_inN {x : Int32} {n : Nat} (h : rx_in x n = true) : ¬ x < 0 ∧ x.toNatClampNeg < n := by
  have := of_decide_eq_true h
  refine ⟨fun z => this (Or.inl z), Nat.lt_of_not_le fun z => this (Or.inr z)⟩
theorem rgI {x : Int32} (h : rx_in x 12 = true) : rgP (13 + 2 * x.toNatClampNeg) := by
  have := (rx_inN h).2
  refine ⟨by omega, by omega, by omega⟩
theorem rgG {j : Nat} (hj : j < 12) : rx_ref (rgL.getD j none) = .ref (13 + 2 * j) := by
  match j, hj with
  | 0, _ => rfl
  | 1, _ => rfl
  | 2, _ => rfl
  | 3, _ => rfl
  | 4, _ => rfl
  | 5, _ => rfl
  | 6, _ => rfl
  | 7, _ => rfl
  | 8, _ => rfl
  | 9, _ => rfl
  | 10, _ => rfl
  | 11, _ => rfl
  | j + 12, h => exact absurd h (by omega)
def ptP (k : Nat) : Prop := rz_T[k]? = some (.inr (.inr (6, [some (.ref (k + 1)), none]))) ∧ rz_T[k + 1]? = some (.inl (0, 10))
theorem ptT {k : Nat} (h : ptP k) : rz_T[k]? = some (.inr (.inr (6, [some (.ref (k + 1)), none]))) := h.1
theorem ptR {k : Nat} (h : ptP k) : rz_T[k + 1]? = some (.inl (0, 10)) := h.2
def chP (k : Nat) : Prop := 48 ≤ k ∧ k ≤ 104 ∧ k % 4 = 0
theorem chZ {k : Nat} (h : chP k) : 48 ≤ k ∧ k ≤ 104 ∧ k % 4 = 0 := h
theorem ch_cases {k : Nat} (h : chP k) : k = 48 ∨ k = 52 ∨ k = 56 ∨ k = 60 ∨ k = 64 ∨ k = 68 ∨ k = 72 ∨ k = 76 ∨ k = 80 ∨ k = 84 ∨ k = 88 ∨ k = 92 ∨ k = 96 ∨ k = 100 ∨ k = 104 := by
  obtain ⟨h1, h2, h3⟩ := h
  omega
theorem chTP {k : Nat} (h : chP k) : rz_T[k]? = some (.inr (.inr (1, [none, some (.ref (k + 1)), none, none, none, none, none, none, none, none, none, none, none, none, some (.ref (k + 2)), none]))) := by
  rcases ch_cases h with rfl | rfl | rfl | rfl | rfl | rfl | rfl | rfl | rfl | rfl | rfl | rfl | rfl | rfl | rfl <;> rfl
theorem chR {k : Nat} (h : chP k) : rz_T[k + 1]? = some (.inl (0, 64)) := by
  rcases ch_cases h with rfl | rfl | rfl | rfl | rfl | rfl | rfl | rfl | rfl | rfl | rfl | rfl | rfl | rfl | rfl <;> rfl
theorem chPt {k : Nat} (h : chP k) : ptP (k + 2) := by
  rcases ch_cases h with rfl | rfl | rfl | rfl | rfl | rfl | rfl | rfl | rfl | rfl | rfl | rfl | rfl | rfl | rfl <;> exact ⟨rfl, rfl⟩
theorem chI {x : Int32} (h : rx_in x 15 = true) : chP (48 + 4 * x.toNatClampNeg) := by
  have := (rx_inN h).2
  refine ⟨by omega, by omega, by omega⟩
/-! static arrays -/
def sa_l (j : Nat) : List Int32 := match rx_sn[j]? with
  | some (_, _, _, .inr (_, a)) => a
  | _ => []
def sa_n (j : Nat) : Option Nat := match rx_sn[j]? with
  | some (_, _, _, .inr (n, _)) => some n
  | _ => none
def sa_v (j i : Nat) : Int32 := (sa_l j).getD i 0
theorem sa_of {j n : Nat} (h : sa_n j = some n) : rx_sa (3000000 + j) = some (n, sa_l j) := by
  unfold sa_n at h
  unfold rx_sa sa_l
  rw [if_pos (by omega), Nat.add_sub_cancel_left]
  split at h
  · next e => cases h; rw [e]
  · cases h
section RZ5
variable {M : rx_M} {pc len tgt n i k : Nat} {l : rx_L} {st rest : List Value} {S : rz_S} {Q : Option Value → rz_S → Prop} {x y v : Int32} {F G : Nat → Int32}
theorem rz_getiv {idx ci j pos : Nat} {ty : FieldType} {fin : Bool} {fs : List (Option Value)} (hd : decode (rm_code M) pc = .ok (.getfield idx, 3)) (hL : rx_lk rx_FLs (rm_co M) idx = some ((ci, j, ty, fin), pos)) (hT : rz_T[k]? = some (.inr (.inr (ci, fs)))) (hj : fs[j]? = some none) (hv : S.2 k j = v) (kk : rz M (pc + 3) l (.int v :: rest) S Q) : rz M pc l (.ref k :: rest) S Q := by
  subst hv
  exact rz_geti hd hL hT hj kk
theorem rz_ialdv (hd : decode (rm_code M) pc = .ok (.iaload, 1)) (hT : rz_T[k]? = some (.inl (0, n))) (hi : rx_in x n = true) (hF : S.1 k = F) (hx : x.toNatClampNeg = i) (kk : rz M (pc + 1) l (.int (F i) :: rest) S Q) : rz M pc l (.int x :: .ref k :: rest) S Q := by
  subst hF hx
  exact rz_iald hd hT hi kk
theorem rz_baldv {t : Nat} (hd : decode (rm_code M) pc = .ok (.baload, 1)) (hT : rz_T[k]? = some (.inl (t, n))) (ht : t = 1 ∨ t = 2) (hi : rx_in x n = true) (hF : S.1 k = F) (hx : x.toNatClampNeg = i) (kk : rz M (pc + 1) l (.int (F i) :: rest) S Q) : rz M pc l (.int x :: .ref k :: rest) S Q := by
  subst hF hx
  exact rz_bald hd hT ht hi kk
theorem rz_iastv (hd : decode (rm_code M) pc = .ok (.iastore, 1)) (hT : rz_T[k]? = some (.inl (0, n))) (hi : rx_in x n = true) (hF : S.1 k = F) (hx : x.toNatClampNeg = i) (kk : rz M (pc + 1) l rest (rz_fA S k (upd F i y)) Q) : rz M pc l (.int y :: .int x :: .ref k :: rest) S Q := by
  subst hF hx
  exact rz_iast hd hT hi kk
theorem rz_bastv (hd : decode (rm_code M) pc = .ok (.bastore, 1)) (hT : rz_T[k]? = some (.inl (1, n))) (hi : rx_in x n = true) (hF : S.1 k = F) (hx : x.toNatClampNeg = i) (kk : rz M (pc + 1) l rest (rz_fA S k (upd F i (vp_nar .byte y))) Q) : rz M pc l (.int y :: .int x :: .ref k :: rest) S Q := by
  subst hF hx
  exact rz_bast hd hT hi kk
theorem rz_zastv (hd : decode (rm_code M) pc = .ok (.bastore, 1)) (hT : rz_T[k]? = some (.inl (2, n))) (hi : rx_in x n = true) (hF : S.1 k = F) (hx : x.toNatClampNeg = i) (kk : rz M (pc + 1) l rest (rz_fA S k (upd F i (vp_nar .boolean y))) Q) : rz M pc l (.int y :: .int x :: .ref k :: rest) S Q := by
  subst hF hx
  exact rz_zast hd hT hi kk
theorem rz_staldv {j : Nat} (hd : decode (rm_code M) pc = .ok (.iaload, 1)) (hk : k = 3000000 + j) (hT : rz_T[k]? = none) (ha : sa_n j = some n) (hi : rx_in x n = true) (hx : x.toNatClampNeg = i) (kk : rz M (pc + 1) l (.int (sa_v j i) :: rest) S Q) : rz M pc l (.int x :: .ref k :: rest) S Q := by
  subst hx
  exact rz_stald hd hT (hk ▸ sa_of ha) hi kk
theorem rz_stalen {j : Nat} (hd : decode (rm_code M) pc = .ok (.arraylength, 1)) (hk : k = 3000000 + j) (hT : rz_T[k]? = none) (ha : sa_n j = some n) (kk : rz M (pc + 1) l (.int (Int32.ofNat n) :: rest) S Q) : rz M pc l (.ref k :: rest) S Q := by
  refine rz_heap (S1 := S) hd rfl ?_ kk
  have e1 : (rz_H S)[k]? = none := rz_none hT
  have e2 : rx_sa k = some (n, sa_l j) := hk ▸ sa_of ha
  simp [rx_heap, rx_alen, e1, e2]
theorem rz_alenv {t : Nat} (hd : decode (rm_code M) pc = .ok (.arraylength, 1)) (hT : rz_T[k]? = some (.inl (t, n))) (ht : t < 3) (hv : Int32.ofNat n = v) (kk : rz M (pc + 1) l (.int v :: rest) S Q) : rz M pc l (.ref k :: rest) S Q := by
  subst hv
  exact rz_alen hd hT ht kk
theorem rz_aldR (hd : decode (rm_code M) pc = .ok (.aaload, 1)) (hT : rz_T[k]? = some (.inr (.inl (4, rgL)))) (hi : rx_in x 12 = true) (kk : rz M (pc + 1) l (.ref (13 + 2 * x.toNatClampNeg) :: rest) S Q) : rz M pc l (.int x :: .ref k :: rest) S Q := by
  refine rz_aald hd hT rfl hi ?_
  rw [rgG (rx_inN hi).2]
  exact kk
theorem rz_aldC (hd : decode (rm_code M) pc = .ok (.aaload, 1)) (hT : rz_T[k]? = some (.inr (.inl (3, chL)))) (hi : rx_in x 15 = true) (kk : rz M (pc + 1) l (.ref (48 + 4 * x.toNatClampNeg) :: rest) S Q) : rz M pc l (.int x :: .ref k :: rest) S Q := by
  refine rz_aald hd hT rfl hi ?_
  rw [chG (rx_inN hi).2]
  exact kk
theorem rz_callVr {Z : rx_M} {P : Value → rz_S → Prop} {idx : Nat} {fs : List (Option Value)} {t : List Value} (hd : decode (rm_code M) pc = .ok (.invokevirtual idx, 3)) (hw : rx_who (rm_co M) (.invokevirtual idx) 3 = some Z) (hk : rm_kind Z = 0) (hT : rz_T[k]? = some (.inr (.inr (rm_co Z, fs)))) (hroom : rz_room M Z rest (t ++ [Value.ref k]) = true) (hc : rz_ev Z (.ref k :: t.reverse) S (rz_r P)) (kk : ∀ x S1, P x S1 → rz M (pc + 3) l (x :: rest) S1 Q) : rz M pc l (t ++ Value.ref k :: rest) S Q :=
  rz_callV hd hw hk hT hroom hc (fun r1 S1 h => by obtain ⟨x, rfl, h⟩ := h; exact kk x S1 h)
theorem rz_tsw {d lo hi : Int} {offs : Array Int} (hd : decode (rm_code M) pc = .ok (.tableswitch d lo hi offs, len)) (hn : (hi - lo + 1).toNat = n) (ht : rx_tg pc d = some tgt) (kout : x.toInt < lo ∨ hi < x.toInt → rz M tgt l rest S Q) (kin : ∀ j : Nat, j < n → x = Int32.ofInt (lo + j) → rz M pc l (.int x :: rest) S Q) : rz M pc l (.int x :: rest) S Q := by
  by_cases h : x.toInt < lo ∨ hi < x.toInt
  · exact rz_tsOut hd h ht (kout h)
  · refine kin (x.toInt - lo).toNat (by omega) ?_
    rw [Int.toNat_of_nonneg (by omega), show lo + (x.toInt - lo) = x.toInt by omega, Int32.ofInt_toInt]
theorem rz_tsj {d lo hi : Int} {offs : Array Int} (hd : decode (rm_code M) pc = .ok (.tableswitch d lo hi offs, len)) (hx : x = v) (e : rx_tsw pc d lo hi offs l (.int v :: rest) = some (tgt, l, rest)) (kk : rz M tgt l rest S Q) : rz M pc l (.int x :: rest) S Q := by
  subst hx
  exact rz_pure (pc' := tgt) (l' := l) (st' := rest) hd e kk
theorem rz_lsj {d : Int} {ps : Array (Int × Int)} (hd : decode (rm_code M) pc = .ok (.lookupswitch d ps, len)) (hx : x = v) (e : rx_lsw pc d ps l (.int v :: rest) = some (tgt, l, rest)) (kk : rz M tgt l rest S Q) : rz M pc l (.int x :: rest) S Q := by
  subst hx
  exact rz_pure (pc' := tgt) (l' := l) (st' := rest) hd e kk
def lsNot : List (Int × Int) → Int32 → Prop
  | [], _ => True
  | q :: r, x => ¬ x = Int32.ofInt q.1 ∧ lsNot r x
theorem ls_off {d : Int} : ∀ {ps : List (Int × Int)}, lsNot ps x → Op.lookupswitch.offset ps d x.toInt = d := by
  intro ps
  induction ps with
  | nil => intro _; rfl
  | cons q r ih =>
    intro h
    obtain ⟨a, o⟩ := q
    rw [Op.lookupswitch.offset_cons, if_neg, ih h.2]
    intro e
    exact h.1 (by rw [e, Int32.ofInt_toInt])
theorem rz_lsd {d : Int} {ps : Array (Int × Int)} (hd : decode (rm_code M) pc = .ok (.lookupswitch d ps, len)) (hs : (ps.toList.zip (ps.toList.drop 1)).all (fun (a, next) => a.1 < next.1) = true) (hn : lsNot ps.toList x) (ht : rx_tg pc d = some tgt) (kk : rz M tgt l rest S Q) : rz M pc l (.int x :: rest) S Q := by
  refine rz_pure (pc' := tgt) (l' := l) (st' := rest) hd ?_ kk
  show rx_lsw pc d ps l (.int x :: rest) = _
  simp only [rx_lsw, hs, if_true, ls_off hn, rx_go, ht]
theorem rz_bfit (h : x = 0 ∨ x = 1) : rx_fit .boolean (.int x) = true := by rcases h with rfl | rfl <;> rfl
theorem rz_bnok (h : x = 0 ∨ x = 1) : rx_nok .boolean x = true := by rcases h with rfl | rfl <;> rfl
def rz_mroom (M : rx_M) (rest : List Value) : Bool := decide (1 ≤ rm_fr M) && decide (rx_cats rest + 13 ≤ rm_lo M)
theorem rz_max {idx pos : Nat} (hd : decode (rm_code M) pc = .ok (.invokestatic idx, 3)) (hY : rx_lk rx_YLs (rm_co M) idx = none) (hJ : rx_lk rx_JLs (rm_co M) idx = some (0, pos)) (hr : rz_mroom M rest = true) (kk : rz M (pc + 3) l (.int (if x < y then y else x) :: rest) S Q) : rz M pc l (.int y :: .int x :: rest) S Q := by
  unfold rz_mroom at hr
  simp only [Bool.and_eq_true, decide_eq_true_eq] at hr
  refine rz_heap (S1 := S) hd rfl ?_ kk
  simp only [rx_heap, hY, hJ, rx_math, hr, and_self, if_true, Option.map_some]
theorem rz_min {idx pos : Nat} (hd : decode (rm_code M) pc = .ok (.invokestatic idx, 3)) (hY : rx_lk rx_YLs (rm_co M) idx = none) (hJ : rx_lk rx_JLs (rm_co M) idx = some (1, pos)) (hr : rz_mroom M rest = true) (kk : rz M (pc + 3) l (.int (if y < x then y else x) :: rest) S Q) : rz M pc l (.int y :: .int x :: rest) S Q := by
  unfold rz_mroom at hr
  simp only [Bool.and_eq_true, decide_eq_true_eq] at hr
  refine rz_heap (S1 := S) hd rfl ?_ kk
  simp only [rx_heap, hY, hJ, rx_math, hr, and_self, if_true, Option.map_some]
def rz_croom (M : rx_M) (rest : List Value) : Bool := decide (1 ≤ rm_fr M) && decide (rx_cats rest + 40 ≤ rm_lo M)
theorem rz_cpyv {idx pos j n0 n1 sp dp m : Nat} {xs xd xn : Int32} (hd : decode (rm_code M) pc = .ok (.invokestatic idx, 3)) (hY : rx_lk rx_YLs (rm_co M) idx = some pos) (hj : rz_T[j]? = some (.inl (0, n0))) (hk : rz_T[k]? = some (.inl (0, n1))) (hF : S.1 j = F) (hG : S.1 k = G) (hx : (¬ xs < 0 ∧ ¬ xd < 0 ∧ ¬ xn < 0) ∧ xs.toNatClampNeg = sp ∧ xd.toNatClampNeg = dp ∧ xn.toNatClampNeg = m) (h0 : sp + m ≤ n0) (h1 : dp + m ≤ n1) (hr : rz_croom M rest = true) (kk : rz M (pc + 3) l rest (rz_fA S k (va_cpy F G sp dp m)) Q) : rz M pc l (.int xn :: .int xd :: .ref k :: .int xs :: .ref j :: rest) S Q := by
  unfold rz_croom at hr
  simp only [Bool.and_eq_true, decide_eq_true_eq] at hr
  obtain ⟨⟨a1, a2, a3⟩, rfl, rfl, rfl⟩ := hx
  subst hF hG
  refine rz_heap (S1 := rz_fA S k (va_cpy (S.1 j) (S.1 k) xs.toNatClampNeg xd.toNatClampNeg xn.toNatClampNeg)) hd rfl ?_ kk
  have e1 : (rz_H S)[j]? = some (.inl (0, n0, S.1 j)) := rz_get hj
  have e2 : (rz_H S)[k]? = some (.inl (0, n1, S.1 k)) := rz_get hk
  have e3 : ¬ xs < 0 ∧ ¬ xd < 0 ∧ ¬ xn < 0 ∧ xs.toNatClampNeg + xn.toNatClampNeg ≤ n0 ∧ xd.toNatClampNeg + xn.toNatClampNeg ≤ n1 ∧ 1 ≤ rm_fr M ∧ rx_cats rest + 40 ≤ rm_lo M := ⟨a1, a2, a3, h0, h1, hr.1, hr.2⟩
  simp only [rx_heap, hY, rx_copy, e1, e2]
  rw [if_pos e3]
  simp only [Option.map_some, rz_setA hk]
theorem rz_ldci {idx : Nat} (hd : decode (rm_code M) pc = .ok (.ldc idx, 2)) (hv : rx_ldc (rm_co M) idx = some (.int v)) (kk : rz M (pc + 2) l (.int v :: st) S Q) : rz M pc l st S Q := by
  refine rz_heap (S1 := S) hd rfl ?_ kk
  simp [rx_heap, hv]
theorem rz_ldct {idx : Nat} (hd : decode (rm_code M) pc = .ok (.ldc idx, 2)) (hv : rx_ldc (rm_co M) idx = some (.ref k)) (kk : rz M (pc + 2) l (.ref k :: st) S Q) : rz M pc l st S Q := by
  refine rz_heap (S1 := S) hd rfl ?_ kk
  simp [rx_heap, hv]
theorem rz_ldcwt {idx : Nat} (hd : decode (rm_code M) pc = .ok (.ldc_w idx, 3)) (hv : rx_ldc (rm_co M) idx = some (.ref k)) (kk : rz M (pc + 3) l (.ref k :: st) S Q) : rz M pc l st S Q := by
  refine rz_heap (S1 := S) hd rfl ?_ kk
  simp [rx_heap, hv]
theorem rz_ldcl {idx pos : Nat} {z : Int64} (hd : decode (rm_code M) pc = .ok (.ldc2_w idx, 3)) (hv : rx_lk rx_CJs (rm_co M) idx = some (z, pos)) (kk : rz M (pc + 3) l (.long z :: st) S Q) : rz M pc l st S Q := by
  refine rz_heap (S1 := S) hd rfl ?_ kk
  simp [rx_heap, hv]
end RZ5
/-- a text that stands as a constant -/
def txP (k : Nat) : Prop := 1000000 ≤ k ∧ k < 1000000 + rx_tb.length
theorem txT {k : Nat} (h : txP k) : rz_T[k]? = none := by
  refine List.getElem?_eq_none ?_
  have : rz_T.length = 156 := rfl
  have := h.1
  omega
theorem rz_callT {M Z : rx_M} {pc k idx : Nat} {l : rx_L} {rest t : List Value} {S : rz_S} {Q Q1 : Option Value → rz_S → Prop} (hd : decode (rm_code M) pc = .ok (.invokevirtual idx, 3)) (hw : rx_who (rm_co M) (.invokevirtual idx) 3 = some Z) (hk : rm_kind Z = 0) (hc0 : (rm_y Z).cls = "java/lang/String") (hx : txP k) (hroom : rz_room M Z rest (t ++ [Value.ref k]) = true) (hc : rz_ev Z (.ref k :: t.reverse) S Q1) (kk : ∀ r1 S1, Q1 r1 S1 → rz M (pc + 3) l (r1.toList ++ rest) S1 Q) : rz M pc l (t ++ Value.ref k :: rest) S Q := by
  unfold rz_room at hroom
  simp only [Bool.and_eq_true, decide_eq_true_eq] at hroom
  obtain ⟨⟨⟨⟨⟨⟨a1, a2⟩, a3⟩, a4⟩, a5⟩, a6⟩, a7⟩ := hroom
  have e0 : t ++ Value.ref k :: rest = (t ++ [Value.ref k]) ++ rest := by simp
  have e1 : (t ++ Value.ref k :: rest).take (rx_na Z) = t ++ [Value.ref k] := by rw [e0, a7]; exact List.take_left
  have e2 : (t ++ Value.ref k :: rest).drop (rx_na Z) = rest := by rw [e0, a7]; exact List.drop_left
  have hz : (rz_H S)[k]? = none := rz_none (txT hx)
  refine rz_call (Z := Z) (Q1 := Q1) hd rfl rfl hw ?_ ⟨a4, a5⟩ ?_ ?_
  · unfold rx_may
    rw [e1, e2, if_pos hk]
    have : rx_rcv Z (rz_H S) (t ++ [Value.ref k]).reverse = true := by
      have h1 := hx.1
      have h2 := hx.2
      have e3 : (t ++ [Value.ref k]).reverse = Value.ref k :: t.reverse := by simp
      rw [e3]
      have h3 : (decide (1000000 ≤ k) && decide (k - 1000000 < rx_tb.length) && decide ((rm_y Z).cls = "java/lang/String")) = true := by
        rw [decide_eq_true h1, decide_eq_true (Nat.sub_lt_left_of_lt_add h1 h2), decide_eq_true hc0]
        rfl
      simp only [rx_rcv, hz]
      exact h3
    rw [this]
    simp only [Bool.and_eq_true, decide_eq_true_eq, Bool.or_eq_true]
    exact ⟨⟨⟨⟨⟨⟨⟨⟨by rw [a7]; simp, a1⟩, a2⟩, a3⟩, by omega⟩, by omega⟩, Or.inl a4⟩, a6⟩, trivial⟩
  · rw [e1]; simpa using hc
  · rw [e2]; exact kk
theorem rz_callTi {M Z : rx_M} {pc k idx : Nat} {l : rx_L} {rest t : List Value} {S : rz_S} {Q : Option Value → rz_S → Prop} {P : Int32 → rz_S → Prop} (hd : decode (rm_code M) pc = .ok (.invokevirtual idx, 3)) (hw : rx_who (rm_co M) (.invokevirtual idx) 3 = some Z) (hk : rm_kind Z = 0) (hc0 : (rm_y Z).cls = "java/lang/String") (hx : txP k) (hroom : rz_room M Z rest (t ++ [Value.ref k]) = true) (hc : rz_ev Z (.ref k :: t.reverse) S (rz_i P)) (kk : ∀ x S1, P x S1 → rz M (pc + 3) l (.int x :: rest) S1 Q) : rz M pc l (t ++ Value.ref k :: rest) S Q :=
  rz_callT hd hw hk hc0 hx hroom hc (fun r1 S1 h => by obtain ⟨x, rfl, h⟩ := h; exact kk x S1 h)
/-- a contract that says just what comes, and what then must hold -/
theorem rz_toI {Z : rx_M} {as : List Value} {S S' : rz_S} {a : Int32} {K : Int32 → rz_S → Prop} (h : rz_ev Z as S (rz_i (fun x S1 => x = a ∧ S1 = S'))) (k : K a S') : rz_ev Z as S (rz_i K) := rz_weak h (fun r S1 q => by obtain ⟨x, rfl, rfl, rfl⟩ := q; exact ⟨_, rfl, k⟩)
theorem rz_toV {Z : rx_M} {as : List Value} {S S' : rz_S} {K : rz_S → Prop} (h : rz_ev Z as S (rz_v (fun S1 => S1 = S'))) (k : K S') : rz_ev Z as S (rz_v K) := rz_weak h (fun r S1 q => by obtain ⟨rfl, rfl⟩ := q; exact ⟨rfl, k⟩)
theorem rz_toR {Z : rx_M} {as : List Value} {S S' : rz_S} {a : Value} {K : Value → rz_S → Prop} (h : rz_ev Z as S (rz_r (fun x S1 => x = a ∧ S1 = S'))) (k : K a S') : rz_ev Z as S (rz_r K) := rz_weak h (fun r S1 q => by obtain ⟨x, rfl, rfl, rfl⟩ := q; exact ⟨_, rfl, k⟩)
theorem rz_useI {Z : rx_M} {as : List Value} {S : rz_S} {P K : Int32 → rz_S → Prop} (h : rz_ev Z as S (rz_i P)) (k : ∀ x S1, P x S1 → K x S1) : rz_ev Z as S (rz_i K) := rz_weak h (fun r S1 q => by obtain ⟨x, rfl, h⟩ := q; exact ⟨_, rfl, k x S1 h⟩)
theorem rz_useV {Z : rx_M} {as : List Value} {S : rz_S} {P K : rz_S → Prop} (h : rz_ev Z as S (rz_v P)) (k : ∀ S1, P S1 → K S1) : rz_ev Z as S (rz_v K) := rz_weak h (fun r S1 q => by obtain ⟨rfl, h⟩ := q; exact ⟨rfl, k S1 h⟩)
theorem rz_useR {Z : rx_M} {as : List Value} {S : rz_S} {P K : Value → rz_S → Prop} (h : rz_ev Z as S (rz_r P)) (k : ∀ x S1, P x S1 → K x S1) : rz_ev Z as S (rz_r K) := rz_weak h (fun r S1 q => by obtain ⟨x, rfl, h⟩ := q; exact ⟨_, rfl, k x S1 h⟩)
