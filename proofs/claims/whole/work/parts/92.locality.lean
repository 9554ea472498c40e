/-! a run of the class's methods neither reads nor changes the reference's cells, and the other way round -/
def inS (σ : Bool) (k : Nat) : Prop := (σ = false ∧ k < 116) ∨ (σ = true ∧ 116 ≤ k ∧ k < 156)
def sv (σ : Bool) : Value → Prop
  | .ref k => inS σ k ∨ 1000000 ≤ k
  | _ => True
def cV (σ : Bool) : rx_C → Prop
  | .inl _ => True
  | .inr (.inl (_, a)) => ∀ o, o ∈ a → ∀ k, o = some k → inS σ k
  | .inr (.inr (_, fs)) => ∀ v, v ∈ fs → sv σ v
def clo (σ : Bool) (H : rx_H) : Prop := ∀ k c, inS σ k → H[k]? = some c → cV σ c
def agr (σ : Bool) (H G : rx_H) : Prop := H.length = 156 ∧ G.length = 156 ∧ ∀ k, inS σ k → H[k]? = G[k]?
section LOC
variable {σ : Bool} {H G H1 : rx_H} {st st' r : List Value} {co idx fr lo : Nat}
theorem inS_lt {k : Nat} (h : inS σ k) : k < 156 := by rcases h with ⟨_, h⟩ | ⟨_, h, h'⟩ <;> omega
theorem agr_at {k : Nat} (h : agr σ H G) (hv : sv σ (.ref k)) : H[k]? = G[k]? := by
  have hv : inS σ k ∨ 1000000 ≤ k := hv
  rcases hv with hv | hv
  · exact h.2.2 k hv
  · rw [List.getElem?_eq_none (by rw [h.1]; omega), List.getElem?_eq_none (by rw [h.2.1]; omega)]
theorem in_of {k : Nat} {c : rx_C} (h : agr σ H G) (hv : sv σ (.ref k)) (hk : H[k]? = some c) : inS σ k := by
  have hv : inS σ k ∨ 1000000 ≤ k := hv
  rcases hv with hv | hv
  · exact hv
  · rw [List.getElem?_eq_none (by rw [h.1]; omega)] at hk
    cases hk
theorem agr_set {k : Nat} {c : rx_C} (h : agr σ H G) : agr σ (H.set k c) (G.set k c) := by
  refine ⟨by rw [List.length_set]; exact h.1, by rw [List.length_set]; exact h.2.1, fun q hq => ?_⟩
  rw [List.getElem?_set, List.getElem?_set, h.1, h.2.1]
  by_cases e : k = q
  · simp only [e, if_true]
  · simp only [if_neg e]
    exact h.2.2 q hq
theorem clo_set {k : Nat} {c : rx_C} (h : clo σ H) (hc : cV σ c) : clo σ (H.set k c) := by
  intro q d hq hd
  rw [List.getElem?_set] at hd
  by_cases e : k = q
  · subst e
    simp only [if_true] at hd
    split at hd
    · cases hd; exact hc
    · cases hd
  · rw [if_neg e] at hd
    exact h q d hq hd
def svs (σ : Bool) (st : List Value) : Prop := ∀ v, v ∈ st → sv σ v
theorem svs_c {v : Value} (h : svs σ (v :: r)) : sv σ v ∧ svs σ r := ⟨h v List.mem_cons_self, fun w hw => h w (List.mem_cons_of_mem _ hw)⟩
theorem svs_m {v : Value} (h1 : sv σ v) (h : svs σ r) : svs σ (v :: r) := fun w hw => by
  rcases List.mem_cons.mp hw with e | e
  · rw [e]; exact h1
  · exact h w e
/-! reading -/
theorem get_loc (h : agr σ H G) (hc : clo σ H) (hs : svs σ st) (e : rx_get co idx st H = some st') : rx_get co idx st G = some st' ∧ svs σ st' := by
  unfold rx_get at e
  split at e
  · next k r =>
    have hv := svs_c hs
    have hk := agr_at h hv.1
    refine ⟨by rw [← e]; simp only [rx_get, hk], ?_⟩
    cases hL : rx_lk rx_FLs co idx with
    | some q =>
      obtain ⟨⟨ci, fk, ty, fin⟩, pos⟩ := q
      rw [hL] at e
      dsimp only at e
      cases hH : H[k]? with
      | none => rw [hH] at e; cases e
      | some c =>
        rw [hH] at e
        rcases c with c | c | ⟨cj, fs⟩
        · cases e
        · cases e
        · dsimp only at e
          split at e
          · cases hf : fs[fk]? with
            | none => rw [hf] at e; cases e
            | some v =>
              rw [hf] at e
              cases e
              exact svs_m (hc k _ (in_of h hv.1 hH) hH v (List.mem_of_getElem? hf)) hv.2
          · cases e
    | none =>
      rw [hL] at e
      dsimp only at e
      split at e
      · split at e
        · cases e; exact svs_m trivial hv.2
        · cases e
      · split at e
        · cases e; exact svs_m (show inS σ (k + 1000000) ∨ 1000000 ≤ k + 1000000 from Or.inr (Nat.le_add_left _ _)) hv.2
        · cases e
      · cases e
  · cases e
theorem iald_loc (h : agr σ H G) (hs : svs σ st) (e : rx_iald st H = some st') : rx_iald st G = some st' ∧ svs σ st' := by
  unfold rx_iald at e
  split at e
  · next i k r =>
    have hv := svs_c (svs_c hs).2
    have hk := agr_at h hv.1
    refine ⟨by rw [← e]; simp only [rx_iald, hk], ?_⟩
    repeat' split at e
    all_goals first
      | (cases e; done)
      | (cases e; exact svs_m trivial hv.2)
  · cases e
theorem bald_loc (h : agr σ H G) (hs : svs σ st) (e : rx_bald st H = some st') : rx_bald st G = some st' ∧ svs σ st' := by
  unfold rx_bald at e
  split at e
  · next i k r =>
    have hv := svs_c (svs_c hs).2
    have hk := agr_at h hv.1
    refine ⟨by rw [← e]; simp only [rx_bald, hk], ?_⟩
    repeat' split at e
    all_goals first
      | (cases e; done)
      | (cases e; exact svs_m trivial hv.2)
  · cases e
theorem ref_loc {a : List (Option Nat)} {j : Nat} (ha : ∀ o, o ∈ a → ∀ k, o = some k → inS σ k) : sv σ (rx_ref (a.getD j none)) := by
  cases ho : a.getD j none with
  | none => exact trivial
  | some q =>
    refine Or.inl (ha (some q) ?_ q rfl)
    rw [List.getD_eq_getElem?_getD] at ho
    cases hg : a[j]? with
    | none => rw [hg] at ho; cases ho
    | some o =>
      rw [hg] at ho
      have : o = some q := ho
      rw [← this]
      exact List.mem_of_getElem? hg
theorem aald_loc (h : agr σ H G) (hc : clo σ H) (hs : svs σ st) (e : rx_aald st H = some st') : rx_aald st G = some st' ∧ svs σ st' := by
  unfold rx_aald at e
  split at e
  · next i k r =>
    have hv := svs_c (svs_c hs).2
    have hk := agr_at h hv.1
    refine ⟨by rw [← e]; simp only [rx_aald, hk], ?_⟩
    cases hH : H[k]? with
    | none => rw [hH] at e; cases e
    | some c =>
      rw [hH] at e
      rcases c with c | ⟨t, a⟩ | c
      · cases e
      · dsimp only at e
        split at e
        · cases e
          exact svs_m (ref_loc (hc k _ (in_of h hv.1 hH) hH)) hv.2
        · cases e
      · cases e
  · cases e
theorem alen_loc (h : agr σ H G) (hs : svs σ st) (e : rx_alen st H = some st') : rx_alen st G = some st' ∧ svs σ st' := by
  unfold rx_alen at e
  split at e
  · next k r =>
    have hv := svs_c hs
    have hk := agr_at h hv.1
    refine ⟨by rw [← e]; simp only [rx_alen, hk], ?_⟩
    repeat' split at e
    all_goals first
      | (cases e; done)
      | (cases e; exact svs_m trivial hv.2)
  · cases e
/-! writing: one cell of one's own is set -/
def wset (σ : Bool) (H G H1 G1 : rx_H) : Prop := (H1 = H ∧ G1 = G) ∨ ∃ k c, inS σ k ∧ cV σ c ∧ H1 = H.set k c ∧ G1 = G.set k c
theorem put_loc {ini : Bool} (h : agr σ H G) (hc : clo σ H) (hs : svs σ st) (e : rx_put ini co idx st H = some (st', H1)) : ∃ G1, rx_put ini co idx st G = some (st', G1) ∧ svs σ st' ∧ wset σ H G H1 G1 := by
  unfold rx_put at e
  split at e
  · next v k r =>
    have hv0 := svs_c hs
    have hv := svs_c hv0.2
    have hk := agr_at h hv.1
    cases hL : rx_lk rx_FLs co idx with
    | none => rw [hL] at e; cases e
    | some q =>
      obtain ⟨⟨ci, fk, ty, fin⟩, pos⟩ := q
      rw [hL] at e
      dsimp only at e
      cases hH : H[k]? with
      | none => rw [hH] at e; cases e
      | some c =>
        rw [hH] at e hk
        rcases c with c | c | ⟨cj, fs⟩
        · cases e
        · cases e
        · dsimp only at e
          split at e
          · next e1 =>
            cases e
            refine ⟨G.set k (.inr (.inr (cj, fs.set fk v))), ?_, hv.2, Or.inr ⟨k, .inr (.inr (cj, fs.set fk v)), in_of h hv.1 hH, fun w hw => ?_, rfl, rfl⟩⟩
            · simp only [rx_put, hL, ← hk]
              rw [if_pos e1]
            · rcases List.mem_or_eq_of_mem_set hw with q | q
              · exact hc k _ (in_of h hv.1 hH) hH w q
              · rw [q]; exact hv0.1
          · cases e
  · cases e
theorem iast_loc (h : agr σ H G) (hs : svs σ st) (e : rx_iast st H = some (st', H1)) : ∃ G1, rx_iast st G = some (st', G1) ∧ svs σ st' ∧ wset σ H G H1 G1 := by
  unfold rx_iast at e
  split at e
  · next x i k r =>
    have hv := svs_c (svs_c (svs_c hs).2).2
    have hk := agr_at h hv.1
    split at e
    · next n f hH =>
      rw [hH] at hk
      split at e
      · next e1 =>
        cases e
        refine ⟨G.set k (.inl (0, n, upd f i.toNatClampNeg x)), ?_, hv.2, Or.inr ⟨k, .inl (0, n, upd f i.toNatClampNeg x), in_of h hv.1 hH, trivial, rfl, rfl⟩⟩
        simp only [rx_iast, ← hk]
        rw [if_pos e1]
      · cases e
    · cases e
  · cases e
theorem bast_loc (h : agr σ H G) (hs : svs σ st) (e : rx_bast st H = some (st', H1)) : ∃ G1, rx_bast st G = some (st', G1) ∧ svs σ st' ∧ wset σ H G H1 G1 := by
  unfold rx_bast at e
  split at e
  · next x i k r =>
    have hv := svs_c (svs_c (svs_c hs).2).2
    have hk := agr_at h hv.1
    split at e
    · next n f hH =>
      rw [hH] at hk
      split at e
      · next e1 =>
        cases e
        refine ⟨G.set k (.inl (1, n, upd f i.toNatClampNeg (vp_nar .byte x))), ?_, hv.2, Or.inr ⟨k, .inl (1, n, upd f i.toNatClampNeg (vp_nar .byte x)), in_of h hv.1 hH, trivial, rfl, rfl⟩⟩
        simp only [rx_bast, ← hk]
        rw [if_pos e1]
      · cases e
    · next n f hH =>
      rw [hH] at hk
      split at e
      · next e1 =>
        cases e
        refine ⟨G.set k (.inl (2, n, upd f i.toNatClampNeg (vp_nar .boolean x))), ?_, hv.2, Or.inr ⟨k, .inl (2, n, upd f i.toNatClampNeg (vp_nar .boolean x)), in_of h hv.1 hH, trivial, rfl, rfl⟩⟩
        simp only [rx_bast, ← hk]
        rw [if_pos e1]
      · cases e
    · cases e
  · cases e
theorem aast_loc (h : agr σ H G) (hc : clo σ H) (hs : svs σ st) (e : rx_aast st H = some (st', H1)) : ∃ G1, rx_aast st G = some (st', G1) ∧ svs σ st' ∧ wset σ H G H1 G1 := by
  unfold rx_aast at e
  split at e
  · next q i k r =>
    have hv0 := svs_c hs
    have hv := svs_c (svs_c hv0.2).2
    have hk := agr_at h hv.1
    have hq := agr_at h hv0.1
    split at e
    · next t a ci fs hHk hHq =>
      rw [hHk] at hk
      rw [hHq] at hq
      split at e
      · next e1 =>
        cases e
        refine ⟨G.set k (.inr (.inl (t, a.set i.toNatClampNeg (some q)))), ?_, hv.2, Or.inr ⟨k, .inr (.inl (t, a.set i.toNatClampNeg (some q))), in_of h hv.1 hHk, fun o ho u hu => ?_, rfl, rfl⟩⟩
        · simp only [rx_aast, ← hk, ← hq]
          rw [if_pos e1]
        · rcases List.mem_or_eq_of_mem_set ho with z | z
          · exact hc k _ (in_of h hv.1 hHk) hHk o z u hu
          · rw [z] at hu
            cases hu
            exact in_of h hv0.1 hHq
      · cases e
    · cases e
  · cases e
theorem copy_loc (h : agr σ H G) (hs : svs σ st) (e : rx_copy fr lo st H = some (st', H1)) : ∃ G1, rx_copy fr lo st G = some (st', G1) ∧ svs σ st' ∧ wset σ H G H1 G1 := by
  unfold rx_copy at e
  split at e
  · next n dp k sp j r =>
    have hv1 := svs_c (svs_c (svs_c hs).2).2
    have hv2 := svs_c (svs_c hv1.2).2
    have hk := agr_at h hv1.1
    have hj := agr_at h hv2.1
    split at e
    · next n0 f n1 g hHj hHk =>
      rw [hHk] at hk
      rw [hHj] at hj
      split at e
      · next e1 =>
        cases e
        refine ⟨G.set k (.inl (0, n1, va_cpy f g sp.toNatClampNeg dp.toNatClampNeg n.toNatClampNeg)), ?_, hv2.2, Or.inr ⟨k, .inl (0, n1, va_cpy f g sp.toNatClampNeg dp.toNatClampNeg n.toNatClampNeg), in_of h hv1.1 hHk, trivial, rfl, rfl⟩⟩
        simp only [rx_copy, ← hk, ← hj]
        rw [if_pos e1]
      · cases e
    · cases e
  · cases e
theorem math_loc {w : Nat} (hs : svs σ st) (e : rx_math w fr lo st = some st') : svs σ st' := by
  unfold rx_math at e
  split at e
  · next y x r =>
    have hv := svs_c (svs_c hs).2
    split at e
    · split at e
      · cases e; exact svs_m trivial (svs_c (svs_c hs).2).2
      · cases e; exact svs_m trivial (svs_c (svs_c hs).2).2
      · cases e
    · cases e
  · cases e
end LOC
section LOC2
variable {σ : Bool} {H G H1 : rx_H} {st st' : List Value} {co idx fr lo pc pc' len : Nat} {i : Instr}
theorem stat_loc {v : Value} (e : rx_stat co idx = some v) : sv σ v := by
  unfold rx_stat at e
  split at e
  · split at e
    · cases e; exact Or.inr (Nat.le_trans (by decide) (Nat.le_add_right 3000000 _))
    · cases e; exact trivial
    · cases e
  · cases e
theorem ldc_loc {v : Value} (e : rx_ldc co idx = some v) : sv σ v := by
  unfold rx_ldc at e
  split at e
  · cases e; exact trivial
  · split at e
    · split at e
      · cases e; exact Or.inr (Nat.le_add_right 1000000 _)
      · cases e
    · cases e
theorem heap_loc {ini : Bool} (h : agr σ H G) (hc : clo σ H) (hs : svs σ st) (e : rx_heap co ini fr lo i len pc st H = some (pc', st', H1)) : ∃ G1, rx_heap co ini fr lo i len pc st G = some (pc', st', G1) ∧ svs σ st' ∧ wset σ H G H1 G1 := by
  unfold rx_heap at e
  split at e
  · obtain ⟨r, h1, h2⟩ := rx_map1 e; cases h2
    obtain ⟨a, b⟩ := get_loc h hc hs h1
    exact ⟨G, by show (rx_get co _ st G).map _ = _; rw [a]; rfl, b, Or.inl ⟨rfl, rfl⟩⟩
  · obtain ⟨⟨r, hh⟩, h1, h2⟩ := rx_map1 e; cases h2
    obtain ⟨G1, a, b, c⟩ := put_loc h hc hs h1
    exact ⟨G1, by show (rx_put ini co _ st G).map _ = _; rw [a]; rfl, b, c⟩
  · obtain ⟨r, h1, h2⟩ := rx_map1 e; cases h2
    obtain ⟨a, b⟩ := iald_loc h hs h1
    exact ⟨G, by show (rx_iald st G).map _ = _; rw [a]; rfl, b, Or.inl ⟨rfl, rfl⟩⟩
  · obtain ⟨r, h1, h2⟩ := rx_map1 e; cases h2
    obtain ⟨a, b⟩ := bald_loc h hs h1
    exact ⟨G, by show (rx_bald st G).map _ = _; rw [a]; rfl, b, Or.inl ⟨rfl, rfl⟩⟩
  · obtain ⟨r, h1, h2⟩ := rx_map1 e; cases h2
    obtain ⟨a, b⟩ := aald_loc h hc hs h1
    exact ⟨G, by show (rx_aald st G).map _ = _; rw [a]; rfl, b, Or.inl ⟨rfl, rfl⟩⟩
  · obtain ⟨r, h1, h2⟩ := rx_map1 e; cases h2
    obtain ⟨a, b⟩ := alen_loc h hs h1
    exact ⟨G, by show (rx_alen st G).map _ = _; rw [a]; rfl, b, Or.inl ⟨rfl, rfl⟩⟩
  · obtain ⟨⟨r, hh⟩, h1, h2⟩ := rx_map1 e; cases h2
    obtain ⟨G1, a, b, c⟩ := iast_loc h hs h1
    exact ⟨G1, by show (rx_iast st G).map _ = _; rw [a]; rfl, b, c⟩
  · obtain ⟨⟨r, hh⟩, h1, h2⟩ := rx_map1 e; cases h2
    obtain ⟨G1, a, b, c⟩ := bast_loc h hs h1
    exact ⟨G1, by show (rx_bast st G).map _ = _; rw [a]; rfl, b, c⟩
  · obtain ⟨⟨r, hh⟩, h1, h2⟩ := rx_map1 e; cases h2
    obtain ⟨G1, a, b, c⟩ := aast_loc h hc hs h1
    exact ⟨G1, by show (rx_aast st G).map _ = _; rw [a]; rfl, b, c⟩
  · obtain ⟨v, h1, h2⟩ := rx_map1 e; cases h2
    exact ⟨G, by show (rx_stat co _).map _ = _; rw [h1]; rfl, svs_m (stat_loc h1) hs, Or.inl ⟨rfl, rfl⟩⟩
  · obtain ⟨v, h1, h2⟩ := rx_map1 e; cases h2
    exact ⟨G, by show (rx_ldc co _).map _ = _; rw [h1]; rfl, svs_m (ldc_loc h1) hs, Or.inl ⟨rfl, rfl⟩⟩
  · obtain ⟨v, h1, h2⟩ := rx_map1 e; cases h2
    exact ⟨G, by show (rx_ldc co _).map _ = _; rw [h1]; rfl, svs_m (ldc_loc h1) hs, Or.inl ⟨rfl, rfl⟩⟩
  · split at e
    · next x pos hL => cases e; exact ⟨G, by simp only [rx_heap, hL], svs_m trivial hs, Or.inl ⟨rfl, rfl⟩⟩
    · cases e
  · split at e
    · next q k r hL =>
      split at e
      · next e1 => cases e; exact ⟨G, by simp only [rx_heap, hL, if_pos e1], (svs_c hs).2, Or.inl ⟨rfl, rfl⟩⟩
      · cases e
    · cases e
  · split at e
    · next q hL =>
      obtain ⟨⟨r, hh⟩, h1, h2⟩ := rx_map1 e; cases h2
      obtain ⟨G1, a, b, c⟩ := copy_loc h hs h1
      exact ⟨G1, by simp only [rx_heap, hL, a, Option.map_some], b, c⟩
    · next hL =>
      split at e
      · next w pos hL2 =>
        obtain ⟨r, h1, h2⟩ := rx_map1 e; cases h2
        exact ⟨G, by simp only [rx_heap, hL, hL2, h1, Option.map_some], math_loc hs h1, Or.inl ⟨rfl, rfl⟩⟩
      · next hL2 =>
        split at e
        · next q n ii r hL3 =>
          split at e
          · next e1 => cases e; exact ⟨G, by simp only [rx_heap, hL, hL2, hL3, if_pos e1], (svs_c (svs_c hs).2).2, Or.inl ⟨rfl, rfl⟩⟩
          · cases e
        · cases e
  · cases e
def svl (σ : Bool) (l : rx_L) : Prop := ∀ q, q ∈ l → sv σ q.2
theorem svl_g {l : rx_L} {k : Nat} {v : Value} (h : svl σ l) (e : rx_gi l k = some v) : sv σ v := h _ (rx_gi_mem e)
theorem svl_s {l : rx_L} {k : Nat} {v : Value} (h : svl σ l) (hv : sv σ v) : svl σ (rx_si l k v) := by
  intro q hq
  unfold rx_si at hq
  rcases List.mem_cons.mp hq with e | e
  · rw [e]; exact hv
  · exact h q (List.mem_filter.mp e).1
set_option maxHeartbeats 4000000 in
theorem pure_loc {nL : Nat} {l l' : rx_L} (hl : svl σ l) (hs : svs σ st) (e : rx_pure nL i len pc l st = some (pc', l', st')) : svl σ l' ∧ svs σ st' := by
  have go : ∀ {off : Int} {r : List Value}, svs σ r → rx_go pc off l r = some (pc', l', st') → svl σ l' ∧ svs σ st' := fun {off r} hr q => by
    obtain ⟨_, a, b⟩ := rx_go_eq q
    rw [a, b]
    exact ⟨hl, hr⟩
  unfold rx_pure at e
  split at e
  all_goals first
    | (cases e; done)
    | (cases e; exact ⟨hl, svs_m trivial hs⟩)
    | exact go hs e
    | (unfold rx_ld at e; split at e <;> first | (cases e; done) | (cases e; exact ⟨hl, svs_m trivial hs⟩))
    | (unfold rx_ldl at e; split at e <;> first | (cases e; done) | (cases e; exact ⟨hl, svs_m trivial hs⟩))
    | (unfold rx_lda at e; split at e <;> first | (cases e; done) | (next q => cases e; exact ⟨hl, svs_m (svl_g hl q) hs⟩))
    | (unfold rx_sti at e; split at e <;> first | (cases e; done) | (split at e <;> first | (cases e; done) | (cases e; exact ⟨svl_s hl trivial, (svs_c hs).2⟩)))
    | (unfold rx_sta at e; split at e <;> first | (cases e; done) | (split at e <;> first | (cases e; done) | (cases e; exact ⟨svl_s hl (svs_c hs).1, (svs_c hs).2⟩)))
    | (unfold rx_inc at e; split at e <;> first | (cases e; done) | (split at e <;> first | (cases e; done) | (cases e; exact ⟨svl_s hl trivial, hs⟩)))
    | (unfold rx_ii at e; split at e <;> first | (cases e; done) | (cases e; exact ⟨hl, svs_m trivial (svs_c (svs_c hs).2).2⟩))
    | (unfold rx_id at e; split at e <;> first | (cases e; done) | (split at e <;> first | (cases e; done) | (cases e; exact ⟨hl, svs_m trivial (svs_c (svs_c hs).2).2⟩)))
    | (unfold rx_b1 at e; split at e <;> first | (cases e; done) | (split at e <;> first | (cases e; done) | (split at e <;> (cases e; exact ⟨hl, (svs_c hs).2⟩))))
    | (unfold rx_b2 at e; split at e <;> first | (cases e; done) | (split at e <;> first | (cases e; done) | (split at e <;> (cases e; exact ⟨hl, (svs_c (svs_c hs).2).2⟩))))
    | (unfold rx_tsw at e; split at e <;> first | (cases e; done) | (split at e <;> first | exact go (svs_c hs).2 e | (split at e <;> first | (cases e; done) | exact go (svs_c hs).2 e)))
    | (unfold rx_lsw at e; split at e <;> first | (cases e; done) | (split at e <;> first | (cases e; done) | exact go (svs_c hs).2 e))
    | (split at e <;> first
        | (cases e; done)
        | (cases e; exact ⟨hl, svs_m trivial (svs_c hs).2⟩)
        | (cases e; exact ⟨hl, svs_m trivial (svs_c (svs_c hs).2).2⟩)
        | (cases e; exact ⟨hl, (svs_c hs).2⟩)
        | exact go (svs_c hs).2 e
        | (split at e <;> first
            | (cases e; done)
            | (cases e; exact ⟨hl, svs_m (svs_c hs).1 hs⟩)
            | (cases e; exact ⟨hl, (svs_c hs).2⟩)
            | (cases e; exact ⟨hl, svs_m (svs_c hs).1 (svs_m (svs_c (svs_c hs).2).1 hs)⟩)))
theorem ans_loc {M : rx_M} {r : Option Value} (hs : svs σ st) (e : rx_ans M i len st = some r) : ∀ v, r = some v → sv σ v := by
  unfold rx_ans at e
  split at e
  · split at e
    · split at e
      · cases e; intro v hv; cases hv; exact trivial
      · cases e
    · cases e
  · split at e
    · cases e; intro v hv; cases hv; exact (svs_c hs).1
    · cases e; intro v hv; cases hv; exact trivial
    · cases e
  · split at e
    · cases e; intro v hv; cases hv
    · cases e
  · cases e
theorem args_loc {as : List Value} (h : svs σ as) : ∀ k, svl σ (lv_args k as) := by
  induction as with
  | nil => intro k q hq; cases hq
  | cons a as ih =>
    intro k q hq
    have hv := svs_c h
    unfold lv_args at hq
    rcases List.mem_cons.mp hq with e | e
    · rw [e]; exact hv.1
    · exact ih hv.2 _ q e
theorem rcv_loc {Z : rx_M} {as : List Value} (h : agr σ H G) (hs : svs σ as) : rx_rcv Z H as = rx_rcv Z G as := by
  cases as with
  | nil => rfl
  | cons a as =>
    cases a with
    | ref k =>
      have := agr_at h (svs_c hs).1
      unfold rx_rcv
      simp only [this]
    | _ => rfl
/-- the two runs: alike on the own side, nothing changed off it -/
theorem run_loc : ∀ (n : Nat) (M : rx_M) (pc : Nat) (l : rx_L) (st : List Value) (H G : rx_H) (r : Option Value) (H' : rx_H), rm_mc M = 0 → rm_ms M = 0 → agr σ H G → clo σ H → svl σ l → svs σ st → rx_run n M (pc, l, st, H, 0, 0) = some (r, H') → (∀ v, r = some v → sv σ v) ∧ clo σ H' ∧ ∃ G', rx_run n M (pc, l, st, G, 0, 0) = some (r, G') ∧ agr σ H' G' ∧ (∀ k, ¬ inS σ k → H'[k]? = H[k]?) ∧ (∀ k, ¬ inS σ k → G'[k]? = G[k]?) := by
  intro n
  induction n with
  | zero => intro M pc l st H G r H' _ _ _ _ _ _ e; cases e
  | succ n ih =>
    intro M pc l st H G r H' hM hS ha hc hl hs e
    rw [rx_run] at e
    rw [rx_run]
    cases hd : decode (rm_code M) pc with
    | error _ => rw [hd] at e; cases e
    | ok q =>
      obtain ⟨i, len⟩ := q
      rw [hd] at e
      dsimp only at e ⊢
      cases hp : rx_pure (rm_maxL M) i len pc l st with
      | some q =>
        obtain ⟨pc', l1, st'⟩ := q
        rw [hp] at e
        obtain ⟨hl1, hs1⟩ := pure_loc hl hs hp
        exact ih _ _ _ _ _ _ _ _ hM hS ha hc hl1 hs1 e
      | none =>
        rw [hp] at e
        dsimp only at e ⊢
        cases hq : rx_heap (rm_co M) (rx_ini M) (rm_fr M) (rm_lo M) i len pc st H with
        | some q =>
          obtain ⟨pc', st', H1⟩ := q
          rw [hq] at e
          obtain ⟨G1, g1, hs1, hw⟩ := heap_loc ha hc hs hq
          rw [g1]
          dsimp only at e ⊢
          have st1 : agr σ H1 G1 ∧ clo σ H1 ∧ (∀ k, ¬ inS σ k → H1[k]? = H[k]?) ∧ (∀ k, ¬ inS σ k → G1[k]? = G[k]?) := by
            rcases hw with ⟨rfl, rfl⟩ | ⟨k, c, hk, hcv, rfl, rfl⟩
            · exact ⟨ha, hc, fun _ _ => rfl, fun _ _ => rfl⟩
            · refine ⟨agr_set ha, clo_set hc hcv, fun u hu => ?_, fun u hu => ?_⟩ <;> rw [List.getElem?_set, if_neg (fun e2 : k = u => hu (e2 ▸ hk))]
          obtain ⟨a1, a2, G', a3, a4, a5, a6⟩ := ih _ _ _ _ _ _ _ _ hM hS st1.1 st1.2.1 hl hs1 e
          exact ⟨a1, a2, G', a3, a4, fun k hk => (a5 k hk).trans (st1.2.2.1 k hk), fun k hk => (a6 k hk).trans (st1.2.2.2 k hk)⟩
        | none =>
          rw [hq] at e
          have hqG : rx_heap (rm_co M) (rx_ini M) (rm_fr M) (rm_lo M) i len pc st G = none := by
            cases hz : rx_heap (rm_co M) (rx_ini M) (rm_fr M) (rm_lo M) i len pc st G with
            | none => rfl
            | some q =>
              obtain ⟨pc2, st2, G2⟩ := q
              have ha' : agr σ G H := ⟨ha.2.1, ha.1, fun k hk => (ha.2.2 k hk).symm⟩
              have hcG : clo σ G := fun k c hk hcG => hc k c hk ((ha.2.2 k hk).trans hcG)
              obtain ⟨H2, g2, _⟩ := heap_loc ha' hcG hs hz
              rw [hq] at g2
              cases g2
          rw [hqG]
          dsimp only at e ⊢
          cases hw : rx_who (rm_co M) i len with
          | some Z =>
            rw [hw] at e
            dsimp only at e ⊢
            by_cases hm : rx_may M Z l st H 0 0 = true
            · rw [if_pos hm] at e
              have hm0 := hm
              unfold rx_may at hm
              simp only [Bool.and_eq_true, decide_eq_true_eq, Bool.or_eq_true] at hm
              obtain ⟨⟨⟨⟨⟨⟨⟨⟨a1, a2⟩, a3⟩, a4⟩, a5⟩, a6⟩, a7⟩, a8⟩, a9⟩ := hm
              have b1 : rm_mc Z = 0 := by omega
              have b2 : rm_ms Z = 0 := by omega
              have hst : svs σ (st.take (rx_na Z)).reverse := fun v hv => hs v (List.mem_of_mem_take (List.mem_reverse.mp hv))
              have hsd : svs σ (st.drop (rx_na Z)) := fun v hv => hs v (List.mem_of_mem_drop hv)
              have hm2 : rx_may M Z l st G 0 0 = true := by
                unfold rx_may
                simp only [Bool.and_eq_true, decide_eq_true_eq, Bool.or_eq_true]
                refine ⟨⟨⟨⟨⟨⟨⟨⟨a1, a2⟩, a3⟩, a4⟩, a5⟩, a6⟩, Or.inl b1⟩, a8⟩, ?_⟩
                rw [← rcv_loc ha hst]
                exact a9
              rw [if_pos hm2]
              cases hr : rx_run n Z (0, lv_args 0 (st.take (rx_na Z)).reverse, [], H, 0, 0) with
              | none => rw [hr] at e; cases e
              | some q =>
                obtain ⟨r1, h1⟩ := q
                rw [hr] at e
                obtain ⟨c1, c2, G1, c3, c4, c5, c6⟩ := ih _ _ _ _ _ _ _ _ b1 b2 ha hc (args_loc hst 0) (fun v hv => (by cases hv)) hr
                rw [c3]
                dsimp only at e ⊢
                rw [b1, b2] at e ⊢
                have hs2 : svs σ (r1.toList ++ st.drop (rx_na Z)) := fun v hv => by
                  rcases List.mem_append.mp hv with q | q
                  · cases r1 with
                    | none => cases q
                    | some w =>
                      have : v = w := by simpa using q
                      rw [this]
                      exact c1 w rfl
                  · exact hsd v q
                obtain ⟨d1, d2, G', d3, d4, d5, d6⟩ := ih _ _ _ _ _ _ _ _ hM hS c4 c2 hl hs2 e
                exact ⟨d1, d2, G', d3, d4, fun k hk => (d5 k hk).trans (c5 k hk), fun k hk => (d6 k hk).trans (c6 k hk)⟩
            · rw [if_neg hm] at e; cases e
          | none =>
            rw [hw] at e
            dsimp only at e ⊢
            cases hans : rx_ans M i len st with
            | some r1 =>
              rw [hans] at e
              cases e
              exact ⟨ans_loc hs hans, hc, G, rfl, ha, fun _ _ => rfl, fun _ _ => rfl⟩
            | none =>
              rw [hans] at e
              dsimp only at e
              rw [hM] at e
              cases hal : rx_alloc (rm_co M) 0 (rm_ms M) i len pc l st H 0 0 with
              | none => rw [hal] at e; cases e
              | some q => exact (rx_alloc0 hal).elim
end LOC2
/-! two states, one for each side -/
def rzx (Z : rx_M) (as : List Value) (S : rz_S) (r : Option Value) (S1 : rz_S) : Prop := ∃ n, rx_run n Z (0, lv_args 0 as, [], rz_H S, 0, 0) = some (r, rz_H S1)
/-- both runs, each from its own state -/
def PC (X M : rx_M) (ax am : List Value) (Sx Sm : rz_S) (P : Option Value → rz_S → Option Value → rz_S → Prop) : Prop := ∃ r Sx1 q Sm1, rzx X ax Sx r Sx1 ∧ rzx M am Sm q Sm1 ∧ P r Sx1 q Sm1
/-- the class's side of one state, the reference's of another -/
def mg (Sx Sm : rz_S) : rz_S := (fun q => if q < 116 then Sx.1 q else Sm.1 q, fun u z => if u < 116 then Sx.2 u z else Sm.2 u z)
theorem rz_Hl (S : rz_S) : (rz_H S).length = 156 := by
  show (rz_T.mapIdx (rz_c S)).length = 156
  rw [List.length_mapIdx]
  rfl
theorem rz_c_eq {S T : rz_S} {k : Nat} (h1 : S.1 k = T.1 k) (h2 : ∀ z, S.2 k z = T.2 k z) (c : rz_C) : rz_c S k c = rz_c T k c := by
  rcases c with ⟨t, n⟩ | ⟨a⟩ | ⟨ci, fs⟩
  · simp only [rz_c, h1]
  · rfl
  · simp only [rz_c]
    congr 3
    apply List.ext_getElem?
    intro j
    simp only [List.getElem?_mapIdx]
    cases fs[j]? with
    | none => rfl
    | some o => cases o <;> simp [rz_f, h2]
theorem rz_H_at {S T : rz_S} {k : Nat} (h1 : S.1 k = T.1 k) (h2 : ∀ z, S.2 k z = T.2 k z) : (rz_H S)[k]? = (rz_H T)[k]? := by
  simp only [rz_H, List.getElem?_mapIdx]
  cases rz_T[k]? with
  | none => rfl
  | some c => simp only [Option.map_some]; rw [rz_c_eq h1 h2]
def cVb (σ : Bool) (k : Nat) : rz_C → Bool
  | .inl _ => true
  | .inr (.inl (_, a)) => a.all (fun o => match o with
    | some q => if σ then decide (116 ≤ q) && decide (q < 156) else decide (q < 116)
    | none => true)
  | .inr (.inr (_, fs)) => fs.all (fun o => match o with
    | some (.ref q) => if σ then decide (116 ≤ q) && decide (q < 156) else decide (q < 116)
    | _ => true)
theorem clo_T : (List.range 156).all (fun k => match rz_T[k]? with
  | some c => if k < 116 then cVb false k c else cVb true k c
  | none => true) = true := by decide +kernel
theorem cVb_ok {σ : Bool} {k : Nat} {S : rz_S} {c : rz_C} (h : cVb σ k c = true) : cV σ (rz_c S k c) := by
  rcases c with ⟨t, n⟩ | ⟨t, a⟩ | ⟨ci, fs⟩
  · exact trivial
  · intro o ho q hq
    subst hq
    have := List.all_eq_true.mp h _ ho
    cases σ <;> simp at this
    · exact Or.inl ⟨rfl, this⟩
    · exact Or.inr ⟨rfl, this.1, this.2⟩
  · intro v hv
    obtain ⟨j, hj⟩ := List.getElem?_of_mem hv
    simp only [List.getElem?_mapIdx] at hj
    cases hf : fs[j]? with
    | none => rw [hf] at hj; cases hj
    | some o =>
      rw [hf] at hj
      have := List.all_eq_true.mp h _ (List.mem_of_getElem? hf)
      cases o with
      | none => cases hj; exact trivial
      | some w =>
        have e : v = w := by simpa [rz_f] using hj.symm
        subst e
        cases v with
        | ref q =>
          cases σ <;> simp at this
          · exact Or.inl (Or.inl ⟨rfl, this⟩)
          · exact Or.inl (Or.inr ⟨rfl, this.1, this.2⟩)
        | _ => exact trivial
theorem clo_rz (σ : Bool) (S : rz_S) : clo σ (rz_H S) := by
  intro k c hk hc
  simp only [rz_H, List.getElem?_mapIdx] at hc
  cases hT : rz_T[k]? with
  | none => rw [hT] at hc; cases hc
  | some t =>
    rw [hT] at hc
    cases hc
    have hlt := inS_lt hk
    have := List.all_eq_true.mp clo_T k (List.mem_range.mpr hlt)
    simp only [hT] at this
    rcases hk with ⟨rfl, h1⟩ | ⟨rfl, h1, h2⟩
    · rw [if_pos h1] at this
      exact cVb_ok this
    · rw [if_neg (by omega)] at this
      exact cVb_ok this
theorem inS_no {k : Nat} (h1 : inS false k) (h2 : inS true k) : False := by
  rcases h1 with ⟨_, h1⟩ | ⟨h1, _⟩
  · rcases h2 with ⟨h2, _⟩ | ⟨_, h2, _⟩
    · exact absurd h2 (by decide)
    · omega
  · exact absurd h1 (by decide)
/-- both runs from one state are the two runs one behind the other -/
theorem PC_two {X M : rx_M} {ax am : List Value} {S : rz_S} {P : Option Value → rz_S → Option Value → rz_S → Prop} (hX : rm_mc X = 0 ∧ rm_ms X = 0) (hM : rm_mc M = 0 ∧ rm_ms M = 0) (hax : svs false ax) (ham : svs true am) (h : PC X M ax am S S P) : ∃ r Sx1 q Sm1, rzx X ax S r Sx1 ∧ rzx M am Sx1 q (mg Sx1 Sm1) ∧ P r Sx1 q Sm1 := by
  obtain ⟨r, Sx1, q, Sm1, ⟨n1, e1⟩, ⟨n2, e2⟩, hP⟩ := h
  refine ⟨r, Sx1, q, Sm1, ⟨n1, e1⟩, ⟨n2, ?_⟩, hP⟩
  have self : ∀ (σ : Bool) (S : rz_S), agr σ (rz_H S) (rz_H S) := fun σ S => ⟨rz_Hl S, rz_Hl S, fun _ _ => rfl⟩
  obtain ⟨_, _, _, _, _, x5, _⟩ := run_loc (σ := false) n1 X 0 _ [] _ _ r _ hX.1 hX.2 (self false S) (clo_rz false S) (args_loc hax 0) (fun v hv => (by cases hv)) e1
  have ag : agr true (rz_H S) (rz_H Sx1) := ⟨rz_Hl S, rz_Hl Sx1, fun k hk => (x5 k (fun z => inS_no z hk)).symm⟩
  obtain ⟨_, _, G', g1, g2, _, g4⟩ := run_loc (σ := true) n2 M 0 _ [] _ _ q _ hM.1 hM.2 ag (clo_rz true S) (args_loc ham 0) (fun v hv => (by cases hv)) e2
  have hG : G' = rz_H (mg Sx1 Sm1) := by
    apply List.ext_getElem?
    intro k
    by_cases hk : inS true k
    · rw [← g2.2.2 k hk]
      rcases hk with ⟨h, _⟩ | ⟨_, h, _⟩
      · cases h
      · refine rz_H_at ?_ (fun z => ?_)
        · show Sm1.1 k = (if k < 116 then Sx1.1 k else Sm1.1 k)
          rw [if_neg (by omega)]
        · show Sm1.2 k z = (if k < 116 then Sx1.2 k z else Sm1.2 k z)
          rw [if_neg (by omega)]
    · rw [g4 k hk]
      by_cases hlt : k < 116
      · refine rz_H_at ?_ (fun z => ?_)
        · show Sx1.1 k = (if k < 116 then Sx1.1 k else Sm1.1 k)
          rw [if_pos hlt]
        · show Sx1.2 k z = (if k < 116 then Sx1.2 k z else Sm1.2 k z)
          rw [if_pos hlt]
      · have : 156 ≤ k := Nat.le_of_not_lt fun z => hk (Or.inr ⟨rfl, by omega, z⟩)
        rw [List.getElem?_eq_none (by rw [rz_Hl]; omega), List.getElem?_eq_none (by rw [rz_Hl]; omega)]
  rw [g1, hG]
