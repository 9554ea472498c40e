/-! SCRATCH ends (5): a track in time -/
section TM
/-- a block READ and WRITTEN -/
def EvA (N : Nat) (h b c : Nat → Bool) (p : Nat) (r r' : Nat → Nat) : Prop := hOK h ∧ p < N ∧ hdr b N h p ∧ (∀ p', p' < p → ¬ hdr b N h p') ∧ Rd b N p r ∧ (∀ k, k < 64 → r' k < 256) ∧ c = pw b N (sq b N (p + 80) 9 % N) 720 (Gw (gb (dpl r'))) ∧ VF c h (gb (dpl r')) N 0
theorem Rd_N {b : Nat → Bool} {N p : Nat} {r : Nat → Nat} {h : Nat → Bool} {x : Nat} (hb : rgb b N) (hN : 11 ≤ N) (hx : hdr b N h x) (R : Rd b N p r) : Rd b N (p + N) r := by
  obtain ⟨z0, hz, h0⟩ := hdr_z hb hN hx
  obtain ⟨n, g, o⟩ := R
  exact Rd_loc hb hb hN hz h0 hz h0 g o (Nat.le_refl _) (fun y _ _ => rgb_w hb)
theorem Wt_N {b c h d : Nat → Bool} {N p w : Nat} (hb : rgb b N) (hN : 1000 ≤ N) (W : Wt b N h p w d c) : Wt b N h (p + N) (w + N) d c := by
  obtain ⟨z0, hz, h0⟩ := hdr_z hb (by omega) W.2.2.2.1
  obtain ⟨a1, a2, a3, a4, a5, a6⟩ := W
  refine ⟨by omega, a2, a3, (hdr_N hb (by omega)).mpr a4, ?_, by rw [Nat.add_mod_right]; exact a6⟩
  have := sq_loc (q := p + 80) (D := N) hb hb (by omega) hz h0 hz h0 (by omega) 9 (fun y _ _ => rgb_w hb)
  rw [show p + N + 80 = p + 80 + N by omega, this, ← a5]
theorem EvA_W {b c h : Nat → Bool} {N p : Nat} {r r' : Nat → Nat} (hb : rgb b N) (hN : 1000 ≤ N) (E : EvA N h b c p r r') : ∃ w, Wt b N h (p + N) w (gb (dpl r')) c := by
  obtain ⟨a1, a2, a3, a4, a5, a6, a7, _⟩ := E
  obtain ⟨z0, hz, h0⟩ := hdr_z hb (by omega) a3
  have := sq_loc (q := p + 80) (D := N) hb hb (by omega) hz h0 hz h0 (by omega) 9 (fun y _ _ => rgb_w hb)
  refine ⟨sq b N (p + 80) 9 + N, by omega, a1, dOK_d a6, (hdr_N hb (by omega)).mpr a3, ?_, by rw [Nat.add_mod_right]; exact a7⟩
  rw [show p + N + 80 = p + 80 + N by omega, this]
theorem EvA_made {b c h : Nat → Bool} {N p : Nat} {r r' : Nat → Nat} (hb : rgb b N) (hN : 1000 ≤ N) (E : EvA N h b c p r r') : ∃ w, Wt b N h (p + N) w (gb (dpl r')) c ∧ Hm c N h (p + N) w r' ∧ hdr c N h p ∧ ∀ p', p' < p → ¬ hdr c N h p' := by
  obtain ⟨w, W⟩ := EvA_W hb hN E
  obtain ⟨a1, a2, a3, a4, a5, a6, a7, a8⟩ := E
  exact ⟨w, W, Hm_made hb hN a1 a2 a4 a6 W a8⟩
theorem hdr_same {b h h' : Nat → Bool} {N x : Nat} (h1 : hdr b N h x) (h2 : hdr b N h' x) : ∀ i, i < 80 → h i = h' i := fun i hi => (h1.2 i hi).symm.trans (h2.2 i hi)
theorem hdr_tr {b h h' : Nat → Bool} {N x : Nat} (h1 : hdr b N h x) (e : ∀ i, i < 80 → h i = h' i) : hdr b N h' x := ⟨h1.1, fun i hi => (h1.2 i hi).trans (e i hi)⟩
theorem Hm_h {b h h' : Nat → Bool} {N p w : Nat} {r : Nat → Nat} (H : Hm b N h p w r) (hx : hdr b N h' p) : Hm b N h' p w r := ⟨hx, H.2⟩
/-- a track in time: what is READ and WRITTEN on it -/
def TK (N : Nat) (H : Nat → Nat → Bool) (b : Nat → Nat → Bool) (M : Nat) (ev : Nat → Prop) (sc ps : Nat → Nat) (rd wr : Nat → Nat → Nat) : Prop := 1000 ≤ N ∧ (∀ τ, τ ≤ M → rgb (b τ) N) ∧ (∀ τ, τ < M → ¬ ev τ → b (τ + 1) = b τ) ∧ ∀ τ, τ < M → ev τ → EvA N (H (sc τ)) (b τ) (b (τ + 1)) (ps τ) (rd τ) (wr τ)
variable {N M : Nat} {H b : Nat → Nat → Bool} {ev : Nat → Prop} {sc ps : Nat → Nat} {rd wr : Nat → Nat → Nat}
/-- no header is made -/
theorem T1 (K : TK N H b M ev sc ps rd wr) {h : Nat → Bool} {x τ τ' : Nat} (oh : hOK h) (hx : x < N) (h1 : τ ≤ τ') (h2 : τ' ≤ M) (hh : hdr (b τ') N h x) : hdr (b τ) N h x := by
  induction h1 with
  | refl => exact hh
  | step q ih =>
    rename_i m
    refine ih (by omega) ?_
    by_cases v : ev m
    · obtain ⟨w, W, _⟩ := EvA_made (K.2.1 m (by omega)) K.1 (K.2.2.2 m (by omega) v)
      exact nomake (K.2.1 m (by omega)) K.1 W oh (by omega) (by have := (K.2.2.2 m (by omega) v).2.1; omega) hx hh
    · rw [← K.2.2.1 m (by omega) v]; exact hh
theorem up2 (K : TK N H b M ev sc ps rd wr) {h : Nat → Bool} {x τ : Nat} (hτ : τ ≤ M) : hdr (b τ) N h (x + N + N) ↔ hdr (b τ) N h x := by
  have hb := K.2.1 τ hτ
  have hN := K.1
  rw [hdr_N hb (by omega), hdr_N hb (by omega)]
/-- what a place holds, it holds -/
theorem T2 (K : TK N H b M ev sc ps rd wr) {τ0 : Nat} (P : (Nat → Nat) → Prop) (h0 : τ0 < M) (e0 : ev τ0) (p0 : P (wr τ0)) : ∀ τ1, τ0 < τ1 → τ1 ≤ M → ∀ h, hOK h → hdr (b τ1) N h (ps τ0) → (∀ τ, τ0 < τ → τ < τ1 → ev τ → ps τ = ps τ0 → ∀ ρ, (∀ k, k < 64 → rd τ k = ρ k) → P ρ → P (wr τ)) → ∃ w ρ, Hm (b τ1) N h (ps τ0 + N + N) w ρ ∧ P ρ := by
  have hN := K.1
  intro τ1
  induction τ1 with
  | zero => intro a; omega
  | succ τ1 ih =>
    intro a1 a2 h oh hh st
    have hb := K.2.1 τ1 (by omega)
    have hb' := K.2.1 (τ1 + 1) a2
    have hh2 : hdr (b (τ1 + 1)) N h (ps τ0 + N + N) := (up2 K a2).mpr hh
    have hp := (K.2.2.2 τ0 h0 e0).2.1
    by_cases e : τ1 = τ0
    · subst e
      obtain ⟨w, _, HM, _⟩ := EvA_made hb hN (K.2.2.2 τ1 h0 e0)
      exact ⟨w + N, wr τ1, Hm_h (Hm_N hb' hN HM) hh2, p0⟩
    · have h1 : hdr (b τ1) N h (ps τ0) := T1 K oh hp (Nat.le_succ _) a2 hh
      obtain ⟨w, ρ, HM, Pρ⟩ := ih (by omega) (by omega) h oh h1 (fun τ b1 b2 => st τ b1 (by omega))
      by_cases v : ev τ1
      · have E := K.2.2.2 τ1 (by omega) v
        obtain ⟨w', W, HM', _⟩ := EvA_made hb hN E
        have hz := E.2.1
        by_cases zp : ps τ1 = ps τ0
        · rw [zp] at HM' E
          refine ⟨w' + N, wr τ1, Hm_h (Hm_N hb' hN HM') hh2, st τ1 (by omega) (by omega) v zp ρ ?_ Pρ⟩
          exact Rd_u (Rd_N hb (by omega) h1 (Rd_N hb (by omega) h1 E.2.2.2.2.1)) HM.2.2.2.1
        · by_cases zl : ps τ1 < ps τ0
          · exact ⟨w, ρ, Hm_keep hb hN oh HM (Wt_N hb hN W) (by omega) (by omega) hh2, Pρ⟩
          · exact ⟨w, ρ, Hm_keep hb hN oh HM W (by omega) (by omega) hh2, Pρ⟩
      · rw [K.2.2.1 τ1 (by omega) v]
        exact ⟨w, ρ, HM, Pρ⟩
/-- a later place lies far behind an earlier one -/
theorem T3 (K : TK N H b M ev sc ps rd wr) {τ τ' : Nat} (h1 : τ < τ') (h2 : τ' < M) (e : ev τ) (e' : ev τ') : (ps τ < ps τ' → ps τ + 882 ≤ ps τ') ∧ (ps τ' < ps τ → ps τ + 882 ≤ ps τ' + N) := by
  have hN := K.1
  have hb := K.2.1 τ (by omega)
  have hb' := K.2.1 (τ + 1) (by omega)
  have E := K.2.2.2 τ (by omega) e
  have E' := K.2.2.2 τ' h2 e'
  obtain ⟨w, W, HM, _⟩ := EvA_made hb hN E
  have hx := T1 K E'.1 E'.2.1 (show τ + 1 ≤ τ' by omega) (by omega) E'.2.2.1
  have ge := Hm_ge hb' hN HM
  have l1 := E.2.1
  have l2 := E'.2.1
  constructor
  · intro y
    have := HM.2.2.2.2.2 _ (ps τ' + N) E'.1 (by omega) (by omega) ((hdr_N hb' (by omega)).mpr hx)
    omega
  · intro y
    have := HM.2.2.2.2.2 _ (ps τ' + N + N) E'.1 (by omega) (by omega) ((up2 K (by omega)).mpr hx)
    omega
/-- the first time of a place -/
def FE (M : Nat) (ev : Nat → Prop) (ps : Nat → Nat) (y τ : Nat) : Prop := τ < M ∧ ev τ ∧ ps τ = y ∧ ∀ τ', τ' < τ → ev τ' → ps τ' ≠ y
theorem FE_ex {y : Nat} : ∀ τ, τ < M → ev τ → ps τ = y → ∃ τ0, τ0 ≤ τ ∧ FE M ev ps y τ0 := by
  intro τ
  induction τ using Nat.strongRecOn with
  | ind τ ih =>
    intro a1 a2 a3
    by_cases q : ∃ τ', τ' < τ ∧ ev τ' ∧ ps τ' = y
    · obtain ⟨τ', b1, b2, b3⟩ := q
      obtain ⟨τ0, c1, c2⟩ := ih τ' b1 (by omega) b2 b3
      exact ⟨τ0, by omega, c2⟩
    · exact ⟨τ, Nat.le_refl _, a1, a2, a3, fun τ' b1 b2 b3 => q ⟨τ', b1, b2, b3⟩⟩
/-- from q on g places: none between -/
def adj (N M : Nat) (ev : Nat → Prop) (ps : Nat → Nat) (q g : Nat) : Prop := ∀ τ, τ < M → ev τ → ¬ (q < ps τ ∧ ps τ < q + g) ∧ ¬ (ps τ + N < q + g)
theorem T4 (K : TK N H b M ev sc ps rd wr) {q p g τq τp : Nat} (hq : FE M ev ps q τq) (hp : p = q + g ∨ p + N = q + g) (g0 : 0 < g) (gN : g < N) (ad : adj N M ev ps q g) (ep : ev τp) (pp : ps τp = p) : ∀ τ, τp < τ → τ ≤ τq → hdr (b τ) N (H (sc τp)) p := by
  have hN := K.1
  obtain ⟨q1, q2, q3, q4⟩ := hq
  have Eq := K.2.2.2 τq q1 q2
  intro τ
  induction τ with
  | zero => intro a; omega
  | succ τ ih =>
    intro a1 a2
    have hb := K.2.1 τ (by omega)
    have hb' := K.2.1 (τ + 1) (by omega)
    have Ep := K.2.2.2 τp (by omega) ep
    have pN : p < N := by rw [← pp]; exact Ep.2.1
    have qN : q < N := by rw [← q3]; exact Eq.2.1
    by_cases e : τ = τp
    · subst e
      obtain ⟨w, _, _, h, _⟩ := EvA_made hb hN Ep
      rw [← pp]
      exact h
    · have h1 := ih (by omega) (by omega)
      by_cases v : ev τ
      · have E := K.2.2.2 τ (by omega) v
        obtain ⟨w, W, _, h, _⟩ := EvA_made hb hN E
        by_cases zp : ps τ = p
        · rw [zp] at h
          exact hdr_tr h (hdr_same (by have := E.2.2.1; rw [zp] at this; exact this) h1)
        · have zq : ps τ ≠ q := q4 τ (by omega) v
          have zN := E.2.1
          obtain ⟨d1, d2⟩ := ad τ (by omega) v
          have hxq : hdr (b (τ + 1)) N (H (sc τq)) q := by
            have := T1 K Eq.1 Eq.2.1 (show τ + 1 ≤ τq by omega) (by omega) Eq.2.2.1
            rw [q3] at this
            exact this
          have hxq2 := (up2 K (h := H (sc τq)) (x := q) (τ := τ + 1) (by omega)).mpr hxq
          have h12 := (up2 K (h := H (sc τp)) (x := p) (τ := τ) (by omega)).mpr h1
          have fin : ∀ z' w', Wt (b τ) N (H (sc τ)) z' w' (gb (dpl (wr τ))) (b (τ + 1)) → z' < q + N + N → q + N + N ≤ z' + N → q + g + N + N ≤ z' + N → hdr (b (τ + 1)) N (H (sc τp)) p := fun z' w' W' c1 c2 c3 => by
            have k := (K1 hb hN W' Eq.1 c1 c2 hxq2).1
            rcases hp with hp | hp
            · have := K2 hb hN W' (x := p + N + N) (by omega) (by omega) h12
              exact (up2 K (by omega)).mp this
            · have := K2 hb hN W' (x := p + N + N + N) (by omega) (by omega) ((hdr_N hb (by omega)).mpr h12)
              exact (up2 K (by omega)).mp ((hdr_N hb' (by omega)).mp this)
          by_cases zl : ps τ < q
          · exact fin _ _ (Wt_N hb hN W) (by omega) (by omega) (by omega)
          · exact fin _ _ W (by omega) (by omega) (by omega)
      · rw [K.2.2.1 τ (by omega) v]; exact h1
/-- a place and the next one behind it, near -/
theorem T5o (K : TK N H b M ev sc ps rd wr) {q p g τq τp : Nat} (hq : FE M ev ps q τq) (hp : p = q + g ∨ p + N = q + g) (g0 : 0 < g) (g8 : g < 882) (hτ : τp < M) (ep : ev τp) (pp : ps τp = p) : τp < τq := by
  have hN := K.1
  obtain ⟨q1, q2, q3, q4⟩ := hq
  have E := K.2.2.2 τp hτ ep
  have E' := K.2.2.2 τq q1 q2
  have l1 := E.2.1
  have l2 := E'.2.1
  rcases Nat.lt_trichotomy τp τq with y | y | y
  · exact y
  · subst y
    omega
  · have := T3 K y hτ q2 ep
    omega
theorem T5 (K : TK N H b M ev sc ps rd wr) {q p g τq τp : Nat} (P : (Nat → Nat) → Prop) (hq : FE M ev ps q τq) (hp : p = q + g ∨ p + N = q + g) (g0 : 0 < g) (g8 : g < 882) (ad : adj N M ev ps q g) (hτ : τp < M) (ep : ev τp) (pp : ps τp = p) (hP : P (wr τp)) (st : ∀ τ, τ < M → ev τ → ps τ = p → ∀ ρ, (∀ k, k < 64 → rd τ k = ρ k) → P ρ → P (wr τ)) : ∃ k c rp, rowOK c (rd τq) ∧ P rp ∧ 1 ≤ k ∧ 89 + 8 * k ≤ g ∧ (k ≤ 83 → (k % 5 = 0 ∧ 95 + 8 * k ≤ g) ∨ (k % 5 = 4 ∧ 93 + 8 * k ≤ g)) ∧ (k ≤ 83 → ∀ i, 8 * (k + 19) + i < 680 → c (8 * (k + 19) + i) = gb (dpl rp) i) := by
  have hN := K.1
  have lt := T5o K hq hp g0 g8 hτ ep pp
  have h1 := T4 K hq hp g0 (by omega) ad ep pp τq lt (Nat.le_refl _)
  obtain ⟨q1, q2, q3, q4⟩ := hq
  have E := K.2.2.2 τp hτ ep
  have E' := K.2.2.2 τq q1 q2
  have hb := K.2.1 τq (by omega)
  have l1 := E.2.1
  have l2 := E'.2.1
  have h1' := h1
  rw [← pp] at h1'
  obtain ⟨w, rp, HM, Prp⟩ := T2 K P hτ ep hP τq lt (by omega) _ E.1 h1' (fun τ b1 b2 b3 b4 => st τ (by omega) b3 (by rw [b4, pp]))
  rw [pp] at HM
  have hq2 : hdr (b τq) N (H (sc τq)) (q + N + N) := (up2 K (by omega)).mpr (by rw [← q3]; exact E'.2.2.1)
  have R2 : Rd (b τq) N (q + N + N) (rd τq) := by
    have := Rd_N hb (by omega) hq2 (Rd_N hb (by omega) hq2 E'.2.2.2.2.1)
    rw [q3] at this
    exact this
  obtain ⟨P', w', e', HM'⟩ : ∃ P' w', P' = q + g + N + N ∧ Hm (b τq) N (H (sc τp)) P' w' rp := by
    rcases hp with hp | hp
    · exact ⟨_, _, by rw [hp], HM⟩
    · exact ⟨_, _, by rw [← hp], Hm_N hb hN HM⟩
  subst e'
  obtain ⟨k, c, o1, o2, o3, o4, o5⟩ := PAIR hb hN E'.1 E.1 hq2 R2 HM' (by omega)
  refine ⟨k, c, rp, o1, Prp, o2, by omega, fun k83 => ?_, o5⟩
  rcases o4 k83 with ⟨a1, a2⟩ | ⟨a1, a2⟩
  · exact Or.inl ⟨a1, by omega⟩
  · exact Or.inr ⟨a1, by omega⟩
end TM
