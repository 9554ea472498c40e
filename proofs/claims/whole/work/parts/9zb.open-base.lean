/-! open: frames, a BUFFER, a LIST -/
def oX (S S1 : rz_S) : Prop := S1.1 115 = S.1 115 ∧ ∀ z, S1.2 0 z = S.2 0 z
def oM (S S1 : rz_S) : Prop := S1.1 152 = S.1 152 ∧ ∀ z, (56 ≤ z ∧ z ≤ 59 ∨ z = 67 ∨ z = 68) → S1.2 116 z = S.2 116 z
def GX (c : Nat) (S S1 : rz_S) : Prop := FX c S S1 ∧ oX S S1
def GM (c : Nat) (S S1 : rz_S) : Prop := FM c S S1 ∧ oM S S1
theorem GX_r (c : Nat) (S : rz_S) : GX c S S := ⟨FX_r _ _, rfl, fun _ => rfl⟩
theorem GM_r (c : Nat) (S : rz_S) : GM c S S := ⟨FM_r _ _, rfl, fun _ _ => rfl⟩
theorem GX_t {c : Nat} {S S1 S2 : rz_S} (h : GX c S S1) (g : GX c S1 S2) : GX c S S2 := ⟨FX_t h.1 g.1, g.2.1.trans h.2.1, fun z => (g.2.2 z).trans (h.2.2 z)⟩
theorem GM_t {c : Nat} {S S1 S2 : rz_S} (h : GM c S S1) (g : GM c S1 S2) : GM c S S2 := ⟨FM_t h.1 g.1, g.2.1.trans h.2.1, fun z a => (g.2.2 z a).trans (h.2.2 z a)⟩
theorem GX_u {c k : Nat} {S : rz_S} {x : Int32} : GX c S (rz_uI S (48 + 4 * c) k x) := ⟨FX_u, rfl, fun z => rz_uI_n (by omega)⟩
theorem GX_u2 {c u k : Nat} {S : rz_S} {x : Int32} (hu : u = 39 ∨ u = 3 ∧ k ≤ 6 ∨ u = 44 ∨ u = 46 ∨ u = 42) : GX c S (rz_uI S u k x) := ⟨FX_u2 (by omega), rfl, fun z => rz_uI_n (by omega)⟩
theorem GX_u3 {c k : Nat} {S : rz_S} {x : Int32} : GX c S (rz_uI S (50 + 4 * c) k x) := ⟨⟨fun _ _ => rfl, fun _ _ _ => ⟨rfl, rfl⟩, fun u z a => rz_uI_n (by omega), fun d a b z => ⟨rz_uI_n (by omega), rz_uI_n (by omega)⟩⟩, rfl, fun z => rz_uI_n (by omega)⟩
theorem GX_f {c : Nat} {S : rz_S} {f : Nat → Int32} (hc : c < 15) : GX c S (rz_fA S (49 + 4 * c) f) := ⟨FX_f, rz_fA_n (by omega), fun _ => rfl⟩
theorem GX_f3 {c : Nat} {S : rz_S} {f : Nat → Int32} (hc : c < 15) : GX c S (rz_fA S (51 + 4 * c) f) := ⟨⟨fun q a => rz_fA_n (by omega), fun d a b => ⟨rz_fA_n (by omega), rz_fA_n (by omega)⟩, fun _ _ _ => rfl, fun _ _ _ _ => ⟨rfl, rfl⟩⟩, rz_fA_n (by omega), fun _ => rfl⟩
theorem GX_f2 {c q : Nat} {S : rz_S} {f : Nat → Int32} (hq : q = 40 ∨ q = 45 ∨ q = 47 ∨ q = 43) : GX c S (rz_fA S q f) := ⟨FX_f2 (by omega), rz_fA_n (by omega), fun _ => rfl⟩
theorem GX_s {c : Nat} {S : rz_S} {n t s : Int32} : GX c S (st_set S n t s) := ⟨FX_rc rF_s, rfl, fun _ => rfl⟩
theorem GX_cl {c : Nat} {S S1 : rz_S} (hc : c < 15) (h : clX c S S1) : GX c S S1 := ⟨FX_cl h, h.1 115 (by omega) (by omega) (by omega) (by omega) (by omega), fun z => h.2 0 z (by omega) (by omega) (by omega) (by omega) (by omega) (by omega)⟩
theorem GX_ml {c : Nat} {S S1 : rz_S} (hc : c < 15) (h : mlX c S S1) : GX c S S1 := ⟨FX_ml h, h.1 115 (by omega) (by omega) (by omega) (by omega) (by omega), fun z => h.2 0 z (by omega) (by omega) (by omega) (by omega) (by omega)⟩
theorem GX_rc {c : Nat} {S S1 : rz_S} (hc : c < 15) (h : rF (49 + 4 * c) S S1) : GX c S S1 := ⟨FX_rc h, h.1 115 (by omega) (by omega), fun z => h.2 0 z (by omega) (by omega) (by omega)⟩
theorem GX_b {c : Nat} {S S1 : rz_S} (h : bgX S S1) : GX c S S1 := ⟨FX_b h, h.1 115 (by omega) (by omega) (by omega) (by omega), fun z => h.2 0 z (by omega) (by omega) (by omega) (by omega) (by omega)⟩
theorem GX_fd {c : Nat} {S S1 : rz_S} (h : fdX S S1) : GX c S S1 := ⟨FX_fd h, h.1 115 (by omega) (by omega), fun z => h.2 0 z (by omega) (by omega) (by omega) (by omega)⟩
theorem GM_cl {c : Nat} {S S1 : rz_S} (h : clM c S S1) : GM c S S1 := ⟨FM_cl h, h.1 152 (by omega) (by omega), fun z a => h.2.2.2 116 z (by omega)⟩
theorem GM_b {c : Nat} {S S1 : rz_S} (h : bgM S S1) : GM c S S1 := ⟨FM_b h, h.1 152 (by omega) (by omega), fun z a => h.2 116 z (by omega)⟩
theorem GM_fd {c : Nat} {S S1 : rz_S} (h : fdM S S1) : GM c S S1 := ⟨⟨fun q a => h.1 q (by omega) (by omega), fun q a b e d f => by rw [h.1 q (by omega) (by omega)], fun j a => ⟨by rw [h.1 127 (by omega) (by omega)], by rw [h.1 148 (by omega) (by omega)]⟩, fun j a => by rw [h.1 147 (by omega) (by omega)], fun z a => h.2 116 z (by omega)⟩, h.1 152 (by omega) (by omega), fun z a => h.2 116 z (by omega)⟩
theorem GM_k {c : Nat} {S S1 : rz_S} (h : kFa 127 (64 * c) S S1) : GM c S S1 := ⟨FM_k h, h.1 152 (by omega) (by omega), fun z a => h.2.2 116 z (by omega)⟩
theorem GM_g {c q : Nat} {S : rz_S} {f : Nat → Int32} (hq : 126 ≤ q ∧ q ≤ 146 ∧ q ≠ 127) (h : ∀ d, d ≠ c → f d = S.1 q d) : GM c S (rz_fA S q f) := ⟨FM_g hq h, rz_fA_n (by omega), fun _ _ => rfl⟩
theorem GM_h {c : Nat} {S : rz_S} {f : Nat → Int32} (h : ∀ j, ¬ (64 * c ≤ j ∧ j < 64 * c + 64) → f j = S.1 127 j) : GM c S (rz_fA S 127 f) := ⟨FM_h h, rz_fA_n (by omega), fun _ _ => rfl⟩
theorem GM_p {c : Nat} {S : rz_S} {f : Nat → Int32} (h : ∀ j, ¬ (10 * c ≤ j ∧ j < 10 * c + 10) → f j = S.1 147 j) : GM c S (rz_fA S 147 f) := ⟨FM_p h, rz_fA_n (by omega), fun _ _ => rfl⟩
theorem GM_u {c k : Nat} {S : rz_S} {x : Int32} (hk : k = 4 ∨ k = 5) : GM c S (rz_uI S 116 k x) := ⟨FM_u (by omega), rfl, fun z a => rz_uI_n (by omega)⟩
/-- what an opening ends with -/
def opE (c M : Nat) (pr : Bool) (Sx Sm : rz_S) (x : Int32) (V : rz_S) (y : Int32) (W : rz_S) : Prop := x = y ∧ GX c Sx V ∧ GM c Sm W ∧ (∃ B id, Dk B pr id V W) ∧ ans Sx x V W ∧ Chn M c V W
theorem op_flt {c M : Nat} {pr : Bool} {Sx Sm V W : rz_S} {B : Nat → Nat → Bool} {id : Option (Nat × Nat)} (xc t s : Nat) (h0 : xc ≠ 0) (hx : xc < 100 ∧ (xc = 0 ∨ xc = 1 ∨ 20 ≤ xc ∧ xc ≤ 26 ∨ xc = 28 ∨ 30 ≤ xc ∧ xc ≤ 34 ∨ 60 ≤ xc ∧ xc ≤ 66 ∨ 70 ≤ xc ∧ xc ≤ 74)) (gx : GX c Sx V) (gm : GM c Sm W) (h3 : ∀ z, V.2 3 z = Sx.2 3 z) (hD : Dk B pr id V W) (hC : Chn M c V W) : opE c M pr Sx Sm (nI xc) (st_set V (nI xc) (nI t) (nI s)) (nI xc) (rz_uI (rz_uI W 116 4 (nI t)) 116 5 (nI s)) := ⟨rfl, GX_t gx GX_s, GM_t gm (GM_t (GM_u (by omega)) (GM_u (by omega))), ⟨B, id, Dk_mu (Dk_mu (st_set_dk hD) (by omega)) (by omega)⟩, Or.inr ⟨xc, h0, hx, rfl, ⟨t, s, st_set_is, by simp (disch := omega) only [uI1, fA2, rz_fA_n, rz_uI_n, rz_fA_s, rz_uI_s, pk_us], by simp (disch := omega) only [uI1, fA2, rz_fA_n, rz_uI_n, rz_fA_s, rz_uI_s, pk_us]⟩, (show (st_set V (nI xc) (nI t) (nI s)).2 3 3 = V.2 3 3 from rfl).trans (h3 3)⟩, Chn_set hC⟩
theorem c_begin {S : rz_S} {c : Nat} {m : Int32} (hc : c < 15) : rz_ev mChannel_begin [.ref (48 + 4 * c), .int m] S (rz_v (fun S1 => GX c S S1 ∧ (∀ q, q ≠ 49 + 4 * c → S1.1 q = S.1 q) ∧ (∀ u z, u ≠ 48 + 4 * c → S1.2 u z = S.2 u z) ∧ (∀ k, k < 64 → S1.1 (49 + 4 * c) k = 0) ∧ S1.2 (48 + 4 * c) 0 = m ∧ S1.2 (48 + 4 * c) 2 = 0 ∧ S1.2 (48 + 4 * c) 3 = 0 ∧ S1.2 (48 + 4 * c) 4 = 0 ∧ S1.2 (48 + 4 * c) 15 = 0)) := by
  have hch : chP (48 + 4 * c) := ⟨by omega, by omega, by omega⟩
  have e49 : 48 + 4 * c + 1 = 49 + 4 * c := by omega
  show rz _ 0 [(0, .ref (48 + 4 * c)), (1, .int m)] [] _ _
  refine p_Channel_begin_0 hch ?_
  rw [e49]
  refine rz_toV (c_Arr_fill (e49 ▸ chR hch) (by omega) 0) ?_
  unfold fl_to
  refine ⟨GX_t GX_u (GX_t (GX_f hc) (GX_t GX_u (GX_t GX_u (GX_t GX_u GX_u)))), fun q hq => by simp (disch := omega) only [uI1, fA2, rz_fA_n, rz_uI_n, rz_fA_s, rz_uI_s, pk_us], fun u z hu => by simp (disch := omega) only [uI1, fA2, rz_fA_n, rz_uI_n, rz_fA_s, rz_uI_s, pk_us], fun k hk => ?_, by simp (disch := omega) only [uI1, fA2, rz_fA_n, rz_uI_n, rz_fA_s, rz_uI_s, pk_us], by simp (disch := omega) only [uI1, fA2, rz_fA_n, rz_uI_n, rz_fA_s, rz_uI_s, pk_us], by simp (disch := omega) only [uI1, fA2, rz_fA_n, rz_uI_n, rz_fA_s, rz_uI_s, pk_us], by simp (disch := omega) only [uI1, fA2, rz_fA_n, rz_uI_n, rz_fA_s, rz_uI_s, pk_us], by simp (disch := omega) only [uI1, fA2, rz_fA_n, rz_uI_n, rz_fA_s, rz_uI_s, pk_us]⟩
  simp (disch := omega) only [uI1, fA2, rz_fA_n, rz_uI_n, rz_fA_s, rz_uI_s, pk_us]
  rw [if_pos hk]
/-- a piece of the TEXT is taken as a PATTERN -/
theorem c_take {S : rz_S} {p n f t : Nat} (hp : ptP p) (hp2 : 40 < p) (hn : n ≤ 400) (hl : S.2 1 2 = nI n) (hf : f ≤ 500) (ht : t ≤ 500) : rz_ev mPattern_take [.ref p, .ref 1, .int (nI f), .int (nI t)] S (rz_i (fun x S1 => (x = 0 ∧ S1 = S ∧ f + 10 < t) ∨ (x = 1 ∧ t ≤ f + 10 ∧ ∃ g, S1 = rz_fA (rz_uI S p 1 (nI (t - f))) (p + 1) g ∧ ∀ i, i < t - f → g i = (if f + i < n then S.1 2 (f + i) else -1)))) := by
  have lp : ∀ (w j : Nat) (g : Nat → Int32), t ≤ f + 10 → w + j = t - f → (∀ i, i < j → g i = (if f + i < n then S.1 2 (f + i) else -1)) → rz mPattern_take 24 [(0, .ref p), (1, .ref 1), (2, .int (nI f)), (4, .int (nI j))] [] (rz_fA (rz_uI S p 1 (nI (t - f))) (p + 1) g) (rz_i (fun x S1 => (x = 0 ∧ S1 = S ∧ f + 10 < t) ∨ (x = 1 ∧ t ≤ f + 10 ∧ ∃ g, S1 = rz_fA (rz_uI S p 1 (nI (t - f))) (p + 1) g ∧ ∀ i, i < t - f → g i = (if f + i < n then S.1 2 (f + i) else -1)))) := by
    intro w
    induction w with
    | zero =>
      intro j g h10 hj hg
      have e : (rz_fA (rz_uI S p 1 (nI (t - f))) (p + 1) g).2 p 1 = nI (t - f) := by simp (disch := omega) only [uI1, fA2, rz_fA_n, rz_uI_n, rz_fA_s, rz_uI_s, pk_us]
      refine p_Pattern_take_24 hp ⟨fun _ => Or.inr ⟨rfl, h10, g, rfl, fun i hi => hg i (by omega)⟩, fun d => absurd ?_ d⟩
      rw [e]
      exact nI_le (by omega) (by omega)
    | succ w ih =>
      intro j g h10 hj hg
      have e : (rz_fA (rz_uI S p 1 (nI (t - f))) (p + 1) g).2 p 1 = nI (t - f) := by simp (disch := omega) only [uI1, fA2, rz_fA_n, rz_uI_n, rz_fA_s, rz_uI_s, pk_us]
      have e1 : (rz_fA (rz_uI S p 1 (nI (t - f))) (p + 1) g).2 1 2 = nI n := by simp (disch := omega) only [uI1, fA2, rz_fA_n, rz_uI_n, rz_fA_s, rz_uI_s, pk_us]; exact hl
      have e2 : (rz_fA (rz_uI S p 1 (nI (t - f))) (p + 1) g).1 2 = S.1 2 := by simp (disch := omega) only [uI1, fA2, rz_fA_n, rz_uI_n, rz_fA_s, rz_uI_s, pk_us]
      refine p_Pattern_take_24 hp ⟨fun d => ?_, fun _ => ?_⟩
      · rw [e] at d
        have := (nI_leI (a := t - f) (b := j) (by omega) (by omega)).mp d
        omega
      rw [nI_add]
      refine rz_toI (c_byteAt hn e1 (by omega)) ⟨rin (by omega) (by omega), ?_⟩
      rw [nI_clamp (by omega), nI_1, rz_fA_s, rz_fAA, e2]
      refine ih (j + 1) _ h10 (by omega) (fun i hi => ?_)
      by_cases z : i = j
      · subst z; rw [pk_us]
      · rw [pk_un z]; exact hg i (by omega)
  show rz _ 0 [(0, .ref p), (1, .ref 1), (2, .int (nI f)), (3, .int (nI t))] [] _ _
  refine p_Pattern_take_0 hp ?_
  by_cases hft : f ≤ t
  · rw [pk_sub hft]
    refine ⟨fun d => ?_, fun d => Or.inl ⟨rfl, rfl, ?_⟩⟩
    · have h10 := (nI_leI (b := 10) (by omega) (by omega)).mp d
      have em : (if 0 < nI (t - f) then nI (t - f) else 0) = nI (t - f) := by
        by_cases z : t - f = 0
        · rw [z]; rfl
        · rw [if_pos (show (0 : Int32) < nI (t - f) from nI_lt (a := 0) (by omega) (by omega))]
      rw [em]
      have := lp (t - f) 0 ((rz_uI S p 1 (nI (t - f))).1 (p + 1)) (by omega) (by omega) (fun i hi => by omega)
      rw [rz_fA_self] at this
      exact this
    · have : ¬ t - f ≤ 10 := fun z => d (nI_le (b := 10) z (by omega))
      omega
  · have hneg := pk_sneg (a := t) (b := f) (by omega) (by omega)
    refine ⟨fun _ => ?_, fun d => absurd ?_ d⟩
    · rw [if_neg (fun z => absurd (Int32.lt_trans z hneg) (by decide))]
      have := lp 0 0 ((rz_uI S p 1 (nI (t - f))).1 (p + 1)) (by omega) (by omega) (fun i hi => by omega)
      rw [rz_fA_self, show t - f = 0 by omega] at this
      rw [show t - f = 0 by omega]
      exact this
    · exact Int32.le_of_lt (Int32.lt_trans hneg (by decide))
