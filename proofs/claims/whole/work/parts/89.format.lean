/-! FORMAT of a track: the class -/
def sct (t : Nat) : Nat := 8 - (t - 1) / 3
def Gf (t i j : Nat) (o : Nat) : Bool := if o / 976 < sct t then (if o % 976 < 40 then true else if o % 976 < 120 then gb (hpl t (o / 976) i j) (o % 976 - 40) else if o % 976 < 192 then decide (o % 2 = 1) else if o % 976 < 232 then true else if o % 976 < 912 then gb (dpl (fun _ => 0)) (o % 976 - 232) else decide (o % 2 = 1)) else decide (o % 2 = 1)
theorem Gf_at {t i j s r : Nat} (hs : s < sct t) (hr : r < 976) : Gf t i j (976 * s + r) = (if r < 40 then true else if r < 120 then gb (hpl t s i j) (r - 40) else if r < 192 then decide (r % 2 = 1) else if r < 232 then true else if r < 912 then gb (dpl (fun _ => 0)) (r - 232) else decide (r % 2 = 1)) := by
  unfold Gf
  rw [show (976 * s + r) / 976 = s by omega, show (976 * s + r) % 976 = r by omega, show (976 * s + r) % 2 = r % 2 by omega, if_pos hs]
/-- the ring behind it -/
def fmb (t i j : Nat) : Nat → Bool := fun q => Gf t i j (q % (8 * tN t))
theorem fmb_r (t i j : Nat) : rgb (fmb t i j) (8 * tN t) := by
  intro q
  unfold fmb
  rw [Nat.mod_mod]
theorem pw_all {b : Nat → Bool} {t i j : Nat} (h2 : t ≤ 12) : pw b (8 * tN t) 0 (8 * tN t) (Gf t i j) = fmb t i j := by
  have hN := tN_b h2
  funext q
  have hq : q % (8 * tN t) < 8 * tN t := Nat.mod_lt _ (by omega)
  unfold pw fmb
  rw [if_pos ⟨by omega, by omega⟩]
  rfl
theorem sct_b {t : Nat} (h1 : 1 ≤ t) (h2 : t ≤ 12) : sct t ≤ 8 ∧ 5 ≤ sct t ∧ 976 * sct t + 192 ≤ 8 * tN t := by
  unfold sct tN
  omega
def aF (S S1 : rz_S) : Prop := (∀ q, ¬ (8 ≤ q ∧ q ≤ 12) → S1.1 q = S.1 q) ∧ S1.2 = S.2
theorem LA_a {S S1 : rz_S} {b G : Nat → Bool} {k p n : Nat} (hk : rgP k) (h : LA b k p n G S) (hf : aF S S1) : LA b k p n G S1 := by
  obtain ⟨a, c, d⟩ := hk
  refine ⟨⟨?_, fun j hj => ?_⟩, ?_⟩
  · rw [hf.2]; exact h.1.1
  · rw [hf.1 (k + 1) (by omega)]; exact h.1.2 j hj
  · rw [hf.2]; exact h.2
theorem aF_a {S : rz_S} {q : Nat} {f : Nat → Int32} (hq : 8 ≤ q ∧ q ≤ 12) : aF S (rz_fA S q f) := ⟨fun u hu => rz_fA_n (by omega), rfl⟩
/-- what a FORMAT leaves as it was -/
def fF (k : Nat) (S S1 : rz_S) : Prop := (∀ q, ¬ (8 ≤ q ∧ q ≤ 12) → q ≠ k + 1 → S1.1 q = S.1 q) ∧ ∀ u z, ¬ (u = k ∧ 3 ≤ z ∧ z ≤ 7) → S1.2 u z = S.2 u z
theorem fF_t {k : Nat} {S S1 S2 : rz_S} (h1 : fF k S S1) (h2 : fF k S1 S2) : fF k S S2 := ⟨fun q h h' => (h2.1 q h h').trans (h1.1 q h h'), fun u z h => (h2.2 u z h).trans (h1.2 u z h)⟩
theorem fF_g {k : Nat} {S S1 : rz_S} (h : gF k S S1) : fF k S S1 := ⟨fun q _ h' => h.1 q h', h.2⟩
theorem fF_a {k : Nat} {S S1 : rz_S} (h : aF S S1) : fF k S S1 := ⟨fun q h1 _ => h.1 q h1, fun u z _ => by rw [h.2]⟩
def fmX (pr : Bool) (t i j : Nat) (S : rz_S) (r : Int32) (S1 : rz_S) : Prop := (pr = true ∧ r = nI 26 ∧ S1 = st_set S (nI 26) (nI t) (nI 0)) ∨ (pr = false ∧ r = nI 0 ∧ fF (11 + 2 * t) S S1 ∧ RgH S1 (11 + 2 * t) (fmb t i j))
theorem c_Ring_putGapToEnd {T : rz_S} {k n : Nat} {b G : Nat → Bool} (hk : rgP k) (hn : 8 * n < 8 * rgN k) (hG : ∀ o, o < 8 * (rgN k - n) → G (8 * n + o) = decide (o % 2 = 1)) (hL : LA b k 0 (8 * n) G T) : rz_ev mRing_putGapToEnd [.ref k] T (rz_v (fun T1 => LA b k 0 (8 * rgN k) G T1 ∧ gF k T T1)) := by
  have hN := rgN_b hk
  show rz _ 0 [(0, .ref k)] [] _ _
  refine p_Ring_putGapToEnd_0 hk ?_
  have e : nxp (8 * rgN k) 0 (8 * n) = 8 * n := by unfold nxp; rw [if_pos (by omega)]; omega
  rw [hL.2, e, sh3 (by omega), show 8 * n / 8 = n by omega, show Int32.ofNat (rgN k) - nI n = nI (rgN k - n) from pk_sub (by omega), if_pos (show (0 : Int32) < nI (rgN k - n) from nI_lt (a := 0) (by omega) (by omega))]
  have := c_Ring_putGap (m := rgN k - n) (n0 := 8 * n) hk (by omega) (by omega) hG hL
  rw [show 8 * n + 8 * (rgN k - n) = 8 * rgN k by omega] at this
  exact this
theorem c_Disk_format {S : rz_S} {B : Nat → Nat → Bool} {pr : Bool} {t i j : Nat} (hX : XRs S B) (hpr : S.2 6 0 = nI pr.toNat) (h1 : 1 ≤ t) (h2 : t ≤ 12) (hsec : S.2 (11 + 2 * t) 0 = nI (sct t)) (hi : i < 256) (hj : j < 256) : rz_ev mDisk_format [.ref 6, .int (nI t), .int (nI i), .int (nI j)] S (rz_i (fmX pr t i j S)) := by
  have hk := tP h1 h2
  have eN := tN_k h1
  have hN := tN_b h2
  have hsb := sct_b h1 h2
  obtain ⟨hb, hR⟩ := hX t h1 h2
  have lp : pr = false → ∀ (w s : Nat) (T : rz_S), sct t < w + s → s ≤ sct t → LA (B t) (11 + 2 * t) 0 (976 * s) (Gf t i j) T → fF (11 + 2 * t) S T → (∀ q, q < 85 → T.1 11 q = by8 (gb (dpl (fun _ => 0))) (8 * q)) → rz mDisk_format 46 [(0, .ref 6), (1, .int (nI t)), (2, .int (nI i)), (3, .int (nI j)), (4, .ref (11 + 2 * t)), (5, .int (nI s))] [] T (rz_i (fmX pr t i j S)) := by
    intro hp0 w
    induction w with
    | zero => intro s T c1 c2; omega
    | succ w ih =>
      intro s T c1 c2 hL hF h11
      refine p_Disk_format_46 hk ?_
      rw [hF.2 (11 + 2 * t) 0 (by omega), hsec]
      refine ⟨fun c => ?_, fun c => ?_⟩
      · have : sct t ≤ s := (nI_leI (by omega) (by omega)).mp c
        have e : s = sct t := by omega
        subst e
        rw [show 976 * sct t = 8 * (122 * sct t) by omega] at hL
        refine rz_useV (c_Ring_putGapToEnd (n := 122 * sct t) hk (by rw [eN]; omega) (fun o ho => ?_) hL) (fun T1 r => ?_)
        · unfold Gf
          rw [if_neg (by omega), show (8 * (122 * sct t) + o) % 2 = o % 2 by omega]
        · obtain ⟨l1, g1⟩ := r
          refine Or.inr ⟨hp0, rfl, fF_t hF (fF_g g1), ?_⟩
          have := l1.1
          rw [eN, pw_all h2] at this
          exact this
      · have hs : s < sct t := Nat.lt_of_not_le fun z => c (nI_le z (by omega))
        refine rz_toV c_Disk_fillHeader ?_
        refine rz_useV (c_Disk_encode (a0 := 8) (a1 := 9) (n := 8) (m := 10) (pl := hpl t s i j) rfl rfl (by omega) (by omega) (by omega) (fun q hq => ⟨by rw [rz_fA_s]; exact hrow_at q hq, hpl_lt (by omega) (by omega) hi hj q⟩)) (fun T2 r2 => ?_)
        obtain ⟨g, rfl, hg⟩ := r2
        have a2 : aF T (rz_fA (rz_fA T 8 (hrow (T.1 8) t s i j)) 9 g) := ⟨fun q hq => by rw [rz_fA_n (by omega), rz_fA_n (by omega)], rfl⟩
        have g9 : ∀ q, q < 10 → (rz_fA (rz_fA T 8 (hrow (T.1 8) t s i j)) 9 g).1 9 q = by8 (gb (hpl t s i j)) (8 * q) := fun q hq => by rw [rz_fA_s]; exact hg q hq
        have g11 : ∀ q, q < 85 → (rz_fA (rz_fA T 8 (hrow (T.1 8) t s i j)) 9 g).1 11 q = by8 (gb (dpl (fun _ => 0))) (8 * q) := fun q hq => by rw [rz_fA_n (by omega), rz_fA_n (by omega)]; exact h11 q hq
        have L2 := LA_a hk hL a2
        have F2 : fF (11 + 2 * t) S (rz_fA (rz_fA T 8 (hrow (T.1 8) t s i j)) 9 g) := fF_t hF (fF_a a2)
        generalize rz_fA (rz_fA T 8 (hrow (T.1 8) t s i j)) 9 g = T2 at a2 g9 g11 L2 F2
        refine rz_useV (c_Ring_putMarked (a := 9) (m := 10) (n0 := 976 * s) (hb := gb (hpl t s i j)) hk (by rw [eN]; omega) (by rw [eN]; omega) rfl (by omega) g9 (fun o ho => by rw [Gf_at hs (by omega), if_pos ho]) (fun o ho => by rw [show 976 * s + 40 + o = 976 * s + (40 + o) by omega, Gf_at hs (by omega), if_neg (by omega), if_pos (by omega), show 40 + o - 40 = o by omega]) L2) (fun T3 r3 => ?_)
        obtain ⟨L3, g3⟩ := r3
        rw [show 976 * s + 8 * (5 + 10) = 976 * s + 120 by omega] at L3
        refine rz_useV (c_Ring_putGap (m := 9) (n0 := 976 * s + 120) hk (by rw [eN]; omega) (by rw [eN]; omega) (fun o ho => by rw [show 976 * s + 120 + o = 976 * s + (120 + o) by omega, Gf_at hs (by omega), if_neg (by omega), if_neg (by omega), if_pos (by omega), show (120 + o) % 2 = o % 2 by omega]) L3) (fun T4 r4 => ?_)
        obtain ⟨L4, g4⟩ := r4
        rw [show 976 * s + 120 + 8 * 9 = 976 * s + 192 by omega] at L4
        refine rz_useV (c_Ring_putMarked (a := 11) (m := 85) (n0 := 976 * s + 192) (hb := gb (dpl (fun _ => 0))) hk (by rw [eN]; omega) (by rw [eN]; omega) rfl (by omega) (fun q hq => by rw [g4.1 11 (by omega), g3.1 11 (by omega)]; exact g11 q hq) (fun o ho => by rw [show 976 * s + 192 + o = 976 * s + (192 + o) by omega, Gf_at hs (by omega), if_neg (by omega), if_neg (by omega), if_neg (by omega), if_pos (by omega)]) (fun o ho => by rw [show 976 * s + 192 + 40 + o = 976 * s + (232 + o) by omega, Gf_at hs (by omega), if_neg (by omega), if_neg (by omega), if_neg (by omega), if_neg (by omega), if_pos (by omega), show 232 + o - 232 = o by omega]) L4) (fun T5 r5 => ?_)
        obtain ⟨L5, g5⟩ := r5
        rw [show 976 * s + 192 + 8 * (5 + 85) = 976 * s + 912 by omega] at L5
        refine rz_useV (c_Ring_putGap (m := 8) (n0 := 976 * s + 912) hk (by rw [eN]; omega) (by rw [eN]; omega) (fun o ho => by rw [show 976 * s + 912 + o = 976 * s + (912 + o) by omega, Gf_at hs (by omega), if_neg (by omega), if_neg (by omega), if_neg (by omega), if_neg (by omega), if_neg (by omega), show (912 + o) % 2 = o % 2 by omega]) L5) (fun T6 r6 => ?_)
        obtain ⟨L6, g6⟩ := r6
        rw [show 976 * s + 912 + 8 * 8 = 976 * (s + 1) by omega] at L6
        rw [nI_1]
        exact ih (s + 1) T6 (by omega) (by omega) L6 (fF_t F2 (fF_g (gF_t g3 (gF_t g4 (gF_t g5 g6))))) (fun q hq => by rw [g6.1 11 (by omega), g5.1 11 (by omega), g4.1 11 (by omega), g3.1 11 (by omega)]; exact g11 q hq)
  show rz _ 0 [(0, .ref 6), (1, .int (nI t)), (2, .int (nI i)), (3, .int (nI j))] [] _ _
  refine p_Disk_format_0 (rz_toR (c_Disk_ring h1 h2) (p_Disk_format_5' hk ?_))
  rw [hpr]
  refine ⟨fun z => ?_, fun z => ?_⟩
  · have hp0 := (nI_b0 _).mp z
    refine rz_toV (c_Ring_goTo (p := 0) hk hR (by omega) 0) ?_
    refine rz_useV c_Disk_codeDataN (fun T r => ?_)
    obtain ⟨f, g, rfl, hg⟩ := r
    have a0 : fF (11 + 2 * t) S (rz_uI (rz_uI S (11 + 2 * t) 3 (nI 0)) (11 + 2 * t) 4 0) := fF_g (gF_t (gF_u (by omega)) (gF_u (by omega)))
    have L0 : LA (B t) (11 + 2 * t) 0 0 (Gf t i j) (rz_uI (rz_uI S (11 + 2 * t) 3 (nI 0)) (11 + 2 * t) 4 0) := by
      refine ⟨?_, ?_⟩
      · rw [← eN] at hb
        rw [pw_0 hb (by omega)]
        exact ⟨(rz_uI_n (by omega)).trans ((rz_uI_n (by omega)).trans hR.1), hR.2⟩
      · rw [rz_uI_n (by omega), rz_uI_s]
        congr 1
        unfold nxp
        rw [if_pos (by omega)]
    generalize rz_uI (rz_uI S (11 + 2 * t) 3 (nI 0)) (11 + 2 * t) 4 0 = U at a0 L0
    have a1 : aF U (rz_fA (rz_fA U 10 f) 11 g) := ⟨fun q hq => by rw [rz_fA_n (by omega), rz_fA_n (by omega)], rfl⟩
    exact lp hp0 (sct t + 1) 0 _ (by omega) (by omega) (LA_a hk L0 a1) (fF_t a0 (fF_a a1)) (fun q hq => by rw [rz_fA_s]; exact hg q hq)
  · have hp1 : pr = true := Bool.of_not_eq_false fun q => z ((nI_b0 _).mpr q)
    exact p_Disk_format_19 (rz_toI (c_Status_set _ _ _) (Or.inl ⟨hp1, rfl, rfl⟩))
