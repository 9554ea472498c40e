/-! FORMAT of a track: the reference -/
theorem sct_I : ∀ t, t < 13 → 1 ≤ t → (8 - (nI t - 1) / 3 : Int32) = nI (sct t) := by decide +kernel
theorem c_M_sects {S : rz_S} {t : Nat} (h1 : 1 ≤ t) (h2 : t ≤ 12) : rz_ev mM_sectorsOf [.int (nI t)] S (rz_i (fun x S1 => x = nI (sct t) ∧ S1 = S)) := by
  have := c_M_sectorsOf (S := S) (nI t)
  rw [sct_I t (by omega) h1] at this
  exact this
def fM (t : Nat) (S S1 : rz_S) : Prop := (∀ q, ¬ (119 ≤ q ∧ q ≤ 120) → q ≠ 117 → S1.1 q = S.1 q) ∧ (∀ i, (i < 1000 * (t - 1) ∨ 1000 * (t - 1) + 1000 ≤ i) → S1.1 117 i = S.1 117 i) ∧ ∀ u z, ¬ (u = 116 ∧ z = 20) → S1.2 u z = S.2 u z
theorem fM_t {t : Nat} {S S1 S2 : rz_S} (h1 : fM t S S1) (h2 : fM t S1 S2) : fM t S S2 := ⟨fun q h h' => (h2.1 q h h').trans (h1.1 q h h'), fun i h => (h2.2.1 i h).trans (h1.2.1 i h), fun u z h => (h2.2.2 u z h).trans (h1.2.2 u z h)⟩
theorem fM_h {t : Nat} {S S1 : rz_S} (h : hF t S S1) : fM t S S1 := ⟨fun q _ h1 => h.1 q h1, h.2.1, h.2.2⟩
theorem fM_a {t : Nat} {S : rz_S} {f g : Nat → Int32} : fM t S (rz_fA (rz_fA S 119 f) 120 g) := ⟨fun q h _ => by rw [rz_fA_n (by omega), rz_fA_n (by omega)], fun i _ => by rw [rz_fA_n (by omega), rz_fA_n (by omega)], fun _ _ _ => rfl⟩
theorem LM_a {t p n : Nat} {b G : Nat → Bool} {S : rz_S} {f g : Nat → Int32} (h : LM b t p n G S) : LM b t p n G (rz_fA (rz_fA S 119 f) 120 g) := ⟨fun j hj => by rw [rz_fA_n (by omega), rz_fA_n (by omega)]; exact h.1 j hj, h.2⟩
def fmM (pr : Bool) (t i j : Nat) (S : rz_S) (r : Int32) (S1 : rz_S) : Prop := (pr = true ∧ r = nI 26 ∧ S1 = rz_uI (rz_uI S 116 4 (nI t)) 116 5 (nI 0)) ∨ (pr = false ∧ r = nI 0 ∧ fM t S S1 ∧ RfH S1 t (fmb t i j))
section FMM
variable {S : rz_S} {b : Nat → Bool} {t i j s : Nat} {K : Int32 → rz_S → Prop}
theorem lp_fm179 (h1 : 1 ≤ t) (h2 : t ≤ 12) (hs : s < sct t) (kk : ∀ T, LM b t 0 (976 * s + 976) (Gf t i j) T → fM t S T → rz mM_format 24 [(0, .ref 116), (1, .int (nI t)), (2, .int (nI i)), (3, .int (nI j)), (4, .int (nI s + 1))] [] T (rz_i K)) : ∀ (w k : Nat) (T : rz_S), 8 < w + k → k ≤ 8 → LM b t 0 (976 * s + 912 + 8 * k) (Gf t i j) T → fM t S T → rz mM_format 179 [(0, .ref 116), (1, .int (nI t)), (2, .int (nI i)), (3, .int (nI j)), (4, .int (nI s)), (5, .int (nI k))] [] T (rz_i K) := by
  have hN := tN_b h2
  have hsb := sct_b h1 h2
  intro w
  induction w with
  | zero => intro k T c1 c2; omega
  | succ w ih =>
    intro k T c1 c2 hL hF
    refine p_M_format_179 ⟨fun c => ?_, fun c => ?_⟩
    · have : 8 ≤ k := (nI_leI (a := 8) (by omega) (by omega)).mp c
      have e : k = 8 := by omega
      subst e
      exact kk T (by rw [show 976 * s + 976 = 976 * s + 912 + 8 * 8 by omega]; exact hL) hF
    · have hk : ¬ 8 ≤ k := fun z => c (nI_le (a := 8) z (by omega))
      rw [nI_1]
      refine rz_useV (c_M_lays (v := 85) h1 h2 (by omega) (by omega) (fun q hq => ?_) hL) (fun T1 r => ?_)
      · rw [t85 q hq, show 976 * s + 912 + 8 * k + q = 976 * s + (912 + (8 * k + q)) by omega, Gf_at hs (by omega), if_neg (by omega), if_neg (by omega), if_neg (by omega), if_neg (by omega), if_neg (by omega), show (912 + (8 * k + q)) % 2 = q % 2 by omega]
      · obtain ⟨l1, f1⟩ := r
        rw [show 976 * s + 912 + 8 * k + 8 = 976 * s + 912 + 8 * (k + 1) by omega] at l1
        exact ih (k + 1) T1 (by omega) (by omega) l1 (fM_t hF (fM_h f1))
theorem lp_fm151 (h1 : 1 ≤ t) (h2 : t ≤ 12) (hs : s < sct t) (kk : ∀ T, LM b t 0 (976 * s + 912) (Gf t i j) T → fM t S T → rz mM_format 179 [(0, .ref 116), (1, .int (nI t)), (2, .int (nI i)), (3, .int (nI j)), (4, .int (nI s)), (5, .int (nI 0))] [] T (rz_i K)) : ∀ (w k : Nat) (T : rz_S), 85 < w + k → k ≤ 85 → LM b t 0 (976 * s + 232 + 8 * k) (Gf t i j) T → fM t S T → (∀ q, q < 85 → T.1 120 q = by8 (gb (dpl (fun _ => 0))) (8 * q)) → rz mM_format 151 [(0, .ref 116), (1, .int (nI t)), (2, .int (nI i)), (3, .int (nI j)), (4, .int (nI s)), (5, .int (nI k))] [] T (rz_i K) := by
  have hN := tN_b h2
  have hsb := sct_b h1 h2
  intro w
  induction w with
  | zero => intro k T c1 c2; omega
  | succ w ih =>
    intro k T c1 c2 hL hF h120
    refine p_M_format_151 ⟨fun c => ?_, fun c => ⟨rin (by have : ¬ 85 ≤ k := fun z => c (nI_le (a := 85) z (by omega)); omega) (by omega), ?_⟩⟩
    · have : 85 ≤ k := (nI_leI (a := 85) (by omega) (by omega)).mp c
      have e : k = 85 := by omega
      subst e
      exact kk T (by rw [show 976 * s + 912 = 976 * s + 232 + 8 * 85 by omega]; exact hL) hF
    · have hk : ¬ 85 ≤ k := fun z => c (nI_le (a := 85) z (by omega))
      rw [nI_clamp (by omega), h120 k (by omega), nI_1]
      refine rz_useV (c_M_lays (v := vl (gb (dpl (fun _ => 0))) (8 * k) 8) h1 h2 (by omega) (by omega) (fun q hq => ?_) hL) (fun T1 r => ?_)
      · rw [by8_v _ _ q hq, show 976 * s + 232 + 8 * k + q = 976 * s + (232 + (8 * k + q)) by omega, Gf_at hs (by omega), if_neg (by omega), if_neg (by omega), if_neg (by omega), if_neg (by omega), if_pos (by omega), show 232 + (8 * k + q) - 232 = 8 * k + q by omega]
      · obtain ⟨l1, f1⟩ := r
        rw [show 976 * s + 232 + 8 * k + 8 = 976 * s + 232 + 8 * (k + 1) by omega] at l1
        exact ih (k + 1) T1 (by omega) (by omega) l1 (fM_t hF (fM_h f1)) (fun q hq => by rw [f1.1 120 (by omega)]; exact h120 q hq)
theorem lp_fm119 (h1 : 1 ≤ t) (h2 : t ≤ 12) (hs : s < sct t) (kk : ∀ T, LM b t 0 (976 * s + 232) (Gf t i j) T → fM t S T → rz_ev mM_data [.ref 116, .ref 122, .int 0] T (rz_v (fun Sq2 => rz mM_format 151 [(0, .ref 116), (1, .int (nI t)), (2, .int (nI i)), (3, .int (nI j)), (4, .int (nI s)), (5, .int (nI 0))] [] Sq2 (rz_i K)))) : ∀ (w k : Nat) (T : rz_S), 5 < w + k → k ≤ 5 → LM b t 0 (976 * s + 192 + 8 * k) (Gf t i j) T → fM t S T → rz mM_format 119 [(0, .ref 116), (1, .int (nI t)), (2, .int (nI i)), (3, .int (nI j)), (4, .int (nI s)), (5, .int (nI k))] [] T (rz_i K) := by
  have hN := tN_b h2
  have hsb := sct_b h1 h2
  intro w
  induction w with
  | zero => intro k T c1 c2; omega
  | succ w ih =>
    intro k T c1 c2 hL hF
    refine p_M_format_119 ⟨fun c => ?_, fun c => ?_⟩
    · have : 5 ≤ k := (nI_leI (a := 5) (by omega) (by omega)).mp c
      have e : k = 5 := by omega
      subst e
      exact kk T (by rw [show 976 * s + 232 = 976 * s + 192 + 8 * 5 by omega]; exact hL) hF
    · have hk : ¬ 5 ≤ k := fun z => c (nI_le (a := 5) z (by omega))
      rw [nI_1]
      refine rz_useV (c_M_lays (v := 255) h1 h2 (by omega) (by omega) (fun q hq => ?_) hL) (fun T1 r => ?_)
      · rw [t255 q hq, show 976 * s + 192 + 8 * k + q = 976 * s + (192 + (8 * k + q)) by omega, Gf_at hs (by omega), if_neg (by omega), if_neg (by omega), if_neg (by omega), if_pos (by omega)]
      · obtain ⟨l1, f1⟩ := r
        rw [show 976 * s + 192 + 8 * k + 8 = 976 * s + 192 + 8 * (k + 1) by omega] at l1
        exact ih (k + 1) T1 (by omega) (by omega) l1 (fM_t hF (fM_h f1))
theorem lp_fm96 (h1 : 1 ≤ t) (h2 : t ≤ 12) (hs : s < sct t) (kk : ∀ T, LM b t 0 (976 * s + 192) (Gf t i j) T → fM t S T → rz mM_format 119 [(0, .ref 116), (1, .int (nI t)), (2, .int (nI i)), (3, .int (nI j)), (4, .int (nI s)), (5, .int (nI 0))] [] T (rz_i K)) : ∀ (w k : Nat) (T : rz_S), 9 < w + k → k ≤ 9 → LM b t 0 (976 * s + 120 + 8 * k) (Gf t i j) T → fM t S T → rz mM_format 96 [(0, .ref 116), (1, .int (nI t)), (2, .int (nI i)), (3, .int (nI j)), (4, .int (nI s)), (5, .int (nI k))] [] T (rz_i K) := by
  have hN := tN_b h2
  have hsb := sct_b h1 h2
  intro w
  induction w with
  | zero => intro k T c1 c2; omega
  | succ w ih =>
    intro k T c1 c2 hL hF
    refine p_M_format_96 ⟨fun c => ?_, fun c => ?_⟩
    · have : 9 ≤ k := (nI_leI (a := 9) (by omega) (by omega)).mp c
      have e : k = 9 := by omega
      subst e
      exact kk T (by rw [show 976 * s + 192 = 976 * s + 120 + 8 * 9 by omega]; exact hL) hF
    · have hk : ¬ 9 ≤ k := fun z => c (nI_le (a := 9) z (by omega))
      rw [nI_1]
      refine rz_useV (c_M_lays (v := 85) h1 h2 (by omega) (by omega) (fun q hq => ?_) hL) (fun T1 r => ?_)
      · rw [t85 q hq, show 976 * s + 120 + 8 * k + q = 976 * s + (120 + (8 * k + q)) by omega, Gf_at hs (by omega), if_neg (by omega), if_neg (by omega), if_pos (by omega), show (120 + (8 * k + q)) % 2 = q % 2 by omega]
      · obtain ⟨l1, f1⟩ := r
        rw [show 976 * s + 120 + 8 * k + 8 = 976 * s + 120 + 8 * (k + 1) by omega] at l1
        exact ih (k + 1) T1 (by omega) (by omega) l1 (fM_t hF (fM_h f1))
theorem lp_fm68 (h1 : 1 ≤ t) (h2 : t ≤ 12) (hs : s < sct t) (kk : ∀ T, LM b t 0 (976 * s + 120) (Gf t i j) T → fM t S T → rz mM_format 96 [(0, .ref 116), (1, .int (nI t)), (2, .int (nI i)), (3, .int (nI j)), (4, .int (nI s)), (5, .int (nI 0))] [] T (rz_i K)) : ∀ (w k : Nat) (T : rz_S), 10 < w + k → k ≤ 10 → LM b t 0 (976 * s + 40 + 8 * k) (Gf t i j) T → fM t S T → (∀ q, q < 10 → T.1 120 q = by8 (gb (hpl t s i j)) (8 * q)) → rz mM_format 68 [(0, .ref 116), (1, .int (nI t)), (2, .int (nI i)), (3, .int (nI j)), (4, .int (nI s)), (5, .int (nI k))] [] T (rz_i K) := by
  have hN := tN_b h2
  have hsb := sct_b h1 h2
  intro w
  induction w with
  | zero => intro k T c1 c2; omega
  | succ w ih =>
    intro k T c1 c2 hL hF h120
    refine p_M_format_68 ⟨fun c => ?_, fun c => ⟨rin (by have : ¬ 10 ≤ k := fun z => c (nI_le (a := 10) z (by omega)); omega) (by omega), ?_⟩⟩
    · have : 10 ≤ k := (nI_leI (a := 10) (by omega) (by omega)).mp c
      have e : k = 10 := by omega
      subst e
      exact kk T (by rw [show 976 * s + 120 = 976 * s + 40 + 8 * 10 by omega]; exact hL) hF
    · have hk : ¬ 10 ≤ k := fun z => c (nI_le (a := 10) z (by omega))
      rw [nI_clamp (by omega), h120 k (by omega), nI_1]
      refine rz_useV (c_M_lays (v := vl (gb (hpl t s i j)) (8 * k) 8) h1 h2 (by omega) (by omega) (fun q hq => ?_) hL) (fun T1 r => ?_)
      · rw [by8_v _ _ q hq, show 976 * s + 40 + 8 * k + q = 976 * s + (40 + (8 * k + q)) by omega, Gf_at hs (by omega), if_neg (by omega), if_pos (by omega), show 40 + (8 * k + q) - 40 = 8 * k + q by omega]
      · obtain ⟨l1, f1⟩ := r
        rw [show 976 * s + 40 + 8 * k + 8 = 976 * s + 40 + 8 * (k + 1) by omega] at l1
        exact ih (k + 1) T1 (by omega) (by omega) l1 (fM_t hF (fM_h f1)) (fun q hq => by rw [f1.1 120 (by omega)]; exact h120 q hq)
theorem lp_fm36 (h1 : 1 ≤ t) (h2 : t ≤ 12) (hs : s < sct t) (kk : ∀ T, LM b t 0 (976 * s + 40) (Gf t i j) T → fM t S T → rz_ev mM_header [.ref 116, .int (nI t), .int (nI s), .int (nI i), .int (nI j)] T (rz_v (fun Sq2 => rz mM_format 68 [(0, .ref 116), (1, .int (nI t)), (2, .int (nI i)), (3, .int (nI j)), (4, .int (nI s)), (5, .int (nI 0))] [] Sq2 (rz_i K)))) : ∀ (w k : Nat) (T : rz_S), 5 < w + k → k ≤ 5 → LM b t 0 (976 * s + 0 + 8 * k) (Gf t i j) T → fM t S T → rz mM_format 36 [(0, .ref 116), (1, .int (nI t)), (2, .int (nI i)), (3, .int (nI j)), (4, .int (nI s)), (5, .int (nI k))] [] T (rz_i K) := by
  have hN := tN_b h2
  have hsb := sct_b h1 h2
  intro w
  induction w with
  | zero => intro k T c1 c2; omega
  | succ w ih =>
    intro k T c1 c2 hL hF
    refine p_M_format_36 ⟨fun c => ?_, fun c => ?_⟩
    · have : 5 ≤ k := (nI_leI (a := 5) (by omega) (by omega)).mp c
      have e : k = 5 := by omega
      subst e
      exact kk T (by rw [show 976 * s + 40 = 976 * s + 0 + 8 * 5 by omega]; exact hL) hF
    · have hk : ¬ 5 ≤ k := fun z => c (nI_le (a := 5) z (by omega))
      rw [nI_1]
      refine rz_useV (c_M_lays (v := 255) h1 h2 (by omega) (by omega) (fun q hq => ?_) hL) (fun T1 r => ?_)
      · rw [t255 q hq, show 976 * s + 0 + 8 * k + q = 976 * s + (0 + (8 * k + q)) by omega, Gf_at hs (by omega), if_pos (by omega)]
      · obtain ⟨l1, f1⟩ := r
        rw [show 976 * s + 0 + 8 * k + 8 = 976 * s + 0 + 8 * (k + 1) by omega] at l1
        exact ih (k + 1) T1 (by omega) (by omega) l1 (fM_t hF (fM_h f1))
theorem lp_fm205 (h1 : 1 ≤ t) (h2 : t ≤ 12) (kk : ∀ T, RfH T t (fmb t i j) → fM t S T → K 0 T) : ∀ (w n : Nat) (T : rz_S), tN t < w + n → n ≤ tN t → 122 * sct t ≤ n → LM b t 0 (8 * n) (Gf t i j) T → fM t S T → rz mM_format 205 [(0, .ref 116), (1, .int (nI t))] [] T (rz_i K) := by
  have hN := tN_b h2
  have hsb := sct_b h1 h2
  intro w
  induction w with
  | zero => intro n T c1 c2; omega
  | succ w ih =>
    intro n T c1 c2 c3 hL hF
    refine p_M_format_205 ?_
    rw [hL.2]
    by_cases e : n = tN t
    · subst e
      have e0 : nxp (8 * tN t) 0 (8 * tN t) = 0 := by unfold nxp; rw [if_neg (by omega)]; omega
      rw [e0]
      refine ⟨fun _ => kk T ?_ hF, fun z => absurd rfl z⟩
      have := hL.1
      rw [pw_all h2] at this
      exact this
    · have e0 : nxp (8 * tN t) 0 (8 * n) = 8 * n := by unfold nxp; rw [if_pos (by omega)]; omega
      rw [e0]
      refine ⟨fun z => absurd z (nI_ne0 (by omega) (by omega)), fun _ => ?_⟩
      refine rz_useV (c_M_lays (v := 85) h1 h2 (by omega) (by omega) (fun q hq => ?_) hL) (fun T1 r => ?_)
      · rw [t85 q hq]
        unfold Gf
        rw [if_neg (by omega), show (8 * n + q) % 2 = q % 2 by omega]
      · obtain ⟨l1, f1⟩ := r
        rw [show 8 * n + 8 = 8 * (n + 1) by omega] at l1
        exact ih (n + 1) T1 (by omega) (by omega) (by omega) l1 (fM_t hF (fM_h f1))
end FMM
theorem c_M_format {S : rz_S} {B : Nat → Nat → Bool} {pr : Bool} {t i j : Nat} (hX : MRs S B) (hpr : S.2 116 1 = nI pr.toNat) (h1 : 1 ≤ t) (h2 : t ≤ 12) (hz : ∀ k, k < 64 → S.1 122 k = 0) (hi : i < 256) (hj : j < 256) : rz_ev mM_format [.ref 116, .int (nI t), .int (nI i), .int (nI j)] S (rz_i (fmM pr t i j S)) := by
  have hN := tN_b h2
  have hsb := sct_b h1 h2
  obtain ⟨hb, hR⟩ := hX t h1 h2
  show rz _ 0 [(0, .ref 116), (1, .int (nI t)), (2, .int (nI i)), (3, .int (nI j))] [] _ _
  refine p_M_format_0 ?_
  rw [hpr]
  refine ⟨fun z => ?_, fun z => ?_⟩
  · have hp0 := (nI_b0 _).mp z
    have lp : ∀ (w s : Nat) (T : rz_S), sct t < w + s → s ≤ sct t → LM (B t) t 0 (976 * s) (Gf t i j) T → fM t S T → rz mM_format 24 [(0, .ref 116), (1, .int (nI t)), (2, .int (nI i)), (3, .int (nI j)), (4, .int (nI s))] [] T (rz_i (fmM pr t i j S)) := by
      intro w
      induction w with
      | zero => intro s T c1 c2; omega
      | succ w ih =>
        intro s T c1 c2 hL hF
        refine p_M_format_24 (rz_toI (c_M_sects h1 h2) ⟨fun c => ?_, fun c => ?_⟩)
        · have : sct t ≤ s := (nI_leI (by omega) (by omega)).mp c
          have e : s = sct t := by omega
          subst e
          rw [show 976 * sct t = 8 * (122 * sct t) by omega] at hL
          exact lp_fm205 (S := S) (b := B t) h1 h2 (fun T1 r1 f1 => Or.inr ⟨hp0, rfl, f1, r1⟩) (tN t + 1) (122 * sct t) T (by omega) (by omega) (Nat.le_refl _) hL hF
        · have hs : s < sct t := Nat.lt_of_not_le fun z => c (nI_le z (by omega))
          refine lp_fm36 (S := S) (b := B t) h1 h2 hs (fun T1 l1 f1 => ?_) 6 0 T (by omega) (by omega) hL hF
          refine rz_useV (c_M_header (by omega) (by omega) hi hj) (fun T2 r2 => ?_)
          obtain ⟨f, g, rfl, hg⟩ := r2
          refine lp_fm68 (S := S) (b := B t) h1 h2 hs (fun T3 l3 f3 => ?_) 11 0 _ (by omega) (by omega) (LM_a l1) (fM_t f1 fM_a) (fun q hq => by rw [rz_fA_s]; exact hg q hq)
          refine lp_fm96 (S := S) (b := B t) h1 h2 hs (fun T4 l4 f4 => ?_) 10 0 T3 (by omega) (by omega) l3 f3
          refine lp_fm119 (S := S) (b := B t) h1 h2 hs (fun T5 l5 f5 => ?_) 6 0 T4 (by omega) (by omega) l4 f4
          refine rz_useV (c_M_data (a := 122) (at0 := 0) (na := 64) (r := fun _ => 0) rfl (by omega) (by omega) (by omega) (fun k hk => ⟨by rw [f5.1 122 (by omega) (by omega), Nat.zero_add]; exact hz k hk, by omega⟩)) (fun T6 r6 => ?_)
          obtain ⟨f', g', rfl, hg'⟩ := r6
          refine lp_fm151 (S := S) (b := B t) h1 h2 hs (fun T7 l7 f7 => ?_) 86 0 _ (by omega) (by omega) (LM_a l5) (fM_t f5 fM_a) (fun q hq => by rw [rz_fA_s]; exact hg' q hq)
          refine lp_fm179 (S := S) (b := B t) h1 h2 hs (fun T8 l8 f8 => ?_) 9 0 T7 (by omega) (by omega) l7 f7
          rw [nI_1]
          rw [show 976 * s + 976 = 976 * (s + 1) by omega] at l8
          exact ih (s + 1) T8 (by omega) (by omega) l8 f8
    refine lp (sct t + 1) 0 _ (by omega) (by omega) ⟨?_, ?_⟩ ⟨fun _ _ _ => rfl, fun _ _ => rfl, fun u z h => rz_uI_n h⟩
    · rw [show 976 * 0 = 0 from rfl, pw_0 hb (by omega)]
      exact hR
    · rw [rz_uI_s]
      show (0 : Int32) = nI (nxp (8 * tN t) 0 (976 * 0))
      unfold nxp
      rw [if_pos (by omega)]
      rfl
  · have hp1 : pr = true := Bool.of_not_eq_false fun q => z ((nI_b0 _).mpr q)
    exact rz_toI (c_fault _ _ _) (Or.inl ⟨hp1, rfl, rfl⟩)
