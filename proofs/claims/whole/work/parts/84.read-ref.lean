/-! READ: the reference -/
def kFa (a at0 : Nat) (S S1 : rz_S) : Prop := (∀ q, ¬ (118 ≤ q ∧ q ≤ 121) → q ≠ a → S1.1 q = S.1 q) ∧ (∀ i, (i < at0 ∨ at0 + 64 ≤ i) → S1.1 a i = S.1 a i) ∧ ∀ u z, ¬ (u = 116 ∧ (2 ≤ z ∧ z ≤ 15 ∨ z = 20)) → S1.2 u z = S.2 u z
theorem kFa_k {a at0 : Nat} {S S1 : rz_S} (ha : ¬ (118 ≤ a ∧ a ≤ 121)) (h : kF S S1) : kFa a at0 S S1 := ⟨fun q h1 _ => h.1 q h1, fun i _ => by rw [h.1 a ha], h.2⟩
theorem kFa_t {a at0 : Nat} {S S1 S2 : rz_S} (h1 : kFa a at0 S S1) (h2 : kFa a at0 S1 S2) : kFa a at0 S S2 := ⟨fun q h h' => (h2.1 q h h').trans (h1.1 q h h'), fun i h => (h2.2.1 i h).trans (h1.2.1 i h), fun u z h => (h2.2.2 u z h).trans (h1.2.2 u z h)⟩
def rdM (B : Nat → Nat → Bool) (id : Option (Nat × Nat)) (t s a at0 : Nat) (S : rz_S) (r : Int32) (S1 : rz_S) : Prop := ∃ x ft fs id' d, JR B id t s x ft fs id' d ∧ r = nI x ∧ x < 100 ∧ IDm S1 id' ∧ kFa a at0 S S1 ∧
  (x = 0 → ∀ k, k < 64 → S1.1 a (at0 + k) = nI (d k) ∧ d k < 256) ∧ (x ≠ 0 → S1.1 a = S.1 a ∧ S1.2 116 4 = nI ft ∧ S1.2 116 5 = nI fs)
theorem kF_id2 {S : rz_S} {id : Option (Nat × Nat)} {j : Nat} {x : Int32} (h : IDm S id) (hj : j ≠ 2 ∧ j ≠ 3) : IDm (rz_uI S 116 j x) id := by
  cases id with
  | none => exact ⟨(rz_uI_n (by omega)).trans h.1, (rz_uI_n (by omega)).trans h.2⟩
  | some q =>
    obtain ⟨i, k⟩ := q
    exact ⟨(rz_uI_n (by omega)).trans h.1, (rz_uI_n (by omega)).trans h.2.1, h.2.2⟩
theorem IDm_a {S : rz_S} {k : Nat} {f : Nat → Int32} {id : Option (Nat × Nat)} (h : IDm S id) : IDm (rz_fA S k f) id := by
  cases id with
  | none => exact h
  | some q => obtain ⟨i, j⟩ := q; exact h
theorem c_M_readBlock {S : rz_S} {B : Nat → Nat → Bool} {id : Option (Nat × Nat)} {t s a at0 na : Nat} (hX : MRs S B) (hid : IDm S id) (h1 : 1 ≤ t) (h2 : t ≤ 12) (hs : s < 256) (ha : rz_T[a]? = some (.inl (0, na))) (ha1 : ¬ (117 ≤ a ∧ a ≤ 121)) (hat : at0 + 64 ≤ na) (hna : na ≤ 1000) : rz_ev mM_readBlock [.ref 116, .int (nI t), .int (nI s), .ref a, .int (nI at0)] S (rz_i (rdM B id t s a at0 S)) := by
  have hN := tN_b h2
  have go : ∀ (T : rz_S) (i j : Nat), TIx B id (some (i, j)) → kF S T → IDm T (some (i, j)) → rz mM_readBlock 22 [(0, .ref 116), (1, .int (nI t)), (2, .int (nI s)), (3, .ref a), (4, .int (nI at0))] [] T (rz_i (rdM B id t s a at0 S)) := by
    intro T i j hti hT hidT
    obtain ⟨hb, hR⟩ := hX t h1 h2
    have hRT := kF_H hR hT
    -- a fault
    have bad : ∀ (U : rz_S) (x : Nat) (d : Nat → Nat), mF T U → x ≠ 0 → x < 100 → RDk (B t) (gb (hpl t s i j)) (8 * tN t) x d → rz_ev mM_fault [.ref 116, .int (nI x), .int (nI t), .int (nI s)] U (rz_i (rdM B id t s a at0 S)) := by
      intro U x d hU x0 x100 hrd
      refine rz_toI (c_fault _ _ _) ?_
      refine ⟨x, t, s, some (i, j), d, ⟨hti, Or.inr ⟨i, j, rfl, rfl, rfl, hrd⟩⟩, rfl, x100, kF_id2 (kF_id2 (mF_id hidT hU) (by omega)) (by omega), kFa_k (by omega) (kF_t hT (kF_t (kF_m hU) (kF_t (kF_u (by omega)) (kF_u (by omega))))), fun z => absurd z x0, fun _ => ⟨?_, (rz_uI_n (by omega)).trans rz_uI_s, rz_uI_s⟩⟩
      show U.1 a = S.1 a
      rw [hU.1 a (by omega), hT.1 a (by omega)]
    refine p_M_readBlock_22 ha (rz_useI (c_M_seek h1 h2 hb hRT hs hidT.2.2.1 hidT.2.2.2 hidT.1 hidT.2.1) (fun x U r => ?_))
    obtain ⟨fU, r⟩ := r
    rcases r with ⟨q1, rfl⟩ | ⟨q1, q2, rfl⟩ | ⟨p, q1, q2, q3, q4, rfl, q5⟩
    · exact ⟨fun z => absurd z (by decide), fun _ => bad U 21 (fun _ => 0) fU (by omega) (by omega) (Or.inl ⟨q1, rfl⟩)⟩
    · exact ⟨fun z => absurd z (by decide), fun _ => bad U 20 (fun _ => 0) fU (by omega) (by omega) (Or.inr (Or.inl ⟨q1, q2, rfl⟩))⟩
    · refine ⟨fun _ => ?_, fun z => absurd rfl z⟩
      obtain ⟨n, hn, hg⟩ := ga_ex hb (by omega) q1 q2 (p + 80)
      refine rz_useV (c_M_gets h1 h2 hb (mF_H hRT fU) q5 q1 q2.1 hg) (fun V rV => ?_)
      obtain ⟨fV, _, hV⟩ := rV
      have hcV : ∀ j, j < 85 → V.1 121 j = by8 (cbf (B t) (8 * tN t) (sq (B t) (8 * tN t) (p + 80) (n + 1))) (8 * j) := fun j hj => by rw [hV j hj, cbf_by]
      have mk : ∀ {x : Nat} {d : Nat → Nat}, DTp (cbf (B t) (8 * tN t) (sq (B t) (8 * tN t) (p + 80) (n + 1))) x d → RDk (B t) (gb (hpl t s i j)) (8 * tN t) x d := fun hdt => Or.inr (Or.inr ⟨p, n, q1, q2, q3, q4, hg, hdt⟩)
      generalize cbf (B t) (8 * tN t) (sq (B t) (8 * tN t) (p + 80) (n + 1)) = c at hcV mk
      have fTV : mF T V := mF_t fU fV
      have v5 := vl_lt c 0 5
      have v55 := vl_lt c 5 5
      have e10 : vl c 0 10 = vl c 0 5 * 32 + vl c 5 5 := by
        have := vl_add c 0 5 5
        rw [Nat.zero_add] at this
        exact this
      -- behind the copying
      have fin : ∀ f : Nat → Int32, (∀ j, j < 85 → f j = by8 c (8 * j)) → rz mM_readBlock 51 [(0, .ref 116), (1, .int (nI t)), (2, .int (nI s)), (3, .ref a), (4, .int (nI at0)), (6, .int (nI 85))] [] (rz_fA V 120 f) (rz_i (rdM B id t s a at0 S)) := by
        intro f hf
        have h120 : ∀ j, j < 85 → (rz_fA V 120 f).1 120 j = by8 c (8 * j) := fun j hj => by rw [rz_fA_s]; exact hf j hj
        have fW : mF T (rz_fA V 120 f) := mF_t fTV (mF_a (by omega))
        generalize rz_fA V 120 f = W at h120 fW
        have b22 : ¬ vl c 0 10 = 343 → rz mM_readBlock 103 [(0, .ref 116), (1, .int (nI t)), (2, .int (nI s))] [] W (rz_i (rdM B id t s a at0 S)) := fun h => p_M_readBlock_103 (bad W 22 (fun _ => 0) fW (by omega) (by omega) (mk (Or.inl ⟨h, rfl⟩)))
        refine p_M_readBlock_51 ha ⟨fun _ => ?_, fun z => absurd (Int32.le_refl _) z⟩
        refine rz_toI (c_M_group (k := 0) (m := 85) (cb := c) (by omega) (by omega) h120) ?_
        refine rz_toI (c_M_groupOf (v := 0) (by omega)) ⟨fun z => ?_, fun z => b22 (fun q => z ?_)⟩
        · have z1 : vl c 0 5 = 10 := (nI_eq (b := 10) (by omega) (by omega)).mp z
          refine rz_toI (c_M_group (k := 1) (m := 85) (cb := c) (by omega) (by omega) h120) ?_
          refine rz_toI (c_M_groupOf (v := 7) (by omega)) ⟨fun z2 => ?_, fun z2 => b22 (fun q => z2 ?_)⟩
          · have z3 : vl c 5 5 = 23 := (nI_eq (b := 23) (by omega) (by omega)).mp z2
            have yes : vl c 0 10 = 343 := by omega
            refine rz_useI (c_M_reads (n := 68) (m := 85) (cb := c) (by omega) (by omega) h120) (fun x Y r => ?_)
            rcases r with ⟨v, rfl, g, rfl, hg2⟩ | ⟨v, rfl, g, rfl⟩
            · refine ⟨fun z => absurd z (by decide), fun _ => ?_⟩
              have lt : ∀ j, j < 68 → dec c j < 256 := fun j hj => dec_lt v (by omega)
              have h119 : ∀ j, j < 68 → (rz_fA W 119 g).1 119 j = nI (dec c j) := fun j hj => by rw [rz_fA_s]; exact hg2 j hj
              have fY : mF T (rz_fA W 119 g) := mF_t fW (mF_a (by omega))
              generalize rz_fA W 119 g = Y at h119 fY
              -- the copy
              have cp : xk (dec c) 64 = dec c 65 → ∀ (w k : Nat) (f : Nat → Int32), 64 < w + k → k ≤ 64 → (∀ u, u < k → f (at0 + u) = nI (dec c (1 + u))) → (∀ u, (u < at0 ∨ at0 + 64 ≤ u) → f u = Y.1 a u) → rz mM_readBlock 186 [(0, .ref 116), (3, .ref a), (4, .int (nI at0)), (7, .int (nI k))] [] (rz_fA Y a f) (rz_i (rdM B id t s a at0 S)) := by
                intro hsum w
                induction w with
                | zero => intro k f c1 c2; omega
                | succ w ih =>
                  intro k f c1 c2 hf1 hf2
                  refine p_M_readBlock_186 ha ⟨fun d => ?_, fun d => ?_⟩
                  · have : 64 ≤ k := (nI_leI (a := 64) (by omega) (by omega)).mp d
                    refine ⟨0, t, s, some (i, j), fun k => dec c (1 + k), ⟨hti, Or.inr ⟨i, j, rfl, rfl, rfl, mk (Or.inr (Or.inr (Or.inr ⟨yes, v, hsum, rfl, fun _ _ => rfl⟩)))⟩⟩, rfl, by omega, ?_, ?_, fun _ k hk => ?_, fun z => absurd rfl z⟩
                    · exact IDm_a (mF_id hidT fY)
                    · refine kFa_t (kFa_k (by omega) (kF_t hT (kF_m fY))) ⟨fun q _ hq => rz_fA_n hq, fun u hu => ?_, fun _ _ _ => rfl⟩
                      rw [rz_fA_s]
                      exact hf2 u hu
                    · rw [rz_fA_s]
                      exact ⟨hf1 k (by omega), lt (1 + k) (by omega)⟩
                  · have hk : ¬ 64 ≤ k := fun z => d (nI_le (a := 64) z (by omega))
                    rw [show (1 : Int32) + nI k = nI (1 + k) from nI_add 1 k, nI_add, nI_1]
                    refine ⟨rin (by omega) (by omega), rin (by omega) (by omega), ?_⟩
                    rw [nI_clamp (by omega), nI_clamp (by omega), rz_fA_s, rz_fAA, rz_fA_n (by omega), h119 (1 + k) (by omega)]
                    refine ih (k + 1) _ (by omega) (by omega) (fun u hu => ?_) (fun u hu => ?_)
                    · by_cases e : u = k
                      · subst e; exact pk_us
                      · rw [pk_un (by omega)]; exact hf1 u (by omega)
                    · rw [pk_un (by omega)]; exact hf2 u hu
              have lp : ∀ (w q : Nat), 64 < w + q → q ≤ 64 → rz mM_readBlock 137 [(0, .ref 116), (1, .int (nI t)), (2, .int (nI s)), (3, .ref a), (4, .int (nI at0)), (6, .int (nI (xk (dec c) q))), (7, .int (nI (q + 1)))] [] Y (rz_i (rdM B id t s a at0 S)) := by
                intro w
                induction w with
                | zero => intro q c1 c2; omega
                | succ w ih =>
                  intro q c1 c2
                  have hx := xk_lt (f := dec c) q (fun j hj => lt j (by omega))
                  refine p_M_readBlock_137 ha ⟨fun d => ?_, fun d => ⟨rin ?_ (by omega), ?_⟩⟩
                  · have : 64 < q + 1 := (nI_ltI (a := 64) (by omega) (by omega)).mp d
                    have e : q = 64 := by omega
                    subst e
                    rw [h119 65 (by omega)]
                    have l65 := lt 65 (by omega)
                    refine ⟨fun z => ?_, fun z => bad Y 23 (fun _ => 0) fY (by omega) (by omega) (mk (Or.inr (Or.inr (Or.inl ⟨yes, v, fun q2 => z (by rw [q2]), rfl⟩))))⟩
                    have hsum := (nI_eq (by omega) (by omega)).mp z
                    have := cp hsum 65 0 (Y.1 a) (by omega) (by omega) (fun u hu => by omega) (fun u _ => rfl)
                    rw [rz_fA_self] at this
                    exact this
                  · have : ¬ 64 < q + 1 := fun z => d (nI_lt (a := 64) z (by omega))
                    omega
                  · have : ¬ 64 < q + 1 := fun z => d (nI_lt (a := 64) z (by omega))
                    rw [nI_clamp (by omega), h119 (q + 1) (by omega), nx_xor, nI_1]
                    exact ih (q + 1) (by omega) (by omega)
              exact lp 65 0 (by omega) (by omega)
            · exact ⟨fun _ => bad _ 24 (fun _ => 0) (mF_t fW (mF_a (by omega))) (by omega) (by omega) (mk (Or.inr (Or.inl ⟨yes, v, rfl⟩))), fun z => absurd rfl z⟩
          · have : vl c 5 5 = 23 := by omega
            show nI (vl c (5 * 1) 5) = nI (gr 7)
            rw [show 5 * 1 = 5 from rfl, this]
            rfl
        · have : vl c 0 5 = 10 := by omega
          show nI (vl c (5 * 0) 5) = nI (gr 0)
          rw [show 5 * 0 = 0 from rfl, this]
          rfl
      -- the copying
      have lp51 : ∀ (w q : Nat) (f : Nat → Int32), 85 < w + q → q ≤ 85 → (∀ j, j < q → f j = by8 c (8 * j)) → rz mM_readBlock 51 [(0, .ref 116), (1, .int (nI t)), (2, .int (nI s)), (3, .ref a), (4, .int (nI at0)), (6, .int (nI q))] [] (rz_fA V 120 f) (rz_i (rdM B id t s a at0 S)) := by
        intro w
        induction w with
        | zero => intro q f c1 c2; omega
        | succ w ih =>
          intro q f c1 c2 hf
          by_cases e : q = 85
          · subst e
            exact fin f hf
          · refine p_M_readBlock_51 ha ⟨fun z => absurd z (nI_ge (a := q) (b := 85) (by omega) (by omega)), fun _ => ⟨rin (by omega) (by omega), ?_⟩⟩
            rw [nI_clamp (by omega), nI_1, rz_fA_s, rz_fAA, rz_fA_n (by omega), hcV q (by omega)]
            refine ih (q + 1) _ (by omega) (by omega) (fun j hj => ?_)
            by_cases e2 : j = q
            · subst e2; exact pk_us
            · rw [pk_un e2]; exact hf j (by omega)
      have := lp51 86 0 (V.1 120) (by omega) (by omega) (fun j hj => by omega)
      rw [rz_fA_self] at this
      exact this
  show rz _ 0 [(0, .ref 116), (1, .int (nI t)), (2, .int (nI s)), (3, .ref a), (4, .int (nI at0))] [] _ _
  refine p_M_readBlock_0 ha ?_
  cases id with
  | some q =>
    obtain ⟨i, j⟩ := q
    rw [hid.1]
    exact ⟨fun z => absurd z (nI_m1 (by have := hid.2.2.1; omega)), fun _ => go S i j (Or.inl ⟨fun z => (by cases z), rfl⟩) (kF_r S) hid⟩
  | none =>
    refine ⟨fun _ => ?_, fun z => absurd hid.1 z⟩
    obtain ⟨hb7, hR7⟩ := hX 7 (by omega) (by omega)
    refine rz_useI (c_M_takeId hb7 hR7) (fun x T r => ?_)
    obtain ⟨fT, id1, ti, idT, ⟨n0, rfl⟩ | ⟨n0, rfl, k4, k5⟩⟩ := r
    · refine ⟨fun _ => ?_, fun z => absurd rfl z⟩
      cases id1 with
      | none => exact absurd rfl n0
      | some q =>
        obtain ⟨i, j⟩ := q
        exact go T i j (Or.inr ⟨rfl, ti⟩) fT idT
    · subst n0
      refine ⟨fun z => absurd z (by decide), fun _ => ?_⟩
      exact ⟨74, 7, 0, none, fun _ => 0, ⟨Or.inr ⟨rfl, ti⟩, Or.inl ⟨rfl, rfl, rfl, rfl⟩⟩, rfl, by omega, idT, kFa_k (by omega) fT, fun z => by omega, fun _ => ⟨fT.1 a (by omega), k4, k5⟩⟩
