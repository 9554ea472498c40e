/-! the group code: the reference's codes, reads; the class's decode -/
theorem gk {v : Nat} (j : Nat) (hj : j < 16) (hv : v < 16) (c : nI v = nI j) : nI (gr j) = nI (gr v) := by rw [(nI_eq (by omega) (by omega)).mp c]
theorem gk0 {v : Nat} (hv : v < 16) (c : (nI v).toInt < 0 ∨ 14 < (nI v).toInt) : (21 : Int32) = nI (gr v) := by
  rw [nI_toInt (by omega)] at c
  have : v = 15 := by omega
  subst this
  rfl
theorem c_M_groupOf {S : rz_S} {v : Nat} (hv : v < 16) : rz_ev mM_groupOf [.int (nI v)] S (rz_i (fun x S1 => x = nI (gr v) ∧ S1 = S)) := by
  show rz _ 0 [(0, .int (nI v))] [] _ _
  exact p_M_groupOf_0 ⟨fun c => ⟨gk0 hv c, rfl⟩, fun c => ⟨(show (10 : Int32) = nI (gr v) from gk 0 (by omega) hv c), rfl⟩, fun c => ⟨(show (11 : Int32) = nI (gr v) from gk 1 (by omega) hv c), rfl⟩, fun c => ⟨(show (18 : Int32) = nI (gr v) from gk 2 (by omega) hv c), rfl⟩, fun c => ⟨(show (19 : Int32) = nI (gr v) from gk 3 (by omega) hv c), rfl⟩, fun c => ⟨(show (14 : Int32) = nI (gr v) from gk 4 (by omega) hv c), rfl⟩, fun c => ⟨(show (15 : Int32) = nI (gr v) from gk 5 (by omega) hv c), rfl⟩, fun c => ⟨(show (22 : Int32) = nI (gr v) from gk 6 (by omega) hv c), rfl⟩, fun c => ⟨(show (23 : Int32) = nI (gr v) from gk 7 (by omega) hv c), rfl⟩, fun c => ⟨(show (9 : Int32) = nI (gr v) from gk 8 (by omega) hv c), rfl⟩, fun c => ⟨(show (25 : Int32) = nI (gr v) from gk 9 (by omega) hv c), rfl⟩, fun c => ⟨(show (26 : Int32) = nI (gr v) from gk 10 (by omega) hv c), rfl⟩, fun c => ⟨(show (27 : Int32) = nI (gr v) from gk 11 (by omega) hv c), rfl⟩, fun c => ⟨(show (13 : Int32) = nI (gr v) from gk 12 (by omega) hv c), rfl⟩, fun c => ⟨(show (29 : Int32) = nI (gr v) from gk 13 (by omega) hv c), rfl⟩, fun c => ⟨(show (30 : Int32) = nI (gr v) from gk 14 (by omega) hv c), rfl⟩⟩
theorem b_mask : ∀ k, k < 8 → ∀ u, u < 32 → bt (((1 : Int32) <<< (nI k &&& 31)) - 1) u = decide (u < k) := by decide +kernel
theorem lp_M_codes {S : rz_S} {n : Nat} {pl : Nat → Nat} (hn : n ≤ 68) (hp : ∀ j, j < n → S.1 119 j = nI (pl j) ∧ pl j < 256) : ∀ (w i : Nat) (h : Int32) (f : Nat → Int32), 2 * n < w + i → i ≤ 2 * n → (∀ u, u < 5 * i % 8 → bt h u = gb pl (5 * i - 1 - u)) → (∀ j, j < 5 * i / 8 → f j = by8 (gb pl) (8 * j)) → rz mM_codes 10 [(0, .ref 116), (1, .int (nI n)), (2, .int h), (3, .int (nI (5 * i % 8))), (4, .int (nI (5 * i / 8))), (5, .int (nI i))] [] (rz_fA S 120 f) (rz_v (rwPut S 120 (10 * n / 8) (fun j => by8 (gb pl) (8 * j)))) := by
  intro w
  induction w with
  | zero => intro i h f c1 c2; omega
  | succ w ih =>
    intro i h f c1 c2 hh hf
    refine p_M_codes_10 ?_
    rw [show (2 : Int32) = nI 2 from rfl, pk_mul, pk_rem (by omega) (by omega) (by omega), pk_div (by omega) (by omega) (by omega)]
    refine ⟨fun c => ?_, fun c => ?_⟩
    · have : 2 * n ≤ i := (nI_leI (by omega) (by omega)).mp c
      have e : i = 2 * n := by omega
      subst e
      exact ⟨f, rfl, fun j hj => hf j (by omega)⟩
    · have hi : ¬ 2 * n ≤ i := fun z => c (nI_le z (by omega))
      have hpi := hp (i / 2) (by omega)
      rw [nI_clamp (by omega), rz_fA_n (by omega), hpi.1, sh4 (by omega), an15 (by omega)]
      have nb16 : nbl pl i < 16 := nbl_lt hpi.2
      have go : rz mM_codes 51 [(0, .ref 116), (1, .int (nI n)), (2, .int h), (3, .int (nI (5 * i % 8))), (4, .int (nI (5 * i / 8))), (5, .int (nI i))] [.int (nI (nbl pl i))] (rz_fA S 120 f) (rz_v (rwPut S 120 (10 * n / 8) (fun j => by8 (gb pl) (8 * j)))) := by
        refine p_M_codes_51 (rz_toI (c_M_groupOf nb16) ?_)
        rw [nI_1, show (5 : Int32) = nI 5 from rfl, nI_add]
        have hh5 := held5 (h' := (h <<< (nI 5 &&& 31)) ||| nI (gr (nbl pl i))) nb16 hh (by omega) (by omega) (fun u hu => rfl)
        refine ⟨fun d => ?_, fun d => ⟨rin ?_ ?_, ?_⟩⟩
        · have d1 : 5 * i % 8 + 5 < 8 := (nI_ltI (b := 8) (by omega) (by omega)).mp d
          have e1 : 5 * (i + 1) % 8 = 5 * i % 8 + 5 := by omega
          have e2 : 5 * (i + 1) / 8 = 5 * i / 8 := by omega
          have := ih (i + 1) ((h <<< (nI 5 &&& 31)) ||| nI (gr (nbl pl i))) f (by omega) (by omega) (by rw [e1]; exact hh5) (by rw [e2]; exact hf)
          rw [e1, e2] at this
          exact this
        · have : ¬ 5 * i % 8 + 5 < 8 := fun z => d (nI_lt (b := 8) z (by omega))
          omega
        · omega
        · have d1 : ¬ 5 * i % 8 + 5 < 8 := fun z => d (nI_lt (b := 8) z (by omega))
          have e1 : 5 * (i + 1) % 8 = 5 * i % 8 + 5 - 8 := by omega
          have e2 : 5 * (i + 1) / 8 = 5 * i / 8 + 1 := by omega
          have e3 : nI (5 * i % 8 + 5) - 8 = nI (5 * i % 8 + 5 - 8) := pk_sub (a := 5 * i % 8 + 5) (b := 8) (by omega)
          rw [e3, nI_1, nI_clamp (by omega), rz_fA_s, rz_fAA]
          have h8 := held8 (to := 5 * i / 8) (m := 5 * i % 8 + 5 - 8) (i := i) (fun u hu => hh5 u (by omega)) (by omega) (by omega)
          rw [h8]
          have := ih (i + 1) (((h <<< (nI 5 &&& 31)) ||| nI (gr (nbl pl i))) &&& ((1 <<< (nI (5 * i % 8 + 5 - 8) &&& 31)) - 1)) (upd f (5 * i / 8) (by8 (gb pl) (8 * (5 * i / 8)))) (by omega) (by omega) (by
            rw [e1]
            intro u hu
            rw [b_and, b_mask _ (by omega) u (by omega), decide_eq_true hu, Bool.and_true]
            exact hh5 u (by omega)) (by
            rw [e2]
            intro j hj
            by_cases ej : j = 5 * i / 8
            · subst ej; exact pk_us
            · rw [pk_un ej]; exact hf j (by omega))
          rw [e1, e2] at this
          exact this
      refine ⟨fun z => ⟨rin (by omega) (by omega), ?_⟩, fun z => ⟨rin (by omega) (by omega), ?_⟩⟩
      · have : i % 2 = 0 := (nI_eq (b := 0) (by omega) (by omega)).mp z
        have e : nbl pl i = pl (i / 2) / 16 := by unfold nbl; rw [if_pos this]
        rw [e] at go
        exact go
      · have : ¬ i % 2 = 0 := fun z2 => z (by rw [z2]; rfl)
        have e : nbl pl i = pl (i / 2) % 16 := by unfold nbl; rw [if_neg this]
        rw [e] at go
        exact go
theorem c_M_codes {S : rz_S} {n : Nat} {pl : Nat → Nat} (hn : n ≤ 68) (hp : ∀ j, j < n → S.1 119 j = nI (pl j) ∧ pl j < 256) : rz_ev mM_codes [.ref 116, .int (nI n)] S (rz_v (rwPut S 120 (10 * n / 8) (fun j => by8 (gb pl) (8 * j)))) := by
  show rz _ 0 [(0, .ref 116), (1, .int (nI n))] [] _ _
  refine p_M_codes_0 ?_
  have := lp_M_codes hn hp (2 * n + 1) 0 0 (S.1 120) (by omega) (by omega) (fun u hu => by omega) (fun j hj => by omega)
  rw [rz_fA_self] at this
  exact this
/-! decode -/
def gv (cb : Nat → Bool) (k : Nat) : Nat := dvN (vl cb (5 * k) 5)
def vld (cb : Nat → Bool) (n : Nat) : Prop := ∀ k, k < n → gv cb k < 16
def dec (cb : Nat → Bool) (j : Nat) : Nat := 16 * gv cb (2 * j) + gv cb (2 * j + 1)
/-- a row of which i half bytes have been set -/
def decRow (cb : Nat → Bool) (f : Nat → Int32) (i : Nat) : Prop := (∀ j, 2 * j + 1 < i → f j = nI (dec cb j)) ∧ (i % 2 = 1 → f (i / 2) = nI (16 * gv cb (i - 1)))
theorem decRow_s {cb : Nat → Bool} {f : Nat → Int32} {i : Nat} {x : Int32} (h : decRow cb f i) (hx : x = if i % 2 = 0 then nI (16 * gv cb i) else nI (16 * gv cb (i - 1) + gv cb i)) : decRow cb (upd f (i / 2) x) (i + 1) := by
  obtain ⟨h1, h2⟩ := h
  refine ⟨fun j hj => ?_, fun hi => ?_⟩
  · by_cases e : j = i / 2
    · subst e
      rw [pk_us, hx, if_neg (by omega)]
      unfold dec
      rw [show 2 * (i / 2) = i - 1 by omega, show i - 1 + 1 = i by omega]
    · rw [pk_un e]
      exact h1 j (by omega)
  · rw [show (i + 1) / 2 = i / 2 by omega, pk_us, hx, if_pos (by omega)]
    rfl
theorem vl_5 {cb : Nat → Bool} {h : Int32} {i m : Nat} (hh : ∀ u, u < m + 5 → bt h u = cb (5 * i + 4 + m - u)) (hm : m < 8) : (h >>> (nI m &&& 31)) &&& 31 = nI (vl cb (5 * i) 5) := by
  apply b_ext
  intro j hj
  rw [b_and, b_31, b_nI hj, vl_bit]
  by_cases c : j < 5
  · rw [decide_eq_true c, Bool.and_true, Bool.true_and, b_sshr m (by omega) _ hj, if_pos (by omega), hh (m + j) (by omega)]
    congr 1
    omega
  · rw [decide_eq_false c, Bool.and_false, Bool.false_and]
theorem or_half {a v : Nat} (ha : a < 16) (hv : v < 16) : nI (16 * a) ||| nI v = nI (16 * a + v) := by
  exact (by decide +kernel : ∀ a, a < 16 → ∀ v, v < 16 → nI (16 * a) ||| nI v = nI (16 * a + v)) a ha v hv
theorem shl_half {v : Nat} (hv : v < 16) : nI v <<< ((4 : Int32) &&& 31) = nI (16 * v) := (by decide +kernel : ∀ v, v < 16 → nI v <<< ((4 : Int32) &&& 31) = nI (16 * v)) v hv
theorem dvI_ge {g : Nat} : (0 ≤ dvI g) ↔ dvN g < 16 := by
  unfold dvI
  by_cases c : dvN g < 16
  · rw [if_pos c]
    exact ⟨fun _ => c, fun _ => nI_pos' (by omega)⟩
  · rw [if_neg c]
    exact ⟨fun z => absurd z (by decide), fun z => absurd z c⟩
theorem lp_Disk_decode {S : rz_S} {a0 a1 n m : Nat} {cb : Nat → Bool} (h0 : rz_T[a0]? = some (.inl (0, m))) (h1 : rz_T[a1]? = some (.inl (0, n))) (hm : 10 * n = 8 * m) (hn : n ≤ 1000) (ne : a0 ≠ a1) (hc : ∀ j, j < m → S.1 a0 j = by8 cb (8 * j)) : ∀ (w i many fr : Nat) (h : Int32) (f : Nat → Int32), 2 * n < w + i → i ≤ 2 * n → 8 * fr = 5 * i + many → many ≤ 7 → (∀ u, u < many → bt h u = cb (8 * fr - 1 - u)) → vld cb i → decRow cb f i → rz mDisk_decode 10 [(0, .ref a0), (1, .ref a1), (2, .int h), (3, .int (nI many)), (4, .int (nI fr)), (5, .int (nI i))] [] (rz_fA S a1 f) (rz_i (fun x S1 => (vld cb (2 * n) ∧ x = 1 ∧ rwPut S a1 n (fun j => nI (dec cb j)) S1) ∨ (¬ vld cb (2 * n) ∧ x = 0 ∧ ∃ f, S1 = rz_fA S a1 f))) := by
  intro w
  induction w with
  | zero => intro i many fr h f c1 c2; omega
  | succ w ih =>
    intro i many fr h f c1 c2 e1 hmany hh hv hf
    refine p_Disk_decode_10 h0 h1 ?_
    rw [show (2 : Int32) * Int32.ofNat n = nI (2 * n) from pk_mul 2 n]
    refine ⟨fun c => ?_, fun c => ?_⟩
    · have : 2 * n ≤ i := (nI_leI (by omega) (by omega)).mp c
      have e : i = 2 * n := by omega
      subst e
      exact Or.inl ⟨hv, rfl, f, rfl, fun j hj => hf.1 j (by omega)⟩
    · have hi : ¬ 2 * n ≤ i := fun z => c (nI_le z (by omega))
      -- with enough bits
      have go : ∀ (many2 fr2 : Nat) (h2 : Int32), 8 * fr2 = 5 * i + many2 → 5 ≤ many2 → many2 ≤ 12 → (∀ u, u < many2 → bt h2 u = cb (8 * fr2 - 1 - u)) → rz mDisk_decode 51 [(0, .ref a0), (1, .ref a1), (2, .int h2), (3, .int (nI many2)), (4, .int (nI fr2)), (5, .int (nI i))] [] (rz_fA S a1 f) (rz_i (fun x S1 => (vld cb (2 * n) ∧ x = 1 ∧ rwPut S a1 n (fun j => nI (dec cb j)) S1) ∨ (¬ vld cb (2 * n) ∧ x = 0 ∧ ∃ f, S1 = rz_fA S a1 f))) := by
        intro many2 fr2 h2 e2 m5 m12 hh2
        have e3 : nI many2 + (-5) = nI (many2 - 5) := by
          rw [← pk_sub (a := many2) (b := 5) m5]
          exact (Int32.sub_eq_add_neg (nI many2) 5).symm
        have g32 : vl cb (5 * i) 5 < 32 := vl_lt cb (5 * i) 5
        refine p_Disk_decode_51 h0 h1 ?_
        rw [e3, vl_5 (i := i) (m := many2 - 5) (fun u hu => by rw [hh2 u (by omega)]; congr 1; omega) (by omega), nI_clamp (by omega), sa3 _ g32]
        refine ⟨fun z => absurd z (nI_pos (by omega)), fun _ => ⟨rin g32 (by omega), ?_⟩⟩
        refine p_Disk_decode_72 h0 h1 ?_
        rw [sh1 (by omega), ev1 (by omega), nI_1, nI_clamp (by omega), rz_fA_s, rz_fAA, rz_fAA]
        refine ⟨fun d => ?_, fun d => ?_⟩
        · have d16 : gv cb i < 16 := dvI_ge.mp d
          have ed : dvI (vl cb (5 * i) 5) = nI (gv cb i) := by
            show (if gv cb i < 16 then nI (gv cb i) else -1) = _
            rw [if_pos d16]
          have hv2 : vld cb (i + 1) := fun k hk => by
            by_cases e : k = i
            · subst e; exact d16
            · exact hv k (by omega)
          rw [ed]
          refine ⟨fun z => ⟨rin (by omega) (by omega), ?_⟩, fun z => ⟨rin (by omega) (by omega), ?_⟩⟩
          · have ev : i % 2 = 0 := (nI_eq (b := 0) (by omega) (by omega)).mp z
            exact ih (i + 1) (many2 - 5) fr2 h2 _ (by omega) (by omega) (by omega) (by omega) (fun u hu => hh2 u (by omega)) hv2 (decRow_s hf (by rw [if_pos ev, shl_half d16]))
          · have ev : ¬ i % 2 = 0 := fun z2 => z (by rw [z2]; rfl)
            refine ih (i + 1) (many2 - 5) fr2 h2 _ (by omega) (by omega) (by omega) (by omega) (fun u hu => hh2 u (by omega)) hv2 (decRow_s hf ?_)
            rw [if_neg ev, hf.2 (by omega), or_half (hv (i - 1) (by omega)) d16]
        · refine Or.inr ⟨fun z => d (dvI_ge.mpr (z i (by omega))), rfl, f, rfl⟩
      refine ⟨fun d => ?_, fun d => ⟨fun d2 => ?_, fun d2 => ⟨rin ?_ ?_, ?_⟩⟩⟩
      · have : 5 ≤ many := (nI_leI (a := 5) (by omega) (by omega)).mp d
        exact go many fr h e1 this (by omega) hh
      · have : ¬ 5 ≤ many := fun z => d (nI_le (a := 5) z (by omega))
        have : m ≤ fr := (nI_leI (by omega) (by omega)).mp d2
        omega
      · have : ¬ 5 ≤ many := fun z => d (nI_le (a := 5) z (by omega))
        omega
      · omega
      · have m5 : ¬ 5 ≤ many := fun z => d (nI_le (a := 5) z (by omega))
        rw [nI_clamp (by omega), rz_fA_n ne, hc fr (by omega), nI_1, show (8 : Int32) = nI 8 from rfl, nI_add]
        refine go (many + 8) (fr + 1) _ (by omega) (by omega) (by omega) (fun u hu => ?_)
        rw [b_or, b_and, b_4095, b_shl 8 (by omega) h (by omega), b_by8 (by omega), decide_eq_true (by omega : u < 12), Bool.and_true]
        by_cases c8 : u < 8
        · rw [decide_eq_false (by omega : ¬ 8 ≤ u), decide_eq_true c8, Bool.false_and, Bool.false_or, Bool.true_and]
          congr 1
          omega
        · rw [decide_eq_true (by omega : 8 ≤ u), decide_eq_false c8, Bool.true_and, Bool.false_and, Bool.or_false, hh (u - 8) (by omega)]
          congr 1
          omega
theorem c_Disk_decode {S : rz_S} {a0 a1 n m : Nat} {cb : Nat → Bool} (h0 : rz_T[a0]? = some (.inl (0, m))) (h1 : rz_T[a1]? = some (.inl (0, n))) (hm : 10 * n = 8 * m) (hn : n ≤ 1000) (ne : a0 ≠ a1) (hc : ∀ j, j < m → S.1 a0 j = by8 cb (8 * j)) : rz_ev mDisk_decode [.ref a0, .ref a1] S (rz_i (fun x S1 => (vld cb (2 * n) ∧ x = 1 ∧ rwPut S a1 n (fun j => nI (dec cb j)) S1) ∨ (¬ vld cb (2 * n) ∧ x = 0 ∧ ∃ f, S1 = rz_fA S a1 f))) := by
  show rz _ 0 [(0, .ref a0), (1, .ref a1)] [] _ _
  refine p_Disk_decode_0 h0 h1 ?_
  have := lp_Disk_decode h0 h1 hm hn ne hc (2 * n + 1) 0 0 0 0 (S.1 a1) (by omega) (by omega) (by omega) (by omega) (fun u hu => by omega) (fun k hk => by omega) ⟨fun j hj => by omega, fun z => by omega⟩
  rw [rz_fA_self] at this
  exact this
/-! the reference: group, valueOf, reads -/
theorem lp_M_group {S : rz_S} {k m : Nat} {cb : Nat → Bool} (hm : m ≤ 85) (hk : 5 * k + 5 ≤ 8 * m) (hc : ∀ j, j < m → S.1 120 j = by8 cb (8 * j)) : ∀ (w j : Nat), 5 < w + j → j ≤ 5 → rz mM_group 6 [(0, .ref 116), (1, .int (nI k)), (2, .int (nI (vl cb (5 * k) j))), (3, .int (nI (5 * k + j)))] [] S (rz_i (fun x S1 => x = nI (vl cb (5 * k) 5) ∧ S1 = S)) := by
  intro w
  induction w with
  | zero => intro j c1 c2; omega
  | succ w ih =>
    intro j c1 c2
    refine p_M_group_6 ?_
    rw [show (5 : Int32) = nI 5 from rfl, pk_mul, nI_add, sh3 (by omega), nI_1]
    refine ⟨fun c => ?_, fun c => ⟨rin ?_ (by omega), ?_⟩⟩
    · have : 5 * k + 5 ≤ 5 * k + j := (nI_leI (by omega) (by omega)).mp c
      have e : j = 5 := by omega
      subst e
      exact ⟨rfl, rfl⟩
    · have : ¬ 5 * k + 5 ≤ 5 * k + j := fun z => c (nI_le z (by omega))
      omega
    · have : ¬ 5 * k + 5 ≤ 5 * k + j := fun z => c (nI_le z (by omega))
      rw [nI_clamp (by omega), hc _ (by omega), cellbit (by omega), vl_1]
      exact ih (j + 1) (by omega) (by omega)
theorem c_M_group {S : rz_S} {k m : Nat} {cb : Nat → Bool} (hm : m ≤ 85) (hk : 5 * k + 5 ≤ 8 * m) (hc : ∀ j, j < m → S.1 120 j = by8 cb (8 * j)) : rz_ev mM_group [.ref 116, .int (nI k)] S (rz_i (fun x S1 => x = nI (vl cb (5 * k) 5) ∧ S1 = S)) := by
  show rz _ 0 [(0, .ref 116), (1, .int (nI k))] [] _ _
  refine p_M_group_0 ?_
  rw [show (5 : Int32) = nI 5 from rfl, pk_mul]
  exact lp_M_group hm hk hc 6 0 (by omega) (by omega)
def vo (g : Nat) : Nat → Int32
  | 0 => -1
  | j + 1 => if gr j = g then nI j else vo g j
theorem vo_16 : ∀ g, g < 32 → vo g 16 = dvI g := by decide +kernel
theorem lp_M_valueOf {S : rz_S} {g : Nat} (hg : g < 32) : ∀ (w j : Nat), 16 < w + j → j ≤ 16 → rz mM_valueOf 4 [(0, .int (nI g)), (1, .int (vo g j)), (2, .int (nI j))] [] S (rz_i (fun x S1 => x = dvI g ∧ S1 = S)) := by
  intro w
  induction w with
  | zero => intro j c1 c2; omega
  | succ w ih =>
    intro j c1 c2
    refine p_M_valueOf_4 ⟨fun c => ?_, fun c => ?_⟩
    · have : 16 ≤ j := (nI_leI (a := 16) (by omega) (by omega)).mp c
      have e : j = 16 := by omega
      subst e
      exact ⟨vo_16 g hg, rfl⟩
    · have hj : ¬ 16 ≤ j := fun z => c (nI_le (a := 16) z (by omega))
      have hgj := gr_lt j (by omega)
      refine rz_toI (c_M_groupOf (by omega)) ?_
      rw [nI_1]
      have := ih (j + 1) (by omega) (by omega)
      refine ⟨fun z => ?_, fun z => ?_⟩
      · have e : gr j = g := (nI_eq (by omega) (by omega)).mp z
        rw [show vo g (j + 1) = nI j by show (if gr j = g then nI j else vo g j) = _; rw [if_pos e]] at this
        exact this
      · have e : ¬ gr j = g := fun e => z (by rw [e])
        rw [show vo g (j + 1) = vo g j by show (if gr j = g then nI j else vo g j) = _; rw [if_neg e]] at this
        exact this
theorem c_M_valueOf {S : rz_S} {g : Nat} (hg : g < 32) : rz_ev mM_valueOf [.int (nI g)] S (rz_i (fun x S1 => x = dvI g ∧ S1 = S)) := by
  show rz _ 0 [(0, .int (nI g))] [] _ _
  exact p_M_valueOf_0 (lp_M_valueOf hg 17 0 (by omega) (by omega))
theorem dvI_m1 {g : Nat} : dvI g = -1 ↔ ¬ dvN g < 16 := by
  unfold dvI
  by_cases c : dvN g < 16
  · rw [if_pos c]
    refine ⟨fun z => ?_, fun z => absurd c z⟩
    have := congrArg Int32.toInt z
    rw [nI_toInt (by omega)] at this
    have e : ((-1 : Int32)).toInt = -1 := by decide
    omega
  · rw [if_neg c]
    exact ⟨fun _ => c, fun _ => rfl⟩
theorem lp_M_reads {S : rz_S} {n m : Nat} {cb : Nat → Bool} (hn : n ≤ 68) (hm : 10 * n = 8 * m) (hc : ∀ j, j < m → S.1 120 j = by8 cb (8 * j)) : ∀ (w i : Nat) (x : Int32) (f : Nat → Int32), 2 * n < w + i → i ≤ 2 * n → (x = 0 ∨ x = 1) → (x = 1 ↔ vld cb i) → (vld cb i → decRow cb f i) → rz mM_reads 4 [(0, .ref 116), (1, .int (nI (2 * n))), (2, .int x), (3, .int (nI i))] [] (rz_fA S 119 f) (rz_i (fun x S1 => (vld cb (2 * n) ∧ x = 1 ∧ rwPut S 119 n (fun j => nI (dec cb j)) S1) ∨ (¬ vld cb (2 * n) ∧ x = 0 ∧ ∃ f, S1 = rz_fA S 119 f))) := by
  intro w
  induction w with
  | zero => intro i x f c1 c2; omega
  | succ w ih =>
    intro i x f c1 c2 hx hxv hf
    refine p_M_reads_4 ⟨fun c => ⟨hx, ?_⟩, fun c => ?_⟩
    · have : 2 * n ≤ i := (nI_leI (by omega) (by omega)).mp c
      have e : i = 2 * n := by omega
      subst e
      rcases hx with rfl | rfl
      · exact Or.inr ⟨fun z => absurd (hxv.mpr z) (by decide), rfl, f, rfl⟩
      · have v := hxv.mp rfl
        exact Or.inl ⟨v, rfl, f, rfl, fun j hj => (hf v).1 j (by omega)⟩
    · have hi : ¬ 2 * n ≤ i := fun z => c (nI_le z (by omega))
      have g32 : vl cb (5 * i) 5 < 32 := vl_lt cb (5 * i) 5
      refine rz_toI (c_M_group (k := i) (m := m) (cb := cb) (by omega) (by omega) (fun j hj => by rw [rz_fA_n (by omega)]; exact hc j hj)) ?_
      refine rz_toI (c_M_valueOf g32) ?_
      have go : ∀ (s0 : Int32), (s0 = 0 ∨ s0 = 1) → (s0 = 1 ↔ vld cb (i + 1)) → rz mM_reads 34 [(0, .ref 116), (1, .int (nI (2 * n))), (3, .int (nI i)), (4, .int (dvI (vl cb (5 * i) 5)))] [.int s0] (rz_fA S 119 f) (rz_i (fun x S1 => (vld cb (2 * n) ∧ x = 1 ∧ rwPut S 119 n (fun j => nI (dec cb j)) S1) ∨ (¬ vld cb (2 * n) ∧ x = 0 ∧ ∃ f, S1 = rz_fA S 119 f))) := by
        intro s0 h01 hsv
        refine p_M_reads_34 ?_
        rw [show (2 : Int32) = nI 2 from rfl, pk_rem (by omega) (by omega) (by omega), pk_div (by omega) (by omega) (by omega), nI_1, nI_clamp (by omega), rz_fA_s, rz_fAA, rz_fAA]
        have hfs : vld cb (i + 1) → gv cb i < 16 ∧ dvI (vl cb (5 * i) 5) = nI (gv cb i) ∧ vld cb i := fun v => by
          have d16 := v i (by omega)
          refine ⟨d16, ?_, fun k hk => v k (by omega)⟩
          show (if gv cb i < 16 then nI (gv cb i) else -1) = _
          rw [if_pos d16]
        refine ⟨fun z => ⟨rin (by omega) (by omega), ?_⟩, fun z => ⟨rin (by omega) (by omega), ?_⟩⟩
        · have ev : i % 2 = 0 := (nI_eq (b := 0) (by omega) (by omega)).mp z
          refine ih (i + 1) s0 _ (by omega) (by omega) h01 hsv (fun v => ?_)
          obtain ⟨d16, ed, v0⟩ := hfs v
          exact decRow_s (hf v0) (by rw [if_pos ev, ed, shl_half d16])
        · have ev : ¬ i % 2 = 0 := fun z2 => z (by rw [z2]; rfl)
          refine ih (i + 1) s0 _ (by omega) (by omega) h01 hsv (fun v => ?_)
          obtain ⟨d16, ed, v0⟩ := hfs v
          refine decRow_s (hf v0) ?_
          rw [if_neg ev, (hf v0).2 (by omega), ed, an15 (by omega), Nat.mod_eq_of_lt d16, or_half (v0 (i - 1) (by omega)) d16]
      have vs : vld cb (i + 1) ↔ vld cb i ∧ gv cb i < 16 := ⟨fun v => ⟨fun k hk => v k (by omega), v i (by omega)⟩, fun v k hk => by
        by_cases e : k = i
        · subst e; exact v.2
        · exact v.1 k (by omega)⟩
      refine ⟨fun z => p_M_reads_33 (go 0 (Or.inl rfl) ⟨fun q => absurd q (by decide), fun v => ?_⟩), fun z => ⟨fun z2 => p_M_reads_33 (go 0 (Or.inl rfl) ⟨fun q => absurd q (by decide), fun v => ?_⟩), fun z2 => go 1 (Or.inr rfl) ⟨fun _ => ?_, fun _ => rfl⟩⟩⟩
      · have := hxv.mpr (vs.mp v).1
        rw [z] at this
        exact absurd this (by decide)
      · exact absurd (vs.mp v).2 (dvI_m1.mp z2)
      · refine vs.mpr ⟨hxv.mp (hx.resolve_left z), ?_⟩
        exact Decidable.byContradiction fun q => z2 (dvI_m1.mpr q)
theorem c_M_reads {S : rz_S} {n m : Nat} {cb : Nat → Bool} (hn : n ≤ 68) (hm : 10 * n = 8 * m) (hc : ∀ j, j < m → S.1 120 j = by8 cb (8 * j)) : rz_ev mM_reads [.ref 116, .int (nI (2 * n))] S (rz_i (fun x S1 => (vld cb (2 * n) ∧ x = 1 ∧ rwPut S 119 n (fun j => nI (dec cb j)) S1) ∨ (¬ vld cb (2 * n) ∧ x = 0 ∧ ∃ f, S1 = rz_fA S 119 f))) := by
  show rz _ 0 [(0, .ref 116), (1, .int (nI (2 * n)))] [] _ _
  refine p_M_reads_0 ?_
  have := lp_M_reads hn hm hc (2 * n + 1) 0 1 (S.1 119) (by omega) (by omega) (Or.inr rfl) ⟨fun _ k hk => by omega, fun _ => rfl⟩ (fun _ => ⟨fun j hj => by omega, fun z => by omega⟩)
  rw [rz_fA_self] at this
  exact this
