/-! READ of a BUFFER and of a FILE: both sides -/
def rcI (c i : Nat) (pr : Bool) (Sx Sm V W : rz_S) : Prop := FX c Sx V ∧ FM c Sm W ∧ (∃ B id, Dk B pr id V W) ∧ (∀ z, V.2 3 z = Sx.2 3 z) ∧ (∀ z, 56 ≤ z → z ≤ 59 → W.2 116 z = Sm.2 116 z) ∧ V.2 39 6 = 0 ∧ W.2 116 68 = 0 ∧ W.2 116 67 = nI i ∧ ∀ j, j < i → V.1 115 j = W.1 152 j
def rcE (c M : Nat) (pr : Bool) (Sx Sm : rz_S) (x : Int32) (V : rz_S) (y : Int32) (W : rz_S) : Prop := ∃ i : Nat, i ≤ 300 ∧ x = nI i ∧ FX c Sx V ∧ FM c Sm W ∧ (∃ B id, Dk B pr id V W) ∧ ans Sx y V W ∧ (∀ z, 56 ≤ z → z ≤ 59 → W.2 116 z = Sm.2 116 z) ∧ W.2 116 67 = nI i ∧ (∀ j, j < i → V.1 115 j = W.1 152 j) ∧ V.2 39 6 = W.2 116 68 ∧ (V.2 39 6 = 0 ∨ V.2 39 6 = 1) ∧ Chn M c V W
theorem uI1 {S : rz_S} {k j : Nat} {x : Int32} : (rz_uI S k j x).1 = S.1 := rfl
theorem fA2 {S : rz_S} {a : Nat} {f : Nat → Int32} : (rz_fA S a f).2 = S.2 := rfl
theorem FM_g {c q : Nat} {S : rz_S} {f : Nat → Int32} (hq : 126 ≤ q ∧ q ≤ 146 ∧ q ≠ 127) (h : ∀ d, d ≠ c → f d = S.1 q d) : FM c S (rz_fA S q f) := ⟨fun p a => rz_fA_n (by omega), fun p a b e d g => by
  by_cases z : p = q
  · subst z; rw [rz_fA_s]; exact h d g
  · rw [rz_fA_n z], fun j a => ⟨by rw [rz_fA_n (by omega)], by rw [rz_fA_n (by omega)]⟩, fun j a => by rw [rz_fA_n (by omega)], fun _ _ => rfl⟩
theorem an63 {p : Nat} (h : p < 2 ^ 31) : nI p &&& 63 = nI (p % 64) := pk_andN (n := p) (by omega) 6 (by decide)
theorem c_gives {S : rz_S} {i : Nat} {x : Int32} (hi : i < 300) (h : S.2 116 67 = nI i) : rz_ev mM_gives [.ref 116, .int x] S (rz_v (fun S1 => S1 = rz_uI (rz_fA S 152 (upd (S.1 152) i x)) 116 67 (nI (i + 1)))) := by
  show rz _ 0 [(0, .ref 116), (1, .int x)] [] _ _
  refine p_M_gives_0 ?_
  rw [h, nI_clamp (by omega), nI_1]
  exact ⟨rin hi (by omega), rfl⟩
/-- both have given one byte more -/
theorem rc_on {c i : Nat} {pr : Bool} {Sx Sm V W V1 W1 : rz_S} {x : Int32} (h : rcI c i pr Sx Sm V W) (fx : FX c V V1) (fm : FM c W W1) (hd : ∀ B id, Dk B pr id V W → Dk B pr id V1 W1) (h3 : ∀ z, V1.2 3 z = V.2 3 z) (hm : ∀ z, 56 ≤ z → z ≤ 59 → W1.2 116 z = W.2 116 z) (h6 : V1.2 39 6 = 0) (h68 : W1.2 116 68 = 0) (h67 : W1.2 116 67 = nI (i + 1)) (ho : V1.1 115 = upd (V.1 115) i x) (hp : W1.1 152 = upd (W.1 152) i x) : rcI c (i + 1) pr Sx Sm V1 W1 := by
  obtain ⟨a1, a2, ⟨B, id, a3⟩, a4, a5, a6, a7, a8, a9⟩ := h
  refine ⟨FX_t a1 fx, FM_t a2 fm, ⟨B, id, hd B id a3⟩, fun z => (h3 z).trans (a4 z), fun z b d => (hm z b d).trans (a5 z b d), h6, h68, h67, fun j hj => ?_⟩
  rw [ho, hp]
  by_cases e : j = i
  · subst e; rw [pk_us, pk_us]
  · rw [pk_un e, pk_un e]; exact a9 j (by omega)
theorem rc_end {c i M : Nat} {pr : Bool} {Sx Sm V W : rz_S} (h : rcI c i pr Sx Sm V W) (hi : i ≤ 300) (hC : Chn M c V W) : rcE c M pr Sx Sm (nI i) V 0 W := by
  obtain ⟨a1, a2, a3, a4, a5, a6, a7, a8, a9⟩ := h
  exact ⟨i, hi, rfl, a1, a2, a3, Or.inl ⟨rfl, a4⟩, a5, a8, a9, a6.trans a7.symm, Or.inl a6, hC⟩
/-- the last byte, told so -/
theorem rc_last {c i M : Nat} {pr : Bool} {Sx Sm V W : rz_S} (h : rcI c i pr Sx Sm V W) (hi : i ≤ 300) {V1 W1 : rz_S} (fx : FX c V V1) (fm : FM c W W1) (hd : ∀ B id, Dk B pr id V W → Dk B pr id V1 W1) (h3 : ∀ z, V1.2 3 z = V.2 3 z) (hm : ∀ z, 56 ≤ z → z ≤ 59 → W1.2 116 z = W.2 116 z) (h6 : V1.2 39 6 = 1) (h68 : W1.2 116 68 = 1) (h67 : W1.2 116 67 = W.2 116 67) (ho : V1.1 115 = V.1 115) (hp : W1.1 152 = W.1 152) (hC : Chn M c V1 W1) : rcE c M pr Sx Sm (nI i) V1 0 W1 := by
  obtain ⟨a1, a2, ⟨B, id, a3⟩, a4, a5, a6, a7, a8, a9⟩ := h
  refine ⟨i, hi, rfl, FX_t a1 fx, FM_t a2 fm, ⟨B, id, hd B id a3⟩, Or.inl ⟨rfl, fun z => (h3 z).trans (a4 z)⟩, fun z b d => (hm z b d).trans (a5 z b d), h67.trans a8, fun j hj => ?_, h6.trans h68.symm, Or.inr h6, hC⟩
  rw [ho, hp]; exact a9 j hj
theorem bf_loop {Sx Sm : rz_S} {c n M : Nat} {pr : Bool} (hc : c < 15) (h300 : n ≤ 300) : ∀ (w i : Nat) (V W : rz_S) (a5 : Int32), n = i + w → ¬ a5 = -1 → rcI c i pr Sx Sm V W → V.2 (48 + 4 * c) 0 = 4 → W.1 126 c = 4 → ChB c V W → ∀ K : Int32 → rz_S → Prop, (∀ x V1, rz mM_readsBuffer 2 [(0, .ref 116), (1, .int (nI c)), (2, .int (nI n)), (3, .int 1)] [] W (rz_i (fun y W1 => rcE c M pr Sx Sm x V1 y W1)) → K x V1) → rz mDos_receive 60 [(0, .ref 39), (1, .int (nI c)), (2, .int (nI n)), (3, .ref 115), (4, .int (nI i)), (5, .int a5)] [] V (rz_i K) := by
  have hch : chP (48 + 4 * c) := ⟨by omega, by omega, by omega⟩
  have ecl : (nI c).toNatClampNeg = c := nI_clamp (by omega)
  have e64 : (64 * nI c : Int32) = nI (64 * c) := pk_mul 64 c
  intro w
  induction w with
  | zero =>
    intro i V W a5 e h5 hI m1 m2 hB K hK
    have en : n = i := e
    subst en
    refine p_Dos_receive_60 (na3 := 300) rfl ⟨fun _ => hK _ _ ?_, fun d => absurd (nI_le (a := n) (b := n) (by omega) (by omega)) d⟩
    refine p_M_readsBuffer_2 ⟨fun d => absurd d (by decide), fun _ => ⟨fun _ => rc_end hI (by omega) ⟨m1.trans m2.symm, Or.inr (Or.inr (Or.inr (Or.inr ⟨m2, hB⟩)))⟩, fun d => ?_⟩⟩
    rw [hI.2.2.2.2.2.2.2.1] at d
    exact absurd (nI_le (a := n) (b := n) (by omega) (by omega)) d
  | succ w ih =>
    intro i V W a5 e h5 hI m1 m2 hB K hK
    obtain ⟨hrow, pl, p64, px, pm⟩ := hB
    have h6 := hI.2.2.2.2.2.1
    have h67 := hI.2.2.2.2.2.2.2.1
    have h68 := hI.2.2.2.2.2.2.1
    have nle : ¬ nI n ≤ nI i := fun d => by
      have := (nI_leI (a := n) (b := i) (by omega) (by omega)).mp d
      omega
    have n300 : ¬ (Int32.ofNat 300) ≤ nI i := fun d => by
      have := (nI_leI (a := 300) (b := i) (by omega) (by omega)).mp d
      omega
    refine p_Dos_receive_60 (na3 := 300) rfl ⟨fun d => absurd d nle, fun _ => ⟨fun d => absurd d n300, fun _ => ⟨fun _ => ⟨fun d => absurd d h5, fun _ => ⟨rin hc (by omega), ?_⟩⟩, fun d => absurd h6 d⟩⟩⟩
    rw [ecl]
    show rz _ 0 [(0, .ref 39), (1, .ref (48 + 4 * c))] [] _ _
    have hv : ¬ V.1 (48 + 4 * c + 1) pl = -1 := fun d => by
      obtain ⟨k, hk, ek⟩ := (hrow pl p64).2
      rw [show 48 + 4 * c + 1 = 49 + 4 * c from by omega, ek] at d
      exact nI_m1 (by omega) d
    have hrw : W.1 127 (64 * c + pl) = V.1 (48 + 4 * c + 1) pl := by
      rw [show 48 + 4 * c + 1 = 49 + 4 * c from by omega]; exact (hrow pl p64).1.symm
    have right : ∀ (_ : Int32) (_ : rz_S), (∀ Q : Int32 → rz_S → Prop, (if pl = 63 then rz mM_readsBuffer 2 [(0, .ref 116), (1, .int (nI c)), (2, .int (nI n)), (3, .int 0)] [] (rz_uI (rz_fA (rz_fA (rz_uI (rz_fA W 152 (upd (W.1 152) i (V.1 (48 + 4 * c + 1) pl))) 116 67 (nI (i + 1))) 128 (upd (W.1 128) c (nI (pl + 1)))) 128 (upd (upd (W.1 128) c (nI (pl + 1))) c 0)) 116 68 1) (rz_i Q) else rz mM_readsBuffer 2 [(0, .ref 116), (1, .int (nI c)), (2, .int (nI n)), (3, .int 1)] [] (rz_fA (rz_uI (rz_fA W 152 (upd (W.1 152) i (V.1 (48 + 4 * c + 1) pl))) 116 67 (nI (i + 1))) 128 (upd (W.1 128) c (nI (pl + 1)))) (rz_i Q)) → rz mM_readsBuffer 2 [(0, .ref 116), (1, .int (nI c)), (2, .int (nI n)), (3, .int 1)] [] W (rz_i Q)) := by
      intro _ _ Q h
      refine p_M_readsBuffer_2 ⟨fun d => absurd d (by decide), fun _ => ⟨fun d => ?_, fun _ => ⟨rin hc (by omega), ?_⟩⟩⟩
      · rw [h67] at d; exact absurd d nle
      rw [ecl, pm, e64, nI_add, nI_clamp (by omega), hrw]
      refine ⟨rin (by omega) (by omega), rz_toV (c_gives (by omega) h67) ?_⟩
      rw [show (rz_uI (rz_fA W 152 (upd (W.1 152) i (V.1 (48 + 4 * c + 1) pl))) 116 67 (nI (i + 1))).1 128 = W.1 128 from by simp (disch := omega) only [uI1, fA2, rz_fA_n, rz_uI_n, rz_fA_s, rz_uI_s, pk_us], pm, nI_1, pk_us]
      refine ⟨fun d => ?_, fun d => ?_⟩
      · have : pl + 1 = 64 := (nI_eq (b := 64) (by omega) (by omega)).mp d
        rw [if_pos (by omega)] at h
        exact h
      · rw [if_neg (fun z => d (by rw [z]; rfl))] at h
        exact h
    have fin : pl < 63 → rz mDos_nextByte 23 [(1, .ref (48 + 4 * c))] [.int 0, .ref 39] V (rz_i (fun xq6 Sq6 => ((xq6 = (-1) → rz mDos_receive 60 [(0, .ref 39), (1, .int (nI c)), (2, .int (nI n)), (3, .ref 115), (4, .int (nI i)), (5, .int xq6)] [] Sq6 (rz_i K)) ∧ (¬ xq6 = (-1) → rx_in (nI i) 300 = true ∧ rz mDos_receive 60 [(0, .ref 39), (1, .int (nI c)), (2, .int (nI n)), (3, .ref 115), (4, .int (nI i + 1)), (5, .int xq6)] [] (rz_fA Sq6 115 (upd (Sq6.1 115) (nI i).toNatClampNeg xq6)) (rz_i K))))) := by
      intro hp
      refine p_Dos_nextByte_23 hch ⟨Or.inl rfl, ?_⟩
      rw [px, an63 (by omega), Nat.mod_eq_of_lt p64, nI_1, an63 (by omega), Nat.mod_eq_of_lt (by omega), nI_clamp (by omega), nI_clamp (by omega)]
      refine ⟨rin p64 (by omega), fun d => absurd d hv, fun _ => ⟨rin (by omega) (by omega), ?_⟩⟩
      show rz mDos_receive 60 _ [] (rz_fA (rz_uI (rz_uI V 39 6 0) (48 + 4 * c) 2 (nI (pl + 1))) 115 (upd (V.1 115) i _)) _
      rw [nI_1]
      generalize hV1 : rz_fA (rz_uI (rz_uI V 39 6 0) (48 + 4 * c) 2 (nI (pl + 1))) 115 (upd (V.1 115) i (V.1 (48 + 4 * c + 1) pl)) = V1
      generalize hW1 : rz_fA (rz_uI (rz_fA W 152 (upd (W.1 152) i (V.1 (48 + 4 * c + 1) pl))) 116 67 (nI (i + 1))) 128 (upd (W.1 128) c (nI (pl + 1))) = W1
      have fx : FX c V V1 := by rw [← hV1]; exact FX_t (FX_u2 (by omega)) (FX_t FX_u (FX_f2 (by omega)))
      have e128 : (rz_uI (rz_fA W 152 (upd (W.1 152) i (V.1 (48 + 4 * c + 1) pl))) 116 67 (nI (i + 1))).1 128 = W.1 128 := by simp (disch := omega) only [uI1, fA2, rz_fA_n, rz_uI_n, rz_fA_s, rz_uI_s, pk_us]
      have fm : FM c W W1 := by
        rw [← hW1, ← e128]
        exact FM_t (FM_f2 (by omega)) (FM_t (FM_u (by omega)) (FM_a (by omega)))
      have vr : V1.1 (49 + 4 * c) = V.1 (49 + 4 * c) := by rw [← hV1]; simp (disch := omega) only [uI1, fA2, rz_fA_n, rz_uI_n, rz_fA_s, rz_uI_s, pk_us]
      have wr : W1.1 127 = W.1 127 := by rw [← hW1]; simp (disch := omega) only [uI1, fA2, rz_fA_n, rz_uI_n, rz_fA_s, rz_uI_s, pk_us]
      have hI1 : rcI c (i + 1) pr Sx Sm V1 W1 := rc_on (x := V.1 (48 + 4 * c + 1) pl) hI fx fm (fun B id hd => by
        rw [← hV1, ← hW1]
        exact Dk_mf (Dk_mu (Dk_mf (Dk_xf (Dk_xu (Dk_xu hd (by omega)) (by omega)) (by omega)) (by omega)) (by omega)) (by omega)) (fun z => by rw [← hV1]; simp (disch := omega) only [uI1, fA2, rz_fA_n, rz_uI_n, rz_fA_s, rz_uI_s, pk_us]) (fun z a b => by rw [← hW1]; simp (disch := omega) only [uI1, fA2, rz_fA_n, rz_uI_n, rz_fA_s, rz_uI_s, pk_us]) (by rw [← hV1]; simp (disch := omega) only [uI1, fA2, rz_fA_n, rz_uI_n, rz_fA_s, rz_uI_s, pk_us]) (by rw [← hW1]; simp (disch := omega) only [uI1, fA2, rz_fA_n, rz_uI_n, rz_fA_s, rz_uI_s, pk_us]; exact h68) (by rw [← hW1]; simp (disch := omega) only [uI1, fA2, rz_fA_n, rz_uI_n, rz_fA_s, rz_uI_s, pk_us]) (by rw [← hV1]; simp (disch := omega) only [uI1, fA2, rz_fA_n, rz_uI_n, rz_fA_s, rz_uI_s, pk_us]) (by rw [← hW1]; simp (disch := omega) only [uI1, fA2, rz_fA_n, rz_uI_n, rz_fA_s, rz_uI_s, pk_us])
      refine ih (i + 1) V1 W1 _ (by omega) hv hI1 ?_ ?_ ⟨fun k hk => by rw [vr, wr]; exact hrow k hk, pl + 1, by omega, ?_, ?_⟩ K (fun x V2 h => hK x V2 (right x V2 _ ?_))
      · rw [← hV1]; simp (disch := omega) only [uI1, fA2, rz_fA_n, rz_uI_n, rz_fA_s, rz_uI_s, pk_us]; exact m1
      · rw [← hW1]; simp (disch := omega) only [uI1, fA2, rz_fA_n, rz_uI_n, rz_fA_s, rz_uI_s, pk_us]; exact m2
      · rw [← hV1]; simp (disch := omega) only [uI1, fA2, rz_fA_n, rz_uI_n, rz_fA_s, rz_uI_s, pk_us]
      · rw [← hW1]; simp (disch := omega) only [uI1, fA2, rz_fA_n, rz_uI_n, rz_fA_s, rz_uI_s, pk_us]
      · rw [if_neg (by omega), hW1]; exact h
    refine p_Dos_nextByte_0 hch ⟨fun _ => ⟨fun d => ?_, fun d => ?_⟩, fun d => absurd m1 d⟩
    · have ep : pl = 63 := (nI_eq (b := 63) (by omega) (by omega)).mp (px.symm.trans d)
      subst ep
      refine p_Dos_nextByte_23 hch ⟨Or.inr rfl, ?_⟩
      rw [px, an63 (by omega), show (63 : Nat) % 64 = 63 from rfl, nI_1, an63 (by omega), show ((63 + 1 : Nat) % 64) = 0 from rfl, nI_clamp (by omega), nI_clamp (by omega)]
      refine ⟨rin p64 (by omega), fun d => absurd d hv, fun _ => ⟨rin (by omega) (by omega), ?_⟩⟩
      show rz mDos_receive 60 _ [] (rz_fA (rz_uI (rz_uI V 39 6 1) (48 + 4 * c) 2 (nI 0)) 115 (upd (V.1 115) i _)) _
      rw [nI_1]
      generalize hV1 : rz_fA (rz_uI (rz_uI V 39 6 1) (48 + 4 * c) 2 (nI 0)) 115 (upd (V.1 115) i (V.1 (48 + 4 * c + 1) 63)) = V1
      generalize hW1 : rz_uI (rz_fA (rz_fA (rz_uI (rz_fA W 152 (upd (W.1 152) i (V.1 (48 + 4 * c + 1) 63))) 116 67 (nI (i + 1))) 128 (upd (W.1 128) c (nI (63 + 1)))) 128 (upd (upd (W.1 128) c (nI (63 + 1))) c 0)) 116 68 1 = W1
      have fx : FX c V V1 := by rw [← hV1]; exact FX_t (FX_u2 (by omega)) (FX_t FX_u (FX_f2 (by omega)))
      have e128 : (rz_uI (rz_fA W 152 (upd (W.1 152) i (V.1 (48 + 4 * c + 1) 63))) 116 67 (nI (i + 1))).1 128 = W.1 128 := by simp (disch := omega) only [uI1, fA2, rz_fA_n, rz_uI_n, rz_fA_s, rz_uI_s, pk_us]
      have e128b : (rz_fA (rz_uI (rz_fA W 152 (upd (W.1 152) i (V.1 (48 + 4 * c + 1) 63))) 116 67 (nI (i + 1))) 128 (upd (W.1 128) c (nI (63 + 1)))).1 128 = upd (W.1 128) c (nI (63 + 1)) := rz_fA_s
      have fm : FM c W W1 := by
        rw [← hW1]
        exact FM_t (FM_f2 (q := 152) (by omega)) (FM_t (FM_u (k := 67) (by omega)) (FM_t (FM_g (q := 128) (by omega) (fun d hd => by simp (disch := omega) only [uI1, fA2, rz_fA_n, rz_uI_n, rz_fA_s, rz_uI_s, pk_us, pk_un])) (FM_t (FM_g (q := 128) (by omega) (fun d hd => by simp (disch := omega) only [uI1, fA2, rz_fA_n, rz_uI_n, rz_fA_s, rz_uI_s, pk_us, pk_un])) (FM_u (k := 68) (by omega)))))
      have vr : V1.1 (49 + 4 * c) = V.1 (49 + 4 * c) := by rw [← hV1]; simp (disch := omega) only [uI1, fA2, rz_fA_n, rz_uI_n, rz_fA_s, rz_uI_s, pk_us]
      have wa : ∀ q, q ≠ 152 → q ≠ 128 → W1.1 q = W.1 q := fun q a b => by
        rw [← hW1]; simp (disch := omega) only [uI1, fA2, rz_fA_n, rz_uI_n, rz_fA_s, rz_uI_s, pk_us]
      have m1' : V1.2 (48 + 4 * c) 0 = 4 := by rw [← hV1]; simp (disch := omega) only [uI1, fA2, rz_fA_n, rz_uI_n, rz_fA_s, rz_uI_s, pk_us]; exact m1
      have m2' : W1.1 126 c = 4 := by rw [wa 126 (by omega) (by omega)]; exact m2
      obtain ⟨a1, a2, ⟨B, id, a3⟩, a4, a5', a6, a7, a8, a9⟩ := hI
      have hE : rcE c M pr Sx Sm (nI (i + 1)) V1 0 W1 := by
        refine ⟨i + 1, by omega, rfl, FX_t a1 fx, FM_t a2 fm, ⟨B, id, ?_⟩, Or.inl ⟨rfl, fun z => ?_⟩, fun z b d => ?_, ?_, fun j hj => ?_, ?_, ?_, m1'.trans m2'.symm, Or.inr (Or.inr (Or.inr (Or.inr ⟨m2', fun k hk => ?_, 0, by omega, ?_, ?_⟩)))⟩
        · rw [← hV1, ← hW1]
          exact Dk_mu (Dk_mf (Dk_mf (Dk_mu (Dk_mf (Dk_xf (Dk_xu (Dk_xu a3 (by omega)) (by omega)) (by omega)) (by omega)) (by omega)) (by omega)) (by omega)) (by omega)
        · rw [← hV1]; simp (disch := omega) only [uI1, fA2, rz_fA_n, rz_uI_n, rz_fA_s, rz_uI_s, pk_us]; exact a4 z
        · rw [← hW1]; simp (disch := omega) only [uI1, fA2, rz_fA_n, rz_uI_n, rz_fA_s, rz_uI_s, pk_us]; exact a5' z b d
        · rw [← hW1]; simp (disch := omega) only [uI1, fA2, rz_fA_n, rz_uI_n, rz_fA_s, rz_uI_s, pk_us]
        · have o1 : V1.1 115 = upd (V.1 115) i (V.1 (48 + 4 * c + 1) 63) := by rw [← hV1]; simp (disch := omega) only [uI1, fA2, rz_fA_n, rz_uI_n, rz_fA_s, rz_uI_s, pk_us]
          have o2 : W1.1 152 = upd (W.1 152) i (V.1 (48 + 4 * c + 1) 63) := by rw [← hW1]; simp (disch := omega) only [uI1, fA2, rz_fA_n, rz_uI_n, rz_fA_s, rz_uI_s, pk_us]
          rw [o1, o2]
          by_cases e : j = i
          · subst e; rw [pk_us, pk_us]
          · rw [pk_un e, pk_un e]; exact a9 j (by omega)
        · rw [← hV1, ← hW1]; simp (disch := omega) only [uI1, fA2, rz_fA_n, rz_uI_n, rz_fA_s, rz_uI_s, pk_us]
        · refine Or.inr ?_; rw [← hV1]; simp (disch := omega) only [uI1, fA2, rz_fA_n, rz_uI_n, rz_fA_s, rz_uI_s, pk_us]
        · rw [vr, wa 127 (by omega) (by omega)]; exact hrow k hk
        · rw [← hV1]; simp (disch := omega) only [uI1, fA2, rz_fA_n, rz_uI_n, rz_fA_s, rz_uI_s, pk_us]
        · rw [← hW1]; simp (disch := omega) only [uI1, fA2, rz_fA_n, rz_uI_n, rz_fA_s, rz_uI_s, pk_us]; rfl
      have stop : rz mM_readsBuffer 2 [(0, .ref 116), (1, .int (nI c)), (2, .int (nI n)), (3, .int 1)] [] W (rz_i (fun y W1 => rcE c M pr Sx Sm (nI (i + 1)) V1 y W1)) := by
        refine right 0 V _ ?_
        rw [if_pos rfl, hW1]
        exact p_M_readsBuffer_2 ⟨fun _ => hE, fun d => absurd rfl d⟩
      have v6 : ¬ V1.2 39 6 = 0 := fun d => by
        have e6 : V1.2 39 6 = 1 := by rw [← hV1]; simp (disch := omega) only [uI1, fA2, rz_fA_n, rz_uI_n, rz_fA_s, rz_uI_s, pk_us]
        rw [e6] at d
        exact absurd d (by decide)
      refine p_Dos_receive_60 (na3 := 300) rfl ⟨fun _ => hK _ _ stop, fun _ => ⟨fun _ => hK _ _ stop, fun _ => ⟨fun d => absurd d v6, fun _ => hK _ _ stop⟩⟩⟩
    · refine fin ?_
      have : pl ≠ 63 := fun z => d (px.trans (by rw [z]; rfl))
      omega
