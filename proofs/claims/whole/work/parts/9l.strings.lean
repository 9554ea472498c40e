/-! texts that stand as constants: how long they are, their letters -/
def tx (i : Nat) : List Int32 := rx_tb.getD i []
theorem tb_20 : rx_tb.length = 20 := by decide
theorem tx_tb {i : Nat} (h : i < 20) : rx_tb[i]? = some (tx i) := by
  have h' : i < rx_tb.length := by rw [tb_20]; exact h
  unfold tx
  rw [List.getD_eq_getElem?_getD, List.getElem?_eq_getElem h', Option.getD_some]
theorem txP_i {i : Nat} (h : i < 20) : txP (1000000 + i) := ⟨Nat.le_add_right _ _, by rw [tb_20]; exact Nat.add_lt_add_left h _⟩
theorem txI {k : Nat} (h : txP k) : ∃ i, i < 20 ∧ k = 1000000 + i := by
  obtain ⟨h1, h2⟩ := h
  rw [tb_20] at h2
  obtain ⟨i, rfl⟩ := Nat.exists_eq_add_of_le h1
  exact ⟨i, Nat.lt_of_add_lt_add_left h2, rfl⟩
theorem rz_no {S : rz_S} {k : Nat} (h : 156 ≤ k) : (rz_H S)[k]? = none := rz_none (List.getElem?_eq_none (show rz_T.length ≤ k from h))
theorem sub_b (b i : Nat) : b + i - b = i := Nat.add_sub_cancel_left b i
section STR
variable {M : rx_M} {pc i idx pos : Nat} {l : rx_L} {rest : List Value} {S : rz_S} {Q : Option Value → rz_S → Prop}
theorem rz_gfv (hd : decode (rm_code M) pc = .ok (.getfield idx, 3)) (hF : rx_lk rx_FLs (rm_co M) idx = none) (hK : rx_lk rx_KLs (rm_co M) idx = some (1, pos)) (hx : i < 20) (kk : rz M (pc + 3) l (.ref (2000000 + i) :: rest) S Q) : rz M pc l (.ref (1000000 + i) :: rest) S Q := by
  refine rz_heap (S1 := S) hd rfl ?_ kk
  have h1 : 1000000 ≤ 1000000 + i := Nat.le_add_right _ _
  have h2 : 1000000 + i - 1000000 < rx_tb.length := by rw [sub_b, tb_20]; exact hx
  have h3 : 1000000 + i + 1000000 = 2000000 + i := by omega
  unfold rx_heap rx_get
  simp only [hF, hK]
  rw [if_pos ⟨h1, h2⟩, h3]
  simp only [Option.map_some]
theorem rz_gfc (hd : decode (rm_code M) pc = .ok (.getfield idx, 3)) (hF : rx_lk rx_FLs (rm_co M) idx = none) (hK : rx_lk rx_KLs (rm_co M) idx = some (0, pos)) (hx : i < 20) (kk : rz M (pc + 3) l (.int 0 :: rest) S Q) : rz M pc l (.ref (1000000 + i) :: rest) S Q := by
  refine rz_heap (S1 := S) hd rfl ?_ kk
  have h1 : 1000000 ≤ 1000000 + i := Nat.le_add_right _ _
  have h2 : 1000000 + i - 1000000 < rx_tb.length := by rw [sub_b, tb_20]; exact hx
  unfold rx_heap rx_get
  simp only [hF, hK]
  rw [if_pos ⟨h1, h2⟩]
  simp only [Option.map_some]
theorem rz_altG {k : Nat} {a : List Int32} (hd : decode (rm_code M) pc = .ok (.arraylength, 1)) (h1 : 156 ≤ k) (h2 : 2000000 ≤ k) (h3 : ¬ 3000000 ≤ k) (ha : rx_tb[k - 2000000]? = some a) (kk : rz M (pc + 1) l (.int (Int32.ofNat a.length) :: rest) S Q) : rz M pc l (.ref k :: rest) S Q := by
  refine rz_heap (S1 := S) hd rfl ?_ kk
  have e1 : (rz_H S)[k]? = none := rz_no h1
  have e2 : rx_sa k = none := by unfold rx_sa; rw [if_neg h3]
  have e : rx_alen (.ref k :: rest) (rz_H S) = some (.int (Int32.ofNat a.length) :: rest) := by
    unfold rx_alen
    simp only [e1, e2]
    split
    · split
      · next a' h' => rw [ha] at h'; cases h'; rfl
      · next h' => rw [ha] at h'; cases h'
    · next h => exact absurd h2 h
  unfold rx_heap
  rw [e]
  simp only [Option.map_some]
theorem rz_batG {k j : Nat} {a : List Int32} (hd : decode (rm_code M) pc = .ok (.baload, 1)) (h1 : 156 ≤ k) (h2 : 2000000 ≤ k) (ha : rx_tb[k - 2000000]? = some a) (hj : j < a.length) (hl : a.length < 100) (kk : rz M (pc + 1) l (.int (a.getD j 0) :: rest) S Q) : rz M pc l (.int (nI j) :: .ref k :: rest) S Q := by
  refine rz_heap (S1 := S) hd rfl ?_ kk
  have e1 : (rz_H S)[k]? = none := rz_no h1
  have e5 : rx_in (nI j) a.length = true := rin hj (by omega)
  have e6 : (nI j).toNatClampNeg = j := nI_clamp (by omega)
  have e : rx_bald (.int (nI j) :: .ref k :: rest) (rz_H S) = some (.int (a.getD j 0) :: rest) := by
    unfold rx_bald
    simp only [e1]
    split
    · split
      · next a' h' => rw [ha] at h'; cases h'; rw [if_pos e5, e6]
      · next h' => rw [ha] at h'; cases h'
    · next h => exact absurd h2 h
  unfold rx_heap
  rw [e]
  simp only [Option.map_some]
theorem tx_big (i : Nat) : 156 ≤ 2000000 + i := Nat.le_trans (by decide) (Nat.le_add_right 2000000 i)
theorem tx_sm {i : Nat} (h : i < 20) : ¬ 3000000 ≤ 2000000 + i := Nat.not_le.mpr (Nat.lt_of_lt_of_le (Nat.add_lt_add_left h 2000000) (by decide))
theorem tx_at {i : Nat} (h : i < 20) : rx_tb[2000000 + i - 2000000]? = some (tx i) := (congrArg (fun z => rx_tb[z]?) (sub_b 2000000 i)).trans (tx_tb h)
theorem rz_alt (hd : decode (rm_code M) pc = .ok (.arraylength, 1)) (hx : i < 20) (kk : rz M (pc + 1) l (.int (Int32.ofNat (tx i).length) :: rest) S Q) : rz M pc l (.ref (2000000 + i) :: rest) S Q := rz_altG hd (tx_big i) (Nat.le_add_right _ _) (tx_sm hx) (tx_at hx) kk
theorem rz_bat {j : Nat} (hd : decode (rm_code M) pc = .ok (.baload, 1)) (hx : i < 20) (hj : j < (tx i).length) (hl : (tx i).length < 100) (kk : rz M (pc + 1) l (.int ((tx i).getD j 0) :: rest) S Q) : rz M pc l (.int (nI j) :: .ref (2000000 + i) :: rest) S Q := rz_batG hd (tx_big i) (Nat.le_add_right _ _) (tx_at hx) hj hl kk
end STR
theorem sh_0 (x : Int32) : x >>> ((0 : Int32) &&& 31) = x := by
  apply b_ext
  intro i hi
  have := b_sshr 0 (by omega) x hi
  rw [Nat.zero_add, if_pos hi] at this
  exact this
theorem tx_ok : ∀ i, i < 20 → (rx_tb.getD i []).length < 30 ∧ ∀ j, j < 30 → (((rx_tb.getD i []).getD j 0 &&& 255).toUInt32 % 65536).toInt32 = (rx_tb.getD i []).getD j 0 := by decide +kernel
theorem tx_l {i : Nat} (h : i < 20) : (tx i).length < 30 := (tx_ok i h).1
theorem c_Str_coder {S : rz_S} {i : Nat} (hx : i < 20) : rz_ev mStr_coder [.ref (1000000 + i)] S (rz_i (fun x S1 => x = 0 ∧ S1 = S)) := by
  show rz _ 0 [(0, .ref (1000000 + i))] [] _ _
  refine rz_stat (v := .int 1) (idx := 38) (by decide +kernel) (by decide +kernel) ?_
  refine rz_ifeq (tgt := 13) (off := 10) (by decide +kernel) rfl (fun c => absurd c (by decide)) (fun _ => ?_)
  refine rz_pure (pc' := 7) (i := .aload_n 0) (len := 1) (by decide +kernel) rfl ?_
  refine rz_gfc (idx := 15) (pos := 10074) (by decide +kernel) (by decide +kernel) (by decide +kernel) hx ?_
  refine rz_pure (pc' := 14) (i := .goto 4) (len := 3) (by decide +kernel) rfl ?_
  exact rz_ireti (by decide +kernel) rfl rfl ⟨rfl, rfl⟩
theorem c_Str_isLatin1 {S : rz_S} {i : Nat} (hx : i < 20) : rz_ev mStr_isLatin1 [.ref (1000000 + i)] S (rz_i (fun x S1 => x = 1 ∧ S1 = S)) := by
  show rz _ 0 [(0, .ref (1000000 + i))] [] _ _
  refine rz_stat (v := .int 1) (idx := 38) (by decide +kernel) (by decide +kernel) ?_
  refine rz_ifeq (tgt := 17) (off := 14) (by decide +kernel) rfl (fun c => absurd c (by decide)) (fun _ => ?_)
  refine rz_pure (pc' := 7) (i := .aload_n 0) (len := 1) (by decide +kernel) rfl ?_
  refine rz_gfc (idx := 15) (pos := 10074) (by decide +kernel) (by decide +kernel) (by decide +kernel) hx ?_
  refine rz_ifne (tgt := 17) (off := 7) (by decide +kernel) rfl (fun c => absurd rfl c) (fun _ => ?_)
  refine rz_iconst (v := 1) (n := 1) (by decide +kernel) (by decide) ?_
  refine rz_pure (pc' := 18) (i := .goto 4) (len := 3) (by decide +kernel) rfl ?_
  exact rz_ireti (by decide +kernel) rfl rfl ⟨rfl, rfl⟩
theorem c_Str_length {S : rz_S} {i : Nat} (hx : i < 20) : rz_ev mStr_length [.ref (1000000 + i)] S (rz_i (fun x S1 => x = nI (tx i).length ∧ S1 = S)) := by
  show rz _ 0 [(0, .ref (1000000 + i))] [] _ _
  refine rz_pure (pc' := 1) (i := .aload_n 0) (len := 1) (by decide +kernel) rfl ?_
  refine rz_gfv (idx := 9) (pos := 10073) (by decide +kernel) (by decide +kernel) (by decide +kernel) hx ?_
  refine rz_alt (by decide +kernel) hx ?_
  refine rz_pure (pc' := 6) (i := .aload_n 0) (len := 1) (by decide +kernel) rfl ?_
  refine rz_callTi (t := []) (idx := 335) (by decide +kernel) w_16_335 rfl rfl (txP_i hx) rfl (c_Str_coder hx) (fun x S1 q => ?_)
  obtain ⟨rfl, rfl⟩ := q
  refine rz_ishr (by decide +kernel) ?_
  rw [sh_0]
  exact rz_ireti (by decide +kernel) rfl rfl ⟨rfl, rfl⟩
theorem c_Lat_charAt {S : rz_S} {i j : Nat} (hx : i < 20) (hj : j < (tx i).length) : rz_ev mLat_charAt [.ref (2000000 + i), .int (nI j)] S (rz_i (fun x S1 => x = (tx i).getD j 0 ∧ S1 = S)) := by
  have hl := tx_l hx
  show rz _ 0 [(0, .ref (2000000 + i)), (1, .int (nI j))] [] _ _
  refine rz_pure (pc' := 1) (i := .iload_n 1) (len := 1) (by decide +kernel) rfl ?_
  refine rz_pure (pc' := 2) (i := .aload_n 0) (len := 1) (by decide +kernel) rfl ?_
  refine rz_alt (by decide +kernel) hx ?_
  refine rz_heap (S1 := S) (pc' := 6) (st' := []) (i := .invokestatic 9) (len := 3) (by decide +kernel) rfl ?_ ?_
  · have e1 : rx_lk rx_YLs 17 9 = none := by decide +kernel
    have e2 : rx_lk rx_JLs 17 9 = none := by decide +kernel
    have e3 : rx_lk rx_XLs 17 9 = some 6057 := by decide +kernel
    have e4 : ¬ nI j < 0 := nI_pos (by omega)
    have e5 : nI j < Int32.ofNat (tx i).length := nI_lt hj (by omega)
    show rx_heap 17 _ 2 43 _ _ _ _ _ = _
    simp only [rx_heap, e1, e2, e3, e4, e5, rx_cats]
    rfl
  refine rz_pure (pc' := 7) (i := .aload_n 0) (len := 1) (by decide +kernel) rfl ?_
  refine rz_pure (pc' := 8) (i := .iload_n 1) (len := 1) (by decide +kernel) rfl ?_
  refine rz_bat (by decide +kernel) hx hj (by omega) ?_
  refine rz_sipush (v := 255) (n := 255) (by decide +kernel) (by decide) ?_
  refine rz_iand (by decide +kernel) ?_
  refine rz_pure (pc' := 14) (i := .i2c) (len := 1) (by decide +kernel) rfl ?_
  have h := (tx_ok i hx).2 j (by omega)
  have h' : (((tx i).getD j 0 &&& 255).toUInt32 % 65536).toInt32 = (tx i).getD j 0 := h
  rw [h']
  refine rz_ireti (by decide +kernel) rfl ?_ ⟨rfl, rfl⟩
  show decide ((((tx i).getD j 0).toUInt32 % 65536).toInt32 = (tx i).getD j 0) = true
  have h2 : ∀ i, i < 20 → ∀ j, j < 30 → (((rx_tb.getD i []).getD j 0).toUInt32 % 65536).toInt32 = (rx_tb.getD i []).getD j 0 := by decide +kernel
  exact decide_eq_true (h2 i hx j (by omega))
theorem c_Str_charAt {S : rz_S} {i j : Nat} (hx : i < 20) (hj : j < (tx i).length) : rz_ev mStr_charAt [.ref (1000000 + i), .int (nI j)] S (rz_i (fun x S1 => x = (tx i).getD j 0 ∧ S1 = S)) := by
  show rz _ 0 [(0, .ref (1000000 + i)), (1, .int (nI j))] [] _ _
  refine rz_pure (pc' := 1) (i := .aload_n 0) (len := 1) (by decide +kernel) rfl ?_
  refine rz_callTi (t := []) (idx := 492) (by decide +kernel) w_16_492 rfl rfl (txP_i hx) rfl (c_Str_isLatin1 hx) (fun x S1 q => ?_)
  obtain ⟨rfl, rfl⟩ := q
  refine rz_ifeq (tgt := 16) (off := 12) (by decide +kernel) rfl (fun c => absurd c (by decide)) (fun _ => ?_)
  refine rz_pure (pc' := 8) (i := .aload_n 0) (len := 1) (by decide +kernel) rfl ?_
  refine rz_gfv (idx := 9) (pos := 10073) (by decide +kernel) (by decide +kernel) (by decide +kernel) hx ?_
  refine rz_pure (pc' := 12) (i := .iload_n 1) (len := 1) (by decide +kernel) rfl ?_
  refine rz_callSi (t := [.int (nI j), .ref (2000000 + i)]) (idx := 495) (by decide +kernel) (by
    have e1 : rx_lk rx_YLs 16 495 = none := by decide +kernel
    have e2 : rx_lk rx_JLs 16 495 = none := by decide +kernel
    have e3 : rx_lk rx_XLs 16 495 = none := by decide +kernel
    show rx_heap 16 _ _ _ _ _ _ _ _ = none
    simp only [rx_heap, e1, e2, e3]) w_16_495 rfl rfl (c_Lat_charAt hx hj) (fun x S1 q => ?_)
  obtain ⟨rfl, rfl⟩ := q
  refine rz_ireti (by decide +kernel) rfl ?_ ⟨rfl, rfl⟩
  show decide ((((tx i).getD j 0).toUInt32 % 65536).toInt32 = (tx i).getD j 0) = true
  have h2 : ∀ i, i < 20 → ∀ j, j < 30 → (((rx_tb.getD i []).getD j 0).toUInt32 % 65536).toInt32 = (rx_tb.getD i []).getD j 0 := by decide +kernel
  have hl := tx_l hx
  exact decide_eq_true (h2 i hx j (by omega))
