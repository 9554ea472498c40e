/-! what the Statement gives at the law's entry is what the engine asks for -/
def rx_sat (q : String × String × String × (Int32 ⊕ (Nat × List Int32))) : List Cond := match q with
  | (C, n, d, .inr (N, a)) => [.isRef (.static C n d), .arrayOf (.static C n d) .int, .eq (.length (.static C n d)) (.int (Int32.ofNat N))] ++ (List.range N).map (fun j => .eq (.elem (.static C n d) (.int (Int32.ofNat j))) (.int (a.getD j 0)))
  | (C, n, d, .inl x) => [.eq (.static C n d) (.int x)]
def rx_tm (i : Nat) : Term := match rx_STs[i]? with
  | some ((co, idx), _) => .string (rx_cn co) idx
  | none => .int 0
def rx_sst (i : Nat) : List Cond :=
  [.exactly (rx_tm i) "java/lang/String", .eq (.field (rx_tm i) "java/lang/String" "coder" "B") (.int 0), .arrayOf (.field (rx_tm i) "java/lang/String" "value" "[B") .byte, .eq (.length (.field (rx_tm i) "java/lang/String" "value" "[B")) (.int (Int32.ofNat ((rx_tb.map List.length).getD i 0)))] ++
  (List.range ((rx_tb.map List.length).getD i 0)).map (fun j => .eq (.elem (.field (rx_tm i) "java/lang/String" "value" "[B") (.int (Int32.ofNat j))) (.int ((rx_tb.getD i []).getD j 0)))
def rx_flL : List Cond := [.arrayOf (.arg 0) .int, .le (.length (.arg 0)) (.int 3072)] ++ ((rx_sn.take 8).flatMap rx_sat ++ ((rx_sn.drop 8).take 1).flatMap rx_sat ++ [.isRef (.static "jdk/internal/util/Preconditions" "SIOOBE_FORMATTER" "Ljava/util/function/BiFunction;")] ++ (rx_sn.drop 9).flatMap rx_sat) ++
  (List.range rx_tb.length).flatMap (fun i => rx_sst i ++ (List.range i).map (fun j => .not (.eq (rx_tm j) (rx_tm i)))) ++ (rx_sn.take 8).map (fun q => .not (.eq (.arg 0) (.static q.1 q.2.1 q.2.2.1)))
set_option maxRecDepth 1000000 in
theorem rx_flat : flatC narrow_1 = rx_flL := by decide +kernel
set_option maxRecDepth 100000 in
theorem rx_sn_ls : rx_sn.all (fun q => decide (Cond.laysStatic q.1 q.2.1 q.2.2.1 ∈ tables_1) && decide (Cond.initialized q.1 ∈ tables_1)) = true := by decide +kernel
theorem rx_sn_all : rx_sn = rx_sn.take 8 ++ ((rx_sn.drop 8).take 1 ++ rx_sn.drop 9) := rfl
theorem rx_sn_mem {q : String × String × String × (Int32 ⊕ (Nat × List Int32))} (h : q ∈ rx_sn) {w : Cond} (hw : w ∈ rx_sat q) : w ∈ rx_flL := by
  rw [rx_sn_all] at h
  unfold rx_flL
  simp only [List.mem_append, List.mem_flatMap]
  rcases List.mem_append.mp h with h | h
  · exact Or.inl (Or.inl (Or.inr (Or.inl (Or.inl (Or.inl ⟨q, h, hw⟩)))))
  · rcases List.mem_append.mp h with h | h
    · exact Or.inl (Or.inl (Or.inr (Or.inl (Or.inl (Or.inr ⟨q, h, hw⟩)))))
    · exact Or.inl (Or.inl (Or.inr (Or.inr ⟨q, h, hw⟩)))
theorem rx_tx_mem {i : Nat} (hi : i < rx_tb.length) {w : Cond} (hw : w ∈ rx_sst i) : w ∈ rx_flL := by
  unfold rx_flL
  simp only [List.mem_append, List.mem_flatMap]
  exact Or.inl (Or.inr ⟨i, List.mem_range.mpr hi, Or.inl hw⟩)
theorem rx_tx_ne {i j : Nat} (hi : i < rx_tb.length) (hj : j < i) : Cond.not (.eq (rx_tm j) (rx_tm i)) ∈ rx_flL := by
  unfold rx_flL
  simp only [List.mem_append, List.mem_flatMap]
  exact Or.inl (Or.inr ⟨i, List.mem_range.mpr hi, Or.inr (List.mem_map.mpr ⟨j, List.mem_range.mpr hj, rfl⟩)⟩)
set_option maxRecDepth 100000 in
theorem rx_sts : rx_tb.length = 20 ∧ rx_STs.length = 20 ∧ (List.range 20).all (fun i => match rx_STs[i]?, rx_tx[i]? with
  | some ((co, idx), k), some tx => decide (k = i) && decide (Cond.stringRef (rx_cn co) idx tx ∈ tables_1)
  | _, _ => false) = true ∧ (rx_tb.map List.length).all (fun n => decide (n < 100)) = true ∧ rx_sn.all (fun q => match q.2.2.2 with
  | .inr (N, _) => decide (N < 1000)
  | .inl _ => true) = true := by decide +kernel
theorem rx_sts_lk {co idx k : Nat} (h : rx_lk rx_STs co idx = some k) : k < rx_tb.length ∧ rx_tm k = .string (rx_cn co) idx ∧ ∃ tx, Cond.stringRef (rx_cn co) idx tx ∈ tables_1 := by
  obtain ⟨h1, h2, h3, -, -⟩ := rx_sts
  obtain ⟨i, hi⟩ := List.getElem?_of_mem (rx_lk_mem h)
  have hl : i < 20 := by rw [← h2]; exact (List.getElem?_eq_some_iff.mp hi).1
  have h4 := List.all_eq_true.mp h3 i (List.mem_range.mpr hl)
  rw [hi] at h4
  split at h4
  · next co' idx' k' tx e1 e2 =>
    cases e1
    simp only [Bool.and_eq_true, decide_eq_true_eq] at h4
    obtain ⟨e, h5⟩ := h4
    subst e
    refine ⟨by rw [h1]; exact hl, ?_, tx, h5⟩
    unfold rx_tm
    rw [hi]
  · cases h4
set_option maxRecDepth 100000 in
theorem rx_nestw : rx_MLs.all (fun q => !q.2.1.2 || match rx_MT[q.2.1.1]? with
  | some Z => decide (Cond.methodLinkNest (rx_cn q.1.1) q.1.2 Z.2.1 rx_host ∈ tables_1)
  | none => true) = true := by decide +kernel
set_option maxRecDepth 100000 in
theorem rx_overw : rx_el.all (fun q => decide (Cond.arrayOver (.object (rx_cn q.2)) ∈ tables_1)) = true := by decide +kernel
