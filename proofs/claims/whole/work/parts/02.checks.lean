/-! what the tables of part 01 say is among the Statement's words -/
def rx_lk {α : Type} : List ((Nat × Nat) × α) → Nat → Nat → Option α
  | [], _, _ => none
  | q :: t, c, i => if q.1.1 = c ∧ q.1.2 = i then some q.2 else rx_lk t c i
theorem rx_lk_mem {α : Type} {t : List ((Nat × Nat) × α)} {c i : Nat} {a : α} (h : rx_lk t c i = some a) : ((c, i), a) ∈ t := by
  induction t with
  | nil => cases h
  | cons q t ih =>
    unfold rx_lk at h
    split at h
    · next e =>
      obtain ⟨⟨q1, q2⟩, q3⟩ := q
      obtain ⟨e1, e2⟩ := e
      subst e1; subst e2
      cases h
      exact List.mem_cons_self
    · exact List.mem_cons_of_mem _ (ih h)
theorem rx_has_mem {i : Nat} {w : Cond} (h : rx_has i w = true) : w ∈ rx_Ts := by
  unfold rx_has at h
  simp only [Bool.and_eq_true, decide_eq_true_eq] at h
  exact List.mem_filter.mpr ⟨rx_grp_mem (List.mem_of_getElem? h.1), h.2⟩
def rx_fchk (q : (Nat × Nat) × (Nat × Nat × FieldType × Bool) × Nat) : Bool := match vwCl[q.2.1.1]? with
  | some (C, T, N) => decide (q.2.1.2.1 < N) && rx_has q.2.2 (.fieldLink (rx_cn q.1.1) q.1.2 (T q.2.1.2.1).1 (T q.2.1.2.1).2.1 (T q.2.1.2.1).2.2.1) && decide (parseFieldDescriptor (T q.2.1.2.1).2.2.1 = some q.2.1.2.2.1) && decide ((T q.2.1.2.1).2.2.2 = q.2.1.2.2.2) && decide ((T q.2.1.2.1).1 = C)
  | none => false
set_option maxRecDepth 100000 in
theorem rx_fchk_all : rx_FLs.all rx_fchk = true := by decide +kernel
theorem rx_FL_ok {co idx ci k : Nat} {ty : FieldType} {fin : Bool} {pos : Nat} (h : rx_lk rx_FLs co idx = some ((ci, k, ty, fin), pos)) : ∃ (C : String) (T : u_T) (N : Nat), vwCl[ci]? = some (C, T, N) ∧ k < N ∧ Cond.fieldLink (rx_cn co) idx (T k).1 (T k).2.1 (T k).2.2.1 ∈ rx_Ts ∧ parseFieldDescriptor (T k).2.2.1 = some ty ∧ (T k).2.2.2 = fin ∧ (T k).1 = C := by
  have h1 := List.all_eq_true.mp rx_fchk_all _ (rx_lk_mem h)
  unfold rx_fchk at h1
  dsimp only at h1
  split at h1
  · next C T N hc =>
    simp only [Bool.and_eq_true, decide_eq_true_eq] at h1
    exact ⟨C, T, N, hc, h1.1.1.1.1, rx_has_mem h1.1.1.1.2, h1.1.1.2, h1.1.2, h1.2⟩
  · cases h1
def rx_CW (ci : Nat) (C : String) (T : u_T) (N : Nat) : Prop := (∀ w ∈ u_ws C T N, w ∈ rx_Ts) ∧ (∃ ty0, rx_cf[ci]? = some ty0 ∧ ∀ k, k < N → parseFieldDescriptor (T k).2.2.1 = some (ty0 k)) ∧ (∀ a, a < N → ∀ b, b < N → a ≠ b → (T a).2.1 ≠ (T b).2.1) ∧ Cond.instantiable C N ∈ rx_Ts ∧ Cond.initialized C ∈ rx_Ts
def rx_in2 (ws : List Cond) : Bool := ws.all (fun w => decide (w ∈ tables_1) && goodWord w)
theorem rx_in2_mem {ws : List Cond} (h : rx_in2 ws = true) : ∀ w ∈ ws, w ∈ rx_Ts := by
  intro w hw
  have h1 := List.all_eq_true.mp h w hw
  simp only [Bool.and_eq_true, decide_eq_true_eq] at h1
  exact List.mem_filter.mpr ⟨List.mem_append_right _ h1.1, h1.2⟩
set_option maxRecDepth 100000 in
theorem rx_CW0 : rx_CW 0 RX0 TX0 4 := ⟨rx_in2_mem (by decide +kernel), ⟨tyX0, rfl, tyX0_ok⟩, nmX0, rx_in2_mem (ws := [Cond.instantiable RX0 4]) (by decide +kernel) _ List.mem_cons_self, rx_in2_mem (ws := [Cond.initialized RX0]) (by decide +kernel) _ List.mem_cons_self⟩
set_option maxRecDepth 100000 in
theorem rx_CW1 : rx_CW 1 RX1 TX1 16 := ⟨rx_in2_mem (by decide +kernel), ⟨tyX1, rfl, tyX1_ok⟩, nmX1, rx_in2_mem (ws := [Cond.instantiable RX1 16]) (by decide +kernel) _ List.mem_cons_self, rx_in2_mem (ws := [Cond.initialized RX1]) (by decide +kernel) _ List.mem_cons_self⟩
set_option maxRecDepth 100000 in
theorem rx_CW2 : rx_CW 2 RX2 TX2 10 := ⟨rx_in2_mem (by decide +kernel), ⟨tyX2, rfl, tyX2_ok⟩, nmX2, rx_in2_mem (ws := [Cond.instantiable RX2 10]) (by decide +kernel) _ List.mem_cons_self, rx_in2_mem (ws := [Cond.initialized RX2]) (by decide +kernel) _ List.mem_cons_self⟩
set_option maxRecDepth 100000 in
theorem rx_CW3 : rx_CW 3 RX3 TX3 9 := ⟨rx_in2_mem (by decide +kernel), ⟨tyX3, rfl, tyX3_ok⟩, nmX3, rx_in2_mem (ws := [Cond.instantiable RX3 9]) (by decide +kernel) _ List.mem_cons_self, rx_in2_mem (ws := [Cond.initialized RX3]) (by decide +kernel) _ List.mem_cons_self⟩
set_option maxRecDepth 100000 in
theorem rx_CW4 : rx_CW 4 RX4 TX4 10 := ⟨rx_in2_mem (by decide +kernel), ⟨tyX4, rfl, tyX4_ok⟩, nmX4, rx_in2_mem (ws := [Cond.instantiable RX4 10]) (by decide +kernel) _ List.mem_cons_self, rx_in2_mem (ws := [Cond.initialized RX4]) (by decide +kernel) _ List.mem_cons_self⟩
set_option maxRecDepth 100000 in
theorem rx_CW5 : rx_CW 5 RX5 TX5 12 := ⟨rx_in2_mem (by decide +kernel), ⟨tyX5, rfl, tyX5_ok⟩, nmX5, rx_in2_mem (ws := [Cond.instantiable RX5 12]) (by decide +kernel) _ List.mem_cons_self, rx_in2_mem (ws := [Cond.initialized RX5]) (by decide +kernel) _ List.mem_cons_self⟩
set_option maxRecDepth 100000 in
theorem rx_CW6 : rx_CW 6 RX6 TX6 2 := ⟨rx_in2_mem (by decide +kernel), ⟨tyX6, rfl, tyX6_ok⟩, nmX6, rx_in2_mem (ws := [Cond.instantiable RX6 2]) (by decide +kernel) _ List.mem_cons_self, rx_in2_mem (ws := [Cond.initialized RX6]) (by decide +kernel) _ List.mem_cons_self⟩
set_option maxRecDepth 100000 in
theorem rx_CW7 : rx_CW 7 RX7 TX7 10 := ⟨rx_in2_mem (by decide +kernel), ⟨tyX7, rfl, tyX7_ok⟩, nmX7, rx_in2_mem (ws := [Cond.instantiable RX7 10]) (by decide +kernel) _ List.mem_cons_self, rx_in2_mem (ws := [Cond.initialized RX7]) (by decide +kernel) _ List.mem_cons_self⟩
set_option maxRecDepth 100000 in
theorem rx_CW8 : rx_CW 8 RX8 TX8 8 := ⟨rx_in2_mem (by decide +kernel), ⟨tyX8, rfl, tyX8_ok⟩, nmX8, rx_in2_mem (ws := [Cond.instantiable RX8 8]) (by decide +kernel) _ List.mem_cons_self, rx_in2_mem (ws := [Cond.initialized RX8]) (by decide +kernel) _ List.mem_cons_self⟩
set_option maxRecDepth 100000 in
theorem rx_CW9 : rx_CW 9 RX9 TX9 10 := ⟨rx_in2_mem (by decide +kernel), ⟨tyX9, rfl, tyX9_ok⟩, nmX9, rx_in2_mem (ws := [Cond.instantiable RX9 10]) (by decide +kernel) _ List.mem_cons_self, rx_in2_mem (ws := [Cond.initialized RX9]) (by decide +kernel) _ List.mem_cons_self⟩
set_option maxRecDepth 100000 in
theorem rx_CW10 : rx_CW 10 RX10 TX10 4 := ⟨rx_in2_mem (by decide +kernel), ⟨tyX10, rfl, tyX10_ok⟩, nmX10, rx_in2_mem (ws := [Cond.instantiable RX10 4]) (by decide +kernel) _ List.mem_cons_self, rx_in2_mem (ws := [Cond.initialized RX10]) (by decide +kernel) _ List.mem_cons_self⟩
set_option maxRecDepth 100000 in
theorem rx_CW11 : rx_CW 11 RX11 TX11 9 := ⟨rx_in2_mem (by decide +kernel), ⟨tyX11, rfl, tyX11_ok⟩, nmX11, rx_in2_mem (ws := [Cond.instantiable RX11 9]) (by decide +kernel) _ List.mem_cons_self, rx_in2_mem (ws := [Cond.initialized RX11]) (by decide +kernel) _ List.mem_cons_self⟩
set_option maxRecDepth 100000 in
theorem rx_CW12 : rx_CW 12 RX12 TX12 84 := ⟨rx_in2_mem (by decide +kernel), ⟨tyX12, rfl, tyX12_ok⟩, nmX12, rx_in2_mem (ws := [Cond.instantiable RX12 84]) (by decide +kernel) _ List.mem_cons_self, rx_in2_mem (ws := [Cond.initialized RX12]) (by decide +kernel) _ List.mem_cons_self⟩
theorem rx_cl_ok {ci : Nat} {C : String} {T : u_T} {N : Nat} (h : vwCl[ci]? = some (C, T, N)) : rx_CW ci C T N := by
  match ci, h with
  | 0, h => cases h; exact rx_CW0
  | 1, h => cases h; exact rx_CW1
  | 2, h => cases h; exact rx_CW2
  | 3, h => cases h; exact rx_CW3
  | 4, h => cases h; exact rx_CW4
  | 5, h => cases h; exact rx_CW5
  | 6, h => cases h; exact rx_CW6
  | 7, h => cases h; exact rx_CW7
  | 8, h => cases h; exact rx_CW8
  | 9, h => cases h; exact rx_CW9
  | 10, h => cases h; exact rx_CW10
  | 11, h => cases h; exact rx_CW11
  | 12, h => cases h; exact rx_CW12
  | k + 13, h => simp [vwCl] at h
