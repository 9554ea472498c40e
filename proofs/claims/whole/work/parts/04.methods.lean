/-! what the table of methods says is among the words -/
def rm_co (M : rx_M) : Nat := M.1
def rm_y (M : rx_M) : MethodName := M.2.1
def rm_code (M : rx_M) : ByteArray := M.2.2.1
def rm_maxL (M : rx_M) : Nat := M.2.2.2.1
def rm_ret (M : rx_M) : Option FieldType := M.2.2.2.2.1
def rm_np (M : rx_M) : Nat := M.2.2.2.2.2.1
def rm_kind (M : rx_M) : Nat := M.2.2.2.2.2.2.1
def rm_fr (M : rx_M) : Nat := M.2.2.2.2.2.2.2.1
def rm_lo (M : rx_M) : Nat := M.2.2.2.2.2.2.2.2.1
def rm_mc (M : rx_M) : Nat := M.2.2.2.2.2.2.2.2.2.1
def rm_ms (M : rx_M) : Nat := M.2.2.2.2.2.2.2.2.2.2
def rm_room (M : rx_M) : Room := { frames := rm_fr M, cells := rm_mc M, slots := rm_ms M, locals := rm_lo M }
def rm_ws (M : rx_M) : List Cond := Cond.code (rm_y M) (rm_code M) (rm_maxL M) (rm_ret M) :: rx_Ts
def rx_mchk (M : rx_M) (q : Nat × Nat × Nat × Nat) : Bool :=
  rx_has q.2.2.1 (.initialized (rm_y M).cls) && plainName (rm_y M).cls && decide ((rm_y M).cls ≠ "java/lang/invoke/MethodHandle") && decide ((rm_y M).cls ≠ "java/lang/invoke/VarHandle") && decide ((parseMethodDescriptor (rm_y M).desc).map (fun d => d.parameters.length) = some (rm_np M)) && decide (rx_cn (rm_co M) = (rm_y M).cls) &&
  (if rm_kind M = 1 then rx_has q.2.1 (.static (rm_y M)) else rx_has q.2.1 (.instanceMethod (rm_y M)) && (if rm_kind M = 2 then decide ((rm_y M).name = "<init>") && decide (rm_ret M = none) else rx_has q.2.2.2 (.selects (rm_y M).cls (rm_y M) (rm_y M))))
theorem rx_mchk_z {a : List rx_M} {b : List (Nat × Nat × Nat × Nat)} (h1 : (a.zip b).all (fun z => rx_mchk z.1 z.2) = true) (h2 : a.length = b.length) : ∀ M ∈ a, ∃ q, rx_mchk M q = true := by
  intro M hM
  obtain ⟨j, hj⟩ := List.getElem?_of_mem hM
  have hl : j < b.length := by rw [← h2]; exact (List.getElem?_eq_some_iff.mp hj).1
  have h3 : (a.zip b)[j]? = some (M, b[j]) := by
    rw [List.getElem?_zip_eq_some]
    exact ⟨hj, by simp [hl]⟩
  exact ⟨_, List.all_eq_true.mp h1 _ (List.mem_of_getElem? h3)⟩
theorem rx_mchk_app {a b : List rx_M} (ha : ∀ M ∈ a, ∃ q, rx_mchk M q = true) (hb : ∀ M ∈ b, ∃ q, rx_mchk M q = true) : ∀ M ∈ a ++ b, ∃ q, rx_mchk M q = true := fun M h => (List.mem_append.mp h).elim (ha M) (hb M)
set_option maxRecDepth 100000 in
theorem rx_mchk0 : ∀ M ∈ rx_MT_0, ∃ q, rx_mchk M q = true := rx_mchk_z (b := rx_ME_0) (by decide +kernel) rfl
set_option maxRecDepth 100000 in
theorem rx_mchk1 : ∀ M ∈ rx_MT_1, ∃ q, rx_mchk M q = true := rx_mchk_z (b := rx_ME_1) (by decide +kernel) rfl
set_option maxRecDepth 100000 in
theorem rx_mchk2 : ∀ M ∈ rx_MT_2, ∃ q, rx_mchk M q = true := rx_mchk_z (b := rx_ME_2) (by decide +kernel) rfl
set_option maxRecDepth 100000 in
theorem rx_mchk3 : ∀ M ∈ rx_MT_3, ∃ q, rx_mchk M q = true := rx_mchk_z (b := rx_ME_3) (by decide +kernel) rfl
set_option maxRecDepth 100000 in
theorem rx_mchk4 : ∀ M ∈ rx_MT_4, ∃ q, rx_mchk M q = true := rx_mchk_z (b := rx_ME_4) (by decide +kernel) rfl
set_option maxRecDepth 100000 in
theorem rx_mchk5 : ∀ M ∈ rx_MT_5, ∃ q, rx_mchk M q = true := rx_mchk_z (b := rx_ME_5) (by decide +kernel) rfl
set_option maxRecDepth 100000 in
theorem rx_mchk6 : ∀ M ∈ rx_MT_6, ∃ q, rx_mchk M q = true := rx_mchk_z (b := rx_ME_6) (by decide +kernel) rfl
set_option maxRecDepth 100000 in
theorem rx_mchk7 : ∀ M ∈ rx_MT_7, ∃ q, rx_mchk M q = true := rx_mchk_z (b := rx_ME_7) (by decide +kernel) rfl
set_option maxRecDepth 100000 in
theorem rx_mchk8 : ∀ M ∈ rx_MT_8, ∃ q, rx_mchk M q = true := rx_mchk_z (b := rx_ME_8) (by decide +kernel) rfl
theorem rx_mt_all : ∀ M ∈ rx_MT, ∃ q, rx_mchk M q = true := rx_mchk_app (rx_mchk_app (rx_mchk_app (rx_mchk_app (rx_mchk_app (rx_mchk_app (rx_mchk_app (rx_mchk_app (rx_mchk0) rx_mchk1) rx_mchk2) rx_mchk3) rx_mchk4) rx_mchk5) rx_mchk6) rx_mchk7) rx_mchk8
set_option maxRecDepth 100000 in
theorem rx_mlchk : rx_MLs.all (fun q => q.2.1.2 || match rx_MT[q.2.1.1]? with
  | some Z => rx_has q.2.2 (.methodLink (rx_cn q.1.1) q.1.2 (rm_y Z))
  | none => false) = true := by decide +kernel
theorem rx_mt_ok {j : Nat} {M : rx_M} (h : rx_MT[j]? = some M) : ∃ q, rx_mchk M q = true := rx_mt_all M (List.mem_of_getElem? h)
theorem rx_ml_ok {co idx j pos : Nat} {Z : rx_M} (h : rx_lk rx_MLs co idx = some ((j, false), pos)) (hZ : rx_MT[j]? = some Z) : Cond.methodLink (rx_cn co) idx (rm_y Z) ∈ rx_Ts := by
  have h1 := List.all_eq_true.mp rx_mlchk _ (rx_lk_mem h)
  simp only [hZ, Bool.false_or] at h1
  exact rx_has_mem h1
