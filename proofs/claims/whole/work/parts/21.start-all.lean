/-! the law's entry: all that the engine asks for stands there -/
theorem rx_Ts_of {args : Array Value} {s : State} (hts : ∀ w ∈ lw_tbl, w.before args s = true) : ∀ w ∈ rx_Ts, w.before args s = true := fun w hw => hts w (List.mem_filter.mp hw).1
theorem rx_tab_of {args : Array Value} {s : State} (hts : ∀ w ∈ lw_tbl, w.before args s = true) : ∀ w ∈ tables_1, w.before args s = true := fun w hw => hts w (List.mem_append_right _ hw)
/-- the classes -/
theorem rx_D_of {args : Array Value} {s : State} (hts : ∀ w ∈ lw_tbl, w.before args s = true) : ∃ D : va_G, ∀ (c : Nat) (q : vw_C), vwCl[c]? = some q → u_Kn s q.1 q.2.1 q.2.2 (D.1 c) (D.2 c) := by
  have h0 : ∀ c : Nat, ∃ z : ClassId × (Nat → Nat), ∀ q : vw_C, vwCl[c]? = some q → u_Kn s q.1 q.2.1 q.2.2 z.1 z.2 := by
    intro c
    cases hc : vwCl[c]? with
    | none => exact ⟨(0, fun _ => 0), fun q hq => by cases hq⟩
    | some q =>
      obtain ⟨C, T, N⟩ := q
      obtain ⟨w1, -, -, w4, -⟩ := rx_cl_ok hc
      obtain ⟨cC, iS, hk⟩ := u_known (C := C) (T := T) (N := N) (n := N) (rx_Ts_of hts) w1 (rx_Ts_of hts _ w4)
      exact ⟨(cC, iS), fun q hq => by cases hq; exact hk⟩
  obtain ⟨f, hf⟩ := Classical.axiomOfChoice h0
  exact ⟨(fun c => (f c).1, fun c => (f c).2), fun c q hq => hf c q hq⟩
/-- the kinds of arrays -/
theorem rx_tC_of {args : Array Value} {s : State} (hts : ∀ w ∈ lw_tbl, w.before args s = true) : ∃ tC : Nat → ClassId, ∀ (k : Nat) (q : ClassId × FieldType), (rx_tys tC)[k]? = some q → ArrOfT s q.1 q.2 ∧ va_RA s q.1 q.2 := by
  have prim : ∀ ty : FieldType, Cond.arrayClass ty ∈ rx_Ts → (∀ C, ty ≠ .object C) → ∃ cA : ClassId, ArrOfT s cA ty ∧ va_RA s cA ty := by
    intro ty hw hne
    obtain ⟨c, k, comp, h1, h2, h3⟩ := Cond.arrayClass_spec (rx_Ts_of hts _ hw)
    refine ⟨c, fun n z => ⟨fun k h => (by cases h), k, h2, comp, h3⟩, ?_⟩
    cases ty with
    | object C => exact absurd rfl (hne C)
    | _ => exact h1
  have h0 : ∀ k : Nat, ∃ cA : ClassId, ∀ ty, rx_ty[k]? = some ty → ArrOfT s cA ty ∧ va_RA s cA ty := by
    intro k
    obtain ⟨g1, g2, g3⟩ := rx_w_ac
    cases hk : rx_ty[k]? with
    | none => exact ⟨0, fun ty h => by cases h⟩
    | some ty =>
      have hlt : k < rx_ty.length := (List.getElem?_eq_some_iff.mp hk).1
      have hcase : ty = .int ∨ ty = .byte ∨ ty = .boolean ∨ ∃ ci, (k, ci) ∈ rx_el ∧ ty = .object (rx_cn ci) := by
        have hall : (List.range rx_ty.length).all (fun k => match rx_ty[k]? with
          | some ty => decide (ty = .int) || decide (ty = .byte) || decide (ty = .boolean) || rx_el.any (fun z => decide (z.1 = k) && decide (ty = .object (rx_cn z.2)))
          | none => true) = true := by decide +kernel
        have h1 := List.all_eq_true.mp hall k (List.mem_range.mpr hlt)
        rw [hk] at h1
        simp only [Bool.or_eq_true, decide_eq_true_eq, List.any_eq_true, Bool.and_eq_true] at h1
        rcases h1 with ((h1 | h1) | h1) | ⟨⟨z1, z2⟩, hz, e1, e2⟩
        · exact Or.inl h1
        · exact Or.inr (Or.inl h1)
        · exact Or.inr (Or.inr (Or.inl h1))
        · dsimp only at e1 e2
          subst e1
          exact Or.inr (Or.inr (Or.inr ⟨z2, hz, e2⟩))
      have hres : ∃ cA : ClassId, ArrOfT s cA ty ∧ va_RA s cA ty := by
        rcases hcase with rfl | rfl | rfl | ⟨ci, hz, rfl⟩
        · exact prim _ g1 (fun C h => by cases h)
        · exact prim _ g2 (fun C h => by cases h)
        · exact prim _ g3 (fun C h => by cases h)
        · have hw := List.all_eq_true.mp rx_overw _ hz
          have hw2 := rx_tab_of hts _ (of_decide_eq_true hw)
          obtain ⟨comp, c, kk, h1, h2, h3, h4, h5⟩ := Cond.arrayOver_spec hw2
          exact ⟨c, fun n z => ⟨fun k h => (by cases h), kk, h3, comp, h4⟩, kk, comp, h3, h4, h1, h5⟩
      obtain ⟨cA, hcA⟩ := hres
      exact ⟨cA, fun ty' h => by cases h; exact hcA⟩
  obtain ⟨f, hf⟩ := Classical.axiomOfChoice h0
  refine ⟨f, fun k q hq => ?_⟩
  simp only [rx_tys, List.getElem?_mapIdx] at hq
  cases hk : rx_ty[k]? with
  | none => rw [hk] at hq; cases hq
  | some ty =>
    rw [hk] at hq
    cases hq
    exact hf k ty hk
set_option maxRecDepth 100000 in
theorem rx_zqw : Cond.laysStatic "jdk/internal/util/Preconditions" "SIOOBE_FORMATTER" "Ljava/util/function/BiFunction;" ∈ tables_1 ∧ Cond.initialized "jdk/internal/util/Preconditions" ∈ tables_1 := by decide +kernel
/-- the constants -/
theorem rx_Con_of {s : State} {b : Nat} (hts : ∀ w ∈ lw_tbl, w.before #[Value.ref b] s = true) (hgv : (Jvm.Cond.and given_1 narrow_1).before #[Value.ref b] s = true) : ∃ ad : Nat → Nat, ad 5000000 = b ∧ rx_Con ad s.heap.size s := by
  have hA : ∀ a : Nat, a < s.heap.size → ¬ rx_A s.heap.size a := fun a h => Nat.not_le.mpr h
  have hf : ∀ w ∈ rx_flL, w.before #[Value.ref b] s = true := by
    rw [Cond.before_and, Bool.and_eq_true] at hgv
    have := flat_of_before narrow_1 hgv.2
    rw [rx_flat] at this
    exact this
  obtain ⟨s1, s2, s3, s4, s5⟩ := rx_sts
  -- texts
  have hst : ∃ adK adV : Nat → Nat, vk_S rx_tb.length (rx_tb.map List.length) rx_tb adK adV (rx_A s.heap.size) s s.heap ∧ ∀ i : Nat, i < rx_tb.length → (rx_tm i).eval #[Value.ref b] s none [] s = some (.ref (adK i)) := by
    have hm : ∀ {i : Nat}, i < rx_tb.length → ∀ {w : Cond}, w ∈ rx_sst i → w.before #[Value.ref b] s = true := fun hi _ hw => hf _ (rx_tx_mem hi hw)
    refine vk_Sof (tm := rx_tm) (fun i hi => ?_) (fun i hi => hm hi (by simp [rx_sst])) (fun i hi => hm hi (by simp [rx_sst])) (fun i hi => hm hi (by simp [rx_sst])) (fun i hi => hm hi (by simp [rx_sst])) (fun i hi j hj => hm hi ?_) (fun i j hi hj hij => ?_) hA
    · have hl : i < (rx_tb.map List.length).length := by simpa using hi
      have h1 := List.all_eq_true.mp s4 _ (List.getElem_mem hl)
      have h2 : (rx_tb.map List.length)[i] < 100 := of_decide_eq_true h1
      rw [List.getD_eq_getElem?_getD, List.getElem?_eq_getElem hl, Option.getD_some]
      omega
    · unfold rx_sst
      exact List.mem_append_right _ (List.mem_map.mpr ⟨j, List.mem_range.mpr hj, rfl⟩)
    · rcases Nat.lt_or_gt_of_ne hij with h | h
      · exact Or.inl (hf _ (rx_tx_ne hj h))
      · exact Or.inr (hf _ (rx_tx_ne hi h))
  obtain ⟨adK, adV, hS, hev⟩ := hst
  -- static arrays
  have hsa : ∀ k : Nat, ∃ t : Nat, ∀ (C n d : String) (N : Nat) (a : List Int32), rx_sn[k]? = some (C, n, d, .inr (N, a)) → va_Z C n d (.ref t) (rx_A s.heap.size) s s.heap ∧ va_T .int t N (fun j => .int (a.getD j 0)) (rx_A s.heap.size) s s.heap := by
    intro k
    cases hk : rx_sn[k]? with
    | none => exact ⟨0, fun C n d N a h => by cases h⟩
    | some q =>
      obtain ⟨C, n, d, z⟩ := q
      cases z with
      | inl x => exact ⟨0, fun C n d N a h => by cases h⟩
      | inr z =>
        obtain ⟨N, a⟩ := z
        have hq := List.mem_of_getElem? hk
        have hm : ∀ {w : Cond}, w ∈ rx_sat (C, n, d, .inr (N, a)) → w.before #[Value.ref b] s = true := fun hw => hf _ (rx_sn_mem hq hw)
        have hls := List.all_eq_true.mp rx_sn_ls _ hq
        simp only [Bool.and_eq_true, decide_eq_true_eq] at hls
        have hN : N < 1000 := of_decide_eq_true (List.all_eq_true.mp s5 _ hq)
        obtain ⟨t, ht, hT⟩ := va_Tof (tm := .static C n d) (ty := .int) (N := N) (f := fun j => .int (a.getD j 0)) (A := rx_A s.heap.size) (by omega) (hm (by simp [rx_sat])) (va_eqt (hm (by simp [rx_sat]))) (fun j hj => va_eqt (hm (by
          unfold rx_sat
          exact List.mem_append_right _ (List.mem_map.mpr ⟨j, List.mem_range.mpr hj, rfl⟩)))) hA
        refine ⟨t, fun C' n' d' N' a' h => ?_⟩
        cases h
        exact ⟨va_Zof (rx_tab_of hts _ hls.1) (rx_tab_of hts _ hls.2) ht hA, hT⟩
  obtain ⟨adS, hadS⟩ := Classical.axiomOfChoice hsa
  refine ⟨fun k => if k = 5000000 then b else if 3000000 ≤ k then adS (k - 3000000) else if 2000000 ≤ k then adV (k - 2000000) else adK (k - 1000000), by simp, ?_, ?_, ?_, ?_, ?_, ?_, ?_⟩
  · refine ⟨fun i hi => ?_, fun i j hi hj e => ?_⟩
    · have hi2 : i < 20 := by rw [← s1]; exact hi
      have e1 : ¬ (1000000 + i = 5000000) := by omega
      have e2 : ¬ (3000000 ≤ 1000000 + i) := by omega
      have e3 : ¬ (2000000 ≤ 1000000 + i) := by omega
      have e4 : ¬ (2000000 + i = 5000000) := by omega
      have e5 : ¬ (3000000 ≤ 2000000 + i) := by omega
      have e6 : 2000000 ≤ 2000000 + i := by omega
      simp only [if_neg e1, if_neg e2, if_neg e3, if_neg e4, if_neg e5, if_pos e6, Nat.add_sub_cancel_left]
      exact hS.1 i hi
    · have hi2 : i < 20 := by rw [← s1]; exact hi
      have hj2 : j < 20 := by rw [← s1]; exact hj
      have e1 : ¬ (1000000 + i = 5000000) := by omega
      have e2 : ¬ (3000000 ≤ 1000000 + i) := by omega
      have e3 : ¬ (2000000 ≤ 1000000 + i) := by omega
      have f1 : ¬ (1000000 + j = 5000000) := by omega
      have f2 : ¬ (3000000 ≤ 1000000 + j) := by omega
      have f3 : ¬ (2000000 ≤ 1000000 + j) := by omega
      simp only [if_neg e1, if_neg e2, if_neg e3, if_neg f1, if_neg f2, if_neg f3, Nat.add_sub_cancel_left] at e
      exact hS.2 i j hi hj e
  · intro k C n d N a hk
    have hk2 : k < rx_sn.length := (List.getElem?_eq_some_iff.mp hk).1
    have hk3 : rx_sn.length = 12 := rfl
    have e1 : ¬ (3000000 + k = 5000000) := by omega
    have e2 : 3000000 ≤ 3000000 + k := by omega
    simp only [if_neg e1, if_pos e2, Nat.add_sub_cancel_left]
    exact hadS k C n d N a hk
  · intro k C n d x hk
    have hq := List.mem_of_getElem? hk
    have hls := List.all_eq_true.mp rx_sn_ls _ hq
    simp only [Bool.and_eq_true, decide_eq_true_eq] at hls
    exact va_Zof (rx_tab_of hts _ hls.1) (rx_tab_of hts _ hls.2) (va_eqi (hf _ (rx_sn_mem hq (by simp [rx_sat])))) hA
  · intro co idx k hk
    obtain ⟨h1, h2, tx, h3⟩ := rx_sts_lk hk
    have hk2 : k < 20 := by rw [← s1]; exact h1
    have e1 : ¬ (1000000 + k = 5000000) := by omega
    have e2 : ¬ (3000000 ≤ 1000000 + k) := by omega
    have e3 : ¬ (2000000 ≤ 1000000 + k) := by omega
    simp only [if_neg e1, if_neg e2, if_neg e3, Nat.add_sub_cancel_left]
    have h4 := hev k h1
    rw [h2] at h4
    exact ⟨tx, vk_R.of (rx_tab_of hts _ h3) h4⟩
  · intro t ci h
    exact va_AO.of (rx_tab_of hts _ (of_decide_eq_true (List.all_eq_true.mp rx_overw _ h)))
  · intro co idx j pos h M hM
    have h1 := List.all_eq_true.mp rx_nestw _ (rx_lk_mem h)
    simp only [hM, Bool.not_true, Bool.false_or, decide_eq_true_eq] at h1
    exact va_Nw.of rfl (rx_tab_of hts _ h1)
  · have hw := rx_zqw
    exact va_Zqof (rx_tab_of hts _ hw.1) (rx_tab_of hts _ hw.2) (hf _ (by
      unfold rx_flL
      simp only [List.mem_append, List.mem_flatMap]
      exact Or.inl (Or.inl (Or.inr (Or.inl (Or.inr List.mem_cons_self)))))) hA
/-- THE CLAIM OUT OF THE FUNCTION'S RUN: what is left is a fact about rx_runL -/
def law_pure : Prop := ∀ (L : Nat) (xs : Nat → Int32), L ≤ 3072 → ∃ (n : Nat) (h' : rx_H), rx_runL rx_lawM L xs n (0, [(0, .ref 5000000)], [], [], 0, 0) = some h'
theorem whole_open (hp : law_pure) {p : Program} {e : Env} {s : State} {m : MethodId} {below : List Frame} {meth : Method} {c : Code} (l : Launch) {b L : Nat} {xs : Nat → Int32} (hL : L ≤ 3072) (C0 : lw_At p s m meth c b L xs) : W p l e room_1 s m #[Value.ref b] below meth c s.heap [] 0 0 (lw_Z below #[Value.ref b] s) (entryFrame m ([Value.ref b] : List Value).toArray 4) := by
  obtain ⟨hx, hb, hr, hml, hown, hts, hX, hbl, hlocks, hgv⟩ := id C0
  obtain ⟨D, hD⟩ := rx_D_of hts
  obtain ⟨tC, htC⟩ := rx_tC_of hts
  obtain ⟨ad, had, hC⟩ := rx_Con_of hts hgv
  obtain ⟨n, h', hrun⟩ := hp L xs hL
  have hl := lv_entry ([.ref b]) (n := 4) (Nat.le_of_ble_eq_true rfl)
  rw [lg_entry_eq]
  generalize (lg_sl ([.ref b]) ++ List.replicate (4 - (lg_sl ([.ref b])).length) Slot.unset).toArray = ls at hl ⊢
  have hl2 : lv_has ls (rm_maxL rx_lawM) (rx_l ad [(0, .ref 5000000)]) := by
    have e1 : rx_l ad [(0, .ref 5000000)] = [(0, .ref b)] := by
      show [(0, Value.ref (ad 5000000))] = _
      rw [had]
    rw [e1]
    exact hl
  have hR : rx_Rel D tC ad s.heap.size s s.heap [] [] := ⟨⟨hD, htC⟩, fun k q h => by simp [rx_w] at h, ⟨fun i j p q h => by simp [rx_w] at h, fun k q h => by simp [rx_w] at h⟩, va_S.rf⟩
  rw [rx_law_room]
  exact rx_bodyL (M := rx_lawM) (D := D) (tC := tC) (ad0 := ad) (fun pc H ls hd => by rw [← rx_law_room]; exact lw_ret hx hb hr hlocks hd) hx hb hml hown (rx_Ts_of hts) hC hX hbl had n 0 [(0, .ref 5000000)] [] [] 0 0 ad s.heap [] ls h' hrun hR hl2 (Nat.zero_le _) (Nat.zero_le _) (fun _ _ => rfl)
