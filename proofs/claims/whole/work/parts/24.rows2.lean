/-! rows: branches, calls, answers -/
section RZ2
variable {M : rx_M} {pc len tgt : Nat} {l : rx_L} {st rest : List Value} {S S1 : rz_S} {Q : Option Value → rz_S → Prop} {x y : Int32} {off : Int}
theorem rz_b1 {cd : ClassFile.Cond} (hd : decode (rm_code M) pc = .ok (.ifCond cd off, 3)) (ht : rx_tg pc off = some tgt) (k1 : rx_c1 cd x = true → rz M tgt l rest S Q) (k2 : ¬ rx_c1 cd x = true → rz M (pc + 3) l rest S Q) : rz M pc l (.int x :: rest) S Q := by
  by_cases h : rx_c1 cd x = true
  · exact rz_pure hd (by simp only [rx_pure, rx_b1, ht, h, if_true]) (k1 h)
  · exact rz_pure (pc' := pc + 3) (l' := l) (st' := rest) hd (by simp only [rx_pure, rx_b1, ht]; rw [if_neg h]) (k2 h)
theorem rz_b2 {cd : ClassFile.Cond} (hd : decode (rm_code M) pc = .ok (.if_icmp cd off, 3)) (ht : rx_tg pc off = some tgt) (k1 : rx_c2 cd x y = true → rz M tgt l rest S Q) (k2 : ¬ rx_c2 cd x y = true → rz M (pc + 3) l rest S Q) : rz M pc l (.int y :: .int x :: rest) S Q := by
  by_cases h : rx_c2 cd x y = true
  · exact rz_pure hd (by simp only [rx_pure, rx_b2, ht, h, if_true]) (k1 h)
  · exact rz_pure (pc' := pc + 3) (l' := l) (st' := rest) hd (by simp only [rx_pure, rx_b2, ht]; rw [if_neg h]) (k2 h)
theorem rz_ifeq (hd : decode (rm_code M) pc = .ok (.ifCond .eq off, 3)) (ht : rx_tg pc off = some tgt) (k1 : x = 0 → rz M tgt l rest S Q) (k2 : ¬ x = 0 → rz M (pc + 3) l rest S Q) : rz M pc l (.int x :: rest) S Q := rz_b1 hd ht (fun h => k1 (of_decide_eq_true h)) (fun h => k2 (fun z => h (decide_eq_true z)))
theorem rz_ifne (hd : decode (rm_code M) pc = .ok (.ifCond .ne off, 3)) (ht : rx_tg pc off = some tgt) (k1 : ¬ x = 0 → rz M tgt l rest S Q) (k2 : x = 0 → rz M (pc + 3) l rest S Q) : rz M pc l (.int x :: rest) S Q := rz_b1 hd ht (fun h => k1 (of_decide_eq_true h)) (fun h => k2 (Decidable.byContradiction fun z => h (decide_eq_true z)))
theorem rz_iflt (hd : decode (rm_code M) pc = .ok (.ifCond .lt off, 3)) (ht : rx_tg pc off = some tgt) (k1 : x < 0 → rz M tgt l rest S Q) (k2 : ¬ x < 0 → rz M (pc + 3) l rest S Q) : rz M pc l (.int x :: rest) S Q := rz_b1 hd ht (fun h => k1 (of_decide_eq_true h)) (fun h => k2 (fun z => h (decide_eq_true z)))
theorem rz_ifge (hd : decode (rm_code M) pc = .ok (.ifCond .ge off, 3)) (ht : rx_tg pc off = some tgt) (k1 : 0 ≤ x → rz M tgt l rest S Q) (k2 : ¬ 0 ≤ x → rz M (pc + 3) l rest S Q) : rz M pc l (.int x :: rest) S Q := rz_b1 hd ht (fun h => k1 (of_decide_eq_true h)) (fun h => k2 (fun z => h (decide_eq_true z)))
theorem rz_ifgt (hd : decode (rm_code M) pc = .ok (.ifCond .gt off, 3)) (ht : rx_tg pc off = some tgt) (k1 : 0 < x → rz M tgt l rest S Q) (k2 : ¬ 0 < x → rz M (pc + 3) l rest S Q) : rz M pc l (.int x :: rest) S Q := rz_b1 hd ht (fun h => k1 (of_decide_eq_true h)) (fun h => k2 (fun z => h (decide_eq_true z)))
theorem rz_ifle (hd : decode (rm_code M) pc = .ok (.ifCond .le off, 3)) (ht : rx_tg pc off = some tgt) (k1 : x ≤ 0 → rz M tgt l rest S Q) (k2 : ¬ x ≤ 0 → rz M (pc + 3) l rest S Q) : rz M pc l (.int x :: rest) S Q := rz_b1 hd ht (fun h => k1 (of_decide_eq_true h)) (fun h => k2 (fun z => h (decide_eq_true z)))
theorem rz_icmpeq (hd : decode (rm_code M) pc = .ok (.if_icmp .eq off, 3)) (ht : rx_tg pc off = some tgt) (k1 : x = y → rz M tgt l rest S Q) (k2 : ¬ x = y → rz M (pc + 3) l rest S Q) : rz M pc l (.int y :: .int x :: rest) S Q := rz_b2 hd ht (fun h => k1 (of_decide_eq_true h)) (fun h => k2 (fun z => h (decide_eq_true z)))
theorem rz_icmpne (hd : decode (rm_code M) pc = .ok (.if_icmp .ne off, 3)) (ht : rx_tg pc off = some tgt) (k1 : ¬ x = y → rz M tgt l rest S Q) (k2 : x = y → rz M (pc + 3) l rest S Q) : rz M pc l (.int y :: .int x :: rest) S Q := rz_b2 hd ht (fun h => k1 (of_decide_eq_true h)) (fun h => k2 (Decidable.byContradiction fun z => h (decide_eq_true z)))
theorem rz_icmplt (hd : decode (rm_code M) pc = .ok (.if_icmp .lt off, 3)) (ht : rx_tg pc off = some tgt) (k1 : x < y → rz M tgt l rest S Q) (k2 : ¬ x < y → rz M (pc + 3) l rest S Q) : rz M pc l (.int y :: .int x :: rest) S Q := rz_b2 hd ht (fun h => k1 (of_decide_eq_true h)) (fun h => k2 (fun z => h (decide_eq_true z)))
theorem rz_icmpge (hd : decode (rm_code M) pc = .ok (.if_icmp .ge off, 3)) (ht : rx_tg pc off = some tgt) (k1 : y ≤ x → rz M tgt l rest S Q) (k2 : ¬ y ≤ x → rz M (pc + 3) l rest S Q) : rz M pc l (.int y :: .int x :: rest) S Q := rz_b2 hd ht (fun h => k1 (of_decide_eq_true h)) (fun h => k2 (fun z => h (decide_eq_true z)))
theorem rz_icmpgt (hd : decode (rm_code M) pc = .ok (.if_icmp .gt off, 3)) (ht : rx_tg pc off = some tgt) (k1 : y < x → rz M tgt l rest S Q) (k2 : ¬ y < x → rz M (pc + 3) l rest S Q) : rz M pc l (.int y :: .int x :: rest) S Q := rz_b2 hd ht (fun h => k1 (of_decide_eq_true h)) (fun h => k2 (fun z => h (decide_eq_true z)))
theorem rz_icmple (hd : decode (rm_code M) pc = .ok (.if_icmp .le off, 3)) (ht : rx_tg pc off = some tgt) (k1 : x ≤ y → rz M tgt l rest S Q) (k2 : ¬ x ≤ y → rz M (pc + 3) l rest S Q) : rz M pc l (.int y :: .int x :: rest) S Q := rz_b2 hd ht (fun h => k1 (of_decide_eq_true h)) (fun h => k2 (fun z => h (decide_eq_true z)))
theorem rz_idiv (hd : decode (rm_code M) pc = .ok (.idiv, 1)) (hy : ¬ y = 0) (k : rz M (pc + 1) l (.int (x / y) :: rest) S Q) : rz M pc l (.int y :: .int x :: rest) S Q := rz_pure hd (by simp only [rx_pure, rx_id, if_neg hy]) k
theorem rz_irem (hd : decode (rm_code M) pc = .ok (.irem, 1)) (hy : ¬ y = 0) (k : rz M (pc + 1) l (.int (x - x / y * y) :: rest) S Q) : rz M pc l (.int y :: .int x :: rest) S Q := rz_pure hd (by simp only [rx_pure, rx_id, if_neg hy]) k
theorem rz_iconst {n : Int} {v : Int32} (hd : decode (rm_code M) pc = .ok (.iconst n, 1)) (hv : Int32.ofInt n = v) (k : rz M (pc + 1) l (.int v :: st) S Q) : rz M pc l st S Q := rz_pure hd (by rw [← hv]; rfl) k
theorem rz_bipush {n : Int} {v : Int32} (hd : decode (rm_code M) pc = .ok (.bipush n, 2)) (hv : (Int8.ofInt n).toInt32 = v) (k : rz M (pc + 2) l (.int v :: st) S Q) : rz M pc l st S Q := rz_pure hd (by rw [← hv]; rfl) k
theorem rz_sipush {n : Int} {v : Int32} (hd : decode (rm_code M) pc = .ok (.sipush n, 3)) (hv : (Int16.ofInt n).toInt32 = v) (k : rz M (pc + 3) l (.int v :: st) S Q) : rz M pc l st S Q := rz_pure hd (by rw [← hv]; rfl) k
/-- a number gets a name -/
theorem rz_top (k : ∀ z : Int32, z = x → rz M pc l (.int z :: rest) S Q) : rz M pc l (.int x :: rest) S Q := k x rfl
/-- the room of a call, by numbers -/
def rz_room (M Z : rx_M) (rest : List Value) (as : List Value) : Bool := decide (rm_fr Z + 1 ≤ rm_fr M) && decide (8 + (rm_maxL Z + 11) + rm_lo Z ≤ rm_lo M) && decide (rx_cats rest ≤ 8) && decide (rm_mc Z = 0) && decide (rm_ms Z = 0) && decide (rx_cats as ≤ rm_maxL Z) && decide (rx_na Z = as.length)
theorem rz_callV {Z : rx_M} {Q1 : Option Value → rz_S → Prop} {idx k : Nat} {fs : List (Option Value)} {t : List Value} (hd : decode (rm_code M) pc = .ok (.invokevirtual idx, 3)) (hw : rx_who (rm_co M) (.invokevirtual idx) 3 = some Z) (hk : rm_kind Z = 0) (hT : rz_T[k]? = some (.inr (.inr (rm_co Z, fs)))) (hroom : rz_room M Z rest (t ++ [Value.ref k]) = true) (hc : rz_ev Z (.ref k :: t.reverse) S Q1) (kk : ∀ r1 S1, Q1 r1 S1 → rz M (pc + 3) l (r1.toList ++ rest) S1 Q) : rz M pc l (t ++ Value.ref k :: rest) S Q := by
  unfold rz_room at hroom
  simp only [Bool.and_eq_true, decide_eq_true_eq] at hroom
  obtain ⟨⟨⟨⟨⟨⟨a1, a2⟩, a3⟩, a4⟩, a5⟩, a6⟩, a7⟩ := hroom
  have e0 : t ++ Value.ref k :: rest = (t ++ [Value.ref k]) ++ rest := by simp
  have e1 : (t ++ Value.ref k :: rest).take (rx_na Z) = t ++ [Value.ref k] := by rw [e0, a7]; exact List.take_left
  have e2 : (t ++ Value.ref k :: rest).drop (rx_na Z) = rest := by rw [e0, a7]; exact List.drop_left
  have hz : (rz_H S)[k]? = some (.inr (.inr (rm_co Z, fs.mapIdx (rz_f S k)))) := rz_get hT
  refine rz_call (Z := Z) (Q1 := Q1) hd rfl rfl hw ?_ ⟨a4, a5⟩ ?_ ?_
  · unfold rx_may
    rw [e1, e2, if_pos hk]
    have : rx_rcv Z (rz_H S) (t ++ [Value.ref k]).reverse = true := by simp [rx_rcv, hz]
    rw [this]
    simp only [Bool.and_eq_true, decide_eq_true_eq, Bool.or_eq_true]
    exact ⟨⟨⟨⟨⟨⟨⟨⟨by rw [a7]; simp, a1⟩, a2⟩, a3⟩, by omega⟩, by omega⟩, Or.inl a4⟩, a6⟩, trivial⟩
  · rw [e1]; simpa using hc
  · rw [e2]; exact kk
theorem rz_callS {Z : rx_M} {Q1 : Option Value → rz_S → Prop} {idx : Nat} {t : List Value} (hd : decode (rm_code M) pc = .ok (.invokestatic idx, 3)) (h1 : rx_heap (rm_co M) (rx_ini M) (rm_fr M) (rm_lo M) (.invokestatic idx) 3 pc (t ++ rest) (rz_H S) = none) (hw : rx_who (rm_co M) (.invokestatic idx) 3 = some Z) (hk : rm_kind Z = 1) (hroom : rz_room M Z rest t = true) (hc : rz_ev Z t.reverse S Q1) (kk : ∀ r1 S1, Q1 r1 S1 → rz M (pc + 3) l (r1.toList ++ rest) S1 Q) : rz M pc l (t ++ rest) S Q := by
  unfold rz_room at hroom
  simp only [Bool.and_eq_true, decide_eq_true_eq] at hroom
  obtain ⟨⟨⟨⟨⟨⟨a1, a2⟩, a3⟩, a4⟩, a5⟩, a6⟩, a7⟩ := hroom
  have e1 : (t ++ rest).take (rx_na Z) = t := by rw [a7]; simp
  have e2 : (t ++ rest).drop (rx_na Z) = rest := by rw [a7]; simp
  refine rz_call (Z := Z) (Q1 := Q1) hd rfl h1 hw ?_ ⟨a4, a5⟩ ?_ ?_
  · unfold rx_may
    rw [e1, e2, if_neg (by omega), if_neg (by omega)]
    simp only [Bool.and_eq_true, decide_eq_true_eq, Bool.or_eq_true]
    exact ⟨⟨⟨⟨⟨⟨⟨⟨by rw [a7]; simp, a1⟩, a2⟩, a3⟩, by omega⟩, by omega⟩, Or.inl a4⟩, a6⟩, trivial⟩
  · rw [e1]; exact hc
  · rw [e2]; exact kk
theorem rz_callVi {Z : rx_M} {P : Int32 → rz_S → Prop} {idx k : Nat} {fs : List (Option Value)} {t : List Value} (hd : decode (rm_code M) pc = .ok (.invokevirtual idx, 3)) (hw : rx_who (rm_co M) (.invokevirtual idx) 3 = some Z) (hk : rm_kind Z = 0) (hT : rz_T[k]? = some (.inr (.inr (rm_co Z, fs)))) (hroom : rz_room M Z rest (t ++ [Value.ref k]) = true) (hc : rz_ev Z (.ref k :: t.reverse) S (rz_i P)) (kk : ∀ x S1, P x S1 → rz M (pc + 3) l (.int x :: rest) S1 Q) : rz M pc l (t ++ Value.ref k :: rest) S Q :=
  rz_callV hd hw hk hT hroom hc (fun r1 S1 h => by obtain ⟨x, rfl, h⟩ := h; exact kk x S1 h)
theorem rz_callVv {Z : rx_M} {P : rz_S → Prop} {idx k : Nat} {fs : List (Option Value)} {t : List Value} (hd : decode (rm_code M) pc = .ok (.invokevirtual idx, 3)) (hw : rx_who (rm_co M) (.invokevirtual idx) 3 = some Z) (hk : rm_kind Z = 0) (hT : rz_T[k]? = some (.inr (.inr (rm_co Z, fs)))) (hroom : rz_room M Z rest (t ++ [Value.ref k]) = true) (hc : rz_ev Z (.ref k :: t.reverse) S (rz_v P)) (kk : ∀ S1, P S1 → rz M (pc + 3) l rest S1 Q) : rz M pc l (t ++ Value.ref k :: rest) S Q :=
  rz_callV hd hw hk hT hroom hc (fun r1 S1 h => by obtain ⟨rfl, h⟩ := h; exact kk S1 h)
theorem rz_callSi {Z : rx_M} {P : Int32 → rz_S → Prop} {idx : Nat} {t : List Value} (hd : decode (rm_code M) pc = .ok (.invokestatic idx, 3)) (h1 : rx_heap (rm_co M) (rx_ini M) (rm_fr M) (rm_lo M) (.invokestatic idx) 3 pc (t ++ rest) (rz_H S) = none) (hw : rx_who (rm_co M) (.invokestatic idx) 3 = some Z) (hk : rm_kind Z = 1) (hroom : rz_room M Z rest t = true) (hc : rz_ev Z t.reverse S (rz_i P)) (kk : ∀ x S1, P x S1 → rz M (pc + 3) l (.int x :: rest) S1 Q) : rz M pc l (t ++ rest) S Q :=
  rz_callS hd h1 hw hk hroom hc (fun r1 S1 h => by obtain ⟨x, rfl, h⟩ := h; exact kk x S1 h)
theorem rz_callSv {Z : rx_M} {P : rz_S → Prop} {idx : Nat} {t : List Value} (hd : decode (rm_code M) pc = .ok (.invokestatic idx, 3)) (h1 : rx_heap (rm_co M) (rx_ini M) (rm_fr M) (rm_lo M) (.invokestatic idx) 3 pc (t ++ rest) (rz_H S) = none) (hw : rx_who (rm_co M) (.invokestatic idx) 3 = some Z) (hk : rm_kind Z = 1) (hroom : rz_room M Z rest t = true) (hc : rz_ev Z t.reverse S (rz_v P)) (kk : ∀ S1, P S1 → rz M (pc + 3) l rest S1 Q) : rz M pc l (t ++ rest) S Q :=
  rz_callS hd h1 hw hk hroom hc (fun r1 S1 h => by obtain ⟨rfl, h⟩ := h; exact kk S1 h)
theorem rz_iret {ty : FieldType} (hd : decode (rm_code M) pc = .ok (.ireturn, 1)) (hr : rm_ret M = some ty) (hn : rx_nok ty x = true) (hq : Q (some (.int x)) S) : rz M pc l [.int x] S Q := rz_ret hd rfl rfl rfl (by simp only [rx_ans, hr, hn, if_true]) hq
theorem rz_ireti {P : Int32 → rz_S → Prop} {ty : FieldType} (hd : decode (rm_code M) pc = .ok (.ireturn, 1)) (hr : rm_ret M = some ty) (hn : rx_nok ty x = true) (hq : P x S) : rz M pc l [.int x] S (rz_i P) := rz_iret hd hr hn ⟨x, rfl, hq⟩
theorem rz_vret (hd : decode (rm_code M) pc = .ok (.return_, 1)) (hr : rm_ret M = none) (hq : Q none S) : rz M pc l [] S Q := rz_ret hd rfl rfl rfl (by simp only [rx_ans, hr]) hq
theorem rz_vretv {P : rz_S → Prop} (hd : decode (rm_code M) pc = .ok (.return_, 1)) (hr : rm_ret M = none) (hq : P S) : rz M pc l [] S (rz_v P) := rz_vret hd hr ⟨rfl, hq⟩
theorem rz_aret {C : String} {k : Nat} (hd : decode (rm_code M) pc = .ok (.areturn, 1)) (hr : rm_ret M = some (.object C)) (hq : Q (some (.ref k)) S) : rz M pc l [.ref k] S Q := rz_ret hd rfl rfl rfl (by simp only [rx_ans, hr]) hq
theorem rz_anull {C : String} (hd : decode (rm_code M) pc = .ok (.areturn, 1)) (hr : rm_ret M = some (.object C)) (hq : Q (some .null) S) : rz M pc l [.null] S Q := rz_ret hd rfl rfl rfl (by simp only [rx_ans, hr]) hq
end RZ2
