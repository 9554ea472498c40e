/-! open: the TEXT of a FILE is taken apart -/
def prX (S S1 : rz_S) : Prop := (∀ q, q ≠ 43 → S1.1 q = S.1 q) ∧ ∀ u z, u ≠ 42 → ¬ (u = 39 ∧ 9 ≤ z ∧ z ≤ 11) → S1.2 u z = S.2 u z
theorem prX_r (S : rz_S) : prX S S := ⟨fun _ _ => rfl, fun _ _ _ _ => rfl⟩
theorem prX_t {S S1 S2 : rz_S} (h : prX S S1) (g : prX S1 S2) : prX S S2 := ⟨fun q a => (g.1 q a).trans (h.1 q a), fun u z a b => (g.2 u z a b).trans (h.2 u z a b)⟩
theorem prX_u {S : rz_S} {z : Nat} {x : Int32} (hz : 9 ≤ z ∧ z ≤ 11) : prX S (rz_uI S 39 z x) := ⟨fun _ _ => rfl, fun u w a b => rz_uI_n fun e => b ⟨e.1, by omega⟩⟩
theorem GX_pr {c : Nat} {S S1 : rz_S} (h : prX S S1) : GX c S S1 := ⟨⟨fun q a => h.1 q (by omega), fun d a b => ⟨h.1 _ (by omega), h.1 _ (by omega)⟩, fun u z a => h.2 u z (by omega) (by omega), fun d a b z => ⟨h.2 _ z (by omega) (by omega), h.2 _ z (by omega) (by omega)⟩⟩, h.1 115 (by omega), fun z => h.2 0 z (by omega) (by omega)⟩
/-- what the taking apart ends with; R: the right run -/
def pfO (c n : Nat) (Sx Sm : rz_S) (R : (Int32 → rz_S → Prop) → Prop) (x : Int32) (S1 : rz_S) : Prop := prX Sx S1 ∧
  ((∃ xc : Nat, (xc = 30 ∨ xc = 34) ∧ x = nI xc ∧ ∀ Q : Int32 → rz_S → Prop, Q (nI xc) (rz_uI (rz_uI Sm 116 4 (nI 0)) 116 5 (nI 0)) → R Q) ∨
   ∃ f m st r : Nat, 1 ≤ m ∧ m ≤ 10 ∧ f + m ≤ n ∧ st ≤ 3 ∧ r ≤ 1 ∧ S1.2 42 1 = nI m ∧ (∀ i, i < m → S1.1 43 i = Sm.1 151 (f + i)) ∧ S1.2 39 10 = nI st ∧ S1.2 39 9 = nI r ∧
     ((S1.2 39 11 = 82 ∧ x = 0 ∧ ∀ Q : Int32 → rz_S → Prop, rz_ev mM_opensOld [.ref 116, .int (nI c), .int (nI f), .int (nI m), .int (nI st)] Sm (rz_i Q) → R Q) ∨
      (S1.2 39 11 = 87 ∧ 1 ≤ st ∧ x = (if wlF (fun i => Sm.1 151 (f + i)) m 0 = true then 33 else 0) ∧ ∀ Q : Int32 → rz_S → Prop, rz_ev mM_opensNew [.ref 116, .int (nI c), .int (nI f), .int (nI m), .int (nI st), .int (nI r)] Sm (rz_i Q) → R Q)))
section PARSE
variable {c n : Nat} {Sx Sm : rz_S} {R : (Int32 → rz_S → Prop) → Prop} {K : Int32 → rz_S → Prop}
theorem pf_flt {xc : Nat} (hx : xc = 30 ∨ xc = 34) {S : rz_S} (hp : prX Sx S) (hK : ∀ x S1, pfO c n Sx Sm R x S1 → K x S1) (hR : ∀ Q : Int32 → rz_S → Prop, rz_ev mM_fault [.ref 116, .int (nI xc), .int 0, .int 0] Sm (rz_i Q) → R Q) : K (nI xc) S := hK _ _ ⟨hp, Or.inl ⟨xc, hx, rfl, fun Q h => hR Q (rz_toI (c_M_fault _ _ _) h)⟩⟩
theorem pf8 {f m st r w : Nat} {S : rz_S} (hm1 : 1 ≤ m) (hm : m ≤ 10) (hn : n ≤ 400) (hf : f + m ≤ n) (hst : st ≤ 3) (hr : r ≤ 1) (hw : w = 0 ∧ S.2 39 11 = 82 ∨ w = 1 ∧ S.2 39 11 = 87 ∧ 1 ≤ st) (hp : prX Sx S) (hl : S.2 42 1 = nI m) (hnm : ∀ i, i < m → S.1 43 i = Sm.1 151 (f + i)) (h10 : S.2 39 10 = nI st) (h9 : S.2 39 9 = nI r) (hK : ∀ x S1, pfO c n Sx Sm R x S1 → K x S1) (hR : ∀ Q : Int32 → rz_S → Prop, rz mM_opensFile 348 [(0, .ref 116), (1, .int (nI c)), (3, .int (nI f)), (4, .int (nI r)), (6, .int (nI m)), (7, .int (nI st)), (9, .int (nI w))] [] Sm (rz_i Q) → R Q) : rz mDos_parseFile 240 [(0, .ref 39)] [] S (rz_i K) := by
  refine p_Dos_parseFile_240 ?_
  rw [h9]
  have r0 : r = 0 ∨ r = 1 := by omega
  rcases hw with ⟨rfl, h11⟩ | ⟨rfl, h11, hs1⟩
  · refine ⟨fun _ => ⟨fun d => hK 0 S ⟨hp, Or.inr ⟨f, m, st, r, hm1, hm, hf, hst, hr, hl, hnm, h10, h9, Or.inl ⟨h11, rfl, fun Q h => hR Q (p_M_opensFile_348 ⟨fun _ => p_M_opensFile_367 ⟨fun _ => h, fun z => absurd rfl z⟩, fun z => absurd d z⟩)⟩⟩⟩, fun d => pf_flt (Or.inl rfl) hp hK (fun Q h => hR Q (p_M_opensFile_348 ⟨fun z => absurd z d, fun _ => ⟨fun _ => h, fun z => absurd rfl z⟩⟩))⟩, fun d => absurd h11 d⟩
  · refine ⟨fun d => absurd (h11.symm.trans d) (by decide), fun _ => rz_toI (c_Pattern_isWild pt42 hm hl) ?_⟩
    have ew : wlF (S.1 (42 + 1)) m 0 = wlF (fun i => Sm.1 151 (f + i)) m 0 := wlF_c (fun i hi => hnm i hi) m 0 (by omega)
    rw [ew]
    have hR2 : ∀ Q : Int32 → rz_S → Prop, rz_ev mM_opensNew [.ref 116, .int (nI c), .int (nI f), .int (nI m), .int (nI st), .int (nI r)] Sm (rz_i Q) → R Q := fun Q h => hR Q (by
      have go : rz mM_opensFile 367 [(0, .ref 116), (1, .int (nI c)), (3, .int (nI f)), (4, .int (nI r)), (6, .int (nI m)), (7, .int (nI st)), (9, .int (nI 1))] [] Sm (rz_i Q) := p_M_opensFile_367 ⟨fun z => absurd z (by decide), fun _ => h⟩
      exact p_M_opensFile_348 ⟨fun _ => go, fun _ => ⟨fun z => absurd z (by decide), fun _ => go⟩⟩)
    cases hz : wlF (fun i => Sm.1 151 (f + i)) m 0 with
    | false => exact ⟨fun _ => hK 0 S ⟨hp, Or.inr ⟨f, m, st, r, hm1, hm, hf, hst, hr, hl, hnm, h10, h9, Or.inr ⟨h11, hs1, by rw [hz]; rfl, hR2⟩⟩⟩, fun d => absurd rfl d⟩
    | true => exact ⟨fun d => absurd d (by decide), fun _ => hK 33 S ⟨hp, Or.inr ⟨f, m, st, r, hm1, hm, hf, hst, hr, hl, hnm, h10, h9, Or.inr ⟨h11, hs1, by rw [hz]; rfl, hR2⟩⟩⟩⟩
theorem pf7 {f m st r w : Nat} {S : rz_S} (hc : c < 15) (hm1 : 1 ≤ m) (hm : m ≤ 10) (hn : n ≤ 400) (hf : f + m ≤ n) (hst : st ≤ 3) (hr : r ≤ 1) (hw : w = 0 ∧ S.2 39 11 = 82 ∨ w = 1 ∧ S.2 39 11 = 87) (hp : prX Sx S) (hl : S.2 42 1 = nI m) (hnm : ∀ i, i < m → S.1 43 i = Sm.1 151 (f + i)) (h10 : S.2 39 10 = nI st) (h9 : S.2 39 9 = nI r) (hK : ∀ x S1, pfO c n Sx Sm R x S1 → K x S1) (hR : ∀ Q : Int32 → rz_S → Prop, rz mM_opensFile 320 [(0, .ref 116), (1, .int (nI c)), (3, .int (nI f)), (4, .int (nI r)), (6, .int (nI m)), (7, .int (nI st))] [.int (nI w)] Sm (rz_i Q) → R Q) : rz mDos_parseFile 206 [(0, .ref 39), (1, .int (nI c))] [] S (rz_i K) := by
  refine p_Dos_parseFile_206 ?_
  rw [h10]
  have go : ∀ s2 : Nat, s2 ≤ 3 → (w = 1 → 1 ≤ s2) → (∀ Q : Int32 → rz_S → Prop, rz mM_opensFile 346 [(0, .ref 116), (1, .int (nI c)), (3, .int (nI f)), (4, .int (nI r)), (6, .int (nI m)), (9, .int (nI w))] [.int (nI s2)] Sm (rz_i Q) → R Q) → rz mDos_parseFile 237 [(0, .ref 39)] [.int (nI s2), .ref 39] S (rz_i K) := fun s2 h3 h1 h => by
    refine p_Dos_parseFile_237 (pf8 (st := s2) (w := w) hm1 hm hn hf h3 hr ?_ (prX_t hp (prX_u (by omega))) (by simp (disch := omega) only [uI1, fA2, rz_fA_n, rz_uI_n, rz_fA_s, rz_uI_s, pk_us]; exact hl) (fun i hi => hnm i hi) (by simp (disch := omega) only [uI1, fA2, rz_fA_n, rz_uI_n, rz_fA_s, rz_uI_s, pk_us]) (by simp (disch := omega) only [uI1, fA2, rz_fA_n, rz_uI_n, rz_fA_s, rz_uI_s, pk_us]; exact h9) hK (fun Q q => h Q (p_M_opensFile_346 q)))
    rcases hw with ⟨a, b⟩ | ⟨a, b⟩
    · exact Or.inl ⟨a, by simp (disch := omega) only [uI1, fA2, rz_fA_n, rz_uI_n, rz_fA_s, rz_uI_s, pk_us]; exact b⟩
    · exact Or.inr ⟨a, by simp (disch := omega) only [uI1, fA2, rz_fA_n, rz_uI_n, rz_fA_s, rz_uI_s, pk_us]; exact b, h1 a⟩
  refine ⟨fun d => ⟨fun d1 => ⟨fun d2 => ?_, fun d2 => ?_⟩, fun d1 => ?_⟩, fun d => ?_⟩
  · have c1 : 2 ≤ nI c := nI_le (a := 2) (by have := (nI_ltI (a := 1) (by omega) (by omega)).mp d1; omega) (by omega)
    rcases hw with ⟨a, b⟩ | ⟨a, b⟩
    · exact absurd (b.symm.trans d2) (by decide)
    · subst a
      exact go 1 (by omega) (fun _ => by omega) (fun Q h => hR Q (p_M_opensFile_320 ⟨fun _ => ⟨fun _ => ⟨fun z => absurd z (by decide), fun _ => h⟩, fun z => absurd c1 z⟩, fun z => absurd d z⟩))
  · have c1 : 2 ≤ nI c := nI_le (a := 2) (by have := (nI_ltI (a := 1) (by omega) (by omega)).mp d1; omega) (by omega)
    rcases hw with ⟨a, b⟩ | ⟨a, b⟩
    · subst a
      exact go 0 (by omega) (fun z => by omega) (fun Q h => hR Q (p_M_opensFile_320 ⟨fun _ => ⟨fun _ => ⟨fun _ => h, fun z => absurd rfl z⟩, fun z => absurd c1 z⟩, fun z => absurd d z⟩))
    · exact absurd b d2
  · have c1 : ¬ 2 ≤ nI c := fun z => by
      have := (nI_leI (a := 2) (by omega) (by omega)).mp z
      exact d1 (nI_lt (a := 1) (by omega) (by omega))
    exact go 2 (by omega) (fun _ => by omega) (fun Q h => hR Q (p_M_opensFile_320 ⟨fun _ => ⟨fun z => absurd z c1, fun _ => h⟩, fun z => absurd d z⟩))
  · have s0 : st ≠ 0 := fun z => d (by rw [z]; rfl)
    refine pf8 (st := st) (w := w) hm1 hm hn hf hst hr ?_ hp hl hnm h10 h9 hK (fun Q h => hR Q (p_M_opensFile_320 ⟨fun z => absurd z d, fun _ => h⟩))
    rcases hw with ⟨a, b⟩ | ⟨a, b⟩
    · exact Or.inl ⟨a, b⟩
    · exact Or.inr ⟨a, b, by omega⟩
theorem pf6 {f m st r to : Nat} {wy s0 s1 : Int32} {S : rz_S} (hc : c < 15) (hm1 : 1 ≤ m) (hm : m ≤ 10) (hn : n ≤ 400) (hf : f + m ≤ n) (hto : to ≤ n) (hst : st ≤ 3) (hr : r ≤ 1) (hw : wy = 0 ∨ wy = 82 ∨ wy = 87) (e : s1 + s0 = nI to) (hp : prX Sx S) (hl2 : S.2 1 2 = nI n) (hl : S.2 42 1 = nI m) (hnm : ∀ i, i < m → S.1 43 i = Sm.1 151 (f + i)) (h10 : S.2 39 10 = nI st) (h9 : S.2 39 9 = nI r) (h11 : S.2 39 11 = wy) (hK : ∀ x S1, pfO c n Sx Sm R x S1 → K x S1) (hR : ∀ Q : Int32 → rz_S → Prop, rz mM_opensFile 283 [(0, .ref 116), (1, .int (nI c)), (2, .int (nI n)), (3, .int (nI f)), (4, .int (nI r)), (5, .int (nI to)), (6, .int (nI m)), (7, .int (nI st)), (8, .int wy)] [] Sm (rz_i Q) → R Q) : rz mDos_parseFile 165 [(0, .ref 39), (1, .int (nI c))] [.int s0, .int s1] S (rz_i K) := by
  refine p_Dos_parseFile_165 ?_
  rw [e, hl2, h11]
  refine ⟨fun d => ?_, fun d => ?_⟩
  · have tn : to = n := (nI_eq (by omega) (by omega)).mp d
    subst tn
    have lle : nI to ≤ nI to := nI_le (a := to) (b := to) (by omega) (by omega)
    have hR1 : ∀ Q : Int32 → rz_S → Prop, ((wy = 87 ∨ wy = 0 ∧ nI c = 1) → rz mM_opensFile 320 [(0, .ref 116), (1, .int (nI c)), (3, .int (nI f)), (4, .int (nI r)), (6, .int (nI m)), (7, .int (nI st))] [.int (nI 1)] Sm (rz_i Q)) → (¬ (wy = 87 ∨ wy = 0 ∧ nI c = 1) → rz mM_opensFile 320 [(0, .ref 116), (1, .int (nI c)), (3, .int (nI f)), (4, .int (nI r)), (6, .int (nI m)), (7, .int (nI st))] [.int (nI 0)] Sm (rz_i Q)) → R Q := fun Q hA hB => hR Q (p_M_opensFile_283 ⟨fun _ => ⟨fun z => p_M_opensFile_315 (hA (Or.inl z)), fun z => ⟨fun z0 => ⟨fun z1 => p_M_opensFile_315 (hA (Or.inr ⟨z0, z1⟩)), fun z1 => p_M_opensFile_319 (hB (fun q => by
      rcases q with q | q
      · exact z q
      · exact z1 q.2))⟩, fun z0 => p_M_opensFile_319 (hB (fun q => by
      rcases q with q | q
      · exact z q
      · exact z0 q.1))⟩⟩, fun z => absurd lle z⟩)
    refine ⟨fun d0 => ⟨fun d1 => p_Dos_parseFile_203 (pf7 (w := 1) hc hm1 hm hn hf hst hr (Or.inr ⟨rfl, by simp (disch := omega) only [uI1, fA2, rz_fA_n, rz_uI_n, rz_fA_s, rz_uI_s, pk_us]⟩) (prX_t hp (prX_u (by omega))) (by simp (disch := omega) only [uI1, fA2, rz_fA_n, rz_uI_n, rz_fA_s, rz_uI_s, pk_us]; exact hl) (fun i hi => hnm i hi) (by simp (disch := omega) only [uI1, fA2, rz_fA_n, rz_uI_n, rz_fA_s, rz_uI_s, pk_us]; exact h10) (by simp (disch := omega) only [uI1, fA2, rz_fA_n, rz_uI_n, rz_fA_s, rz_uI_s, pk_us]; exact h9) hK (fun Q h => hR1 Q (fun _ => h) (fun z => absurd (Or.inr ⟨d0, d1⟩) z))), fun d1 => p_Dos_parseFile_203 (pf7 (w := 0) hc hm1 hm hn hf hst hr (Or.inl ⟨rfl, by simp (disch := omega) only [uI1, fA2, rz_fA_n, rz_uI_n, rz_fA_s, rz_uI_s, pk_us]⟩) (prX_t hp (prX_u (by omega))) (by simp (disch := omega) only [uI1, fA2, rz_fA_n, rz_uI_n, rz_fA_s, rz_uI_s, pk_us]; exact hl) (fun i hi => hnm i hi) (by simp (disch := omega) only [uI1, fA2, rz_fA_n, rz_uI_n, rz_fA_s, rz_uI_s, pk_us]; exact h10) (by simp (disch := omega) only [uI1, fA2, rz_fA_n, rz_uI_n, rz_fA_s, rz_uI_s, pk_us]; exact h9) hK (fun Q h => hR1 Q (fun z => ?_) (fun _ => h)))⟩, fun d0 => ?_⟩
    · rcases z with z | z
      · exact absurd (d0.symm.trans z) (by decide)
      · exact absurd z.2 d1
    · rcases hw with q | q | q
      · exact absurd q d0
      · exact pf7 (w := 0) hc hm1 hm hn hf hst hr (Or.inl ⟨rfl, h11.trans q⟩) hp hl hnm h10 h9 hK (fun Q h => hR1 Q (fun z => by
          rcases z with z | z
          · exact absurd (q.symm.trans z) (by decide)
          · exact absurd z.1 d0) (fun _ => h))
      · exact pf7 (w := 1) hc hm1 hm hn hf hst hr (Or.inr ⟨rfl, h11.trans q⟩) hp hl hnm h10 h9 hK (fun Q h => hR1 Q (fun _ => h) (fun z => absurd (Or.inl q) z))
  · have tn : ¬ to = n := fun z => d (by rw [z])
    refine pf_flt (Or.inl rfl) hp hK (fun Q h => hR Q (p_M_opensFile_283 ⟨fun z => ?_, fun _ => h⟩))
    have := (nI_leI (a := n) (b := to) (by omega) (by omega)).mp z
    omega
end PARSE
