/-! open: the TEXT of a FILE, the first half -/
def wyF (F : Nat → Int32) (n i : Nat) : Int32 := if i + 1 < n ∧ F i = 44 ∧ (F (i + 1) = 82 ∨ F (i + 1) = 87) then F (i + 1) else 0
def srF (F : Nat → Int32) (n i : Nat) : Nat := if i + 1 < n ∧ F i = 44 then (if F (i + 1) = 83 then 1 else if F (i + 1) = 80 then 2 else if F (i + 1) = 85 then 3 else 0) else 0
theorem wyF_v {F : Nat → Int32} {n i : Nat} : wyF F n i = 0 ∨ (i + 1 < n ∧ F i = 44 ∧ wyF F n i = F (i + 1) ∧ (wyF F n i = 82 ∨ wyF F n i = 87)) := by
  by_cases h : i + 1 < n ∧ F i = 44 ∧ (F (i + 1) = 82 ∨ F (i + 1) = 87)
  · have e : wyF F n i = F (i + 1) := if_pos h
    exact Or.inr ⟨h.1, h.2.1, e, by rw [e]; exact h.2.2⟩
  · exact Or.inl (if_neg h)
theorem srF_v {F : Nat → Int32} {n i : Nat} : srF F n i = 0 ∨ (i + 1 < n ∧ F i = 44 ∧ srF F n i ≤ 3) := by
  by_cases h : i + 1 < n ∧ F i = 44
  · refine Or.inr ⟨h.1, h.2, ?_⟩
    unfold srF
    rw [if_pos h]
    by_cases a : F (i + 1) = 83
    · rw [if_pos a]; omega
    · rw [if_neg a]
      by_cases b : F (i + 1) = 80
      · rw [if_pos b]; omega
      · rw [if_neg b]
        by_cases d : F (i + 1) = 85
        · rw [if_pos d]; omega
        · rw [if_neg d]; omega
  · exact Or.inl (if_neg h)
theorem wyF_c {F G : Nat → Int32} {n i : Nat} (h : ∀ j, j < n → F j = G j) : wyF F n i = wyF G n i := by
  unfold wyF
  by_cases z : i + 1 < n
  · rw [h i (by omega), h (i + 1) z]
  · rw [if_neg (fun q => z q.1), if_neg (fun q => z q.1)]
theorem srF_c {F G : Nat → Int32} {n i : Nat} (h : ∀ j, j < n → F j = G j) : srF F n i = srF G n i := by
  unfold srF
  by_cases z : i + 1 < n
  · rw [h i (by omega), h (i + 1) z]
  · rw [if_neg (fun q => z q.1), if_neg (fun q => z q.1)]
theorem c_wayTold {S : rz_S} {n i : Nat} (hn : n ≤ 400) (hl : S.2 1 2 = nI n) (hi : i < 900) : rz_ev mDos_wayTold [.ref 39, .int (nI i)] S (rz_i (fun x S1 => x = wyF (S.1 2) n i ∧ S1 = S)) := by
  show rz _ 0 [(0, .ref 39), (1, .int (nI i))] [] _ _
  refine p_Dos_wayTold_0 (rz_toI (c_byteAt hn hl (by omega)) ⟨fun d => ?_, fun d => ?_⟩)
  · rw [nI_1]
    refine rz_toI (c_byteAt hn hl (by omega)) ?_
    have hin : i < n := Decidable.byContradiction fun z => by rw [if_neg z] at d; exact absurd d (by decide)
    rw [if_pos hin] at d
    by_cases h1 : i + 1 < n
    · rw [if_pos h1]
      refine p_Dos_wayTold_27 ⟨fun q => ⟨?_, rfl⟩, fun q => ⟨fun q2 => ⟨?_, rfl⟩, fun q2 => ⟨?_, rfl⟩⟩⟩
      · unfold wyF; rw [if_pos ⟨h1, d, Or.inl q⟩]
      · unfold wyF; rw [if_pos ⟨h1, d, Or.inr q2⟩]
      · unfold wyF; rw [if_neg (fun z => by rcases z.2.2 with z | z; exact q z; exact q2 z)]
    · rw [if_neg h1]
      refine p_Dos_wayTold_27 ⟨fun q => absurd q (by decide), fun _ => ⟨fun q => absurd q (by decide), fun _ => ⟨?_, rfl⟩⟩⟩
      unfold wyF; rw [if_neg (fun z => h1 z.1)]
  · refine p_Dos_wayTold_27 ⟨fun q => absurd q (by decide), fun _ => ⟨fun q => absurd q (by decide), fun _ => ⟨?_, rfl⟩⟩⟩
    unfold wyF
    rw [if_neg (fun z => d (by rw [if_pos (by omega)]; exact z.2.1))]
theorem c_sortTold {S : rz_S} {n i : Nat} (hn : n ≤ 400) (hl : S.2 1 2 = nI n) (hi : i < 900) : rz_ev mDos_sortTold [.ref 39, .int (nI i)] S (rz_i (fun x S1 => x = nI (srF (S.1 2) n i) ∧ S1 = S)) := by
  show rz _ 0 [(0, .ref 39), (1, .int (nI i))] [] _ _
  refine p_Dos_sortTold_0 (rz_toI (c_byteAt hn hl (by omega)) ⟨fun d => ?_, fun d => ?_⟩)
  · rw [nI_1]
    refine rz_toI (c_byteAt hn hl (by omega)) ?_
    have hin : i < n := Decidable.byContradiction fun z => by rw [if_neg z] at d; exact absurd d (by decide)
    rw [if_pos hin] at d
    by_cases h1 : i + 1 < n
    · rw [if_pos h1]
      unfold srF
      rw [if_pos ⟨h1, d⟩]
      refine ⟨fun q => ⟨?_, rfl⟩, fun q => ⟨?_, rfl⟩, fun q => ⟨?_, rfl⟩, fun q q2 q3 => ⟨?_, rfl⟩⟩
      · rw [if_neg (by rw [q]; decide), if_pos q]; rfl
      · rw [if_pos q]; rfl
      · rw [if_neg (by rw [q]; decide), if_neg (by rw [q]; decide), if_pos q]; rfl
      · rw [if_neg q2, if_neg q, if_neg q3]; rfl
    · rw [if_neg h1]
      refine ⟨fun q => absurd q (by decide), fun q => absurd q (by decide), fun q => absurd q (by decide), fun _ _ _ => ⟨?_, rfl⟩⟩
      unfold srF; rw [if_neg (fun z => h1 z.1)]; rfl
  · refine ⟨?_, rfl⟩
    unfold srF
    rw [if_neg (fun z => d (by rw [if_pos (by omega)]; exact z.2))]; rfl
theorem fnd_none {F : Nat → Int32} {w : Int32} {n : Nat} : ∀ (d i : Nat), n ≤ d + i → fnd F w n i = none → ∀ k, i ≤ k → k < n → ¬ F k = w := by
  intro d
  induction d with
  | zero => intro i h _ k a b; omega
  | succ d ih =>
    intro i h e k a b
    rw [fnd_s (show i < n by omega)] at e
    by_cases z : F i = w
    · rw [if_pos z] at e; cases e
    · rw [if_neg z] at e
      by_cases q : k = i
      · subst q; exact z
      · exact ih (i + 1) (by omega) e k (by omega) b
theorem fnd_min {F : Nat → Int32} {w : Int32} {n j : Nat} : ∀ (d i : Nat), n ≤ d + i → fnd F w n i = some j → ∀ k, i ≤ k → k < j → ¬ F k = w := by
  intro d
  induction d with
  | zero => intro i h e k a b; rw [fnd_e (by omega)] at e; cases e
  | succ d ih =>
    intro i h e k a b
    have hj := fnd_lt e
    rw [fnd_s (show i < n by omega)] at e
    by_cases z : F i = w
    · rw [if_pos z] at e; cases e; omega
    · rw [if_neg z] at e
      by_cases q : k = i
      · subst q; exact z
      · exact ih (i + 1) (by omega) e k (by omega) b
section PARSE
variable {c n : Nat} {Sx Sm : rz_S} {R : (Int32 → rz_S → Prop) → Prop} {K : Int32 → rz_S → Prop}
theorem pf5 {f m st r to : Nat} {s0 s1 : Int32} {S : rz_S} (hc : c < 15) (hm1 : 1 ≤ m) (hm : m ≤ 10) (hn : n ≤ 400) (htx : ∀ j, j < n → Sx.1 2 j = Sm.1 151 j) (hf : f + m ≤ n) (hto : to ≤ n) (hst : st ≤ 3) (hr : r ≤ 1) (e : s1 + s0 = nI to) (hp : prX Sx S) (hl2 : S.2 1 2 = nI n) (hl : S.2 42 1 = nI m) (hnm : ∀ i, i < m → S.1 43 i = Sm.1 151 (f + i)) (h10 : S.2 39 10 = nI st) (h9 : S.2 39 9 = nI r) (hK : ∀ x S1, pfO c n Sx Sm R x S1 → K x S1) (hR : ∀ Q : Int32 → rz_S → Prop, rz mM_opensFile 215 [(0, .ref 116), (1, .int (nI c)), (2, .int (nI n)), (3, .int (nI f)), (4, .int (nI r)), (5, .int (nI to)), (6, .int (nI m)), (7, .int (nI st))] [] Sm (rz_i Q) → R Q) : rz mDos_parseFile 138 [(0, .ref 39), (1, .int (nI c))] [.int s0, .int s1] S (rz_i K) := by
  refine p_Dos_parseFile_138 ?_
  rw [e]
  refine rz_toI (c_wayTold hn hl2 (by omega)) ?_
  rw [hp.1 2 (by omega), wyF_c htx]
  have hG := wyF_v (F := Sm.1 151) (n := n) (i := to)
  have hR0 : wyF (Sm.1 151) n to = 0 → ∀ Q : Int32 → rz_S → Prop, rz mM_opensFile 283 [(0, .ref 116), (1, .int (nI c)), (2, .int (nI n)), (3, .int (nI f)), (4, .int (nI r)), (5, .int (nI to)), (6, .int (nI m)), (7, .int (nI st)), (8, .int 0)] [] Sm (rz_i Q) → R Q := fun hz Q h => hR Q (by
    refine p_M_opensFile_215 ⟨fun _ => h, fun d => ?_⟩
    rw [nI_1] at d
    have h1 : to + 1 < n := Decidable.byContradiction fun z => d (nI_le (by omega) (by omega))
    rw [nI_1, nI_clamp (by omega), nI_clamp (by omega)]
    have no : ¬ (to + 1 < n ∧ Sm.1 151 to = 44 ∧ (Sm.1 151 (to + 1) = 82 ∨ Sm.1 151 (to + 1) = 87)) := fun q => by
      unfold wyF at hz
      rw [if_pos q] at hz
      rcases q.2.2 with z | z
      · rw [z] at hz; exact absurd hz (by decide)
      · rw [z] at hz; exact absurd hz (by decide)
    exact ⟨rin (by omega) (by omega), fun a => ⟨rin (by omega) (by omega), fun b => absurd ⟨h1, a, Or.inl b⟩ no, fun _ => ⟨fun b => absurd ⟨h1, a, Or.inr b⟩ no, fun _ => h⟩⟩, fun _ => h⟩)
  have hR2 : (to + 1 < n ∧ Sm.1 151 to = 44 ∧ wyF (Sm.1 151) n to = Sm.1 151 (to + 1) ∧ (wyF (Sm.1 151) n to = 82 ∨ wyF (Sm.1 151) n to = 87)) → ∀ Q : Int32 → rz_S → Prop, rz mM_opensFile 283 [(0, .ref 116), (1, .int (nI c)), (2, .int (nI n)), (3, .int (nI f)), (4, .int (nI r)), (5, .int (nI (to + 2))), (6, .int (nI m)), (7, .int (nI st)), (8, .int (wyF (Sm.1 151) n to))] [] Sm (rz_i Q) → R Q := fun hz Q h => hR Q (by
    obtain ⟨h1, ha, hb, hd⟩ := hz
    refine p_M_opensFile_215 ⟨fun d => ?_, fun _ => ?_⟩
    · rw [nI_1] at d
      have := (nI_leI (a := n) (b := to + 1) (by omega) (by omega)).mp d
      omega
    have h266 : rz mM_opensFile 266 [(0, .ref 116), (1, .int (nI c)), (2, .int (nI n)), (3, .int (nI f)), (4, .int (nI r)), (5, .int (nI to)), (6, .int (nI m)), (7, .int (nI st))] [] Sm (rz_i Q) := by
      refine p_M_opensFile_266 ?_
      rw [nI_1, nI_clamp (by omega), show (nI to + 2 : Int32) = nI (to + 2) from nI_add to 2, ← hb]
      exact ⟨rin (by omega) (by omega), h⟩
    rw [nI_1, nI_clamp (by omega), nI_clamp (by omega), ← hb]
    refine ⟨rin (by omega) (by omega), fun _ => ⟨rin (by omega) (by omega), fun _ => h266, fun q => ⟨fun _ => h266, fun q2 => ?_⟩⟩, fun q => absurd ha q⟩
    rcases hd with z | z
    · exact absurd z q
    · exact absurd z q2)
  have l2' : ∀ x, (rz_uI S 39 11 x).2 1 2 = nI n := fun x => by simp (disch := omega) only [uI1, fA2, rz_fA_n, rz_uI_n, rz_fA_s, rz_uI_s, pk_us]; exact hl2
  refine ⟨fun d => ?_, fun d => ?_⟩
  · rw [d]
    exact pf6 (to := to) (wy := 0) hc hm1 hm hn hf hto hst hr (Or.inl rfl) (by rw [Int32.add_zero]) (prX_t hp (prX_u (by omega))) (l2' _) (by simp (disch := omega) only [uI1, fA2, rz_fA_n, rz_uI_n, rz_fA_s, rz_uI_s, pk_us]; exact hl) (fun i hi => hnm i hi) (by simp (disch := omega) only [uI1, fA2, rz_fA_n, rz_uI_n, rz_fA_s, rz_uI_s, pk_us]; exact h10) (by simp (disch := omega) only [uI1, fA2, rz_fA_n, rz_uI_n, rz_fA_s, rz_uI_s, pk_us]; exact h9) (by simp (disch := omega) only [uI1, fA2, rz_fA_n, rz_uI_n, rz_fA_s, rz_uI_s, pk_us]) hK (hR0 d)
  · rcases hG with z | z
    · exact absurd z d
    · refine pf6 (to := to + 2) (wy := wyF (Sm.1 151) n to) hc hm1 hm hn hf (by omega) hst hr (Or.inr z.2.2.2) (nI_add to 2) (prX_t hp (prX_u (by omega))) (l2' _) (by simp (disch := omega) only [uI1, fA2, rz_fA_n, rz_uI_n, rz_fA_s, rz_uI_s, pk_us]; exact hl) (fun i hi => hnm i hi) (by simp (disch := omega) only [uI1, fA2, rz_fA_n, rz_uI_n, rz_fA_s, rz_uI_s, pk_us]; exact h10) (by simp (disch := omega) only [uI1, fA2, rz_fA_n, rz_uI_n, rz_fA_s, rz_uI_s, pk_us]; exact h9) (by simp (disch := omega) only [uI1, fA2, rz_fA_n, rz_uI_n, rz_fA_s, rz_uI_s, pk_us]) hK (hR2 z)
theorem pf4 {f r to : Nat} {S : rz_S} (hc : c < 15) (hn : n ≤ 400) (htx : ∀ j, j < n → Sx.1 2 j = Sm.1 151 j) (hft : f ≤ to) (hto : to ≤ n) (hcm : to < n → Sm.1 151 to = 44) (hr : r ≤ 1) (hp : prX Sx S) (hl2 : S.2 1 2 = nI n) (h9 : S.2 39 9 = nI r) (hK : ∀ x S1, pfO c n Sx Sm R x S1 → K x S1) (hR : ∀ Q : Int32 → rz_S → Prop, rz mM_opensFile 81 [(0, .ref 116), (1, .int (nI c)), (2, .int (nI n)), (3, .int (nI f)), (4, .int (nI r)), (5, .int (nI to))] [] Sm (rz_i Q) → R Q) : rz mDos_parseFile 83 [(0, .ref 39), (1, .int (nI c)), (2, .int (nI f))] [.int (nI to)] S (rz_i K) := by
  have hsub : nI to - nI f = nI (to - f) := pk_sub hft
  refine p_Dos_parseFile_83 ⟨fun d => ?_, fun d => ?_⟩
  · have e : to = f := (nI_eq (by omega) (by omega)).mp d
    refine pf_flt (xc := 34) (Or.inr rfl) hp hK (fun Q h => hR Q (p_M_opensFile_81 ?_))
    rw [hsub, e, Nat.sub_self]
    exact ⟨fun _ => h, fun z => absurd rfl z⟩
  · have ne : to ≠ f := fun z => d (by rw [z])
    have n0 : ¬ nI (to - f) = 0 := nI_ne0 (by omega) (by omega)
    refine rz_useI (c_take (p := 42) (n := n) pt42 (by omega) hn hl2 (by omega) (by omega)) (fun x S1 q => ?_)
    rcases q with ⟨rfl, rfl, h10⟩ | ⟨rfl, h10, g, rfl, hg⟩
    · refine ⟨fun _ => pf_flt (xc := 30) (Or.inl rfl) hp hK (fun Q h => hR Q (p_M_opensFile_81 ?_)), fun z => absurd rfl z⟩
      rw [hsub]
      refine ⟨fun z => absurd z n0, fun _ => ⟨fun z => ?_, fun _ => h⟩⟩
      have := (nI_leI (b := 10) (by omega) (by omega)).mp z
      omega
    · refine ⟨fun z => absurd z (by decide), fun _ => ?_⟩
      generalize hV : rz_fA (rz_uI S 42 1 (nI (to - f))) (42 + 1) g = V
      have pV : prX S V := by
        rw [← hV]
        exact ⟨fun q hq => by simp (disch := omega) only [uI1, fA2, rz_fA_n, rz_uI_n, rz_fA_s, rz_uI_s, pk_us], fun u z hu _ => by simp (disch := omega) only [uI1, fA2, rz_fA_n, rz_uI_n, rz_fA_s, rz_uI_s, pk_us]⟩
      have vl2 : V.2 1 2 = nI n := (pV.2 1 2 (by omega) (by omega)).trans hl2
      have vl : V.2 42 1 = nI (to - f) := by rw [← hV]; simp (disch := omega) only [uI1, fA2, rz_fA_n, rz_uI_n, rz_fA_s, rz_uI_s, pk_us]
      have vnm : ∀ i, i < to - f → V.1 43 i = Sm.1 151 (f + i) := fun i hi => by
        have : V.1 43 i = g i := by rw [← hV]; simp (disch := omega) only [uI1, fA2, rz_fA_n, rz_uI_n, rz_fA_s, rz_uI_s, pk_us]
        rw [this, hg i hi, if_pos (by omega), hp.1 2 (by omega)]
        exact htx (f + i) (by omega)
      have v9 : V.2 39 9 = nI r := by rw [← hV]; simp (disch := omega) only [uI1, fA2, rz_fA_n, rz_uI_n, rz_fA_s, rz_uI_s, pk_us]; exact h9
      refine rz_toI (c_sortTold hn vl2 (by omega)) ?_
      rw [pV.1 2 (by omega), hp.1 2 (by omega), srF_c htx]
      have hS := srF_v (F := Sm.1 151) (n := n) (i := to)
      have le10 : nI (to - f) ≤ 10 := nI_le (b := 10) (by omega) (by omega)
      have hR0 : srF (Sm.1 151) n to = 0 → ∀ Q : Int32 → rz_S → Prop, rz mM_opensFile 215 [(0, .ref 116), (1, .int (nI c)), (2, .int (nI n)), (3, .int (nI f)), (4, .int (nI r)), (5, .int (nI to)), (6, .int (nI (to - f))), (7, .int 0)] [] Sm (rz_i Q) → R Q := fun hz Q h => hR Q (by
        refine p_M_opensFile_81 ?_
        rw [hsub, nI_1]
        refine ⟨fun z => absurd z n0, fun _ => ⟨fun _ => ⟨fun _ => h, fun d => ?_⟩, fun z => absurd le10 z⟩⟩
        have h1 : to + 1 < n := Decidable.byContradiction fun z => d (nI_le (by omega) (by omega))
        rw [nI_clamp (by omega)]
        unfold srF at hz
        rw [if_pos ⟨h1, hcm (by omega)⟩] at hz
        have a1 : ¬ Sm.1 151 (to + 1) = 83 := fun z => by rw [if_pos z] at hz; omega
        rw [if_neg a1] at hz
        have a2 : ¬ Sm.1 151 (to + 1) = 80 := fun z => by rw [if_pos z] at hz; omega
        rw [if_neg a2] at hz
        have a3 : ¬ Sm.1 151 (to + 1) = 85 := fun z => by rw [if_pos z] at hz; omega
        exact ⟨rin (by omega) (by omega), fun z => absurd z a1, fun _ => ⟨fun z => absurd z a2, fun _ => ⟨fun z => absurd z a3, fun _ => h⟩⟩⟩)
      have hR2 : ¬ srF (Sm.1 151) n to = 0 → ∀ Q : Int32 → rz_S → Prop, rz mM_opensFile 215 [(0, .ref 116), (1, .int (nI c)), (2, .int (nI n)), (3, .int (nI f)), (4, .int (nI r)), (5, .int (nI (to + 2))), (6, .int (nI (to - f))), (7, .int (nI (srF (Sm.1 151) n to)))] [] Sm (rz_i Q) → R Q := fun hz Q h => hR Q (by
        have h1 : to + 1 < n := Decidable.byContradiction fun z => hz (by unfold srF; rw [if_neg (fun q => z q.1)])
        refine p_M_opensFile_81 ?_
        rw [hsub, nI_1]
        refine ⟨fun z => absurd z n0, fun _ => ⟨fun _ => ⟨fun d => ?_, fun _ => ?_⟩, fun z => absurd le10 z⟩⟩
        · have := (nI_leI (a := n) (b := to + 1) (by omega) (by omega)).mp d
          omega
        have h207 : ∀ s : Nat, s = srF (Sm.1 151) n to → rz mM_opensFile 207 [(0, .ref 116), (1, .int (nI c)), (2, .int (nI n)), (3, .int (nI f)), (4, .int (nI r)), (5, .int (nI to)), (6, .int (nI (to - f)))] [.int (nI s)] Sm (rz_i Q) := fun s hs => by
          refine p_M_opensFile_207 ?_
          rw [show (nI to + 2 : Int32) = nI (to + 2) from nI_add to 2, hs]
          exact h
        unfold srF at hz h207
        rw [if_pos ⟨h1, hcm (by omega)⟩] at hz h207
        have h170 : rz mM_opensFile 170 [(0, .ref 116), (1, .int (nI c)), (2, .int (nI n)), (3, .int (nI f)), (4, .int (nI r)), (5, .int (nI to)), (6, .int (nI (to - f)))] [] Sm (rz_i Q) := by
          refine p_M_opensFile_170 ?_
          rw [nI_1, nI_clamp (by omega)]
          refine ⟨rin (by omega) (by omega), fun z => h207 1 (by rw [if_pos z]), fun z => ⟨fun z2 => h207 2 (by rw [if_neg z, if_pos z2]), fun z2 => h207 3 ?_⟩⟩
          rw [if_neg z, if_neg z2]
          rw [if_neg z, if_neg z2] at hz
          by_cases z3 : Sm.1 151 (to + 1) = 85
          · rw [if_pos z3]
          · rw [if_neg z3] at hz; exact absurd rfl hz
        rw [nI_clamp (by omega)]
        refine ⟨rin (by omega) (by omega), fun _ => h170, fun z => ⟨fun _ => h170, fun z2 => ⟨fun _ => h170, fun z3 => ?_⟩⟩⟩
        rw [if_neg z, if_neg z2, if_neg z3] at hz
        exact absurd rfl hz)
      have vu : ∀ x, prX Sx (rz_uI V 39 10 x) := fun x => prX_t hp (prX_t pV (prX_u (by omega)))
      have l2' : ∀ x, (rz_uI V 39 10 x).2 1 2 = nI n := fun x => by simp (disch := omega) only [uI1, fA2, rz_fA_n, rz_uI_n, rz_fA_s, rz_uI_s, pk_us]; exact vl2
      by_cases hz : srF (Sm.1 151) n to = 0
      · rw [hz]
        refine ⟨fun _ => ?_, fun z => absurd rfl z⟩
        exact pf5 (to := to) (st := 0) (m := to - f) hc (by omega) (by omega) hn htx (by omega) hto (by omega) hr (by rw [Int32.add_zero]) (vu _) (l2' _) (by simp (disch := omega) only [uI1, fA2, rz_fA_n, rz_uI_n, rz_fA_s, rz_uI_s, pk_us]; exact vl) (fun i hi => vnm i hi) (by simp (disch := omega) only [uI1, fA2, rz_fA_n, rz_uI_n, rz_fA_s, rz_uI_s, pk_us]) (by simp (disch := omega) only [uI1, fA2, rz_fA_n, rz_uI_n, rz_fA_s, rz_uI_s, pk_us]; exact v9) hK (hR0 hz)
      · rcases hS with z | ⟨z1, z2, z3⟩
        · exact absurd z hz
        · refine ⟨fun z => absurd ((nI_eq (b := 0) (by omega) (by omega)).mp z) hz, fun _ => ?_⟩
          exact pf5 (to := to + 2) (st := srF (Sm.1 151) n to) (m := to - f) hc (by omega) (by omega) hn htx (by omega) (by omega) z3 hr (nI_add to 2) (vu _) (l2' _) (by simp (disch := omega) only [uI1, fA2, rz_fA_n, rz_uI_n, rz_fA_s, rz_uI_s, pk_us]; exact vl) (fun i hi => vnm i hi) (by simp (disch := omega) only [uI1, fA2, rz_fA_n, rz_uI_n, rz_fA_s, rz_uI_s, pk_us]) (by simp (disch := omega) only [uI1, fA2, rz_fA_n, rz_uI_n, rz_fA_s, rz_uI_s, pk_us]; exact v9) hK (hR2 hz)
theorem r54 {f r to : Nat} (hn : n ≤ 400) (hto : to ≤ n) (hcm : to < n → Sm.1 151 to = 44) {Q : Int32 → rz_S → Prop} (h : rz mM_opensFile 81 [(0, .ref 116), (1, .int (nI c)), (2, .int (nI n)), (3, .int (nI f)), (4, .int (nI r)), (5, .int (nI to))] [] Sm (rz_i Q)) : ∀ (w a : Nat), a + w = to → (∀ j, a ≤ j → j < to → ¬ Sm.1 151 j = 44) → rz mM_opensFile 54 [(0, .ref 116), (1, .int (nI c)), (2, .int (nI n)), (3, .int (nI f)), (4, .int (nI r)), (5, .int (nI a))] [] Sm (rz_i Q) := by
  intro w
  induction w with
  | zero =>
    intro a e _
    have ea : a = to := by omega
    subst ea
    refine p_M_opensFile_54 ⟨fun _ => h, fun d => ?_⟩
    have hlt : a < n := Decidable.byContradiction fun z => d (nI_le (by omega) (by omega))
    rw [nI_clamp (by omega)]
    exact ⟨rin (by omega) (by omega), fun _ => h, fun z => absurd (hcm hlt) z⟩
  | succ w ih =>
    intro a e hj
    refine p_M_opensFile_54 ⟨fun d => ?_, fun _ => ?_⟩
    · have := (nI_leI (a := n) (b := a) (by omega) (by omega)).mp d
      omega
    rw [nI_clamp (by omega), nI_1]
    exact ⟨rin (by omega) (by omega), fun z => absurd z (hj a (by omega) (by omega)), fun _ => ih (a + 1) (by omega) (fun j x y => hj j (by omega) y)⟩
theorem pf3 {f r : Nat} {s0 s1 : Int32} {S : rz_S} (hc : c < 15) (hn : n ≤ 400) (htx : ∀ j, j < n → Sx.1 2 j = Sm.1 151 j) (hf : f ≤ n) (hr : r ≤ 1) (e : s1 + s0 = nI f) (hp : prX Sx S) (hl2 : S.2 1 2 = nI n) (h9 : S.2 39 9 = nI r) (hK : ∀ x S1, pfO c n Sx Sm R x S1 → K x S1) (hR : ∀ Q : Int32 → rz_S → Prop, rz mM_opensFile 54 [(0, .ref 116), (1, .int (nI c)), (2, .int (nI n)), (3, .int (nI f)), (4, .int (nI r)), (5, .int (nI f))] [] Sm (rz_i Q) → R Q) : rz mDos_parseFile 54 [(0, .ref 39), (1, .int (nI c))] [.int s0, .int s1] S (rz_i K) := by
  refine p_Dos_parseFile_54 ?_
  rw [e]
  refine rz_toI (c_find hn hl2 (by omega)) ?_
  rw [hp.1 2 (by omega), fnd_c htx, hl2]
  cases hz : fnd (Sm.1 151) 44 n f with
  | none =>
    have hno := fnd_none (n) f (by omega) hz
    refine ⟨fun _ => pf4 (to := n) hc hn htx hf (by omega) (fun z => by omega) hr hp hl2 h9 hK (fun Q h => hR Q (r54 hn (by omega) (fun z => by omega) h (n - f) f (by omega) hno)), fun d => absurd rfl d⟩
  | some j =>
    have hj := fnd_lt hz
    have hmin := fnd_min (n) f (by omega) hz
    refine ⟨fun d => absurd d (nI_m1 (by omega)), fun _ => pf4 (to := j) hc hn htx hj.1 (by omega) (fun _ => hj.2.2) hr hp hl2 h9 hK (fun Q h => hR Q (r54 hn (by omega) (fun _ => hj.2.2) h (j - f) f (by omega) hmin))⟩
theorem pf2 {r : Nat} {S : rz_S} (hc : c < 15) (hn : n ≤ 400) (htx : ∀ j, j < n → Sx.1 2 j = Sm.1 151 j) (hr : r ≤ 1) (hrn : r ≤ n) (hp : prX Sx S) (hl2 : S.2 1 2 = nI n) (h9 : S.2 39 9 = nI r) (hK : ∀ x S1, pfO c n Sx Sm R x S1 → K x S1) (hR : ∀ Q : Int32 → rz_S → Prop, rz mM_opensFile 31 [(0, .ref 116), (1, .int (nI c)), (2, .int (nI n)), (3, .int (nI r)), (4, .int (nI r))] [] Sm (rz_i Q) → R Q) : rz mDos_parseFile 34 [(0, .ref 39), (1, .int (nI c))] [.int (nI r)] S (rz_i K) := by
  refine p_Dos_parseFile_34 (rz_toI (c_byteAt hn hl2 (by omega)) ?_)
  rw [hp.1 2 (by omega)]
  by_cases hlt : r < n
  · rw [if_pos hlt, htx r hlt]
    have nle : ¬ nI n ≤ nI r := fun d => by
      have := (nI_leI (a := n) (b := r) (by omega) (by omega)).mp d
      omega
    have h31 : ∀ Q : Int32 → rz_S → Prop, (Sm.1 151 r = 58 → rz mM_opensFile 54 [(0, .ref 116), (1, .int (nI c)), (2, .int (nI n)), (3, .int (nI (r + 1))), (4, .int (nI r)), (5, .int (nI (r + 1)))] [] Sm (rz_i Q)) → (¬ Sm.1 151 r = 58 → rz mM_opensFile 54 [(0, .ref 116), (1, .int (nI c)), (2, .int (nI n)), (3, .int (nI r)), (4, .int (nI r)), (5, .int (nI r))] [] Sm (rz_i Q)) → R Q := fun Q hA hB => hR Q (by
      refine p_M_opensFile_31 ⟨fun d => absurd d nle, fun _ => ?_⟩
      rw [nI_clamp (by omega), nI_1]
      exact ⟨rin (by omega) (by omega), hA, hB⟩)
    exact ⟨fun d => pf3 (f := r + 1) hc hn htx (by omega) hr (nI_1 r) hp hl2 h9 hK (fun Q h => h31 Q (fun _ => h) (fun z => absurd d z)), fun d => pf3 (f := r) hc hn htx (by omega) hr (by rw [Int32.add_zero]) hp hl2 h9 hK (fun Q h => h31 Q (fun z => absurd z d) (fun _ => h))⟩
  · rw [if_neg hlt]
    have le : nI n ≤ nI r := nI_le (by omega) (by omega)
    exact ⟨fun d => absurd d (by decide), fun _ => pf3 (f := r) hc hn htx (by omega) hr (by rw [Int32.add_zero]) hp hl2 h9 hK (fun Q h => hR Q (p_M_opensFile_31 ⟨fun _ => h, fun z => absurd le z⟩))⟩
theorem pf_pair (hc : c < 15) (hT : Txt n Sx Sm) : ∃ x S1, rzx mDos_parseFile [.ref 39, .int (nI c)] Sx (some (.int x)) S1 ∧ pfO c n Sx Sm (fun Q => rz_ev mM_opensFile [.ref 116, .int (nI c), .int (nI n)] Sm (rz_i Q)) x S1 := by
  obtain ⟨hn, hl, htx', hend⟩ := hT
  have htx : ∀ j, j < n → Sx.1 2 j = Sm.1 151 j := fun j hj => (htx' j hj).1
  have hL : rz_ev mDos_parseFile [.ref 39, .int (nI c)] Sx (rz_i (pfO c n Sx Sm (fun Q => rz_ev mM_opensFile [.ref 116, .int (nI c), .int (nI n)] Sm (rz_i Q)))) := by
    show rz _ 0 [(0, .ref 39), (1, .int (nI c))] [] _ _
    refine p_Dos_parseFile_0 (rz_toI (c_byteAt (i := 0) hn hl (by omega)) ?_)
    have u9 : ∀ x, (rz_uI Sx 39 9 x).2 1 2 = nI n := fun x => by simp (disch := omega) only [uI1, fA2, rz_fA_n, rz_uI_n, rz_fA_s, rz_uI_s, pk_us]; exact hl
    have r1 : 0 < n → Sm.1 151 0 = 64 → rz mDos_parseFile 19 [(0, .ref 39), (1, .int (nI c))] [.int 1, .ref 39] Sx (rz_i (pfO c n Sx Sm (fun Q => rz_ev mM_opensFile [.ref 116, .int (nI c), .int (nI n)] Sm (rz_i Q)))) := fun h0 h64 => by
      have nle : ¬ nI n ≤ 0 := fun d => by
        have := (nI_leI (a := n) (b := 0) (by omega) (by omega)).mp d
        omega
      refine p_Dos_parseFile_19 ⟨Or.inr rfl, fun d => absurd d (by decide), fun _ => pf2 (r := 1) hc hn htx (by omega) (by omega) (prX_u (by omega)) (u9 _) (by simp (disch := omega) only [uI1, fA2, rz_fA_n, rz_uI_n, rz_fA_s, rz_uI_s, pk_us]; rfl) (fun x S1 h => h) (fun Q h => ?_)⟩
      show rz _ 0 [(0, .ref 116), (1, .int (nI c)), (2, .int (nI n))] [] _ _
      exact p_M_opensFile_0 ⟨fun d => absurd d nle, fun _ => ⟨fun _ => p_M_opensFile_22 ⟨fun d => absurd d (by decide), fun _ => h⟩, fun d => absurd h64 d⟩⟩
    have r0 : ¬ (0 < n ∧ Sm.1 151 0 = 64) → rz mDos_parseFile 19 [(0, .ref 39), (1, .int (nI c))] [.int 0, .ref 39] Sx (rz_i (pfO c n Sx Sm (fun Q => rz_ev mM_opensFile [.ref 116, .int (nI c), .int (nI n)] Sm (rz_i Q)))) := fun hno => by
      refine p_Dos_parseFile_19 ⟨Or.inl rfl, fun _ => pf2 (r := 0) hc hn htx (by omega) (by omega) (prX_u (by omega)) (u9 _) (by simp (disch := omega) only [uI1, fA2, rz_fA_n, rz_uI_n, rz_fA_s, rz_uI_s, pk_us]; rfl) (fun x S1 h => h) (fun Q h => ?_), fun d => absurd rfl d⟩
      show rz _ 0 [(0, .ref 116), (1, .int (nI c)), (2, .int (nI n))] [] _ _
      have h21 : rz mM_opensFile 21 [(0, .ref 116), (1, .int (nI c)), (2, .int (nI n)), (3, .int 0)] [] Sm (rz_i Q) := p_M_opensFile_21 (p_M_opensFile_22 ⟨fun _ => h, fun d => absurd rfl d⟩)
      refine p_M_opensFile_0 ⟨fun _ => h21, fun d => ⟨fun z => absurd ⟨?_, z⟩ hno, fun _ => h21⟩⟩
      exact Decidable.byContradiction fun q => d (nI_le (b := 0) (by omega) (by omega))
    by_cases h0 : 0 < n
    · rw [if_pos h0, htx 0 h0]
      exact ⟨fun d => r1 h0 d, fun d => r0 (fun z => d z.2)⟩
    · rw [if_neg h0]
      exact ⟨fun d => absurd d (by decide), fun _ => r0 (fun z => h0 z.1)⟩
  obtain ⟨_, S1, h1, x, rfl, h2⟩ := rzx_ev hL
  exact ⟨x, S1, h1, h2⟩
end PARSE
