/-! a LIST's title, its ENTRIES' lines, its end -/
def tlr (F : Nat → Int32) : Nat → Nat → List Int32
  | 0, _ => []
  | w + 1, i => (if F (28 + i) = 160 then 32 else F (28 + i)) :: tlr F w (i + 1)
def ttl (F : Nat → Int32) : List Int32 := [34] ++ tlr F 10 0 ++ [34, 32, F 38, F 39, 13]
theorem tlr_l (F : Nat → Int32) : ∀ w i, (tlr F w i).length = w
  | 0, _ => rfl
  | w + 1, i => by rw [tlr, List.length_cons, tlr_l F w (i + 1)]
theorem tlr_c {F G : Nat → Int32} (h : ∀ j, j < 64 → F j = G j) : ∀ w i, w + i ≤ 10 → tlr F w i = tlr G w i
  | 0, _, _ => rfl
  | w + 1, i, hi => by rw [tlr, tlr, h (28 + i) (by omega), tlr_c h w (i + 1) (by omega)]
theorem ttl_c {F G : Nat → Int32} (h : ∀ j, j < 64 → F j = G j) : ttl F = ttl G := by
  rw [ttl, ttl, tlr_c h 10 0 (by omega), h 38 (by omega), h 39 (by omega)]
/-- an ENTRY's NAME -/
def nmr (F : Nat → Int32) (e : Nat) : Nat → Nat → List Int32
  | 0, _ => []
  | w + 1, i => if F (16 * e + 5 + i) = 160 then [] else F (16 * e + 5 + i) :: nmr F e w (i + 1)
theorem nmr_l (F : Nat → Int32) (e : Nat) : ∀ w i, (nmr F e w i).length ≤ w
  | 0, _ => by simp [nmr]
  | w + 1, i => by
    have := nmr_l F e w (i + 1)
    rw [nmr]
    split
    · simp
    · simp; omega
def ety (F : Nat → Int32) (e : Nat) : List Int32 := [34, 32, [63, 83, 80, 85].getD ((F (16 * e + 2)).toNatClampNeg % 4) 0] ++ (if F (16 * e + 2) < 128 then [42] else []) ++ [13]
def etl (F : Nat → Int32) (e : Nat) : List Int32 := dgs (F (16 * e + 15)).toNatClampNeg (dgj (F (16 * e + 15)).toNatClampNeg) ++ [32, 34] ++ nmr F e 10 0 ++ ety F e
theorem nmr_c {F G : Nat → Int32} {e : Nat} (he : e < 4) (h : ∀ j, j < 64 → F j = G j) : ∀ w i, w + i ≤ 10 → nmr F e w i = nmr G e w i
  | 0, _, _ => rfl
  | w + 1, i, hi => by rw [nmr, nmr, h (16 * e + 5 + i) (by omega), nmr_c he h w (i + 1) (by omega)]
theorem etl_c {F G : Nat → Int32} {e : Nat} (he : e < 4) (h : ∀ j, j < 64 → F j = G j) : etl F e = etl G e := by
  rw [etl, etl, ety, ety, nmr_c he h 10 0 (by omega), h (16 * e + 15) (by omega), h (16 * e + 2) (by omega)]
theorem dgj_3 (v : Nat) : dgj v ≤ 3 := by
  unfold dgj
  by_cases a : v < 10
  · rw [if_pos a]; omega
  · rw [if_neg a]
    by_cases b : v < 100
    · rw [if_pos b]; omega
    · rw [if_neg b]
      by_cases d : v < 1000
      · rw [if_pos d]; omega
      · rw [if_neg d]; omega
theorem etl_l {F : Nat → Int32} {e : Nat} : 1 ≤ (etl F e).length ∧ (etl F e).length ≤ 25 := by
  have h1 := nmr_l F e 10 0
  have h2 := dgj_3 (F (16 * e + 15)).toNatClampNeg
  rw [etl, ety]
  simp only [List.length_append, dgs_l, List.length_cons, List.length_nil]
  split
  · simp only [List.length_cons, List.length_nil]; omega
  · simp only [List.length_nil]; omega
def smI (F : Nat → Int32) : Nat → Int32
  | 0 => 0
  | i + 1 => smI F i + F (2 + 2 * ordT i)
def frl (v : Nat) : List Int32 := dgs v (dgj v) ++ [32, 70, 82, 69, 69, 13]
section LINES
variable {S : rz_S} {l : List Int32} {c : Nat}
theorem lp_title (hc : c < 15) {F : Nat → Int32} {K : rz_S → Prop} : ∀ (w i : Nat) (S : rz_S) (l : List Int32), w + i = 10 → S.1 45 = F → LB c S l → l.length + w + 5 ≤ 64 → (∀ S1, LB c S1 (l ++ tlr F w i ++ [34, 32, F 38, F 39, 13]) → lnX c S S1 → K S1) → rz mDos_addTitle 8 [(0, .ref 39), (1, .ref (48 + 4 * c)), (2, .int (nI i))] [] S (rz_v K) := by
  have hch : chP (48 + 4 * c) := ⟨by omega, by omega, by omega⟩
  intro w
  induction w with
  | zero =>
    intro i S l hi hF h hl hK
    have ei : i = 10 := by omega
    subst ei
    refine p_Dos_addTitle_8 hch ⟨fun _ => ?_, fun d => absurd (by decide) d⟩
    refine rz_useV (c_ladd hc h (by omega) _) (fun S1 q1 => rz_useV (c_ladd hc q1.1 (by simp; omega) _) (fun S2 q2 => ?_))
    have f2 : S2.1 45 = F := by rw [q2.2.1 45 (by omega), q1.2.1 45 (by omega)]; exact hF
    rw [f2]
    refine rz_useV (c_ladd hc q2.1 (by simp; omega) _) (fun S3 q3 => ?_)
    have f3 : S3.1 45 = F := by rw [q3.2.1 45 (by omega)]; exact f2
    rw [f3]
    refine rz_useV (c_ladd hc q3.1 (by simp; omega) _) (fun S4 q4 => rz_useV (c_ladd hc q4.1 (by simp; omega) _) (fun S5 q5 => hK S5 (lb_c q5.1 ?_) (lnX_t q1.2 (lnX_t q2.2 (lnX_t q3.2 (lnX_t q4.2 q5.2))))))
    simp [tlr]
  | succ w ih =>
    intro i S l hi hF h hl hK
    refine p_Dos_addTitle_8 hch ⟨fun d => ?_, fun _ => ?_⟩
    · have := (nI_leI (a := 10) (by omega) (by omega)).mp d
      omega
    rw [show (28 : Int32) + nI i = nI (28 + i) from nI_add 28 i, nI_clamp (by omega), hF]
    have go : ∀ v : Int32, v = (if F (28 + i) = 160 then 32 else F (28 + i)) → rz mDos_addTitle 41 [(0, .ref 39), (1, .ref (48 + 4 * c)), (2, .int (nI i))] [.int v, .ref (48 + 4 * c)] S (rz_v K) := fun v hv => by
      refine p_Dos_addTitle_41 hch hch (rz_useV (c_ladd hc h (by omega) _) (fun S1 q => ?_))
      rw [nI_1]
      refine ih (i + 1) S1 _ (by omega) ((q.2.1 45 (by omega)).trans hF) q.1 (by simp; omega) (fun S2 h2 f2 => hK S2 (lb_c h2 ?_) (lnX_t q.2 f2))
      rw [tlr, ← hv]
      simp
    exact ⟨rin (by omega) (by omega), fun d => go 32 (by rw [if_pos d]), fun d => go _ (by rw [if_neg d])⟩
theorem c_addTitle (hc : c < 15) (h : LB c S []) : rz_ev mDos_addTitle [.ref 39, .ref (48 + 4 * c)] S (rz_v (fun S1 => LB c S1 (ttl (S.1 45)) ∧ lnX c S S1)) := by
  have hch : chP (48 + 4 * c) := ⟨by omega, by omega, by omega⟩
  show rz _ 0 [(0, .ref 39), (1, .ref (48 + 4 * c))] [] _ _
  refine p_Dos_addTitle_0 hch (rz_useV (c_ladd hc h (by simp) _) (fun S1 q => ?_))
  exact lp_title hc (F := S.1 45) 10 0 S1 _ (by omega) (q.2.1 45 (by omega)) q.1 (by simp) (fun S2 h2 f2 => ⟨lb_c h2 (by rw [ttl]; simp), lnX_t q.2 f2⟩)
theorem lp_mtitle {G : Nat → Int32} {K : Int32 → rz_S → Prop} (hc : c < 15) : ∀ (w i : Nat) (S : rz_S) (l : List Int32), w + i = 10 → S.1 123 = G → WB S l → l.length + w + 5 ≤ 40 → (∀ S1, WB S1 (l ++ tlr G w i ++ [34, 32, G 38, G 39, 13]) → wbM S S1 → K 0 (rz_fA (rz_fA (rz_fA (rz_fA (rz_fA S1 139 (upd (S1.1 139) c 1)) 140 (upd (S1.1 140) c 7)) 141 (upd (S1.1 141) c 1)) 142 (upd (S1.1 142) c 1)) 143 (upd (S1.1 143) c 0))) → rz mM_title 20 [(0, .ref 116), (1, .int (nI c)), (3, .int (nI (28 + i)))] [] S (rz_i K) := by
  have ecl : (nI c).toNatClampNeg = c := nI_clamp (by omega)
  intro w
  induction w with
  | zero =>
    intro i S l hi hF h hl hK
    have ei : i = 10 := by omega
    subst ei
    refine p_M_title_20 ⟨fun _ => ?_, fun d => absurd (by decide) d⟩
    refine rz_useV (d_says h (by omega) _) (fun S1 q1 => rz_useV (d_says q1.1 (by simp; omega) _) (fun S2 q2 => ?_))
    have f2 : S2.1 123 = G := by rw [q2.2.1 123 (by omega), q1.2.1 123 (by omega)]; exact hF
    rw [f2]
    refine rz_useV (d_says q2.1 (by simp; omega) _) (fun S3 q3 => ?_)
    have f3 : S3.1 123 = G := by rw [q3.2.1 123 (by omega)]; exact f2
    rw [f3]
    refine rz_useV (d_says q3.1 (by simp; omega) _) (fun S4 q4 => rz_useV (d_says q4.1 (by simp; omega) _) (fun S5 q5 => ⟨rin hc (by omega), ?_⟩))
    rw [ecl]
    exact hK S5 (wb_c q5.1 (by simp [tlr])) (wbM_t q1.2 (wbM_t q2.2 (wbM_t q3.2 (wbM_t q4.2 q5.2))))
  | succ w ih =>
    intro i S l hi hF h hl hK
    refine p_M_title_20 ⟨fun d => ?_, fun _ => ?_⟩
    · have := (nI_leI (a := 38) (by omega) (by omega)).mp d
      omega
    rw [nI_clamp (by omega), hF]
    have go : ∀ v : Int32, v = (if G (28 + i) = 160 then 32 else G (28 + i)) → rz mM_title 50 [(0, .ref 116), (1, .int (nI c)), (3, .int (nI (28 + i)))] [.int v, .ref 116] S (rz_i K) := fun v hv => by
      refine p_M_title_50 (rz_useV (d_says h (by omega) _) (fun S1 q => ?_))
      rw [nI_1]
      refine ih (i + 1) S1 _ (by omega) ((q.2.1 123 (by omega)).trans hF) q.1 (by simp; omega) (fun S2 h2 f2 => hK S2 (wb_c h2 ?_) (wbM_t q.2 f2))
      rw [tlr, ← hv]
      simp
    exact ⟨rin (by omega) (by omega), fun d => go 32 (by rw [if_pos d]), fun d => go _ (by rw [if_neg d])⟩
/-- an ENTRY's line, the class's -/
theorem c_nameByte {e i : Nat} (he : e < 4) (hi : i < 10) (h4 : S.2 46 4 = nI e) : rz_ev mDirectory_nameByte [.ref 46, .int (nI i)] S (rz_i (fun x S1 => x = S.1 47 (16 * e + 5 + i) ∧ S1 = S)) := by
  show rz _ 0 [(0, .ref 46), (1, .int (nI i))] [] _ _
  refine p_Directory_nameByte_0 ⟨fun d => absurd d (nI_pos (by omega)), fun _ => ⟨fun d => ?_, fun _ => rz_toI (c_Directory_base he h4) ?_⟩⟩
  · have := (nI_leI (a := 10) (by omega) (by omega)).mp d
    omega
  rw [show (nI (16 * e) + 5 : Int32) = nI (16 * e + 5) from nI_add _ 5, nI_add, nI_clamp (by omega)]
  exact ⟨rin (by omega) (by omega), rfl, rfl⟩
theorem lp_name (hc : c < 15) {e : Nat} (he : e < 4) {F : Nat → Int32} {K : rz_S → Prop} : ∀ (w i : Nat) (S : rz_S) (l : List Int32), w + i = 10 → S.1 47 = F → S.2 46 4 = nI e → LB c S l → l.length + w ≤ 64 → (∀ S1, LB c S1 (l ++ nmr F e w i) → lnX c S S1 → rz mDos_addEntry 63 [(0, .ref 39), (1, .ref (48 + 4 * c))] [] S1 (rz_v K)) → rz mDos_addEntry 25 [(0, .ref 39), (1, .ref (48 + 4 * c)), (2, .int (nI i))] [] S (rz_v K) := by
  have hch : chP (48 + 4 * c) := ⟨by omega, by omega, by omega⟩
  intro w
  induction w with
  | zero =>
    intro i S l hi hF h4 h hl hK
    have ei : i = 10 := by omega
    subst ei
    exact p_Dos_addEntry_25 hch ⟨fun _ => hK S (lb_c h (by simp [nmr])) (lnX_r _ _), fun d => absurd (by decide) d⟩
  | succ w ih =>
    intro i S l hi hF h4 h hl hK
    refine p_Dos_addEntry_25 hch ⟨fun d => ?_, fun _ => rz_toI (c_nameByte he (by omega) h4) ?_⟩
    · have := (nI_leI (a := 10) (by omega) (by omega)).mp d
      omega
    rw [hF]
    refine ⟨fun d => hK S (lb_c h (by rw [nmr, if_pos d, List.append_nil])) (lnX_r _ _), fun d => rz_toI (c_nameByte he (by omega) h4) (rz_useV (c_ladd hc h (by omega) _) (fun S1 q => ?_))⟩
    rw [nI_1]
    refine ih (i + 1) S1 _ (by omega) ((q.2.1 47 (by omega)).trans hF) ((q.2.2 46 4 (by omega)).trans h4) q.1 (by simp; omega) (fun S2 h2 f2 => hK S2 (lb_c h2 ?_) (lnX_t q.2 f2))
    rw [nmr, if_neg d, hF]
    simp
theorem ltr_x : ∀ j, j < 4 → (tx 19).getD j 0 = ([63, 83, 80, 85] : List Int32).getD j 0 := by decide +kernel
theorem c_addEntry (hc : c < 15) {e : Nat} (he : e < 4) (h4 : S.2 46 4 = nI e) (hb : ∀ k, k < 64 → byt (S.1 47 k)) (h : LB c S []) : rz_ev mDos_addEntry [.ref 39, .ref (48 + 4 * c)] S (rz_v (fun S1 => LB c S1 (etl (S.1 47) e) ∧ lnX c S S1)) := by
  have hch : chP (48 + 4 * c) := ⟨by omega, by omega, by omega⟩
  obtain ⟨n15, b15, e15⟩ := hb (16 * e + 15) (by omega)
  obtain ⟨n2, b2, e2⟩ := hb (16 * e + 2) (by omega)
  have c15 : (S.1 47 (16 * e + 15)).toNatClampNeg = n15 := by rw [e15, nI_clamp (by omega)]
  have c2 : (S.1 47 (16 * e + 2)).toNatClampNeg = n2 := by rw [e2, nI_clamp (by omega)]
  show rz _ 0 [(0, .ref 39), (1, .ref (48 + 4 * c))] [] _ _
  have hcount : rz_ev mDirectory_count [.ref 46] S (rz_i (fun x S1 => x = nI n15 ∧ S1 = S)) := by
    show rz _ 0 [(0, .ref 46)] [] _ _
    refine p_Directory_count_0 (rz_toI (c_Directory_base he h4) ?_)
    rw [show (nI (16 * e) + 15 : Int32) = nI (16 * e + 15) from nI_add _ 15, nI_clamp (by omega)]
    exact ⟨rin (by omega) (by omega), e15, rfl⟩
  have hj := dgj_3 n15
  have hnl := nmr_l (S.1 47) e 10 0
  refine p_Dos_addEntry_0 hch (rz_toI hcount (rz_useV (c_addNumber hc (by omega) h (by simp)) (fun S1 q1 => rz_useV (c_ladd hc q1.1 (by simp [dgs_l]; omega) _) (fun S2 q2 => rz_useV (c_ladd hc q2.1 (by simp [dgs_l]; omega) _) (fun S3 q3 => ?_)))))
  have g3 : lnX c S S3 := lnX_t q1.2 (lnX_t q2.2 q3.2)
  refine lp_name hc he (F := S.1 47) 10 0 S3 _ (by omega) (g3.1 47 (by omega)) ((g3.2 46 4 (by omega)).trans h4) q3.1 (by simp [dgs_l]; omega) (fun S4 h4' f4 => ?_)
  have g4 := lnX_t g3 f4
  refine p_Dos_addEntry_63 hch (rz_useV (c_ladd hc h4' (by simp [dgs_l]; omega) _) (fun S5 q5 => rz_useV (c_ladd hc q5.1 (by simp [dgs_l]; omega) _) (fun S6 q6 => ?_)))
  have g6 := lnX_t g4 (lnX_t q5.2 q6.2)
  have t6 : S6.1 47 (16 * e + 2) = nI n2 := by rw [g6.1 47 (by omega)]; exact e2
  refine rz_toI (c_Directory_type he ((g6.2 46 4 (by omega)).trans h4)) ?_
  rw [t6, show (nI n2 &&& 3 : Int32) = nI (n2 % 4) from pk_andN (n := n2) (by omega) 2 (by decide)]
  refine rz_toI (c_Str_charAt (i := 19) (j := n2 % 4) (by omega) (by have : (tx 19).length = 4 := by decide +kernel
                                                                     omega)) ?_
  rw [ltr_x _ (by omega)]
  refine rz_useV (c_ladd hc q6.1 (by simp [dgs_l]; omega) _) (fun S7 q7 => ?_)
  have g7 := lnX_t g6 q7.2
  have t7 : S7.1 47 (16 * e + 2) = nI n2 := by rw [g7.1 47 (by omega)]; exact e2
  have hcl : rz_ev mDirectory_isClosed [.ref 46] S7 (rz_i (fun x S1 => x = (if nI n2 < 128 then 0 else 1) ∧ S1 = S7)) := by
    show rz _ 0 [(0, .ref 46)] [] _ _
    refine p_Directory_isClosed_0 (rz_toI (c_Directory_type he ((g7.2 46 4 (by omega)).trans h4)) ?_)
    rw [t7]
    exact ⟨fun d => ⟨by rw [if_pos d], rfl⟩, fun d => ⟨by rw [if_neg d], rfl⟩⟩
  refine rz_toI hcl ?_
  by_cases d : nI n2 < 128
  · rw [if_pos d]
    refine ⟨fun _ => rz_useV (c_ladd hc q7.1 (by simp [dgs_l]; omega) _) (fun S8 q8 => p_Dos_addEntry_110 hch (rz_useV (c_ladd hc q8.1 (by simp [dgs_l]; omega) _) (fun S9 q9 => ⟨lb_c q9.1 ?_, lnX_t g7 (lnX_t q8.2 q9.2)⟩))), fun z => absurd rfl z⟩
    rw [etl, ety, c15, c2, e2, if_pos d]
    simp
  · rw [if_neg d]
    refine ⟨fun z => absurd z (by decide), fun _ => p_Dos_addEntry_110 hch (rz_useV (c_ladd hc q7.1 (by simp [dgs_l]; omega) _) (fun S9 q9 => ⟨lb_c q9.1 ?_, lnX_t g7 q9.2⟩))⟩
    rw [etl, ety, c15, c2, e2, if_neg d]
    simp
/-- the reference's -/
theorem lp_mname {e : Nat} (he : e < 4) {F : Nat → Int32} {K : rz_S → Prop} : ∀ (w i : Nat) (S : rz_S) (l : List Int32), w + i = 10 → S.1 124 = F → WB S l → l.length + w ≤ 40 → (∀ S1, WB S1 (l ++ nmr F e w i) → wbM S S1 → rz mM_entryLine 85 [(0, .ref 116), (1, .int (nI (16 * e)))] [] S1 (rz_v K)) → rz mM_entryLine 29 [(0, .ref 116), (1, .int (nI (16 * e))), (2, .int 1), (3, .int (nI i))] [] S (rz_v K) := by
  intro w
  induction w with
  | zero =>
    intro i S l hi hF h hl hK
    have ei : i = 10 := by omega
    subst ei
    exact p_M_entryLine_29 ⟨fun _ => hK S (wb_c h (by simp [nmr])) (wbM_r _), fun d => absurd (by decide) d⟩
  | succ w ih =>
    intro i S l hi hF h hl hK
    refine p_M_entryLine_29 ⟨fun d => ?_, fun _ => ⟨fun d => absurd d (by decide), fun _ => ?_⟩⟩
    · have := (nI_leI (a := 10) (by omega) (by omega)).mp d
      omega
    rw [show (nI (16 * e) + 5 : Int32) = nI (16 * e + 5) from nI_add _ 5, nI_add, nI_clamp (by omega), hF]
    refine ⟨rin (by omega) (by omega), fun d => p_M_entryLine_60 ⟨fun _ => ?_, fun d => absurd rfl d⟩, fun d => p_M_entryLine_60 ⟨fun d => absurd d (by decide), fun _ => ?_⟩⟩
    · have : rz mM_entryLine 85 [(0, .ref 116), (1, .int (nI (16 * e)))] [] S (rz_v K) := hK S (wb_c h (by rw [nmr, if_pos d, List.append_nil])) (wbM_r _)
      exact p_M_entryLine_29 ⟨fun _ => this, fun _ => ⟨fun _ => this, fun d => absurd rfl d⟩⟩
    · rw [show (nI (16 * e) + 5 : Int32) = nI (16 * e + 5) from nI_add _ 5, nI_add, nI_clamp (by omega), hF]
      refine ⟨rin (by omega) (by omega), rz_useV (d_says h (by omega) _) (fun S1 q => ?_)⟩
      rw [nI_1]
      refine ih (i + 1) S1 _ (by omega) ((q.2.1 124 (by omega)).trans hF) q.1 (by simp; omega) (fun S2 h2 f2 => hK S2 (wb_c h2 ?_) (wbM_t q.2 f2))
      rw [nmr, if_neg d]
      simp
theorem d_entry {e : Nat} (he : e < 4) (hb : ∀ k, k < 64 → byt (S.1 124 k)) (h : WB S []) : rz_ev mM_entryLine [.ref 116, .int (nI (16 * e))] S (rz_v (fun S1 => WB S1 (etl (S.1 124) e) ∧ wbM S S1)) := by
  obtain ⟨n15, b15, e15⟩ := hb (16 * e + 15) (by omega)
  obtain ⟨n2, b2, e2⟩ := hb (16 * e + 2) (by omega)
  have c15 : (S.1 124 (16 * e + 15)).toNatClampNeg = n15 := by rw [e15, nI_clamp (by omega)]
  have c2 : (S.1 124 (16 * e + 2)).toNatClampNeg = n2 := by rw [e2, nI_clamp (by omega)]
  have hj := dgj_3 n15
  have hnl := nmr_l (S.1 124) e 10 0
  show rz _ 0 [(0, .ref 116), (1, .int (nI (16 * e)))] [] _ _
  refine p_M_entryLine_0 ?_
  rw [show (nI (16 * e) + 15 : Int32) = nI (16 * e + 15) from nI_add _ 15, nI_clamp (by omega), e15]
  refine ⟨rin (by omega) (by omega), rz_useV (d_number (by omega) h (by simp)) (fun S1 q1 => rz_useV (d_says q1.1 (by simp [dgs_l]; omega) _) (fun S2 q2 => rz_useV (d_says q2.1 (by simp [dgs_l]; omega) _) (fun S3 q3 => ?_)))⟩
  have g3 : wbM S S3 := wbM_t q1.2 (wbM_t q2.2 q3.2)
  refine lp_mname he (F := S.1 124) 10 0 S3 _ (by omega) (g3.1 124 (by omega)) q3.1 (by simp [dgs_l]; omega) (fun S4 h4' f4 => ?_)
  have g4 := wbM_t g3 f4
  refine p_M_entryLine_85 (rz_useV (d_says h4' (by simp [dgs_l]; omega) _) (fun S5 q5 => rz_useV (d_says q5.1 (by simp [dgs_l]; omega) _) (fun S6 q6 => ?_)))
  have g6 := wbM_t g4 (wbM_t q5.2 q6.2)
  have t6 : S6.1 124 (16 * e + 2) = nI n2 := by rw [g6.1 124 (by omega)]; exact e2
  rw [show (nI (16 * e) + 2 : Int32) = nI (16 * e + 2) from nI_add _ 2, nI_clamp (by omega), t6, show (nI n2 &&& 3 : Int32) = nI (n2 % 4) from pk_andN (n := n2) (by omega) 2 (by decide)]
  have fin : ∀ v : Int32, v = ([63, 83, 80, 85] : List Int32).getD (n2 % 4) 0 → rz mM_entryLine 141 [(0, .ref 116), (1, .int (nI (16 * e)))] [.int v, .ref 116] S6 (rz_v (fun S1 => WB S1 (etl (S.1 124) e) ∧ wbM S S1)) := fun v hv => by
    refine p_M_entryLine_141 (rz_useV (d_says q6.1 (by simp [dgs_l]; omega) _) (fun S7 q7 => ?_))
    have g7 := wbM_t g6 q7.2
    have t7 : S7.1 124 (16 * e + 2) = nI n2 := by rw [g7.1 124 (by omega)]; exact e2
    rw [show (nI (16 * e) + 2 : Int32) = nI (16 * e + 2) from nI_add _ 2, nI_clamp (by omega), t7]
    refine ⟨rin (by omega) (by omega), fun d => ?_, fun d => ?_⟩
    · refine p_M_entryLine_164 (rz_useV (d_says q7.1 (by simp [dgs_l]; omega) _) (fun S9 q9 => ⟨wb_c q9.1 ?_, wbM_t g7 q9.2⟩))
      rw [etl, ety, c15, c2, e2, if_neg (show ¬ nI n2 < 128 from Int32.not_lt.mpr d), hv]
      simp
    · refine rz_useV (d_says q7.1 (by simp [dgs_l]; omega) _) (fun S8 q8 => p_M_entryLine_164 (rz_useV (d_says q8.1 (by simp [dgs_l]; omega) _) (fun S9 q9 => ⟨wb_c q9.1 ?_, wbM_t g7 (wbM_t q8.2 q9.2)⟩)))
      rw [etl, ety, c15, c2, e2, if_pos (show nI n2 < 128 from Int32.not_le.mp d), hv]
      simp
  have m4 : n2 % 4 = 0 ∨ n2 % 4 = 1 ∨ n2 % 4 = 2 ∨ n2 % 4 = 3 := by omega
  refine ⟨rin (by omega) (by omega), ?_⟩
  rcases m4 with z | z | z | z <;> rw [z] at fin ⊢
  · exact ⟨fun d => absurd d (by decide), fun _ => ⟨fun d => absurd d (by decide), fun _ => ⟨fun d => absurd d (by decide), fun _ => fin 63 rfl⟩⟩⟩
  · exact ⟨fun _ => fin 83 rfl, fun d => absurd rfl d⟩
  · exact ⟨fun d => absurd d (by decide), fun _ => ⟨fun _ => fin 80 rfl, fun d => absurd rfl d⟩⟩
  · exact ⟨fun d => absurd d (by decide), fun _ => ⟨fun d => absurd d (by decide), fun _ => ⟨fun _ => fin 85 rfl, fun d => absurd rfl d⟩⟩⟩
/-- the end of a LIST -/
theorem lp_sum {K : Int32 → rz_S → Prop} : ∀ (w i : Nat), w + i = 11 → K (smI (S.1 45) 11) S → rz mBlockMap_freeSum 4 [(0, .ref 44), (1, .int (smI (S.1 45) i)), (2, .int (nI i))] [] S (rz_i K) := by
  intro w
  induction w with
  | zero =>
    intro i hi hK
    have ei : i = 11 := by omega
    subst ei
    exact p_BlockMap_freeSum_4 ⟨fun _ => hK, fun d => absurd (by decide) d⟩
  | succ w ih =>
    intro i hi hK
    have hb := ord_b i (by omega)
    refine p_BlockMap_freeSum_4 ⟨fun d => ?_, fun _ => ⟨(ord_x i (by omega)).1, ?_⟩⟩
    · have := (nI_leI (a := 11) (by omega) (by omega)).mp d
      omega
    rw [(ord_x i (by omega)).2, show (2 : Int32) * nI (ordT i) = nI (2 * ordT i) from pk_mul 2 _, show (2 : Int32) + nI (2 * ordT i) = nI (2 + 2 * ordT i) from nI_add 2 _, nI_clamp (by omega), nI_1]
    exact ⟨rin (by omega) (by omega), ih (i + 1) (by omega) hK⟩
theorem c_freeSum : rz_ev mBlockMap_freeSum [.ref 44] S (rz_i (fun x S1 => x = smI (S.1 45) 11 ∧ S1 = S)) := by
  show rz _ 0 [(0, .ref 44)] [] _ _
  exact p_BlockMap_freeSum_0 (lp_sum 11 0 (by omega) ⟨rfl, rfl⟩)
/-- the sum as a number -/
def smN (F : Nat → Nat) : Nat → Nat
  | 0 => 0
  | i + 1 => smN F i + F (2 + 2 * ordT i)
theorem smN_e {G : Nat → Int32} {F : Nat → Nat} (h : ∀ k, k < 64 → G k = nI (F k)) : ∀ i, i ≤ 11 → smI G i = nI (smN F i)
  | 0, _ => rfl
  | i + 1, hi => by
    have hb := ord_b i (by omega)
    rw [smI, smN, smN_e h i (by omega), h _ (by omega), nI_add]
def smM (F : Nat → Nat) : Nat → Nat
  | 0 => 0
  | i + 1 => smM F i + (if i + 1 = 7 then 0 else F (2 + 2 * (i + 1)))
theorem sm_eq {F : Nat → Nat} (hF : ∀ k, k < 64 → F k < 256) : smN F 11 = smM F 12 ∧ smN F 11 < 10000 := by
  have e1 : smN F 11 = 0 + F 14 + F 18 + F 12 + F 20 + F 10 + F 22 + F 8 + F 24 + F 6 + F 26 + F 4 := rfl
  have e2 : smM F 12 = 0 + F 4 + F 6 + F 8 + F 10 + F 12 + F 14 + 0 + F 18 + F 20 + F 22 + F 24 + F 26 := rfl
  rw [e1, e2]
  have a4 := hF 4 (by omega)
  have a6 := hF 6 (by omega)
  have a8 := hF 8 (by omega)
  have a10 := hF 10 (by omega)
  have a12 := hF 12 (by omega)
  have a14 := hF 14 (by omega)
  have a18 := hF 18 (by omega)
  have a20 := hF 20 (by omega)
  have a22 := hF 22 (by omega)
  have a24 := hF 24 (by omega)
  have a26 := hF 26 (by omega)
  omega
theorem c_addFree (hc : c < 15) {v : Nat} (hv : v < 10000) (hs : smI (S.1 45) 11 = nI v) (h : LB c S []) : rz_ev mDos_addFree [.ref 39, .ref (48 + 4 * c)] S (rz_v (fun S1 => LB c S1 (frl v) ∧ lnX c S S1)) := by
  have hch : chP (48 + 4 * c) := ⟨by omega, by omega, by omega⟩
  have hj := dgj_3 v
  show rz _ 0 [(0, .ref 39), (1, .ref (48 + 4 * c))] [] _ _
  refine p_Dos_addFree_0 hch (rz_toI c_freeSum ?_)
  rw [hs]
  refine rz_useV (c_addNumber hc hv h (by simp)) (fun S1 q1 => rz_useV (c_ladd hc q1.1 (by simp [dgs_l]; omega) _) (fun S2 q2 => rz_useV (c_ladd hc q2.1 (by simp [dgs_l]; omega) _) (fun S3 q3 => rz_useV (c_ladd hc q3.1 (by simp [dgs_l]; omega) _) (fun S4 q4 => rz_useV (c_ladd hc q4.1 (by simp [dgs_l]; omega) _) (fun S5 q5 => rz_useV (c_ladd hc q5.1 (by simp [dgs_l]; omega) _) (fun S6 q6 => rz_useV (c_ladd hc q6.1 (by simp [dgs_l]; omega) _) (fun S7 q7 => ⟨lb_c q7.1 ?_, lnX_t q1.2 (lnX_t q2.2 (lnX_t q3.2 (lnX_t q4.2 (lnX_t q5.2 (lnX_t q6.2 q7.2)))))⟩)))))))
  rw [frl]
  simp
theorem c_addFreeAny (hc : c < 15) (h : LB c S []) : rz_ev mDos_addFree [.ref 39, .ref (48 + 4 * c)] S (rz_v (fun S1 => lnX c S S1)) := by
  have hch : chP (48 + 4 * c) := ⟨by omega, by omega, by omega⟩
  show rz _ 0 [(0, .ref 39), (1, .ref (48 + 4 * c))] [] _ _
  refine p_Dos_addFree_0 hch (rz_toI c_freeSum (rz_useV (c_addAny hc h (by simp)) (fun S1 q => ?_)))
  obtain ⟨l1, a1, a2, a3⟩ := q
  simp only [List.length_nil] at a2
  exact rz_useV (c_ladd hc a1 (by omega) _) (fun S2 q2 => rz_useV (c_ladd hc q2.1 (by simp; omega) _) (fun S3 q3 => rz_useV (c_ladd hc q3.1 (by simp; omega) _) (fun S4 q4 => rz_useV (c_ladd hc q4.1 (by simp; omega) _) (fun S5 q5 => rz_useV (c_ladd hc q5.1 (by simp; omega) _) (fun S6 q6 => rz_useV (c_ladd hc q6.1 (by simp; omega) _) (fun S7 q7 => lnX_t a3 (lnX_t q2.2 (lnX_t q3.2 (lnX_t q4.2 (lnX_t q5.2 (lnX_t q6.2 q7.2))))))))))) 
theorem lt_free : lt8 (1179796805 : Int64) 8 = [70, 82, 69, 69] := by decide +kernel
theorem lp_total (hc : c < 15) {F : Nat → Nat} (hF : ∀ k, k < 64 → S.1 123 k = nI (F k) ∧ F k < 256) (h : WB S []) {K : Int32 → rz_S → Prop} (hK : ∀ S1, WB S1 (frl (smM F 12)) → wbM S S1 → K 0 (rz_fA S1 139 (upd (S1.1 139) c 3))) (hv : smM F 12 < 10000) : ∀ (w i : Nat), w + i = 12 → rz mM_total 16 [(0, .ref 116), (1, .int (nI c)), (3, .int (nI (smM F i))), (4, .int (nI (i + 1)))] [] S (rz_i K) := by
  have ecl : (nI c).toNatClampNeg = c := nI_clamp (by omega)
  have hj := dgj_3 (smM F 12)
  intro w
  induction w with
  | zero =>
    intro i hi
    have ei : i = 12 := by omega
    subst ei
    refine p_M_total_16 ⟨fun _ => ?_, fun d => absurd (by decide) d⟩
    refine rz_useV (d_number hv h (by simp)) (fun S1 q1 => rz_useV (d_says q1.1 (by simp [dgs_l]; omega) _) (fun S2 q2 => rz_useV (d_says8 _ q2.1 (by simp [dgs_l]; omega)) (fun S3 q3 => ?_)))
    rw [lt_free] at q3
    refine rz_useV (d_says q3.1 (by simp [dgs_l]; omega) _) (fun S4 q4 => ⟨rin hc (by omega), ?_⟩)
    rw [ecl]
    refine hK S4 (wb_c q4.1 ?_) (wbM_t q1.2 (wbM_t q2.2 (wbM_t q3.2 q4.2)))
    rw [frl]
    simp
  | succ w ih =>
    intro i hi
    have := ih (i + 1) (by omega)
    refine p_M_total_16 ⟨fun d => ?_, fun _ => ⟨fun d => ?_, fun d => ?_⟩⟩
    · have := (nI_ltI (a := 12) (by omega) (by omega)).mp d
      omega
    · have i7 : i + 1 = 7 := (nI_eq (b := 7) (by omega) (by omega)).mp d
      rw [show nI (smM F i) + 0 = nI (smM F (i + 1)) from by rw [smM, if_pos i7]; exact nI_add _ 0, nI_1]
      exact this
    · have i7 : ¬ i + 1 = 7 := fun z => d (by rw [z]; rfl)
      rw [show (2 : Int32) * nI (i + 1) = nI (2 * (i + 1)) from pk_mul 2 _, show (2 : Int32) + nI (2 * (i + 1)) = nI (2 + 2 * (i + 1)) from nI_add 2 _, nI_clamp (by omega), (hF _ (by omega)).1, nI_add, nI_1]
      refine ⟨rin (by omega) (by omega), ?_⟩
      rw [smM, if_neg i7] at this
      exact this
end LINES
