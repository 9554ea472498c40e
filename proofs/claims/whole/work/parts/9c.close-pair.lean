/-! the call close: both sides -/
theorem ChW_e {c : Nat} {Sx Sm Sx1 Sm1 : rz_S} (h : ChW c Sx Sm) (h1 : Sx1.1 = Sx.1) (h2 : ∀ z, Sx1.2 (48 + 4 * c) z = Sx.2 (48 + 4 * c) z) (h3 : Sm1.1 = Sm.1) : ChW c Sx1 Sm1 := by
  unfold ChW
  simp only [h1, h2, h3]
  exact h
theorem bg_3 {S : rz_S} {u z : Nat} (hu : u ≠ 3) : (st_begin S).2 u z = S.2 u z := by
  unfold st_begin st_set
  rw [rz_uI_n (by omega), rz_uI_n (by omega), rz_uI_n (by omega), rz_uI_n (by omega), rz_uI_n (by omega), rz_uI_n (by omega), rz_uI_n (by omega)]
theorem bg_dk {B : Nat → Nat → Bool} {pr : Bool} {id : Option (Nat × Nat)} {Sx Sm : rz_S} (h : Dk B pr id Sx Sm) : Dk B pr id (st_begin Sx) (md_begins Sm) := by
  unfold st_begin md_begins md_sets
  exact Dk_mu (Dk_mu (Dk_mu (Dk_mu (Dk_mu (Dk_mu (Dk_xu (Dk_xu (st_set_dk h) (by omega)) (by omega)) (by omega)) (by omega)) (by omega)) (by omega)) (by omega)) (by omega)
theorem bg_ChA {c : Nat} {Sx Sm : rz_S} (h : ChA c Sx Sm) : ChA c (st_begin Sx) (md_begins Sm) := fun d h1 h2 => by
  obtain ⟨a, b⟩ := h d h1 h2
  exact ⟨(bg_3 (by omega)).trans a, fun z => ChW_e (b z) rfl (fun z => bg_3 (by omega)) rfl⟩
theorem an_num {S0 Sx1 Sm1 : rz_S} {x : Int32} (h0 : S0.2 3 0 = 0) (a : ans S0 x Sx1 Sm1) : ∃ n : Nat, (n = 0 ∨ n = 1 ∨ 20 ≤ n ∧ n ≤ 26 ∨ n = 28 ∨ 30 ≤ n ∧ n ≤ 34 ∨ 60 ≤ n ∧ n ≤ 66 ∨ 70 ≤ n ∧ n ≤ 74) ∧ Sx1.2 3 0 = nI n := by
  rcases a with ⟨_, b⟩ | ⟨xc, _, c2, _, ⟨ft, fs, ⟨p0, _⟩, _⟩, _⟩
  · exact ⟨0, Or.inl rfl, (b 0).trans h0⟩
  · exact ⟨xc, c2.2, p0⟩
def clE (pr : Bool) (a : Int32) (Sx Sm : rz_S) (x : Int32) (Sx1 : rz_S) (y : Int32) (Sm1 : rz_S) : Prop := x = y ∧ (((a < 0 ∨ 15 < a) ∧ Sx1 = Sx ∧ Sm1 = Sm) ∨ (∃ B' id', Dk B' pr id' Sx1 Sm1) ∧ stE Sx1 Sm1 ∧ (∃ n : Nat, (n = 0 ∨ n = 1 ∨ 20 ≤ n ∧ n ≤ 26 ∨ n = 28 ∨ 30 ≤ n ∧ n ≤ 34 ∨ 60 ≤ n ∧ n ≤ 66 ∨ 70 ≤ n ∧ n ≤ 74) ∧ Sx1.2 3 0 = nI n) ∧ ∃ Sm', enM Sm' Sm1 ∧
  ((∃ c, c < 15 ∧ a = nI c ∧ clX c (st_begin Sx) Sx1 ∧ clM c (md_begins Sm) Sm' ∧ Sx1.2 (48 + 4 * c) 0 = 0 ∧ Sm1.1 126 c = 0) ∨ (a = 15 ∧ caX (st_begin Sx) Sx1 ∧ caM (md_begins Sm) Sm' ∧ (∀ d, d < 15 → Sx1.2 (48 + 4 * d) 0 = 0) ∧ ∀ d, d < 15 → Sm1.1 126 d = 0)))
theorem en_dk {B : Nat → Nat → Bool} {pr : Bool} {id : Option (Nat × Nat)} {Sx Sm Sm1 : rz_S} (h : Dk B pr id Sx Sm) (he : enM Sm Sm1) : Dk B pr id Sx Sm1 := Dk_m h (fun q _ _ => by rw [he.1]) (fun z hz => he.2 116 z (by omega))
theorem PR_close {B : Nat → Nat → Bool} {pr : Bool} {id : Option (Nat × Nat)} {Sx Sm : rz_S} (hD : Dk B pr id Sx Sm) (hA : ChA 0 Sx Sm) (a : Int32) : PCi mX_close mM_close [.ref 0, .int a] [.ref 116, .int a] Sx Sm (clE pr a Sx Sm) := by
  have D1 := bg_dk hD
  have A1 := bg_ChA hA
  have z0 : (st_begin Sx).2 3 0 = 0 ∧ (st_begin Sx).2 3 1 = 0 ∧ (st_begin Sx).2 3 2 = 0 ∧ (st_begin Sx).2 3 5 = 0 ∧ (st_begin Sx).2 3 6 = 0 := ⟨rfl, rfl, rfl, rfl, rfl⟩
  have zm : ∀ Sm' : rz_S, (∀ z, 56 ≤ z → z ≤ 59 → Sm'.2 116 z = (md_begins Sm).2 116 z) → Sm'.2 116 56 = 0 ∧ Sm'.2 116 57 = 0 ∧ Sm'.2 116 58 = 0 ∧ Sm'.2 116 59 = 0 := fun Sm' h => ⟨(h 56 (by omega) (by omega)).trans rfl, (h 57 (by omega) (by omega)).trans rfl, (h 58 (by omega) (by omega)).trans rfl, (h 59 (by omega) (by omega)).trans rfl⟩
  have his : rz_ev mX_isChannel [.int a] Sx (rz_i (fun x S1 => x = (if a < 0 then 0 else if 15 < a then 0 else 1) ∧ S1 = Sx)) := by
    show rz _ 0 [(0, .int a)] [] _ _
    exact p_X_isChannel_0 ⟨fun c => ⟨by rw [if_pos c], rfl⟩, fun c => ⟨fun d => ⟨by rw [if_neg c, if_pos d], rfl⟩, fun d => ⟨by rw [if_neg c, if_neg d], rfl⟩⟩⟩
  refine PCi_of (fun K hK => ?_)
  show rz _ 0 [(0, .ref 0), (1, .int a)] [] _ _
  refine p_X_close_0 (rz_toI his ?_)
  rcases pk_ix a (n := 16) (by decide) with h | h | ⟨c, hc, rfl⟩
  · rw [if_pos h]
    refine ⟨fun _ => hK _ _ ?_, fun z => absurd rfl z⟩
    show rz _ 0 [(0, .ref 116), (1, .int a)] [] _ _
    exact p_M_close_0 ⟨fun _ => ⟨rfl, Or.inl ⟨Or.inl h, rfl, rfl⟩⟩, fun z => absurd h z⟩
  · have h15 : (15 : Int32) < a := Int32.lt_iff_toInt_lt.mpr (by have := Int32.le_iff_toInt_le.mp h; rw [nI_toInt (by decide)] at this; simp at this ⊢; omega)
    have hn : ¬ a < 0 := fun z => by
      have q1 := Int32.lt_iff_toInt_lt.mp z
      have q2 := Int32.lt_iff_toInt_lt.mp h15
      simp at q1 q2
      omega
    rw [if_neg hn, if_pos h15]
    refine ⟨fun _ => hK _ _ ?_, fun z => absurd rfl z⟩
    show rz _ 0 [(0, .ref 116), (1, .int a)] [] _ _
    exact p_M_close_0 ⟨fun z => absurd z hn, fun _ => ⟨fun z => absurd h15 (by have := Int32.not_lt.mpr z; exact this), fun _ => ⟨rfl, Or.inl ⟨Or.inr h15, rfl, rfl⟩⟩⟩⟩
  · have hn : ¬ nI c < 0 := nI_pos (by omega)
    have hle : nI c ≤ 15 := nI_le (b := 15) (by omega) (by omega)
    rw [if_neg hn, if_neg (show ¬ (15 : Int32) < nI c from nI_nlt (a := 15) (b := c) (by omega) (by omega))]
    refine ⟨fun z => absurd z (by decide), fun _ => rz_toV c_Status_begin ⟨fun z => ?_, fun z => ?_⟩⟩
    · have e15 : c = 15 := (nI_eq (b := 15) (by omega) (by omega)).mp z
      subst e15
      show rz _ 0 [(0, .ref 39)] [] _ _
      refine p_Dos_closeAll_0 (ca_loop (pr := pr) 15 0 (st_begin Sx) (md_begins Sm) rfl (caX_r _) (caM_r _) ⟨B, id, D1⟩ (fun _ => rfl) A1 (fun d hd => by omega) _ (fun x Sx1 Sm1 hE hR => hK _ _ ?_))
      obtain ⟨ex, em, ⟨B', id', ed⟩, ea, m1, m2⟩ := hE
      show rz _ 0 [(0, .ref 116), (1, .int (nI 15))] [] _ _
      refine p_M_close_0 ⟨fun z => absurd z hn, fun _ => ⟨fun _ => rz_toV c_M_begins ⟨fun _ => hR _ (p_M_close_36 ⟨fun _ => rz_useI (s_ends z0 (zm Sm1 (fun z h1 h2 => em.2 116 z (by omega))) ea) (fun y Sm2 hy => ?_), fun z => absurd (by decide) z⟩), fun z => absurd (by decide) z⟩, fun z => absurd hle z⟩⟩
      obtain ⟨y1, y2, y3⟩ := hy
      exact ⟨y1, Or.inr ⟨⟨B', id', en_dk ed y3⟩, y2, an_num z0.1 ea, Sm1, y3, Or.inr ⟨rfl, ex, em, m1, fun d hd => by rw [y3.1]; exact m2 d hd⟩⟩⟩
    · have c15 : c < 15 := by
        have : ¬ c = 15 := fun q => z (by rw [q]; rfl)
        omega
      obtain ⟨x, Vx, y, Vm, e1, e2, rfl, gx, gm, ⟨B', id', ed⟩, ga, m1, m2⟩ := PR_shut (c := c) c15 D1 (A1 c (by omega) c15).1 (A1 c (by omega) c15).2
      refine rzx_I e1 (hK _ _ ?_)
      show rz _ 0 [(0, .ref 116), (1, .int (nI c))] [] _ _
      refine p_M_close_0 ⟨fun z => absurd z hn, fun _ => ⟨fun _ => rz_toV c_M_begins ⟨fun q => ?_, fun _ => rzx_I e2 (rz_useI (s_ends z0 (zm Vm (fun z h1 h2 => gm.2.2.2 116 z (by omega))) ga) (fun y Sm2 hy => ?_))⟩, fun z => absurd hle z⟩⟩
      · have := (nI_leI (a := 15) (by omega) (by omega)).mp q
        omega
      · obtain ⟨y1, y2, y3⟩ := hy
        exact ⟨y1, Or.inr ⟨⟨B', id', en_dk ed y3⟩, y2, an_num z0.1 ga, Vm, y3, Or.inl ⟨c, c15, rfl, gx, gm, m1, by rw [y3.1]; exact m2⟩⟩⟩
