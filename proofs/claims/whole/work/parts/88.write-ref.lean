/-! WRITE: the reference -/
def wM (t : Nat) (S S1 : rz_S) : Prop := (∀ q, ¬ (118 ≤ q ∧ q ≤ 121) → q ≠ 117 → S1.1 q = S.1 q) ∧ (∀ i, (i < 1000 * (t - 1) ∨ 1000 * (t - 1) + 1000 ≤ i) → S1.1 117 i = S.1 117 i) ∧ ∀ u z, ¬ (u = 116 ∧ (2 ≤ z ∧ z ≤ 15 ∨ z = 20)) → S1.2 u z = S.2 u z
theorem wM_t {t : Nat} {S S1 S2 : rz_S} (h1 : wM t S S1) (h2 : wM t S1 S2) : wM t S S2 := ⟨fun q h h' => (h2.1 q h h').trans (h1.1 q h h'), fun i h => (h2.2.1 i h).trans (h1.2.1 i h), fun u z h => (h2.2.2 u z h).trans (h1.2.2 u z h)⟩
theorem wM_k {t : Nat} {S S1 : rz_S} (h : kF S S1) : wM t S S1 := ⟨fun q h1 _ => h.1 q h1, fun i _ => by rw [h.1 117 (by omega)], h.2⟩
theorem wM_h {t : Nat} {S S1 : rz_S} (h : hF t S S1) : wM t S S1 := ⟨fun q _ h1 => h.1 q h1, h.2.1, fun u z h1 => h.2.2 u z fun e => h1 ⟨e.1, Or.inr e.2⟩⟩
theorem MRs_set {S S1 : rz_S} {B : Nat → Nat → Bool} {t : Nat} {b : Nat → Bool} (h1 : 1 ≤ t) (h2 : t ≤ 12) (hX : MRs S B) (hf : wM t S S1) (hb : rgb b (8 * tN t)) (hR : RfH S1 t b) : MRs S1 (setT B t b) := by
  intro u u1 u2
  by_cases e : u = t
  · subst e
    rw [show setT B u b u = b from if_pos rfl]
    exact ⟨hb, hR⟩
  · rw [show setT B t b u = B u from if_neg e]
    obtain ⟨a1, a2⟩ := hX u u1 u2
    have hN := tN_b u2
    refine ⟨a1, fun j hj => ?_⟩
    rw [hf.2.1 _ (by omega)]
    exact a2 j hj
theorem MRs_k {S S1 : rz_S} {B : Nat → Nat → Bool} (hX : MRs S B) (hf : kF S S1) : MRs S1 B := fun u u1 u2 => ⟨(hX u u1 u2).1, kF_H (hX u u1 u2).2 hf⟩
def wrM (B : Nat → Nat → Bool) (pr : Bool) (id : Option (Nat × Nat)) (t s : Nat) (rr : Nat → Nat) (S : rz_S) (r : Int32) (S1 : rz_S) : Prop := ∃ x ft fs id' B', JW B pr id t s rr x ft fs id' B' ∧ r = nI x ∧ x < 100 ∧ IDm S1 id' ∧ MRs S1 B' ∧ wM t S S1 ∧ (x ≠ 0 → S1.2 116 4 = nI ft ∧ S1.2 116 5 = nI fs)
theorem hF_id {t : Nat} {S S1 : rz_S} {id : Option (Nat × Nat)} (h : IDm S id) (hf : hF t S S1) : IDm S1 id := by
  cases id with
  | none => exact ⟨(hf.2.2 116 2 (by omega)).trans h.1, (hf.2.2 116 3 (by omega)).trans h.2⟩
  | some q =>
    obtain ⟨i, j⟩ := q
    exact ⟨(hf.2.2 116 2 (by omega)).trans h.1, (hf.2.2 116 3 (by omega)).trans h.2.1, h.2.2⟩
theorem c_M_writeBlock {S : rz_S} {B : Nat → Nat → Bool} {pr : Bool} {id : Option (Nat × Nat)} {t s a at0 na : Nat} {rr : Nat → Nat} (hX : MRs S B) (hid : IDm S id) (hpr : S.2 116 1 = nI pr.toNat) (h1 : 1 ≤ t) (h2 : t ≤ 12) (hs : s < 256) (ha : rz_T[a]? = some (.inl (0, na))) (ha1 : ¬ (117 ≤ a ∧ a ≤ 121)) (hat : at0 + 64 ≤ na) (hna : na ≤ 1000) (hr : ∀ k, k < 64 → S.1 a (at0 + k) = nI (rr k) ∧ rr k < 256) : rz_ev mM_writeBlock [.ref 116, .int (nI t), .int (nI s), .ref a, .int (nI at0)] S (rz_i (wrM B pr id t s rr S)) := by
  have hN := tN_b h2
  have go : pr = false → ∀ (T : rz_S) (i j : Nat), TIx B id (some (i, j)) → kF S T → IDm T (some (i, j)) → rz mM_writeBlock 38 [(0, .ref 116), (1, .int (nI t)), (2, .int (nI s)), (3, .ref a), (4, .int (nI at0))] [] T (rz_i (wrM B pr id t s rr S)) := by
    intro hp0 T i j hti hT hidT
    obtain ⟨hb, hR⟩ := hX t h1 h2
    have hRT := kF_H hR hT
    -- a fault
    have bad : ∀ (U : rz_S) (x : Nat) (b' : Nat → Bool), wM t S U → IDm U (some (i, j)) → rgb b' (8 * tN t) → RfH U t b' → x ≠ 0 → x < 100 → WRk (B t) (gb (hpl t s i j)) (gb (dpl rr)) (8 * tN t) x b' → rz_ev mM_fault [.ref 116, .int (nI x), .int (nI t), .int (nI s)] U (rz_i (wrM B pr id t s rr S)) := by
      intro U x b' hU hidU hb' hRU x0 x100 hw
      refine rz_toI (c_fault _ _ _) ?_
      have kk : kF U (rz_uI (rz_uI U 116 4 (nI t)) 116 5 (nI s)) := kF_t (kF_u (by omega)) (kF_u (by omega))
      exact ⟨x, t, s, some (i, j), setT B t b', Or.inr ⟨hp0, hti, Or.inr ⟨i, j, b', rfl, rfl, rfl, hw, rfl⟩⟩, rfl, x100, kF_id2 (kF_id2 hidU (by omega)) (by omega), MRs_set h1 h2 hX (wM_t hU (wM_k kk)) hb' (kF_H hRU kk), wM_t hU (wM_k kk), fun _ => ⟨(rz_uI_n (by omega)).trans rz_uI_s, rz_uI_s⟩⟩
    refine p_M_writeBlock_38 ha (rz_useI (c_M_seek h1 h2 hb hRT hs hidT.2.2.1 hidT.2.2.2 hidT.1 hidT.2.1) (fun x U r => ?_))
    obtain ⟨fU, r⟩ := r
    have wU : wM t S U := wM_k (kF_t hT (kF_m fU))
    rcases r with ⟨q1, rfl⟩ | ⟨q1, q2, rfl⟩ | ⟨p, q1, q2, q3, q4, rfl, q5⟩
    · exact ⟨fun z => absurd z (by decide), fun _ => bad U 21 (B t) wU (mF_id hidT fU) hb (mF_H hRT fU) (by omega) (by omega) (Or.inl ⟨q1, rfl, rfl⟩)⟩
    · exact ⟨fun z => absurd z (by decide), fun _ => bad U 20 (B t) wU (mF_id hidT fU) hb (mF_H hRT fU) (by omega) (by omega) (Or.inr (Or.inl ⟨q1, q2, rfl, rfl⟩))⟩
    · refine ⟨fun _ => ?_, fun z => absurd rfl z⟩
      have hlt : sq (B t) (8 * tN t) (p + 80) 9 % (8 * tN t) < 8 * tN t := Nat.mod_lt _ (by omega)
      have hb' : rgb (pw (B t) (8 * tN t) (sq (B t) (8 * tN t) (p + 80) 9 % (8 * tN t)) 720 (Gw (gb (dpl rr)))) (8 * tN t) := pw_r _ _ _ _ _
      have mkW : ∀ x, VF (pw (B t) (8 * tN t) (sq (B t) (8 * tN t) (p + 80) 9 % (8 * tN t)) 720 (Gw (gb (dpl rr)))) (gb (hpl t s i j)) (gb (dpl rr)) (8 * tN t) x → WRk (B t) (gb (hpl t s i j)) (gb (dpl rr)) (8 * tN t) x (pw (B t) (8 * tN t) (sq (B t) (8 * tN t) (p + 80) 9 % (8 * tN t)) 720 (Gw (gb (dpl rr)))) := fun x hv => Or.inr (Or.inr ⟨p, q1, q2, q3, q4, rfl, hv⟩)
      -- the comparing
      have l182 : ∀ (b' : Nat → Bool) (p2 n2 : Nat) (Q : rz_S), (∀ j, j < 85 → Q.1 121 j = by8 b' (sq b' (8 * tN t) (sq b' (8 * tN t) (p2 + 80) (n2 + 1)) j - 8)) → (∀ j, j < 85 → Q.1 120 j = by8 (gb (dpl rr)) (8 * j)) → (CMk b' (gb (dpl rr)) (8 * tN t) p2 n2 → wrM B pr id t s rr S 0 Q) → (¬ CMk b' (gb (dpl rr)) (8 * tN t) p2 n2 → rz_ev mM_fault [.ref 116, .int (nI 25), .int (nI t), .int (nI s)] Q (rz_i (wrM B pr id t s rr S))) → ∀ (w k : Nat) (x : Int32), 85 < w + k → k ≤ 85 → (x = 0 ∨ x = 1) → (x = 1 → ∀ j, j < k → Q.1 121 j = Q.1 120 j) → (x = 0 → ¬ CMk b' (gb (dpl rr)) (8 * tN t) p2 n2) → rz mM_writeBlock 182 [(0, .ref 116), (1, .int (nI t)), (2, .int (nI s)), (6, .int x), (7, .int (nI k))] [] Q (rz_i (wrM B pr id t s rr S)) := by
        intro b' p2 n2 Q e121 e120 yes no w
        induction w with
        | zero => intro k x c1 c2; omega
        | succ w ih =>
          intro k x c1 c2 hx hx1 hx0
          refine p_M_writeBlock_182 ⟨fun c => ⟨fun z => no (hx0 z), fun z => yes (fun j hj => ?_)⟩, fun c => ?_⟩
          · have : 85 ≤ k := (nI_leI (a := 85) (by omega) (by omega)).mp c
            have := hx1 (hx.resolve_left z) j (by omega)
            rw [e121 j hj, e120 j hj] at this
            exact this
          · have hk : ¬ 85 ≤ k := fun z => c (nI_le (a := 85) z (by omega))
            rw [nI_clamp (by omega), nI_1]
            refine ⟨fun z => ih (k + 1) 0 (by omega) (by omega) (Or.inl rfl) (fun q => absurd q (by decide)) (fun _ => hx0 z), fun z => ⟨rin (by omega) (by omega), fun z2 => ?_, fun z2 => ?_⟩⟩
            · refine ih (k + 1) 1 (by omega) (by omega) (Or.inr rfl) (fun _ j hj => ?_) (fun q => absurd q (by decide))
              by_cases e : j = k
              · subst e; exact z2
              · exact hx1 (hx.resolve_left z) j (by omega)
            · refine ih (k + 1) 0 (by omega) (by omega) (Or.inl rfl) (fun q => absurd q (by decide)) (fun _ cm => z2 ?_)
              rw [e121 k (by omega), e120 k (by omega)]
              exact cm k (by omega)
      -- the DATA are laid, then looked at
      have l122 : ∀ (w k : Nat) (Y : rz_S), 85 < w + k → k ≤ 85 → LM (B t) t (sq (B t) (8 * tN t) (p + 80) 9 % (8 * tN t)) (40 + 8 * k) (Gw (gb (dpl rr))) Y → wM t S Y → IDm Y (some (i, j)) → (∀ j, j < 85 → Y.1 120 j = by8 (gb (dpl rr)) (8 * j)) → rz mM_writeBlock 122 [(0, .ref 116), (1, .int (nI t)), (2, .int (nI s)), (3, .ref a), (4, .int (nI at0)), (6, .int (nI k))] [] Y (rz_i (wrM B pr id t s rr S)) := by
        intro w
        induction w with
        | zero => intro k Y c1 c2; omega
        | succ w ih =>
          intro k Y c1 c2 hL wY idY y120
          refine p_M_writeBlock_122 ha ⟨fun c => ?_, fun c => ⟨rin ?_ (by omega), ?_⟩⟩
          · have : 85 ≤ k := (nI_leI (a := 85) (by omega) (by omega)).mp c
            have e : k = 85 := by omega
            subst e
            have hRY := hL.1
            rw [show 40 + 8 * 85 = 720 from rfl] at hRY
            clear ih hL
            generalize pw (B t) (8 * tN t) (sq (B t) (8 * tN t) (p + 80) 9 % (8 * tN t)) 720 (Gw (gb (dpl rr))) = b' at hRY hb' mkW
            refine rz_useI (c_M_seek h1 h2 hb' hRY hs idY.2.2.1 idY.2.2.2 idY.1 idY.2.1) (fun x2 Z rZ => ?_)
            obtain ⟨fZ, rZ⟩ := rZ
            have wZ : wM t S Z := wM_t wY (wM_k (kF_m fZ))
            have bad25 : ∀ U2, wM t S U2 → IDm U2 (some (i, j)) → RfH U2 t b' → VF b' (gb (hpl t s i j)) (gb (dpl rr)) (8 * tN t) 25 → rz_ev mM_fault [.ref 116, .int (nI 25), .int (nI t), .int (nI s)] U2 (rz_i (wrM B pr id t s rr S)) := fun U2 w2 i2 r2 hv => bad U2 25 b' w2 i2 hb' r2 (by omega) (by omega) (mkW 25 hv)
            rcases rZ with ⟨w1, rfl⟩ | ⟨w1, w2, rfl⟩ | ⟨p2, w1, w2, w3, w4, rfl, w5⟩
            · exact ⟨fun z => absurd z (by decide), fun _ => bad25 Z wZ (mF_id idY fZ) (mF_H hRY fZ) (Or.inl ⟨fun p hp hF => absurd hF (w1 p hp), rfl⟩)⟩
            · exact ⟨fun z => absurd z (by decide), fun _ => bad25 Z wZ (mF_id idY fZ) (mF_H hRY fZ) (Or.inl ⟨w2, rfl⟩)⟩
            · refine ⟨fun _ => ?_, fun z => absurd rfl z⟩
              obtain ⟨n2, hn2, hga⟩ := ga_ex hb' (by omega) w1 w2 (p2 + 80)
              refine rz_useV (c_M_gets h1 h2 hb' (mF_H hRY fZ) w5 w1 w2.1 hga) (fun Q rQ => ?_)
              obtain ⟨fQ, _, hQ⟩ := rQ
              have wQ : wM t S Q := wM_t wZ (wM_k (kF_m fQ))
              refine rz_useV (c_M_data (r := rr) ha (by omega) hat hna (fun k hk => by rw [wQ.1 a (by omega) (by omega)]; exact hr k hk)) (fun Q2 rQ2 => ?_)
              obtain ⟨f, g, rfl, hg⟩ := rQ2
              have fQ2 : mF Q (rz_fA (rz_fA Q 119 f) 120 g) := mF_t (mF_a (by omega)) (mF_a (by omega))
              have wQ2 := wM_t wQ (wM_k (t := t) (kF_m fQ2))
              have idQ2 := mF_id (mF_id (mF_id idY fZ) fQ) fQ2
              have rQ2 := mF_H (mF_H (mF_H hRY fZ) fQ) fQ2
              refine l182 b' p2 n2 _ (fun j hj => by rw [rz_fA_n (by omega), rz_fA_n (by omega)]; exact hQ j hj) (fun j hj => by rw [rz_fA_s]; exact hg j hj) (fun cm => ?_) (fun cm => bad25 _ wQ2 idQ2 rQ2 (Or.inr ⟨p2, n2, w1, w2, w3, w4, hga, Or.inr ⟨cm, rfl⟩⟩)) 86 0 1 (by omega) (by omega) (Or.inr rfl) (fun _ j hj => by omega) (fun q => absurd q (by decide))
              exact ⟨0, t, s, some (i, j), setT B t b', Or.inr ⟨hp0, hti, Or.inr ⟨i, j, b', rfl, rfl, rfl, mkW 0 (Or.inr ⟨p2, n2, w1, w2, w3, w4, hga, Or.inl ⟨cm, rfl⟩⟩), rfl⟩⟩, rfl, by omega, idQ2, MRs_set h1 h2 hX wQ2 hb' rQ2, wQ2, fun z => absurd rfl z⟩
          · have : ¬ 85 ≤ k := fun z => c (nI_le (a := 85) z (by omega))
            omega
          · have hk : ¬ 85 ≤ k := fun z => c (nI_le (a := 85) z (by omega))
            rw [nI_clamp (by omega), y120 k (by omega), nI_1]
            refine rz_useV (c_M_lays (v := vl (gb (dpl rr)) (8 * k) 8) h1 h2 hlt (by omega) (fun o ho => ?_) hL) (fun Y2 rY2 => ?_)
            · rw [by8_v _ _ o ho]
              show _ = (if 40 + 8 * k + o < 40 then _ else _)
              rw [if_neg (by omega), show 40 + 8 * k + o - 40 = 8 * k + o by omega]
            · obtain ⟨l2, f2⟩ := rY2
              exact ih (k + 1) Y2 (by omega) (by omega) l2 (wM_t wY (wM_h f2)) (hF_id idY f2) (fun j hj => by rw [f2.1 120 (by omega)]; exact y120 j hj)
      have l92 : ∀ (w k : Nat) (Y : rz_S), 5 < w + k → k ≤ 5 → LM (B t) t (sq (B t) (8 * tN t) (p + 80) 9 % (8 * tN t)) (8 * k) (Gw (gb (dpl rr))) Y → wM t S Y → IDm Y (some (i, j)) → rz mM_writeBlock 92 [(0, .ref 116), (1, .int (nI t)), (2, .int (nI s)), (3, .ref a), (4, .int (nI at0)), (6, .int (nI k))] [] Y (rz_i (wrM B pr id t s rr S)) := by
        intro w
        induction w with
        | zero => intro k Y c1 c2; omega
        | succ w ih =>
          intro k Y c1 c2 hL wY idY
          refine p_M_writeBlock_92 ha ⟨fun c => ?_, fun c => ?_⟩
          · have : 5 ≤ k := (nI_leI (a := 5) (by omega) (by omega)).mp c
            have e : k = 5 := by omega
            subst e
            refine rz_useV (c_M_data (r := rr) ha (by omega) hat hna (fun k hk => by rw [wY.1 a (by omega) (by omega)]; exact hr k hk)) (fun Q2 rQ2 => ?_)
            obtain ⟨f, g, rfl, hg⟩ := rQ2
            have fQ2 : mF Y (rz_fA (rz_fA Y 119 f) 120 g) := mF_t (mF_a (by omega)) (mF_a (by omega))
            exact l122 86 0 _ (by omega) (by omega) ⟨mF_H hL.1 fQ2, hL.2⟩ (wM_t wY (wM_k (kF_m fQ2))) (mF_id idY fQ2) (fun j hj => by rw [rz_fA_s]; exact hg j hj)
          · have hk : ¬ 5 ≤ k := fun z => c (nI_le (a := 5) z (by omega))
            rw [nI_1]
            refine rz_useV (c_M_lays (v := 255) h1 h2 hlt (by omega) (fun o ho => ?_) hL) (fun Y2 rY2 => ?_)
            · rw [t255 o ho]
              show _ = (if 8 * k + o < 40 then _ else _)
              rw [if_pos (by omega)]
            · obtain ⟨l2, f2⟩ := rY2
              exact ih (k + 1) Y2 (by omega) (by omega) l2 (wM_t wY (wM_h f2)) (hF_id idY f2)
      have l63 : ∀ (w k : Nat) (Y : rz_S), 9 < w + k → k ≤ 9 → mF U Y → Jb (B t) Y t (sq (B t) (8 * tN t) (p + 80) k) 0 false → rz mM_writeBlock 63 [(0, .ref 116), (1, .int (nI t)), (2, .int (nI s)), (3, .ref a), (4, .int (nI at0)), (6, .int (nI k))] [] Y (rz_i (wrM B pr id t s rr S)) := by
        intro w
        induction w with
        | zero => intro k Y c1 c2; omega
        | succ w ih =>
          intro k Y c1 c2 fY hJ
          refine p_M_writeBlock_63 ha ⟨fun c => ?_, fun c => ?_⟩
          · have : 9 ≤ k := (nI_leI (a := 9) (by omega) (by omega)).mp c
            have e : k = 9 := by omega
            subst e
            have kY : kF U (rz_uI Y 116 20 (Y.2 116 8)) := kF_t (kF_m fY) (kF_u (by omega))
            refine l92 6 0 _ (by omega) (by omega) ⟨?_, ?_⟩ (wM_t wU (wM_k kY)) (kF_id2 (mF_id (mF_id hidT fU) fY) (by omega))
            · rw [show 8 * 0 = 0 from rfl, pw_0 hb hlt]
              exact kF_H (mF_H hRT fU) kY
            · rw [rz_uI_s, hJ.2.2.1]
              congr 1
              show _ = (if _ + 8 * 0 < _ then _ else _)
              rw [if_pos (by omega)]
              rfl
          · have hk : ¬ 9 ≤ k := fun z => c (nI_le (a := 9) z (by omega))
            refine rz_useI (c_comes h1 h2 hb (mF_H (mF_H hRT fU) fY) hJ q1 q2.1) (fun x Y1 r => ?_)
            rw [nI_1]
            exact ih (k + 1) Y1 (by omega) (by omega) (mF_t fY (mF_j r.2.1)) r.2.2.1
      exact l63 10 0 U (by omega) (by omega) (mF_r U) q5
  show rz _ 0 [(0, .ref 116), (1, .int (nI t)), (2, .int (nI s)), (3, .ref a), (4, .int (nI at0))] [] _ _
  refine p_M_writeBlock_0 ha ?_
  rw [hpr]
  refine ⟨fun z => ?_, fun z => ?_⟩
  · have hp0 := (nI_b0 _).mp z
    cases id with
    | some q =>
      obtain ⟨i, j⟩ := q
      rw [hid.1]
      exact ⟨fun z => absurd z (nI_m1 (by have := hid.2.2.1; omega)), fun _ => go hp0 S i j (Or.inl ⟨fun z => (by cases z), rfl⟩) (kF_r S) hid⟩
    | none =>
      refine ⟨fun _ => ?_, fun z => absurd hid.1 z⟩
      obtain ⟨hb7, hR7⟩ := hX 7 (by omega) (by omega)
      refine rz_useI (c_M_takeId hb7 hR7) (fun x T r => ?_)
      obtain ⟨fT, id1, ti, idT, ⟨n0, rfl⟩ | ⟨n0, rfl, k4, k5⟩⟩ := r
      · refine ⟨fun _ => ?_, fun z => absurd rfl z⟩
        cases id1 with
        | none => exact absurd rfl n0
        | some q =>
          obtain ⟨i, j⟩ := q
          exact go hp0 T i j (Or.inr ⟨rfl, ti⟩) fT idT
      · subst n0
        refine ⟨fun z => absurd z (by decide), fun _ => ?_⟩
        exact ⟨74, 7, 0, none, B, Or.inr ⟨hp0, Or.inr ⟨rfl, ti⟩, Or.inl ⟨rfl, rfl, rfl, rfl, rfl⟩⟩, rfl, by omega, idT, MRs_k hX fT, wM_k fT, fun _ => ⟨k4, k5⟩⟩
  · have hp1 : pr = true := Bool.of_not_eq_false fun q => z ((nI_b0 _).mpr q)
    refine rz_toI (c_fault _ _ _) ?_
    have kk : kF S (rz_uI (rz_uI S 116 4 (nI t)) 116 5 (nI s)) := kF_t (kF_u (by omega)) (kF_u (by omega))
    exact ⟨26, t, s, id, B, Or.inl ⟨hp1, rfl, rfl, rfl, rfl, rfl⟩, rfl, by omega, kF_id2 (kF_id2 hid (by omega)) (by omega), MRs_k hX kk, wM_k kk, fun _ => ⟨(rz_uI_n (by omega)).trans rz_uI_s, rz_uI_s⟩⟩
