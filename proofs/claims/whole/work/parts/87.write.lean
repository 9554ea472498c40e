/-! WRITE: what comes of it; the class -/
def Gw (db : Nat → Bool) (o : Nat) : Bool := if o < 40 then true else db (o - 40)
/-- the bytes that come behind a header are those that were written -/
def CMk (b db : Nat → Bool) (N p n : Nat) : Prop := ∀ j, j < 85 → by8 b (sq b N (sq b N (p + 80) (n + 1)) j - 8) = by8 db (8 * j)
def VF (b h db : Nat → Bool) (N x : Nat) : Prop :=
  ((∀ p, p < N → isF b N p → ¬ mt b h p) ∧ x = 25) ∨ (∃ p n, p < N ∧ isF b N p ∧ mt b h p ∧ (∀ p', p' < p → isF b N p' → ¬ mt b h p') ∧ ga b N (p + 80) n ∧ ((CMk b db N p n ∧ x = 0) ∨ (¬ CMk b db N p n ∧ x = 25)))
theorem VF_u {b h db : Nat → Bool} {N x x' : Nat} (r : VF b h db N x) (r' : VF b h db N x') : x = x' := by
  rcases r with ⟨a1, a2⟩ | ⟨p, n, a1, a2, a3, a4, a5, a6⟩ <;> rcases r' with ⟨c1, c2⟩ | ⟨q, m, c1, c2, c3, c4, c5, c6⟩
  · omega
  · exact absurd c3 (a1 q c1 c2)
  · exact absurd a3 (c1 p a1 a2)
  · have e : p = q := by
      rcases Nat.lt_trichotomy p q with z | z | z
      · exact absurd a3 (c4 p z a2)
      · exact z
      · exact absurd c3 (a4 q z c2)
    subst e
    have e2 := ga_u a5 c5
    subst e2
    rcases a6 with ⟨a6, a7⟩ | ⟨a6, a7⟩ <;> rcases c6 with ⟨c6, c7⟩ | ⟨c6, c7⟩
    · omega
    · exact absurd a6 c6
    · exact absurd c6 a6
    · omega
def WRk (b h db : Nat → Bool) (N x : Nat) (b' : Nat → Bool) : Prop :=
  ((∀ p, p < N → ¬ isF b N p) ∧ x = 21 ∧ b' = b) ∨ ((∃ p, p < N ∧ isF b N p) ∧ (∀ p, p < N → isF b N p → ¬ mt b h p) ∧ x = 20 ∧ b' = b) ∨
  (∃ p, p < N ∧ isF b N p ∧ mt b h p ∧ (∀ p', p' < p → isF b N p' → ¬ mt b h p') ∧ b' = pw b N (sq b N (p + 80) 9 % N) 720 (Gw db) ∧ VF b' h db N x)
theorem WRk_u {b h db c c' : Nat → Bool} {N x x' : Nat} (r : WRk b h db N x c) (r' : WRk b h db N x' c') : x = x' ∧ c = c' := by
  rcases r with ⟨a1, a2, a3⟩ | ⟨⟨p, a0, a0'⟩, a1, a2, a3⟩ | ⟨p, a1, a2, a3, a4, a5, a6⟩ <;> rcases r' with ⟨c1, c2, c3⟩ | ⟨⟨q, c0, c0'⟩, c1, c2, c3⟩ | ⟨q, c1, c2, c3, c4, c5, c6⟩
  · exact ⟨by omega, by rw [a3, c3]⟩
  · exact absurd c0' (a1 q c0)
  · exact absurd c2 (a1 q c1)
  · exact absurd a0' (c1 p a0)
  · exact ⟨by omega, by rw [a3, c3]⟩
  · exact absurd c3 (a1 q c1 c2)
  · exact absurd a2 (c1 p a1)
  · exact absurd a3 (c1 p a1 a2)
  · have e : p = q := by
      rcases Nat.lt_trichotomy p q with z | z | z
      · exact absurd a3 (c4 p z a2)
      · exact z
      · exact absurd c3 (a4 q z c2)
    subst e
    rw [← c5] at a5
    subst a5
    exact ⟨VF_u a6 c6, rfl⟩
def setT (B : Nat → Nat → Bool) (t : Nat) (b : Nat → Bool) : Nat → Nat → Bool := fun u => if u = t then b else B u
def JW (B : Nat → Nat → Bool) (pr : Bool) (id : Option (Nat × Nat)) (t s : Nat) (r : Nat → Nat) (x ft fs : Nat) (id' : Option (Nat × Nat)) (B' : Nat → Nat → Bool) : Prop :=
  (pr = true ∧ x = 26 ∧ ft = t ∧ fs = s ∧ id' = id ∧ B' = B) ∨ (pr = false ∧ TIx B id id' ∧ ((id' = none ∧ x = 74 ∧ ft = 7 ∧ fs = 0 ∧ B' = B) ∨ (∃ i j b', id' = some (i, j) ∧ ft = t ∧ fs = s ∧ WRk (B t) (gb (hpl t s i j)) (gb (dpl r)) (8 * tN t) x b' ∧ B' = setT B t b')))
theorem JW_u {B B1 B2 : Nat → Nat → Bool} {pr : Bool} {id : Option (Nat × Nat)} {t s x ft fs x' ft' fs' : Nat} {r : Nat → Nat} {id1 id2 : Option (Nat × Nat)} (h : JW B pr id t s r x ft fs id1 B1) (h' : JW B pr id t s r x' ft' fs' id2 B2) : x = x' ∧ ft = ft' ∧ fs = fs' ∧ id1 = id2 ∧ B1 = B2 := by
  rcases h with ⟨p1, a1, a2, a3, a4, a5⟩ | ⟨p1, hti, h⟩ <;> rcases h' with ⟨p2, c1, c2, c3, c4, c5⟩ | ⟨p2, hti', h'⟩
  · exact ⟨by omega, by omega, by omega, by rw [a4, c4], by rw [a5, c5]⟩
  · rw [p1] at p2; cases p2
  · rw [p1] at p2; cases p2
  · have e := TIx_u hti hti'
    subst e
    rcases h with ⟨a1, a2, a3, a4, a5⟩ | ⟨i, j, b, a1, a2, a3, a4, a5⟩ <;> rcases h' with ⟨c1, c2, c3, c4, c5⟩ | ⟨i', j', b', c1, c2, c3, c4, c5⟩
    · exact ⟨by omega, by omega, by omega, rfl, by rw [a5, c5]⟩
    · rw [a1] at c1; cases c1
    · rw [c1] at a1; cases a1
    · rw [a1] at c1
      cases c1
      have u := WRk_u a4 c4
      exact ⟨u.1, by omega, by omega, rfl, by rw [a5, c5, u.2]⟩
theorem rF_g {k : Nat} {S S1 : rz_S} (hk : rgP k) (h : gF k S S1) : rF (k + 1) S S1 := ⟨fun q _ h1 => h.1 q h1, fun u z h1 _ _ => h.2 u z fun e => h1 (by obtain ⟨a, b, c⟩ := hk; omega)⟩
theorem setT_s {B : Nat → Nat → Bool} {t : Nat} : setT B t (B t) = B := by
  funext u
  show (if u = t then B t else B u) = B u
  by_cases e : u = t
  · rw [if_pos e, e]
  · rw [if_neg e]
theorem XRs_set {S S1 : rz_S} {B : Nat → Nat → Bool} {t : Nat} {b : Nat → Bool} (h1 : 1 ≤ t) (h2 : t ≤ 12) (hX : XRs S B) (hf : rF (12 + 2 * t) S S1) (hb : rgb b (8 * tN t)) (hR : RgH S1 (11 + 2 * t) b) : XRs S1 (setT B t b) := by
  intro u u1 u2
  by_cases e : u = t
  · subst e
    rw [show setT B u b u = b from if_pos rfl]
    exact ⟨hb, hR⟩
  · rw [show setT B t b u = B u from if_neg e]
    obtain ⟨a1, a2⟩ := hX u u1 u2
    refine ⟨a1, (hf.2 _ 1 (by omega) (by omega) (by omega)).trans a2.1, fun j hj => ?_⟩
    rw [hf.1 _ (by omega) (by omega)]
    exact a2.2 j hj
theorem XRs_same {S S1 : rz_S} {B : Nat → Nat → Bool} (hX : XRs S B) (hf : iF S S1) : XRs S1 B := fun u u1 u2 => ⟨(hX u u1 u2).1, iF_H (tP u1 u2) (hX u u1 u2).2 hf⟩
theorem XRs_st {S : rz_S} {B : Nat → Nat → Bool} {n t s : Int32} (hX : XRs S B) : XRs (st_set S n t s) B := fun u u1 u2 => ⟨(hX u u1 u2).1, by
  have hk := tP u1 u2
  obtain ⟨a, c, d⟩ := hk
  refine ⟨(rF_s (a := 0)).2 (11 + 2 * u) 1 (by omega) (by omega) (by omega) |>.trans (hX u u1 u2).2.1, fun j hj => (hX u u1 u2).2.2 j hj⟩⟩
theorem lp_areSame {S : rz_S} : ∀ (w i : Nat), 85 < w + i → i ≤ 85 → (∀ j, j < i → S.1 12 j = S.1 11 j) → rz mDisk_areSame 2 [(0, .ref 12), (1, .ref 11), (2, .int (nI i))] [] S (rz_i (fun x S1 => S1 = S ∧ (((∀ j, j < 85 → S.1 12 j = S.1 11 j) ∧ x = 1) ∨ (¬ (∀ j, j < 85 → S.1 12 j = S.1 11 j) ∧ x = 0)))) := by
  intro w
  induction w with
  | zero => intro i c1 c2; omega
  | succ w ih =>
    intro i c1 c2 hj
    refine p_Disk_areSame_2 (na0 := 85) (na1 := 85) rfl rfl ⟨fun c => ?_, fun c => ⟨fun d => absurd d c, fun d => ?_⟩⟩
    · have : 85 ≤ i := (nI_leI (a := 85) (by omega) (by omega)).mp c
      exact ⟨rfl, Or.inl ⟨fun j h => hj j (by omega), rfl⟩⟩
    · have hi : ¬ 85 ≤ i := fun z => c (nI_le (a := 85) z (by omega))
      rw [nI_clamp (by omega), nI_1]
      refine ⟨rin (by omega) (by omega), rin (by omega) (by omega), fun z => ?_, fun z => ⟨rfl, Or.inr ⟨fun q => z (q i (by omega)), rfl⟩⟩⟩
      refine ih (i + 1) (by omega) (by omega) (fun j h => ?_)
      by_cases e : j = i
      · subst e; exact z
      · exact hj j (by omega)
theorem c_Disk_areSame {S : rz_S} : rz_ev mDisk_areSame [.ref 12, .ref 11] S (rz_i (fun x S1 => S1 = S ∧ (((∀ j, j < 85 → S.1 12 j = S.1 11 j) ∧ x = 1) ∨ (¬ (∀ j, j < 85 → S.1 12 j = S.1 11 j) ∧ x = 0)))) := by
  show rz _ 0 [(0, .ref 12), (1, .ref 11)] [] _ _
  exact p_Disk_areSame_0 (na0 := 85) (na1 := 85) rfl rfl (lp_areSame 86 0 (by omega) (by omega) (fun j hj => by omega))
def wrX (B : Nat → Nat → Bool) (pr : Bool) (id : Option (Nat × Nat)) (t s : Nat) (rr : Nat → Nat) (S : rz_S) (r : Int32) (S1 : rz_S) : Prop := ∃ x ft fs id' B', JW B pr id t s rr x ft fs id' B' ∧ r = nI x ∧ x < 100 ∧ IDx S1 id' ∧ XRs S1 B' ∧ rF (12 + 2 * t) S S1 ∧
  (x = 0 → ∀ z, S1.2 3 z = S.2 3 z) ∧ (x ≠ 0 → stIs S1 x ft fs ∧ S1.2 3 3 = S.2 3 3)
theorem c_Disk_writeBlock {S : rz_S} {B : Nat → Nat → Bool} {pr : Bool} {id : Option (Nat × Nat)} {t s a : Nat} {rr : Nat → Nat} (hX : XRs S B) (hid : IDx S id) (hpr : S.2 6 0 = nI pr.toNat) (h1 : 1 ≤ t) (h2 : t ≤ 12) (hs : s < 256) (ha : rz_T[a]? = some (.inl (0, 64))) (ha1 : ¬ (8 ≤ a ∧ a ≤ 36)) (hr : ∀ k, k < 64 → S.1 a k = nI (rr k) ∧ rr k < 256) : rz_ev mDisk_writeBlock [.ref 6, .int (nI t), .int (nI s), .ref a] S (rz_i (wrX B pr id t s rr S)) := by
  have hk := tP h1 h2
  have eN := tN_k h1
  have hN := tN_b h2
  have e12 : 11 + 2 * t + 1 = 12 + 2 * t := by omega
  have go : pr = false → ∀ (T : rz_S) (i j : Nat), TIx B id (some (i, j)) → iF S T → IDx T (some (i, j)) → rz mDisk_writeBlock 72 [(0, .ref 6), (1, .int (nI t)), (2, .int (nI s)), (3, .ref a), (4, .ref (11 + 2 * t))] [] T (rz_i (wrX B pr id t s rr S)) := by
    intro hp0 T i j hti hT hidT
    obtain ⟨hb, hR⟩ := hX t h1 h2
    have hRT := iF_H hk hR hT
    -- a fault
    have bad : ∀ (U : rz_S) (x : Nat) (b' : Nat → Bool), rF (12 + 2 * t) S U → (∀ z, U.2 3 z = S.2 3 z) → IDx U (some (i, j)) → rgb b' (8 * tN t) → RgH U (11 + 2 * t) b' → x ≠ 0 → x < 100 → WRk (B t) (gb (hpl t s i j)) (gb (dpl rr)) (8 * tN t) x b' → rz_ev mStatus_set [.ref 3, .int (nI x), .int (nI t), .int (nI s)] U (rz_i (wrX B pr id t s rr S)) := by
      intro U x b' hU hst hidU hb' hRU x0 x100 hw
      refine rz_toI (c_Status_set _ _ _) ?_
      exact ⟨x, t, s, some (i, j), setT B t b', Or.inr ⟨hp0, hti, Or.inr ⟨i, j, b', rfl, rfl, rfl, hw, rfl⟩⟩, rfl, x100, st_set_id hidU, XRs_st (XRs_set h1 h2 hX hU hb' hRU), rF_t hU rF_s, fun z => absurd z x0, fun _ => ⟨st_set_is, hst 3⟩⟩
    have ist : ∀ {U : rz_S}, iF S U → ∀ z, U.2 3 z = S.2 3 z := fun h z => h.2 3 z (by omega) (by omega)
    rw [← eN] at hb
    refine p_Disk_writeBlock_72 ha hk (rz_useI (c_Disk_seek hk hb hRT (by omega) hs hidT.2.2.1 hidT.2.2.2 hidT.1 hidT.2.1) (fun x U r => ?_))
    obtain ⟨fU, _, r⟩ := r
    have iU := iF_t hT (iF_c fU)
    have hRU := cF_H hk hRT fU
    rw [eN] at r hb
    rcases r with ⟨q1, rfl⟩ | ⟨q1, q2, rfl⟩ | ⟨p, q1, q2, q3, q4, rfl, q5⟩
    · exact ⟨fun z => absurd z (by decide), fun _ => bad U 21 (B t) (rF_i iU) (ist iU) (cF_id hidT fU) hb hRU (by omega) (by omega) (Or.inl ⟨q1, rfl, rfl⟩)⟩
    · exact ⟨fun z => absurd z (by decide), fun _ => bad U 20 (B t) (rF_i iU) (ist iU) (cF_id hidT fU) hb hRU (by omega) (by omega) (Or.inr (Or.inl ⟨q1, q2, rfl, rfl⟩))⟩
    · refine ⟨fun _ => ?_, fun z => absurd rfl z⟩
      refine rz_useV (c_Disk_codeData (r := rr) ha (by omega) (fun k hk2 => by rw [iU.1 a (by omega)]; exact hr k hk2)) (fun V rV => ?_)
      obtain ⟨f, g, rfl, hg⟩ := rV
      have fV : cF U (rz_fA (rz_fA U 10 f) 11 g) := cF_t (cF_a (by omega)) (cF_a (by omega))
      have v11 : ∀ j, j < 85 → (rz_fA (rz_fA U 10 f) 11 g).1 11 j = by8 (gb (dpl rr)) (8 * j) := fun j hj => by rw [rz_fA_s]; exact hg j hj
      have v2 : (rz_fA (rz_fA U 10 f) 11 g).2 = U.2 := rfl
      generalize rz_fA (rz_fA U 10 f) 11 g = V at fV v11 v2
      have q5V : RgAt (B t) V (11 + 2 * t) (p + 80) := by
        refine ⟨?_, ?_⟩
        · rw [v2]; exact q5.1
        · rw [v2]; exact q5.2
      rw [← eN] at hb q1 q2
      refine rz_useV (c_Ring_skip hk hb (cF_H hk hRU fV) q5V q1 q2.1) (fun W rW => ?_)
      obtain ⟨fW, aW⟩ := rW
      have hRW := RgF_H (cF_H hk hRU fV) fW
      -- the bytes are laid
      have hlt : sq (B t) (8 * rgN (11 + 2 * t)) (p + 80) 9 % (8 * rgN (11 + 2 * t)) < 8 * rgN (11 + 2 * t) := Nat.mod_lt _ (by omega)
      have hLA : LA (B t) (11 + 2 * t) (sq (B t) (8 * rgN (11 + 2 * t)) (p + 80) 9 % (8 * rgN (11 + 2 * t))) 0 (Gw (gb (dpl rr))) W := by
        refine ⟨?_, ?_⟩
        · rw [pw_0 hb hlt]; exact hRW
        · rw [aW.1]
          congr 1
          show _ = (if _ + 0 < _ then _ else _)
          rw [if_pos (by omega)]
          rfl
      refine rz_useV (c_Ring_putMarked (a := 11) (m := 85) (n0 := 0) (hb := gb (dpl rr)) (G := Gw (gb (dpl rr))) hk hlt (by omega) rfl (by omega) (fun j hj => by rw [fW.1]; exact v11 j hj) (fun o ho => by rw [Nat.zero_add]; show (if o < 40 then _ else _) = _; rw [if_pos ho]) (fun o ho => by rw [Nat.zero_add]; show (if 40 + o < 40 then _ else _) = _; rw [if_neg (by omega), show 40 + o - 40 = o by omega]) hLA) (fun Y rY => ?_)
      obtain ⟨⟨hRY, _⟩, gY⟩ := rY
      rw [show 0 + 8 * (5 + 85) = 720 from rfl] at hRY
      have y11 : ∀ j, j < 85 → Y.1 11 j = by8 (gb (dpl rr)) (8 * j) := fun j hj => by rw [gY.1 11 (by omega), fW.1]; exact v11 j hj
      have rY : rF (12 + 2 * t) S Y := by
        rw [← e12]
        exact rF_t (rF_i (iF_t iU (iF_c (cF_t fV (cF_g hk fW))))) (rF_g hk gY)
      have idY : IDx Y (some (i, j)) := by
        have a1 := cF_id (cF_id hidT fU) (cF_t fV (cF_g hk fW))
        exact ⟨(gY.2 6 1 (by omega)).trans a1.1, (gY.2 6 2 (by omega)).trans a1.2.1, a1.2.2⟩
      have stY : ∀ z, Y.2 3 z = S.2 3 z := fun z => (gY.2 3 z (by omega)).trans (ist (iF_t iU (iF_c (cF_t fV (cF_g hk fW)))) z)
      have hb' : rgb (pw (B t) (8 * rgN (11 + 2 * t)) (sq (B t) (8 * rgN (11 + 2 * t)) (p + 80) 9 % (8 * rgN (11 + 2 * t))) 720 (Gw (gb (dpl rr)))) (8 * rgN (11 + 2 * t)) := pw_r _ _ _ _ _
      have mkW : ∀ x, VF (pw (B t) (8 * tN t) (sq (B t) (8 * tN t) (p + 80) 9 % (8 * tN t)) 720 (Gw (gb (dpl rr)))) (gb (hpl t s i j)) (gb (dpl rr)) (8 * tN t) x → WRk (B t) (gb (hpl t s i j)) (gb (dpl rr)) (8 * tN t) x (pw (B t) (8 * tN t) (sq (B t) (8 * tN t) (p + 80) 9 % (8 * tN t)) 720 (Gw (gb (dpl rr)))) := fun x hv => Or.inr (Or.inr ⟨p, by rw [← eN]; exact q1, by rw [← eN]; exact q2, q3, q4, rfl, hv⟩)
      rw [← eN] at mkW
      generalize pw (B t) (8 * rgN (11 + 2 * t)) (sq (B t) (8 * rgN (11 + 2 * t)) (p + 80) 9 % (8 * rgN (11 + 2 * t))) 720 (Gw (gb (dpl rr))) = b' at hRY hb' mkW
      refine rz_useI (c_Disk_seek hk hb' hRY (by omega) hs idY.2.2.1 idY.2.2.2 idY.1 idY.2.1) (fun x2 Z rZ => ?_)
      obtain ⟨fZ, z11, rZ⟩ := rZ
      have bad25 : ∀ (U2 : rz_S), cF Y U2 → VF b' (gb (hpl t s i j)) (gb (dpl rr)) (8 * rgN (11 + 2 * t)) 25 → rz mDisk_writeBlock 165 [(0, .ref 6), (1, .int (nI t)), (2, .int (nI s)), (6, .int 0)] [] U2 (rz_i (wrX B pr id t s rr S)) := by
        intro U2 f2 hv
        refine p_Disk_writeBlock_165 ⟨fun _ => ?_, fun z => absurd rfl z⟩
        have hw := mkW 25 hv
        rw [eN] at hw hb'
        exact bad U2 25 b' (rF_t rY (rF_i (iF_c f2))) (fun z => (f2.2 3 z (by omega)).trans (stY z)) (cF_id idY f2) hb' (cF_H hk hRY f2) (by omega) (by omega) hw
      rcases rZ with ⟨w1, rfl⟩ | ⟨w1, w2, rfl⟩ | ⟨p2, w1, w2, w3, w4, rfl, w5⟩
      · exact ⟨fun z => absurd z (by decide), fun _ => p_Disk_writeBlock_136 hk ⟨fun _ => bad25 Z fZ (Or.inl ⟨fun p hp hF => absurd hF (w1 p hp), rfl⟩), fun z => absurd rfl z⟩⟩
      · exact ⟨fun z => absurd z (by decide), fun _ => p_Disk_writeBlock_136 hk ⟨fun _ => bad25 Z fZ (Or.inl ⟨w2, rfl⟩), fun z => absurd rfl z⟩⟩
      · refine ⟨fun _ => p_Disk_writeBlock_136 hk ⟨fun z => absurd z (by decide), fun _ => ?_⟩, fun z => absurd rfl z⟩
        obtain ⟨n, hn, hga⟩ := ga_ex hb' (by omega) w1 w2 (p2 + 80)
        refine rz_useV (c_Ring_gather (S := Z) hk hb' (cF_H hk hRY fZ) w5 w1 w2.1 hn hga) (fun Q rQ => ?_)
        obtain ⟨fQ, Q11, hQ⟩ := rQ
        refine rz_useI c_Disk_areSame (fun y Q1 rr1 => ?_)
        obtain ⟨rfl, rr1⟩ := rr1
        have fYQ : cF Y Q1 := cF_t fZ fQ
        have cm : (∀ j, j < 85 → Q1.1 12 j = Q1.1 11 j) ↔ CMk b' (gb (dpl rr)) (8 * rgN (11 + 2 * t)) p2 n := by
          refine ⟨fun q j hj => ?_, fun q j hj => ?_⟩
          · have := q j hj
            rw [hQ j hj, Q11, z11, y11 j hj] at this
            exact this
          · rw [hQ j hj, Q11, z11, y11 j hj]
            exact q j hj
        rcases rr1 with ⟨c1, rfl⟩ | ⟨c1, rfl⟩
        · have hw := mkW 0 (Or.inr ⟨p2, n, w1, w2, w3, w4, hga, Or.inl ⟨cm.mp c1, rfl⟩⟩)
          refine p_Disk_writeBlock_165 ⟨fun z => absurd z (by decide), fun _ => ?_⟩
          rw [eN] at hw hb'
          refine ⟨0, t, s, some (i, j), setT B t b', Or.inr ⟨hp0, hti, Or.inr ⟨i, j, b', rfl, rfl, rfl, hw, rfl⟩⟩, rfl, by omega, cF_id idY fYQ, XRs_set h1 h2 hX (rF_t rY (rF_i (iF_c fYQ))) hb' (cF_H hk hRY fYQ), rF_t rY (rF_i (iF_c fYQ)), fun _ z => (fYQ.2 3 z (by omega)).trans (stY z), fun z => absurd rfl z⟩
        · exact bad25 Q1 fYQ (Or.inr ⟨p2, n, w1, w2, w3, w4, hga, Or.inr ⟨fun q => c1 (cm.mpr q), rfl⟩⟩)
  show rz _ 0 [(0, .ref 6), (1, .int (nI t)), (2, .int (nI s)), (3, .ref a)] [] _ _
  refine p_Disk_writeBlock_0 ha (rz_toR (c_Disk_ring h1 h2) (p_Disk_writeBlock_5' ha hk ⟨fun _ => ?_, fun z => absurd (by decide) z⟩))
  rw [hpr]
  refine ⟨fun z => ?_, fun z => ?_⟩
  · have hp0 := (nI_b0 _).mp z
    refine rz_toI (c_Disk_hasId hid) ?_
    cases id with
    | some q =>
      obtain ⟨i, j⟩ := q
      exact ⟨fun z => absurd z (by rw [if_neg (fun e => by cases e)]; decide), fun _ => go hp0 S i j (Or.inl ⟨fun z => (by cases z), rfl⟩) ⟨fun _ _ => rfl, fun _ _ _ _ => rfl⟩ hid⟩
    | none =>
      refine ⟨fun _ => ?_, fun z => absurd rfl z⟩
      obtain ⟨hb7, hR7⟩ := hX 7 (by omega) (by omega)
      have e7 : rgN 25 = tN 7 := by decide
      have htk := c_Disk_takeId (S := S) (b := B 7) (by rw [e7]; exact hb7) hR7
      rw [e7] at htk
      refine rz_useI htk (fun x T r => ?_)
      obtain ⟨id1, ti, idT, ⟨n0, rfl, fT⟩ | ⟨n0, rfl, U, fU, rfl⟩⟩ := r
      · refine ⟨fun _ => ?_, fun z => absurd rfl z⟩
        cases id1 with
        | none => exact absurd rfl n0
        | some q =>
          obtain ⟨i, j⟩ := q
          exact go hp0 T i j (Or.inr ⟨rfl, ti⟩) fT idT
      · subst n0
        refine ⟨fun z => absurd z (by decide), fun _ => ?_⟩
        exact ⟨74, 7, 0, none, B, Or.inr ⟨hp0, Or.inr ⟨rfl, ti⟩, Or.inl ⟨rfl, rfl, rfl, rfl, rfl⟩⟩, rfl, by omega, idT, XRs_st (XRs_same hX fU), rF_t (rF_i fU) rF_s, fun z => by omega, fun _ => ⟨⟨rfl, rfl, rfl, rfl, rfl⟩, fU.2 3 3 (by omega) (by omega)⟩⟩
  · have hp1 : pr = true := Bool.of_not_eq_false fun q => z ((nI_b0 _).mpr q)
    refine rz_toI (c_Status_set _ _ _) ?_
    exact ⟨26, t, s, id, B, Or.inl ⟨hp1, rfl, rfl, rfl, rfl, rfl⟩, rfl, by omega, st_set_id hid, XRs_st hX, rF_s, fun z => by omega, fun _ => ⟨st_set_is, rfl⟩⟩
