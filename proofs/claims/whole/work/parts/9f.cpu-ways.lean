/-! the second processor: the ways to an address, and what is done there, both sides -/
def z6ad (h : Nat) (r : Nat → Int32) (G : Int32 → Int32) : Int32 := match h with
  | 0 => r 5
  | 1 => G (r 5)
  | 2 => (G (r 5) + r 1) &&& 255
  | 3 => (G (r 5) + r 2) &&& 255
  | 4 => z6w (G (r 5)) (G (z6n (r 5)))
  | 5 => z6w (G (r 5)) (G (z6n (r 5))) + r 1
  | 6 => z6w (G (r 5)) (G (z6n (r 5))) + r 2
  | 7 => z6w (G ((G (r 5) + r 1) &&& 255)) (G ((((G (r 5) + r 1) &&& 255) + 1) &&& 255))
  | _ => z6w (G (G (r 5))) (G ((G (r 5) + 1) &&& 255)) + r 2
def z6al (h : Nat) (r : Nat → Int32) (G : Int32 → Int32) : Int32 := match h with
  | 5 => z6l (z6w (G (r 5)) (G (z6n (r 5)))) (r 1)
  | 6 => z6l (z6w (G (r 5)) (G (z6n (r 5)))) (r 2)
  | 8 => z6l (z6w (G (G (r 5))) (G ((G (r 5) + 1) &&& 255))) (r 2)
  | _ => 0
def z6an (h : Nat) (r : Nat → Int32) : Int32 := match h with
  | 4 => z6n (z6n (r 5))
  | 5 => z6n (z6n (r 5))
  | 6 => z6n (z6n (r 5))
  | _ => z6n (r 5)
theorem z6_in8 (v : Int32) : ((v &&& 255) + 1) &&& 255 = (v + 1) &&& 255 := by
  rw [pk_and v (m := 255) 8 (by decide), pk_and (v + 1) (m := 255) 8 (by decide), nI_1, pk_andN (by omega) 8 (by decide)]
  congr 1
  show (v.toBitVec.toNat % 2 ^ 8 + 1) % 2 ^ 8 = (v.toBitVec + 1#32).toNat % 2 ^ 8
  rw [BitVec.toNat_add]
  simp only [BitVec.toNat_ofNat]
  omega
theorem byt_8 {x : Int32} (h : byt x) : x &&& 255 = x := by
  obtain ⟨n, hn, rfl⟩ := h
  rw [pk_andN (by omega) 8 (by decide), Nat.mod_eq_of_lt (by omega)]
theorem z6al_b {h : Nat} {r : Nat → Int32} {G : Int32 → Int32} : z6al h r G = 0 ∨ z6al h r G = 1 := by
  unfold z6al z6l
  split <;> first | exact Or.inl rfl | (split <;> first | exact Or.inl rfl | exact Or.inr rfl)
section ADR
variable {S : rz_S} {r : Nat → Int32} {G : Int32 → Int32}
def z6L (S : rz_S) (r : Nat → Int32) (G : Int32 → Int32) (h : Nat) (S1 : rz_S) : Prop := z6X S1 (upd r 5 (z6an h r)) G ∧ S1.2 37 8 = z6ad h r G ∧ S1.2 37 9 = z6al h r G ∧ z6fX S S1
theorem c6_locate {h : Nat} (hh : h ≤ 8) (hX : z6X S r G) (hG : ∀ a, byt (G a)) : rz_ev mProcessor_locate [.ref 37, .int (nI (h + 2))] S (rz_v (z6L S r G h)) := by
  have e1 : S.2 37 1 = r 1 := hX.1 1 (by omega)
  have e2 : S.2 37 2 = r 2 := hX.1 2 (by omega)
  have e5 : S.2 37 5 = r 5 := hX.1 5 (by omega)
  have hX9 : z6X (rz_uI S 37 9 0) r G := z6X_o hX (by omega)
  show rz _ 0 [(0, .ref 37), (1, .int (nI (h + 2)))] [] _ _
  have hs : h = 0 ∨ h = 1 ∨ h = 2 ∨ h = 3 ∨ h = 4 ∨ h = 5 ∨ h = 6 ∨ h = 7 ∨ h = 8 := by omega
  rcases hs with rfl | rfl | rfl | rfl | rfl | rfl | rfl | rfl | rfl
  · refine p_Processor_locate_0 ⟨fun c => absurd c (by decide), fun _ => ?_, fun c => absurd c (by decide), fun c => absurd c (by decide), fun c => absurd c (by decide), fun c => absurd c (by decide), fun c => absurd c (by decide), fun c => absurd c (by decide), fun c => absurd c (by decide), fun c => absurd c (by decide), fun c => absurd c (by decide), fun c => absurd c (by decide)⟩
    rw [e5]
    exact ⟨z6X_u (z6X_o hX9 (by omega)), rfl, rfl, z6fX_u (z6fX_u (z6fX_u (z6fX_r S)))⟩
  · refine p_Processor_locate_0 ⟨fun c => absurd c (by decide), fun c => absurd c (by decide), fun _ => rz_toI (c6_fetch hX9) ⟨z6X_o (z6X_u hX9) (by omega), rfl, rfl, z6fX_u (z6fX_u (z6fX_u (z6fX_r S)))⟩, fun c => absurd c (by decide), fun c => absurd c (by decide), fun c => absurd c (by decide), fun c => absurd c (by decide), fun c => absurd c (by decide), fun c => absurd c (by decide), fun c => absurd c (by decide), fun c => absurd c (by decide), fun c => absurd c (by decide)⟩
  · refine p_Processor_locate_0 ⟨fun c => absurd c (by decide), fun c => absurd c (by decide), fun c => absurd c (by decide), fun _ => rz_toI (c6_fetch hX9) ⟨z6X_o (z6X_u hX9) (by omega), ?_, rfl, z6fX_u (z6fX_u (z6fX_u (z6fX_r S)))⟩, fun c => absurd c (by decide), fun c => absurd c (by decide), fun c => absurd c (by decide), fun c => absurd c (by decide), fun c => absurd c (by decide), fun c => absurd c (by decide), fun c => absurd c (by decide), fun c => absurd c (by decide)⟩
    show (G (r 5) + S.2 37 1) &&& 255 = _
    rw [e1]
    rfl
  · refine p_Processor_locate_0 ⟨fun c => absurd c (by decide), fun c => absurd c (by decide), fun c => absurd c (by decide), fun c => absurd c (by decide), fun _ => rz_toI (c6_fetch hX9) ⟨z6X_o (z6X_u hX9) (by omega), ?_, rfl, z6fX_u (z6fX_u (z6fX_u (z6fX_r S)))⟩, fun c => absurd c (by decide), fun c => absurd c (by decide), fun c => absurd c (by decide), fun c => absurd c (by decide), fun c => absurd c (by decide), fun c => absurd c (by decide), fun c => absurd c (by decide)⟩
    show (G (r 5) + S.2 37 2) &&& 255 = _
    rw [e2]
    rfl
  · refine p_Processor_locate_0 ⟨fun c => absurd c (by decide), fun c => absurd c (by decide), fun c => absurd c (by decide), fun c => absurd c (by decide), fun c => absurd c (by decide), fun _ => rz_toI (c6_fetchTwo hX9) ⟨z6X_o (z6X_u hX9) (by omega), rfl, rfl, z6fX_u (z6fX_u (z6fX_u (z6fX_r S)))⟩, fun c => absurd c (by decide), fun c => absurd c (by decide), fun c => absurd c (by decide), fun c => absurd c (by decide), fun c => absurd c (by decide), fun c => absurd c (by decide)⟩
  · refine p_Processor_locate_0 ⟨fun c => absurd c (by decide), fun c => absurd c (by decide), fun c => absurd c (by decide), fun c => absurd c (by decide), fun c => absurd c (by decide), fun c => absurd c (by decide), fun _ => rz_toI (c6_fetchTwo hX9) (rz_toV (c6_indexed _ _) ⟨z6X_o (z6X_o (z6X_u hX9) (by omega)) (by omega), ?_, ?_, z6fX_u (z6fX_u (z6fX_u (z6fX_u (z6fX_r S))))⟩), fun c => absurd c (by decide), fun c => absurd c (by decide), fun c => absurd c (by decide), fun c => absurd c (by decide), fun c => absurd c (by decide)⟩
    · show z6w (G (r 5)) (G (z6n (r 5))) + S.2 37 1 = _
      rw [e1]
      rfl
    · show z6l (z6w (G (r 5)) (G (z6n (r 5)))) (S.2 37 1) = _
      rw [e1]
      rfl
  · refine p_Processor_locate_0 ⟨fun c => absurd c (by decide), fun c => absurd c (by decide), fun c => absurd c (by decide), fun c => absurd c (by decide), fun c => absurd c (by decide), fun c => absurd c (by decide), fun c => absurd c (by decide), fun _ => rz_toI (c6_fetchTwo hX9) (rz_toV (c6_indexed _ _) ⟨z6X_o (z6X_o (z6X_u hX9) (by omega)) (by omega), ?_, ?_, z6fX_u (z6fX_u (z6fX_u (z6fX_u (z6fX_r S))))⟩), fun c => absurd c (by decide), fun c => absurd c (by decide), fun c => absurd c (by decide), fun c => absurd c (by decide)⟩
    · show z6w (G (r 5)) (G (z6n (r 5))) + S.2 37 2 = _
      rw [e2]
      rfl
    · show z6l (z6w (G (r 5)) (G (z6n (r 5)))) (S.2 37 2) = _
      rw [e2]
      rfl
  · refine p_Processor_locate_0 ⟨fun c => absurd c (by decide), fun c => absurd c (by decide), fun c => absurd c (by decide), fun c => absurd c (by decide), fun c => absurd c (by decide), fun c => absurd c (by decide), fun c => absurd c (by decide), fun c => absurd c (by decide), fun _ => rz_toI (c6_fetch hX9) (rz_toI (c6_pair (z6X_u hX9) _) ⟨z6X_o (z6X_u hX9) (by omega), ?_, rfl, z6fX_u (z6fX_u (z6fX_u (z6fX_r S)))⟩), fun c => absurd c (by decide), fun c => absurd c (by decide), fun c => absurd c (by decide)⟩
    show z6w (G ((G (r 5) + S.2 37 1) &&& 255)) (G (((G (r 5) + S.2 37 1) + 1) &&& 255)) = _
    rw [e1, ← z6_in8]
    rfl
  · refine p_Processor_locate_0 ⟨fun c => absurd c (by decide), fun c => absurd c (by decide), fun c => absurd c (by decide), fun c => absurd c (by decide), fun c => absurd c (by decide), fun c => absurd c (by decide), fun c => absurd c (by decide), fun c => absurd c (by decide), fun c => absurd c (by decide), fun _ => rz_toI (c6_fetch hX9) (rz_toI (c6_pair (z6X_u hX9) _) (rz_toV (c6_indexed _ _) ⟨z6X_o (z6X_o (z6X_u hX9) (by omega)) (by omega), ?_, ?_, z6fX_u (z6fX_u (z6fX_u (z6fX_u (z6fX_r S))))⟩)), fun c => absurd c (by decide), fun c => absurd c (by decide)⟩
    · show z6w (G (G (r 5) &&& 255)) (G ((G (r 5) + 1) &&& 255)) + S.2 37 2 = _
      rw [e2, byt_8 (hG _)]
      rfl
    · show z6l (z6w (G (G (r 5) &&& 255)) (G ((G (r 5) + 1) &&& 255))) (S.2 37 2) = _
      rw [e2, byt_8 (hG _)]
      rfl
def z6A (S : rz_S) (r : Nat → Int32) (G : Int32 → Int32) (h : Nat) (x : Int32) (S1 : rz_S) : Prop := x = z6ad h r G ∧ z6M S1 (upd r 5 (z6an h r)) G ∧ S1.2 116 83 = z6al h r G ∧ z6fM S S1
theorem d6_address {h : Nat} (hh : h ≤ 8) (hX : z6M S r G) : rz_ev mM_address [.ref 116, .int (nI h)] S (rz_i (z6A S r G h)) := by
  have e1 : S.2 116 76 = r 1 := hX.1 1 (by omega)
  have e2 : S.2 116 77 = r 2 := hX.1 2 (by omega)
  have e5 : S.2 116 80 = r 5 := hX.1 5 (by omega)
  have hX9 : z6M (rz_uI S 116 83 0) r G := z6M_o hX (by omega)
  show rz _ 0 [(0, .ref 116), (1, .int (nI h))] [] _ _
  have hs : h = 0 ∨ h = 1 ∨ h = 2 ∨ h = 3 ∨ h = 4 ∨ h = 5 ∨ h = 6 ∨ h = 7 ∨ h = 8 := by omega
  rcases hs with rfl | rfl | rfl | rfl | rfl | rfl | rfl | rfl | rfl
  · refine p_M_address_0 ⟨fun c => absurd c (by decide), fun _ => ?_, fun c => absurd c (by decide), fun c => absurd c (by decide), fun c => absurd c (by decide), fun c => absurd c (by decide), fun c => absurd c (by decide), fun c => absurd c (by decide), fun c => absurd c (by decide)⟩
    rw [e5]
    exact ⟨rfl, z6M_u (k := 5) hX9, rfl, z6fM_u (z6fM_u (z6fM_r S) (by omega)) (by omega)⟩
  · refine p_M_address_0 ⟨fun c => absurd c (by decide), fun c => absurd c (by decide), fun _ => rz_toI (d6_byteNext hX9) ⟨rfl, z6M_u (k := 5) hX9, rfl, z6fM_u (z6fM_u (z6fM_r S) (by omega)) (by omega)⟩, fun c => absurd c (by decide), fun c => absurd c (by decide), fun c => absurd c (by decide), fun c => absurd c (by decide), fun c => absurd c (by decide), fun c => absurd c (by decide)⟩
  · refine p_M_address_0 ⟨fun c => absurd c (by decide), fun c => absurd c (by decide), fun c => absurd c (by decide), fun _ => rz_toI (d6_byteNext hX9) ⟨?_, z6M_u (k := 5) hX9, rfl, z6fM_u (z6fM_u (z6fM_r S) (by omega)) (by omega)⟩, fun c => absurd c (by decide), fun c => absurd c (by decide), fun c => absurd c (by decide), fun c => absurd c (by decide), fun c => absurd c (by decide)⟩
    show (G (r 5) + S.2 116 76) &&& 255 = _
    rw [e1]
    rfl
  · refine p_M_address_0 ⟨fun c => absurd c (by decide), fun c => absurd c (by decide), fun c => absurd c (by decide), fun c => absurd c (by decide), fun _ => rz_toI (d6_byteNext hX9) ⟨?_, z6M_u (k := 5) hX9, rfl, z6fM_u (z6fM_u (z6fM_r S) (by omega)) (by omega)⟩, fun c => absurd c (by decide), fun c => absurd c (by decide), fun c => absurd c (by decide), fun c => absurd c (by decide)⟩
    show (G (r 5) + S.2 116 77) &&& 255 = _
    rw [e2]
    rfl
  · refine p_M_address_0 ⟨fun c => absurd c (by decide), fun c => absurd c (by decide), fun c => absurd c (by decide), fun c => absurd c (by decide), fun c => absurd c (by decide), fun _ => rz_toI (d6_wordNext hX9) ⟨rfl, z6M_u (k := 5) hX9, rfl, z6fM_u (z6fM_u (z6fM_r S) (by omega)) (by omega)⟩, fun c => absurd c (by decide), fun c => absurd c (by decide), fun c => absurd c (by decide)⟩
  · refine p_M_address_0 ⟨fun c => absurd c (by decide), fun c => absurd c (by decide), fun c => absurd c (by decide), fun c => absurd c (by decide), fun c => absurd c (by decide), fun c => absurd c (by decide), fun _ => rz_toI (d6_wordNext hX9) ⟨fun c => ⟨?_, z6M_o (z6M_u (k := 5) hX9) (by omega), ?_, z6fM_u (z6fM_u (z6fM_u (z6fM_r S) (by omega)) (by omega)) (by omega)⟩, fun c => ⟨?_, z6M_o (z6M_u (k := 5) hX9) (by omega), ?_, z6fM_u (z6fM_u (z6fM_u (z6fM_r S) (by omega)) (by omega)) (by omega)⟩⟩, fun c => absurd c (by decide), fun c => absurd c (by decide)⟩
    · show z6w (G (r 5)) (G (z6n (r 5))) + S.2 116 76 = _
      rw [e1]
      rfl
    · have c2 : (z6w (G (r 5)) (G (z6n (r 5))) &&& 255) + S.2 116 76 ≤ 255 := c
      rw [e1] at c2
      unfold z6al z6l
      simp only [if_pos c2]
      rfl
    · show z6w (G (r 5)) (G (z6n (r 5))) + S.2 116 76 = _
      rw [e1]
      rfl
    · have c2 : ¬ (z6w (G (r 5)) (G (z6n (r 5))) &&& 255) + S.2 116 76 ≤ 255 := c
      rw [e1] at c2
      unfold z6al z6l
      simp only [if_neg c2]
      rfl
  · refine p_M_address_0 ⟨fun c => absurd c (by decide), fun c => absurd c (by decide), fun c => absurd c (by decide), fun c => absurd c (by decide), fun c => absurd c (by decide), fun c => absurd c (by decide), fun c => absurd c (by decide), fun _ => rz_toI (d6_wordNext hX9) ⟨fun c => ⟨?_, z6M_o (z6M_u (k := 5) hX9) (by omega), ?_, z6fM_u (z6fM_u (z6fM_u (z6fM_r S) (by omega)) (by omega)) (by omega)⟩, fun c => ⟨?_, z6M_o (z6M_u (k := 5) hX9) (by omega), ?_, z6fM_u (z6fM_u (z6fM_u (z6fM_r S) (by omega)) (by omega)) (by omega)⟩⟩, fun c => absurd c (by decide)⟩
    · show z6w (G (r 5)) (G (z6n (r 5))) + S.2 116 77 = _
      rw [e2]
      rfl
    · have c2 : (z6w (G (r 5)) (G (z6n (r 5))) &&& 255) + S.2 116 77 ≤ 255 := c
      rw [e2] at c2
      unfold z6al z6l
      simp only [if_pos c2]
      rfl
    · show z6w (G (r 5)) (G (z6n (r 5))) + S.2 116 77 = _
      rw [e2]
      rfl
    · have c2 : ¬ (z6w (G (r 5)) (G (z6n (r 5))) &&& 255) + S.2 116 77 ≤ 255 := c
      rw [e2] at c2
      unfold z6al z6l
      simp only [if_neg c2]
      rfl
  · refine p_M_address_0 ⟨fun c => absurd c (by decide), fun c => absurd c (by decide), fun c => absurd c (by decide), fun c => absurd c (by decide), fun c => absurd c (by decide), fun c => absurd c (by decide), fun c => absurd c (by decide), fun c => absurd c (by decide), fun _ => rz_toI (d6_byteNext hX9) (rz_toI (d6_get (z6M_u (k := 5) hX9) _) (rz_toI (d6_get (z6M_u (k := 5) hX9) _) ⟨?_, z6M_u (k := 5) hX9, rfl, z6fM_u (z6fM_u (z6fM_r S) (by omega)) (by omega)⟩))⟩
    show z6w (G ((G (r 5) + S.2 116 76) &&& 255)) (G ((((G (r 5) + S.2 116 76) &&& 255) + 1) &&& 255)) = _
    rw [e1]
    rfl
  · refine p_M_address_0 ⟨fun _ => rz_toI (d6_byteNext hX9) (rz_toI (d6_get (z6M_u (k := 5) hX9) _) (rz_toI (d6_get (z6M_u (k := 5) hX9) _) ⟨fun c => ⟨?_, z6M_o (z6M_u (k := 5) hX9) (by omega), ?_, z6fM_u (z6fM_u (z6fM_u (z6fM_r S) (by omega)) (by omega)) (by omega)⟩, fun c => ⟨?_, z6M_o (z6M_u (k := 5) hX9) (by omega), ?_, z6fM_u (z6fM_u (z6fM_u (z6fM_r S) (by omega)) (by omega)) (by omega)⟩⟩)), fun c => absurd c (by decide), fun c => absurd c (by decide), fun c => absurd c (by decide), fun c => absurd c (by decide), fun c => absurd c (by decide), fun c => absurd c (by decide), fun c => absurd c (by decide), fun c => absurd c (by decide)⟩
    · show z6w (G (G (r 5))) (G ((G (r 5) + 1) &&& 255)) + S.2 116 77 = _
      rw [e2]
      rfl
    · have c2 : (z6w (G (G (r 5))) (G ((G (r 5) + 1) &&& 255)) &&& 255) + S.2 116 77 ≤ 255 := c
      rw [e2] at c2
      unfold z6al z6l
      simp only [if_pos c2]
      rfl
    · show z6w (G (G (r 5))) (G ((G (r 5) + 1) &&& 255)) + S.2 116 77 = _
      rw [e2]
      rfl
    · have c2 : ¬ (z6w (G (G (r 5))) (G ((G (r 5) + 1) &&& 255)) &&& 255) + S.2 116 77 ≤ 255 := c
      rw [e2] at c2
      unfold z6al z6l
      simp only [if_neg c2]
      rfl
def z6rt (h : Nat) : Nat := match h with
  | 0 => 2
  | 1 => 3
  | 7 => 6
  | 8 => 5
  | _ => 4
def z6st (h : Nat) : Nat := match h with
  | 1 => 3
  | 2 => 4
  | 3 => 4
  | 4 => 4
  | 5 => 5
  | 6 => 5
  | _ => 6
theorem d6_readTime {h : Nat} (hh : h ≤ 8) (h9 : S.2 116 83 = z6al h r G) : rz_ev mM_readTime [.ref 116, .int (nI h)] S (rz_i (fun x S1 => x = nI (z6rt h) + z6al h r G ∧ S1 = S)) := by
  have key : ∀ s0, s0 = z6al h r G → rz mM_readTime 12 [(1, .int (nI h))] [.int s0] S (rz_i (fun x S1 => x = nI (z6rt h) + z6al h r G ∧ S1 = S)) := by
    intro s0 e
    have hs : h = 0 ∨ h = 1 ∨ h = 2 ∨ h = 3 ∨ h = 4 ∨ h = 5 ∨ h = 6 ∨ h = 7 ∨ h = 8 := by omega
    rcases hs with rfl | rfl | rfl | rfl | rfl | rfl | rfl | rfl | rfl
    · exact p_M_readTime_12 ⟨fun c => absurd c (by decide), fun _ => ⟨rfl, rfl⟩, fun c => absurd c (by decide), fun c => absurd c (by decide), fun c => absurd c (by decide), fun c => absurd c (by decide), fun c => absurd c (by decide), fun c => absurd c (by decide), fun c => absurd c (by decide)⟩
    · exact p_M_readTime_12 ⟨fun c => absurd c (by decide), fun c => absurd c (by decide), fun _ => ⟨rfl, rfl⟩, fun c => absurd c (by decide), fun c => absurd c (by decide), fun c => absurd c (by decide), fun c => absurd c (by decide), fun c => absurd c (by decide), fun c => absurd c (by decide)⟩
    · exact p_M_readTime_12 ⟨fun c => absurd c (by decide), fun c => absurd c (by decide), fun c => absurd c (by decide), fun _ => ⟨rfl, rfl⟩, fun c => absurd c (by decide), fun c => absurd c (by decide), fun c => absurd c (by decide), fun c => absurd c (by decide), fun c => absurd c (by decide)⟩
    · exact p_M_readTime_12 ⟨fun c => absurd c (by decide), fun c => absurd c (by decide), fun c => absurd c (by decide), fun c => absurd c (by decide), fun _ => ⟨rfl, rfl⟩, fun c => absurd c (by decide), fun c => absurd c (by decide), fun c => absurd c (by decide), fun c => absurd c (by decide)⟩
    · exact p_M_readTime_12 ⟨fun c => absurd c (by decide), fun c => absurd c (by decide), fun c => absurd c (by decide), fun c => absurd c (by decide), fun c => absurd c (by decide), fun _ => ⟨rfl, rfl⟩, fun c => absurd c (by decide), fun c => absurd c (by decide), fun c => absurd c (by decide)⟩
    · exact p_M_readTime_12 ⟨fun c => absurd c (by decide), fun c => absurd c (by decide), fun c => absurd c (by decide), fun c => absurd c (by decide), fun c => absurd c (by decide), fun c => absurd c (by decide), fun _ => ⟨by rw [e]; rfl, rfl⟩, fun c => absurd c (by decide), fun c => absurd c (by decide)⟩
    · exact p_M_readTime_12 ⟨fun c => absurd c (by decide), fun c => absurd c (by decide), fun c => absurd c (by decide), fun c => absurd c (by decide), fun c => absurd c (by decide), fun c => absurd c (by decide), fun c => absurd c (by decide), fun _ => ⟨by rw [e]; rfl, rfl⟩, fun c => absurd c (by decide)⟩
    · exact p_M_readTime_12 ⟨fun c => absurd c (by decide), fun c => absurd c (by decide), fun c => absurd c (by decide), fun c => absurd c (by decide), fun c => absurd c (by decide), fun c => absurd c (by decide), fun c => absurd c (by decide), fun c => absurd c (by decide), fun _ => ⟨rfl, rfl⟩⟩
    · exact p_M_readTime_12 ⟨fun _ => ⟨by rw [e]; rfl, rfl⟩, fun c => absurd c (by decide), fun c => absurd c (by decide), fun c => absurd c (by decide), fun c => absurd c (by decide), fun c => absurd c (by decide), fun c => absurd c (by decide), fun c => absurd c (by decide), fun c => absurd c (by decide)⟩
  show rz _ 0 [(0, .ref 116), (1, .int (nI h))] [] _ _
  refine p_M_readTime_0 ⟨fun c => key _ ?_, fun c => key _ ?_⟩
  · rw [← h9, c]
  · rcases z6al_b (h := h) (r := r) (G := G) with z | z
    · exact absurd (h9.trans z) c
    · rw [z]
theorem d6_storeTime {h : Nat} (hh : h ≤ 8) : rz_ev mM_storeTime [.int (nI h)] S (rz_i (fun x S1 => x = nI (z6st h) ∧ S1 = S)) := by
  show rz _ 0 [(0, .int (nI h))] [] _ _
  have hs : h = 0 ∨ h = 1 ∨ h = 2 ∨ h = 3 ∨ h = 4 ∨ h = 5 ∨ h = 6 ∨ h = 7 ∨ h = 8 := by omega
  rcases hs with rfl | rfl | rfl | rfl | rfl | rfl | rfl | rfl | rfl
  · exact p_M_storeTime_0 ⟨fun _ => ⟨rfl, rfl⟩, fun c => absurd c (by decide), fun c => absurd c (by decide), fun c => absurd c (by decide), fun c => absurd c (by decide), fun c => absurd c (by decide), fun c => absurd c (by decide)⟩
  · exact p_M_storeTime_0 ⟨fun c => absurd c (by decide), fun _ => ⟨rfl, rfl⟩, fun c => absurd c (by decide), fun c => absurd c (by decide), fun c => absurd c (by decide), fun c => absurd c (by decide), fun c => absurd c (by decide)⟩
  · exact p_M_storeTime_0 ⟨fun c => absurd c (by decide), fun c => absurd c (by decide), fun _ => ⟨rfl, rfl⟩, fun c => absurd c (by decide), fun c => absurd c (by decide), fun c => absurd c (by decide), fun c => absurd c (by decide)⟩
  · exact p_M_storeTime_0 ⟨fun c => absurd c (by decide), fun c => absurd c (by decide), fun c => absurd c (by decide), fun _ => ⟨rfl, rfl⟩, fun c => absurd c (by decide), fun c => absurd c (by decide), fun c => absurd c (by decide)⟩
  · exact p_M_storeTime_0 ⟨fun c => absurd c (by decide), fun c => absurd c (by decide), fun c => absurd c (by decide), fun c => absurd c (by decide), fun _ => ⟨rfl, rfl⟩, fun c => absurd c (by decide), fun c => absurd c (by decide)⟩
  · exact p_M_storeTime_0 ⟨fun c => absurd c (by decide), fun c => absurd c (by decide), fun c => absurd c (by decide), fun c => absurd c (by decide), fun c => absurd c (by decide), fun _ => ⟨rfl, rfl⟩, fun c => absurd c (by decide)⟩
  · exact p_M_storeTime_0 ⟨fun c => absurd c (by decide), fun c => absurd c (by decide), fun c => absurd c (by decide), fun c => absurd c (by decide), fun c => absurd c (by decide), fun c => absurd c (by decide), fun _ => ⟨rfl, rfl⟩⟩
  · exact p_M_storeTime_0 ⟨fun _ => ⟨rfl, rfl⟩, fun c => absurd c (by decide), fun c => absurd c (by decide), fun c => absurd c (by decide), fun c => absurd c (by decide), fun c => absurd c (by decide), fun c => absurd c (by decide)⟩
  · exact p_M_storeTime_0 ⟨fun _ => ⟨rfl, rfl⟩, fun c => absurd c (by decide), fun c => absurd c (by decide), fun c => absurd c (by decide), fun c => absurd c (by decide), fun c => absurd c (by decide), fun c => absurd c (by decide)⟩
end ADR
/-! a value is used -/
def z6uv (c : Nat) (r : Nat → Int32) (v : Int32) : Nat → Int32 := match c with
  | 1 => upd (upd r 4 (z6k (r 4) v)) 0 (v &&& 255)
  | 2 => upd (upd r 4 (z6k (r 4) v)) 1 (v &&& 255)
  | 3 => upd (upd r 4 (z6k (r 4) v)) 2 (v &&& 255)
  | 4 => upd (upd r 4 (z6ap (r 4) (r 0) v)) 0 (z6aa (r 4) (r 0) v)
  | 5 => upd (upd r 4 (z6sp (r 4) (r 0) v)) 0 (z6sa (r 4) (r 0) v)
  | 6 => upd (upd r 4 (z6k (r 4) (r 0 &&& v))) 0 ((r 0 &&& v) &&& 255)
  | 7 => upd (upd r 4 (z6k (r 4) (r 0 ||| v))) 0 ((r 0 ||| v) &&& 255)
  | 8 => upd (upd r 4 (z6k (r 4) (r 0 ^^^ v))) 0 ((r 0 ^^^ v) &&& 255)
  | 9 => upd r 4 (z6cp (r 4) (r 0) v)
  | 10 => upd r 4 (z6cp (r 4) (r 1) v)
  | 11 => upd r 4 (z6cp (r 4) (r 2) v)
  | _ => upd r 4 (z6bp (r 4) (r 0) v)
section USE
variable {S : rz_S} {r : Nat → Int32} {G : Int32 → Int32}
theorem c6_use {c : Nat} {v : Int32} (hc : 1 ≤ c ∧ c ≤ 12) (hX : z6X S r G) (hv : byt v) (h4 : byt (r 4)) (h0 : byt (r 0)) : rz_ev mProcessor_useValue [.ref 37, .int (nI c), .int v] S (rz_v (fun S1 => z6X S1 (z6uv c r v) G ∧ z6fX S S1)) := by
  have e0 : S.2 37 0 = r 0 := hX.1 0 (by omega)
  have e1 : S.2 37 1 = r 1 := hX.1 1 (by omega)
  have e2 : S.2 37 2 = r 2 := hX.1 2 (by omega)
  have e4 : S.2 37 4 = r 4 := hX.1 4 (by omega)
  have b4 : byt (S.2 37 4) := e4 ▸ h4
  have b0 : byt (S.2 37 0) := e0 ▸ h0
  show rz _ 0 [(0, .ref 37), (1, .int (nI c)), (2, .int v)] [] _ _
  have hs : c = 1 ∨ c = 2 ∨ c = 3 ∨ c = 4 ∨ c = 5 ∨ c = 6 ∨ c = 7 ∨ c = 8 ∨ c = 9 ∨ c = 10 ∨ c = 11 ∨ c = 12 := by omega
  rcases hs with rfl | rfl | rfl | rfl | rfl | rfl | rfl | rfl | rfl | rfl | rfl | rfl
  · refine p_Processor_useValue_0 ⟨fun c => absurd c (by decide), fun _ => rz_toI (c6_marked _ b4) ?_, fun c => absurd c (by decide), fun c => absurd c (by decide), fun c => absurd c (by decide), fun c => absurd c (by decide), fun c => absurd c (by decide), fun c => absurd c (by decide), fun c => absurd c (by decide), fun c => absurd c (by decide), fun c => absurd c (by decide), fun c => absurd c (by decide), fun c => absurd c (by decide)⟩
    rw [e4]
    exact ⟨z6X_u (z6X_u hX), z6fX_u (z6fX_u (z6fX_r S))⟩
  · refine p_Processor_useValue_0 ⟨fun c => absurd c (by decide), fun c => absurd c (by decide), fun _ => rz_toI (c6_marked _ b4) ?_, fun c => absurd c (by decide), fun c => absurd c (by decide), fun c => absurd c (by decide), fun c => absurd c (by decide), fun c => absurd c (by decide), fun c => absurd c (by decide), fun c => absurd c (by decide), fun c => absurd c (by decide), fun c => absurd c (by decide), fun c => absurd c (by decide)⟩
    rw [e4]
    exact ⟨z6X_u (z6X_u hX), z6fX_u (z6fX_u (z6fX_r S))⟩
  · refine p_Processor_useValue_0 ⟨fun c => absurd c (by decide), fun c => absurd c (by decide), fun c => absurd c (by decide), fun _ => rz_toI (c6_marked _ b4) ?_, fun c => absurd c (by decide), fun c => absurd c (by decide), fun c => absurd c (by decide), fun c => absurd c (by decide), fun c => absurd c (by decide), fun c => absurd c (by decide), fun c => absurd c (by decide), fun c => absurd c (by decide), fun c => absurd c (by decide)⟩
    rw [e4]
    exact ⟨z6X_u (z6X_u hX), z6fX_u (z6fX_u (z6fX_r S))⟩
  · refine p_Processor_useValue_0 ⟨fun c => absurd c (by decide), fun c => absurd c (by decide), fun c => absurd c (by decide), fun c => absurd c (by decide), fun _ => rz_toV (c6_add v b4) ?_, fun c => absurd c (by decide), fun c => absurd c (by decide), fun c => absurd c (by decide), fun c => absurd c (by decide), fun c => absurd c (by decide), fun c => absurd c (by decide), fun c => absurd c (by decide), fun c => absurd c (by decide)⟩
    rw [e4, e0]
    exact ⟨z6X_u (z6X_u hX), z6fX_u (z6fX_u (z6fX_r S))⟩
  · refine p_Processor_useValue_0 ⟨fun c => absurd c (by decide), fun c => absurd c (by decide), fun c => absurd c (by decide), fun c => absurd c (by decide), fun c => absurd c (by decide), fun _ => rz_toV (c6_sub v b4 b0 hv) ?_, fun c => absurd c (by decide), fun c => absurd c (by decide), fun c => absurd c (by decide), fun c => absurd c (by decide), fun c => absurd c (by decide), fun c => absurd c (by decide), fun c => absurd c (by decide)⟩
    rw [e4, e0]
    exact ⟨z6X_u (z6X_u hX), z6fX_u (z6fX_u (z6fX_r S))⟩
  · refine p_Processor_useValue_0 ⟨fun c => absurd c (by decide), fun c => absurd c (by decide), fun c => absurd c (by decide), fun c => absurd c (by decide), fun c => absurd c (by decide), fun c => absurd c (by decide), fun _ => rz_toI (c6_marked _ b4) ?_, fun c => absurd c (by decide), fun c => absurd c (by decide), fun c => absurd c (by decide), fun c => absurd c (by decide), fun c => absurd c (by decide), fun c => absurd c (by decide)⟩
    rw [e4, e0]
    exact ⟨z6X_u (z6X_u hX), z6fX_u (z6fX_u (z6fX_r S))⟩
  · refine p_Processor_useValue_0 ⟨fun c => absurd c (by decide), fun c => absurd c (by decide), fun c => absurd c (by decide), fun c => absurd c (by decide), fun c => absurd c (by decide), fun c => absurd c (by decide), fun c => absurd c (by decide), fun _ => rz_toI (c6_marked _ b4) ?_, fun c => absurd c (by decide), fun c => absurd c (by decide), fun c => absurd c (by decide), fun c => absurd c (by decide), fun c => absurd c (by decide)⟩
    rw [e4, e0]
    exact ⟨z6X_u (z6X_u hX), z6fX_u (z6fX_u (z6fX_r S))⟩
  · refine p_Processor_useValue_0 ⟨fun c => absurd c (by decide), fun c => absurd c (by decide), fun c => absurd c (by decide), fun c => absurd c (by decide), fun c => absurd c (by decide), fun c => absurd c (by decide), fun c => absurd c (by decide), fun c => absurd c (by decide), fun _ => rz_toI (c6_marked _ b4) ?_, fun c => absurd c (by decide), fun c => absurd c (by decide), fun c => absurd c (by decide), fun c => absurd c (by decide)⟩
    rw [e4, e0]
    exact ⟨z6X_u (z6X_u hX), z6fX_u (z6fX_u (z6fX_r S))⟩
  · refine p_Processor_useValue_0 ⟨fun c => absurd c (by decide), fun c => absurd c (by decide), fun c => absurd c (by decide), fun c => absurd c (by decide), fun c => absurd c (by decide), fun c => absurd c (by decide), fun c => absurd c (by decide), fun c => absurd c (by decide), fun c => absurd c (by decide), fun _ => ⟨fun _ => p_Processor_useValue_258 (rz_toV (c6_compare _ _ b4) ?_), fun d => absurd rfl d⟩, fun c => absurd c (by decide), fun c => absurd c (by decide), fun c => absurd c (by decide)⟩
    rw [e4, e0]
    exact ⟨z6X_u hX, z6fX_u (z6fX_r S)⟩
  · refine p_Processor_useValue_0 ⟨fun c => absurd c (by decide), fun c => absurd c (by decide), fun c => absurd c (by decide), fun c => absurd c (by decide), fun c => absurd c (by decide), fun c => absurd c (by decide), fun c => absurd c (by decide), fun c => absurd c (by decide), fun c => absurd c (by decide), fun c => absurd c (by decide), fun _ => ⟨fun d => absurd d (by decide), fun _ => ⟨fun _ => p_Processor_useValue_258 (rz_toV (c6_compare _ _ b4) ?_), fun d => absurd rfl d⟩⟩, fun c => absurd c (by decide), fun c => absurd c (by decide)⟩
    rw [e4, e1]
    exact ⟨z6X_u hX, z6fX_u (z6fX_r S)⟩
  · refine p_Processor_useValue_0 ⟨fun c => absurd c (by decide), fun c => absurd c (by decide), fun c => absurd c (by decide), fun c => absurd c (by decide), fun c => absurd c (by decide), fun c => absurd c (by decide), fun c => absurd c (by decide), fun c => absurd c (by decide), fun c => absurd c (by decide), fun c => absurd c (by decide), fun c => absurd c (by decide), fun _ => ⟨fun d => absurd d (by decide), fun _ => ⟨fun d => absurd d (by decide), fun _ => p_Processor_useValue_258 (rz_toV (c6_compare _ _ b4) ?_)⟩⟩, fun c => absurd c (by decide)⟩
    rw [e4, e2]
    exact ⟨z6X_u hX, z6fX_u (z6fX_r S)⟩
  · refine p_Processor_useValue_0 ⟨fun c => absurd c (by decide), fun c => absurd c (by decide), fun c => absurd c (by decide), fun c => absurd c (by decide), fun c => absurd c (by decide), fun c => absurd c (by decide), fun c => absurd c (by decide), fun c => absurd c (by decide), fun c => absurd c (by decide), fun c => absurd c (by decide), fun c => absurd c (by decide), fun c => absurd c (by decide), fun _ => ⟨fun d => t6_u184 ?_, fun d => t6_u184 ?_⟩⟩
    · have := z6_bi (p := S.2 37 4) (a := S.2 37 0) (v := v) b4
      rw [z6_n (c := ¬ v &&& 128 = 0) (fun z => z d)] at this
      rw [this, e4, e0]
      exact ⟨z6X_u hX, z6fX_u (z6fX_r S)⟩
    · have := z6_bi (p := S.2 37 4) (a := S.2 37 0) (v := v) b4
      rw [z6_p (c := ¬ v &&& 128 = 0) d] at this
      rw [this, e4, e0]
      exact ⟨z6X_u hX, z6fX_u (z6fX_r S)⟩
/-- all that a code with an operand that is read does: the words behind it -/
def z6rd (h c : Nat) (r : Nat → Int32) (G : Int32 → Int32) : Nat → Int32 := z6uv c (upd (upd r 5 (z6an h r)) 6 (r 6 + z6al h r G)) (G (z6ad h r G))
theorem x6_read {h c : Nat} (hh : h ≤ 8) (hc : 1 ≤ c ∧ c ≤ 12) (hX : z6X S r G) (hG : ∀ a, byt (G a)) (h4 : byt (r 4)) (h0 : byt (r 0)) : rz_ev mProcessor_locate [.ref 37, .int (nI (h + 2))] S (rz_v (fun S1 => rz_ev mProcessor_perform [.ref 37, .int (nI c), .int (nI (h + 2))] S1 (rz_v (fun S2 => z6X S2 (z6rd h c r G) G ∧ z6fX S S2)))) := by
  refine rz_useV (c6_locate hh hX hG) (fun S1 hL => ?_)
  obtain ⟨l1, l2, l3, l4⟩ := hL
  have e6 : S1.2 37 6 = r 6 := l1.1 6 (by omega)
  have key : ∀ s0, s0 = z6al h r G → rz mProcessor_perform 23 [(0, .ref 37), (1, .int (nI c))] [.int s0, .int (S1.2 37 6), .ref 37] S1 (rz_v (fun S2 => z6X S2 (z6rd h c r G) G ∧ z6fX S S2)) := by
    intro s0 e
    refine p_Processor_perform_23 ?_
    rw [l2, e6, e]
    refine rz_toI (c6_get (z6X_u l1) _) (rz_useV (c6_use hc (z6X_u l1) (hG _) h4 h0) (fun S2 q => ⟨q.1, z6fX_t (z6fX_u l4) q.2⟩))
  show rz _ 0 [(0, .ref 37), (1, .int (nI c)), (2, .int (nI (h + 2)))] [] _ _
  refine p_Processor_perform_0 ⟨fun d => ?_, fun _ => ⟨fun d => key _ ?_, fun d => key _ ?_⟩⟩
  · have := (nI_ltI (a := 12) (by omega) (by omega)).mp d
    omega
  · rw [← l3, d]
  · rcases z6al_b (h := h) (r := r) (G := G) with z | z
    · exact absurd (l3.trans z) d
    · rw [z]
theorem x6_store {h c : Nat} (hh : h ≤ 8) (hc : 13 ≤ c ∧ c ≤ 15) (hX : z6X S r G) (hG : ∀ a, byt (G a)) : rz_ev mProcessor_locate [.ref 37, .int (nI (h + 2))] S (rz_v (fun S1 => rz_ev mProcessor_perform [.ref 37, .int (nI c), .int (nI (h + 2))] S1 (rz_v (fun S2 => z6X S2 (upd r 5 (z6an h r)) (z6s G (z6ad h r G) (r (c - 13))) ∧ z6fX S S2)))) := by
  refine rz_useV (c6_locate hh hX hG) (fun S1 hL => ?_)
  obtain ⟨l1, l2, l3, l4⟩ := hL
  have e0 : S1.2 37 0 = r 0 := l1.1 0 (by omega)
  have e1 : S1.2 37 1 = r 1 := l1.1 1 (by omega)
  have e2 : S1.2 37 2 = r 2 := l1.1 2 (by omega)
  have key : ∀ v, rz mProcessor_perform 84 [] [.int v, .int (S1.2 37 8), .ref 37] S1 (rz_v (fun S2 => z6X S2 (upd r 5 (z6an h r)) (z6s G (z6ad h r G) v) ∧ z6fX S S2)) := by
    intro v
    refine p_Processor_perform_84 (rz_toV (c6_set _ _) ?_)
    rw [l2]
    exact ⟨z6X_s l1, z6fX_m l4⟩
  show rz _ 0 [(0, .ref 37), (1, .int (nI c)), (2, .int (nI (h + 2)))] [] _ _
  have hs : c = 13 ∨ c = 14 ∨ c = 15 := by omega
  rcases hs with rfl | rfl | rfl
  · refine p_Processor_perform_0 ⟨fun _ => ⟨fun d => absurd d (by decide), fun _ => ⟨fun _ => ?_, fun d => absurd rfl d⟩⟩, fun d => absurd (by decide) d⟩
    rw [e0]
    exact key _
  · refine p_Processor_perform_0 ⟨fun _ => ⟨fun d => absurd d (by decide), fun _ => ⟨fun d => absurd d (by decide), fun _ => ⟨fun _ => ?_, fun d => absurd rfl d⟩⟩⟩, fun d => absurd (by decide) d⟩
    rw [e1]
    exact key _
  · refine p_Processor_perform_0 ⟨fun _ => ⟨fun d => absurd d (by decide), fun _ => ⟨fun d => absurd d (by decide), fun _ => ⟨fun d => absurd d (by decide), fun _ => ?_⟩⟩⟩, fun d => absurd (by decide) d⟩
    rw [e2]
    exact key _
theorem x6_change {h c : Nat} (hh : h ≤ 8) (hc : 16 ≤ c ∧ c ≤ 21) (hX : z6X S r G) (hG : ∀ a, byt (G a)) (h4 : byt (r 4)) : rz_ev mProcessor_locate [.ref 37, .int (nI (h + 2))] S (rz_v (fun S1 => rz_ev mProcessor_perform [.ref 37, .int (nI c), .int (nI (h + 2))] S1 (rz_v (fun S2 => z6X S2 (upd (upd r 5 (z6an h r)) 4 (z6hp c (r 4) (G (z6ad h r G)))) (z6s G (z6ad h r G) (z6hv c (r 4) (G (z6ad h r G)) &&& 255)) ∧ z6fX S S2)))) := by
  refine rz_useV (c6_locate hh hX hG) (fun S1 hL => ?_)
  obtain ⟨l1, l2, l3, l4⟩ := hL
  have e4 : S1.2 37 4 = r 4 := l1.1 4 (by omega)
  have b4 : byt (S1.2 37 4) := e4 ▸ h4
  show rz _ 0 [(0, .ref 37), (1, .int (nI c)), (2, .int (nI (h + 2)))] [] _ _
  refine p_Processor_perform_0 ⟨fun _ => ⟨fun _ => ⟨fun d => ?_, fun _ => ⟨fun d => ?_, fun _ => p_Processor_perform_108 (rz_toV (c6_changeM l1 hc b4) ?_)⟩⟩, fun d => ?_⟩, fun d => ?_⟩
  · have := (nI_ltI (a := 21) (by omega) (by omega)).mp d
    omega
  · have := (nI_eq (b := 1) (by omega) (by omega)).mp d
    omega
  · rw [l2, e4]
    exact ⟨z6X_s (z6X_u (k := 4) l1), z6fX_m (z6fX_u l4)⟩
  · exact absurd (nI_lt (a := 15) (by omega) (by omega)) d
  · exact absurd (nI_lt (a := 12) (by omega) (by omega)) d
end USE
section USM
variable {S : rz_S} {r : Nat → Int32} {G : Int32 → Int32}
theorem c7 {f g : Nat → Int32} (h0 : f 0 = g 0) (h1 : f 1 = g 1) (h2 : f 2 = g 2) (h3 : f 3 = g 3) (h4 : f 4 = g 4) (h5 : f 5 = g 5) (h6 : f 6 = g 6) : ∀ z, z ≤ 6 → f z = g z := by
  intro z hz
  match z, hz with
  | 0, _ => exact h0
  | 1, _ => exact h1
  | 2, _ => exact h2
  | 3, _ => exact h3
  | 4, _ => exact h4
  | 5, _ => exact h5
  | 6, _ => exact h6
  | n + 7, h => exact absurd h (by omega)
/-- the words with which a code's address and time are taken -/
def z6t (T : Nat) (r : Nat → Int32) : Nat → Int32 := upd r 6 (r 6 + nI T)
def z6Q (S : rz_S) (r' : Nat → Int32) (G' : Int32 → Int32) (x : Int32) (S1 : rz_S) : Prop := x = 1 ∧ z6M S1 r' G' ∧ z6fM S S1
theorem y6_fetches {h : Nat} {a : Nat} (ha : a ≤ 1) (hh : h ≤ 8) (hX : z6M S r G) : rz_ev mM_fetches [.ref 116, .int (nI a), .int (nI h)] S (rz_i (z6Q S (z6rd h (2 + a) (z6t (z6rt h) r) G) G)) := by
  show rz _ 0 [(0, .ref 116), (1, .int (nI a)), (2, .int (nI h))] [] _ _
  refine p_M_fetches_0 (rz_useI (d6_address hh hX) (fun x S1 hA => ?_))
  obtain ⟨rfl, a2, a3, a4⟩ := hA
  have e6 : S1.2 116 81 = r 6 := a2.1 6 (by omega)
  have e4 : S1.2 116 79 = r 4 := a2.1 4 (by omega)
  refine rz_toI (d6_get a2 _) (rz_toI (d6_readTime hh a3) ?_)
  rw [e6]
  have hU := z6M_u (k := 6) (v := r 6 + (nI (z6rt h) + z6al h r G)) a2
  have hs : a = 0 ∨ a = 1 := by omega
  rcases hs with rfl | rfl
  · refine ⟨fun _ => rz_toI (d6_marks _) ⟨rfl, z6M_e (z6M_u (k := 1) (z6M_u (k := 4) hU)) (c7 rfl rfl rfl rfl ?_ rfl ?_), z6fM_u (z6fM_u (z6fM_u a4 (by omega)) (by omega)) (by omega)⟩, fun d => absurd rfl d⟩
    · show z6k (S1.2 116 79) _ = _
      rw [e4]
      rfl
    · exact (Int32.add_assoc _ _ _).symm
  · refine ⟨fun d => absurd d (by decide), fun _ => rz_toI (d6_marks _) ⟨rfl, z6M_e (z6M_u (k := 2) (z6M_u (k := 4) hU)) (c7 rfl rfl rfl rfl ?_ rfl ?_), z6fM_u (z6fM_u (z6fM_u a4 (by omega)) (by omega)) (by omega)⟩⟩
    · show z6k (S1.2 116 79) _ = _
      rw [e4]
      rfl
    · exact (Int32.add_assoc _ _ _).symm
theorem y6_compared {h c : Nat} {v : Int32} (hc : c = 10 ∨ c = 11) (hv : v = r (c - 9)) (hh : h ≤ 8) (hX : z6M S r G) : rz_ev mM_compared [.ref 116, .int v, .int (nI h)] S (rz_i (z6Q S (z6rd h c (z6t (z6rt h) r) G) G)) := by
  subst hv
  show rz _ 0 [(0, .ref 116), (1, .int (r (c - 9))), (2, .int (nI h))] [] _ _
  refine p_M_compared_0 (rz_useI (d6_address hh hX) (fun x S1 hA => ?_))
  obtain ⟨rfl, a2, a3, a4⟩ := hA
  have e6 : S1.2 116 81 = r 6 := a2.1 6 (by omega)
  have e4 : S1.2 116 79 = r 4 := a2.1 4 (by omega)
  refine rz_toI (d6_get a2 _) (rz_toI (d6_readTime hh a3) ?_)
  rw [e6]
  have hU := z6M_u (k := 6) (v := r 6 + (nI (z6rt h) + z6al h r G)) a2
  refine rz_toV (d6_compares _ _) ⟨rfl, z6M_e (z6M_u (k := 4) hU) ?_, z6fM_u (z6fM_u a4 (by omega)) (by omega)⟩
  have e4' : (rz_uI S1 116 81 (r 6 + (nI (z6rt h) + z6al h r G))).2 116 79 = r 4 := e4
  rw [e4']
  rcases hc with rfl | rfl
  · exact c7 rfl rfl rfl rfl rfl rfl (Int32.add_assoc _ _ _).symm
  · exact c7 rfl rfl rfl rfl rfl rfl (Int32.add_assoc _ _ _).symm
theorem y6_tests {h : Nat} (hh : h ≤ 8) (hX : z6M S r G) : rz_ev mM_tests [.ref 116, .int (nI h)] S (rz_i (z6Q S (z6rd h 12 (z6t (z6rt h) r) G) G)) := by
  show rz _ 0 [(0, .ref 116), (1, .int (nI h))] [] _ _
  refine p_M_tests_0 (rz_useI (d6_address hh hX) (fun x S1 hA => ?_))
  obtain ⟨rfl, a2, a3, a4⟩ := hA
  have e6 : S1.2 116 81 = r 6 := a2.1 6 (by omega)
  have e4 : S1.2 116 79 = r 4 := a2.1 4 (by omega)
  have e0 : S1.2 116 75 = r 0 := a2.1 0 (by omega)
  refine rz_toI (d6_get a2 _) (rz_toI (d6_readTime hh a3) ?_)
  rw [e6, e0, ← Int32.add_assoc]
  generalize hv6 : (r 6 + nI (z6rt h)) + z6al h r G = v6
  have hU := z6M_u (k := 6) (v := v6) a2
  have e4' : (rz_uI S1 116 81 v6).2 116 79 = r 4 := e4
  have hE : ∀ Y, Y = z6bp (r 4) (r 0) (G (z6ad h r G)) → z6Q S (z6rd h 12 (z6t (z6rt h) r) G) G 1 (rz_uI (rz_uI S1 116 81 v6) 116 79 Y) := by
    intro Y eY
    refine ⟨rfl, z6M_e (z6M_u (k := 4) hU) ?_, z6fM_u (z6fM_u a4 (by omega)) (by omega)⟩
    have eR : z6rd h 12 (z6t (z6rt h) r) G = upd (upd (upd (z6t (z6rt h) r) 5 (z6an h r)) 6 ((r 6 + nI (z6rt h)) + z6al h r G)) 4 (z6bp (r 4) (r 0) (G (z6ad h r G))) := rfl
    rw [eR, ← eY, hv6]
    exact c7 rfl rfl rfl rfl rfl rfl rfl
  refine ⟨fun d => t6_t40 (hE _ ?_), fun d => t6_t40 (hE _ ?_)⟩
  · rw [e4', z6bp, z6_p (c := r 0 &&& G (z6ad h r G) = 0) d]
  · rw [e4', z6bp, z6_n (c := r 0 &&& G (z6ad h r G) = 0) d]
theorem y6_keeps {h : Nat} {v : Int32} (hh : h ≤ 8) (hX : z6M S r G) : rz_ev mM_keeps [.ref 116, .int v, .int (nI h)] S (rz_i (z6Q S (upd (z6t (z6st h) r) 5 (z6an h r)) (z6s G (z6ad h r G) v))) := by
  show rz _ 0 [(0, .ref 116), (1, .int v), (2, .int (nI h))] [] _ _
  refine p_M_keeps_0 (rz_useI (d6_address hh hX) (fun x S1 hA => ?_))
  obtain ⟨rfl, a2, a3, a4⟩ := hA
  refine rz_toV (d6_put _ _) (rz_toI (d6_storeTime hh) ⟨rfl, z6M_e (z6M_u (k := 6) (z6M_s a2)) (c7 rfl rfl rfl rfl rfl rfl ?_), z6fM_u (z6fM_m a4) (by omega)⟩)
  show S1.2 116 81 + nI (z6st h) = r 6 + nI (z6st h)
  rw [show S1.2 116 81 = r 6 from a2.1 6 (by omega)]
def z6ct (h : Nat) : Nat := match h with
  | 1 => 5
  | 5 => 7
  | _ => 6
theorem y6_changes {h c : Nat} (hh : h ≤ 8) (hc : 16 ≤ c ∧ c ≤ 21) (hX : z6M S r G) : rz_ev mM_changes [.ref 116, .int (nI (z6wh c)), .int (nI h)] S (rz_v (fun S1 => z6M S1 (upd (upd (z6t (z6ct h) r) 5 (z6an h r)) 4 (z6hp c (r 4) (G (z6ad h r G)))) (z6s G (z6ad h r G) (z6hv c (r 4) (G (z6ad h r G)) &&& 255)) ∧ z6fM S S1)) := by
  show rz _ 0 [(0, .ref 116), (1, .int (nI (z6wh c))), (2, .int (nI h))] [] _ _
  refine p_M_changes_0 (rz_useI (d6_address hh hX) (fun x S1 hA => ?_))
  obtain ⟨rfl, a2, a3, a4⟩ := hA
  have e4 : S1.2 116 79 = r 4 := a2.1 4 (by omega)
  have e6 : S1.2 116 81 = r 6 := a2.1 6 (by omega)
  refine rz_toI (d6_get a2 _) (rz_toI (d6_shifted _ hc) (rz_toV (d6_put _ _) ?_))
  rw [e4]
  have hU := z6M_s (a := z6ad h r G) (v := z6hv c (r 4) (G (z6ad h r G)) &&& 255) (z6M_u (k := 4) (v := z6hp c (r 4) (G (z6ad h r G))) a2)
  have key : ∀ n : Nat, n = z6ct h → z6M (rz_uI (rz_fA (rz_uI S1 116 79 (z6hp c (r 4) (G (z6ad h r G)))) 155 (upd (S1.1 155) ((z6ad h r G &&& 2047).toNatClampNeg) (vp_nar .byte (z6hv c (r 4) (G (z6ad h r G)) &&& 255).toInt8.toInt32))) 116 81 (S1.2 116 81 + nI n)) (upd (upd (z6t (z6ct h) r) 5 (z6an h r)) 4 (z6hp c (r 4) (G (z6ad h r G)))) (z6s G (z6ad h r G) (z6hv c (r 4) (G (z6ad h r G)) &&& 255)) := by
    intro n e
    subst e
    refine z6M_e (z6M_u (k := 6) hU) (c7 rfl rfl rfl rfl rfl rfl ?_)
    show S1.2 116 81 + nI (z6ct h) = r 6 + nI (z6ct h)
    rw [e6]
  have fr : ∀ w : Int32, z6fM S (rz_uI (rz_fA (rz_uI S1 116 79 (z6hp c (r 4) (G (z6ad h r G)))) 155 (upd (S1.1 155) ((z6ad h r G &&& 2047).toNatClampNeg) (vp_nar .byte (z6hv c (r 4) (G (z6ad h r G)) &&& 255).toInt8.toInt32))) 116 81 w) := fun w => z6fM_u (z6fM_m (z6fM_u a4 (by omega))) (by omega)
  refine ⟨fun d => ?_, fun d => ⟨fun d2 => ?_, fun d2 => ?_⟩⟩
  · have : h = 1 := (nI_eq (b := 1) (by omega) (by omega)).mp d
    subst this
    exact ⟨key 5 rfl, fr _⟩
  · have : h = 5 := (nI_eq (b := 5) (by omega) (by omega)).mp d2
    subst this
    exact ⟨key 7 rfl, fr _⟩
  · have h1 : ¬ h = 1 := fun z => d (by rw [z]; rfl)
    have h5 : ¬ h = 5 := fun z => d2 (by rw [z]; rfl)
    refine ⟨key 6 ?_, fr _⟩
    unfold z6ct
    split
    · exact absurd rfl h1
    · exact absurd rfl h5
    · rfl
end USM
