/-! the second processor: sums, differences, comparisons, shifts of both sides -/
def z6ov (a v u : Int32) : Int32 := (((a ^^^ v) ^^^ (-1)) &&& (a ^^^ u)) &&& 128
def z6ab (p a v c : Int32) : Int32 := z6k (z6f (z6f p 64 (z6c (¬ z6ov a v ((a + v) + c) = 0))) 1 (z6c (¬ (a + v) + c ≤ 255))) ((a + v) + c)
def z6dl (a v c : Int32) : Int32 := if ((a &&& 15) + (v &&& 15)) + c ≤ 9 then ((a &&& 15) + (v &&& 15)) + c else 16 + (((((a &&& 15) + (v &&& 15)) + c) + 6) &&& 15)
def z6du (a v c : Int32) : Int32 := ((a &&& 240) + (v &&& 240)) + z6dl a v c
def z6d2 (u : Int32) : Int32 := if u ≤ 159 then u else u + 96
def z6dp (p a v c : Int32) : Int32 := z6f (z6f (z6f (z6f p 2 (z6c (((a + v) + c) &&& 255 = 0))) 128 (z6c (¬ (z6du a v c) &&& 128 = 0))) 64 (z6c (¬ z6ov a v (z6du a v c) = 0))) 1 (z6c (¬ z6d2 (z6du a v c) ≤ 255))
def z6ap (p a v : Int32) : Int32 := if p &&& 8 = 0 then z6ab p a v (p &&& 1) else z6dp p a v (p &&& 1)
def z6aa (p a v : Int32) : Int32 := if p &&& 8 = 0 then ((a + v) + (p &&& 1)) &&& 255 else z6d2 (z6du a v (p &&& 1)) &&& 255
theorem z6_c1 (p : Int32) : z6c (¬ p &&& 1 = 0) = p &&& 1 := by
  obtain ⟨j, hj, e⟩ := pk_andE p (m := 1) 1 (by decide)
  rw [e]
  match j, hj with
  | 0, _ => rfl
  | 1, _ => rfl
theorem z6_ab0 : ∀ n, n < 256 → ∀ wn wv wz wc : Bool, (((((nI n &&& (-196)) ||| (if wn then 128 else 0)) ||| (if wv then 64 else 0)) ||| (if wz then 2 else 0)) ||| (if wc then 1 else 0)) = z6f (z6f (z6f (z6f (nI n) 64 (z6b wv)) 1 (z6b wc)) 2 (z6b wz)) 128 (z6b wn) := by decide +kernel
theorem z6_ite {c : Prop} [Decidable c] {x y : Int32} : (if c then x else y) = if decide c = true then x else y := by
  by_cases h : c
  · rw [if_pos h, if_pos (decide_eq_true h)]
  · rw [if_neg h, if_neg (by rw [decide_eq_false h]; decide)]
theorem z6_i128 (v : Int32) : v &&& 128 = if ¬ v &&& 128 = 0 then 128 else 0 := by
  rcases z6_128 v with h | h
  · rw [if_neg (fun z => z h), h]
  · rw [if_pos (by rw [h]; decide), h]
theorem z6_abE {p s a3 z c : Int32} {wv : Prop} [Decidable wv] (hp : byt p) (h3 : a3 = if wv then 64 else 0) (hz : z = if s &&& 255 = 0 then 2 else 0) (hc : c = if ¬ s ≤ 255 then 1 else 0) : (((((p &&& (-196)) ||| (s &&& 128)) ||| a3) ||| z) ||| c) = z6k (z6f (z6f p 64 (z6c wv)) 1 (z6c (¬ s ≤ 255))) s := by
  obtain ⟨n, hn, rfl⟩ := hp
  subst h3 hz hc
  unfold z6k
  rw [z6cb, z6cb, z6cb, z6cb, ← z6_ab0 n hn, ← z6_ite, ← z6_ite, ← z6_ite, ← z6_ite, ← z6_i128]
section ARI
variable {S : rz_S} {K : rz_S → Prop}
theorem t6_ab55 {a2 a3 s0 : Int32} (w : K (rz_uI (rz_uI S 37 4 ((((((S.2 37 4) &&& (-196)) ||| (a2 &&& 128)) ||| a3) ||| (if a2 &&& 255 = 0 then 2 else 0)) ||| s0)) 37 0 (a2 &&& 255))) : rz mProcessor_addBinary 55 [(0, .ref 37), (2, .int a2), (3, .int a3)] [.int s0] S (rz_v K) :=
  p_Processor_addBinary_55 ⟨fun c => p_Processor_addBinary_70 (by rw [if_pos c] at w; exact w), fun c => p_Processor_addBinary_70 (by rw [if_neg c] at w; exact w)⟩
theorem t6_ab42 {a2 s0 : Int32} (w : K (rz_uI (rz_uI S 37 4 ((((((S.2 37 4) &&& (-196)) ||| (a2 &&& 128)) ||| s0) ||| (if a2 &&& 255 = 0 then 2 else 0)) ||| (if ¬ a2 ≤ 255 then 1 else 0))) 37 0 (a2 &&& 255))) : rz mProcessor_addBinary 42 [(0, .ref 37), (2, .int a2)] [.int s0] S (rz_v K) :=
  p_Processor_addBinary_42 ⟨fun c => t6_ab55 (by rw [if_neg (c := ¬ a2 ≤ 255) (fun z => z c)] at w; exact w), fun c => t6_ab55 (by rw [if_pos (c := ¬ a2 ≤ 255) c] at w; exact w)⟩
theorem c6_addBinary (v : Int32) (hp : byt (S.2 37 4)) : rz_ev mProcessor_addBinary [.ref 37, .int v] S (rz_v (fun S1 => S1 = rz_uI (rz_uI S 37 4 (z6ab (S.2 37 4) (S.2 37 0) v (S.2 37 4 &&& 1))) 37 0 ((((S.2 37 0) + v) + (S.2 37 4 &&& 1)) &&& 255))) := by
  show rz _ 0 [(0, .ref 37), (1, .int v)] [] _ _
  refine p_Processor_addBinary_0 ⟨fun c => t6_ab42 ?_, fun c => t6_ab42 ?_⟩
  · rw [z6_abE (wv := ¬ z6ov (S.2 37 0) v (((S.2 37 0) + v) + (S.2 37 4 &&& 1)) = 0) hp (by rw [if_neg (c := ¬ z6ov (S.2 37 0) v (((S.2 37 0) + v) + (S.2 37 4 &&& 1)) = 0) (fun z => z c)]) rfl rfl]
    rfl
  · rw [z6_abE (wv := ¬ z6ov (S.2 37 0) v (((S.2 37 0) + v) + (S.2 37 4 &&& 1)) = 0) hp (by rw [if_pos (c := ¬ z6ov (S.2 37 0) v (((S.2 37 0) + v) + (S.2 37 4 &&& 1)) = 0) c]) rfl rfl]
    rfl
theorem t6_a176 {a3 s0 s1 : Int32} (w : K (rz_uI (rz_uI S 37 4 (z6f (S.2 37 4) s1 s0)) 37 0 (a3 &&& 255))) : rz mProcessor_add 176 [(0, .ref 37), (3, .int a3)] [.int s0, .int s1, .ref 37] S (rz_v K) := p_Processor_add_176 (rz_toV (c6_flag _ _) w)
theorem t6_a162 {a3 : Int32} (w : K (rz_uI (rz_uI S 37 4 (z6f (S.2 37 4) 1 (z6c (¬ a3 ≤ 255)))) 37 0 (a3 &&& 255))) : rz mProcessor_add 162 [(0, .ref 37), (3, .int a3)] [] S (rz_v K) :=
  p_Processor_add_162 ⟨fun c => t6_a176 (by rw [z6_n (fun z => z c)] at w; exact w), fun c => t6_a176 (by rw [z6_p c] at w; exact w)⟩
theorem t6_a149 {a3 s0 s1 : Int32} (w : K (rz_uI (rz_uI S 37 4 (z6f (z6f (S.2 37 4) s1 s0) 1 (z6c (¬ z6d2 a3 ≤ 255)))) 37 0 (z6d2 a3 &&& 255))) : rz mProcessor_add 149 [(0, .ref 37), (3, .int a3)] [.int s0, .int s1, .ref 37] S (rz_v K) := by
  refine p_Processor_add_149 (rz_toV (c6_flag _ _) ⟨fun c => t6_a162 ?_, fun c => t6_a162 ?_⟩)
  · rw [rz_uIU, rz_uI_s]
    rw [z6d2, if_pos c] at w
    exact w
  · rw [rz_uIU, rz_uI_s]
    rw [z6d2, if_neg c] at w
    exact w
theorem t6_a116 {a1 a3 s0 s1 : Int32} (w : K (rz_uI (rz_uI S 37 4 (z6f (z6f (z6f (S.2 37 4) s1 s0) 64 (z6c (¬ z6ov (S.2 37 0) a1 a3 = 0))) 1 (z6c (¬ z6d2 a3 ≤ 255)))) 37 0 (z6d2 a3 &&& 255))) : rz mProcessor_add 116 [(0, .ref 37), (1, .int a1), (3, .int a3)] [.int s0, .int s1, .ref 37] S (rz_v K) := by
  refine p_Processor_add_116 (rz_toV (c6_flag _ _) ⟨fun c => t6_a149 ?_, fun c => t6_a149 ?_⟩)
  · rw [rz_uIU, rz_uI_s]
    rw [z6_n (fun z => z c)] at w
    exact w
  · rw [rz_uIU, rz_uI_s]
    rw [z6_p (c := ¬ z6ov (S.2 37 0) a1 a3 = 0) c] at w
    exact w
theorem t6_a96 {a1 a3 s0 s1 : Int32} (w : K (rz_uI (rz_uI S 37 4 (z6f (z6f (z6f (z6f (S.2 37 4) s1 s0) 128 (z6c (¬ a3 &&& 128 = 0))) 64 (z6c (¬ z6ov (S.2 37 0) a1 a3 = 0))) 1 (z6c (¬ z6d2 a3 ≤ 255)))) 37 0 (z6d2 a3 &&& 255))) : rz mProcessor_add 96 [(0, .ref 37), (1, .int a1), (3, .int a3)] [.int s0, .int s1, .ref 37] S (rz_v K) := by
  refine p_Processor_add_96 (rz_toV (c6_flag _ _) ⟨fun c => t6_a116 ?_, fun c => t6_a116 ?_⟩)
  · rw [rz_uIU, rz_uI_s]
    rw [z6_n (c := ¬ a3 &&& 128 = 0) (fun z => z c)] at w
    exact w
  · rw [rz_uIU, rz_uI_s]
    rw [z6_p (c := ¬ a3 &&& 128 = 0) c] at w
    exact w
theorem c6_add (v : Int32) (hp : byt (S.2 37 4)) : rz_ev mProcessor_add [.ref 37, .int v] S (rz_v (fun S1 => S1 = rz_uI (rz_uI S 37 4 (z6ap (S.2 37 4) (S.2 37 0) v)) 37 0 (z6aa (S.2 37 4) (S.2 37 0) v))) := by
  have key : ∀ a2, a2 = z6dl (S.2 37 0) v (S.2 37 4 &&& 1) → ¬ S.2 37 4 &&& 8 = 0 → rz mProcessor_add 52 [(0, .ref 37), (1, .int v), (2, .int a2)] [] S (rz_v (fun S1 => S1 = rz_uI (rz_uI S 37 4 (z6ap (S.2 37 4) (S.2 37 0) v)) 37 0 (z6aa (S.2 37 4) (S.2 37 0) v))) := by
    intro a2 e hd
    subst e
    unfold z6ap z6aa
    rw [if_neg hd, if_neg hd]
    refine p_Processor_add_52 ⟨fun c => t6_a96 ?_, fun c => t6_a96 ?_⟩
    · unfold z6dp
      rw [z6_p (c := (((S.2 37 0) + v) + (S.2 37 4 &&& 1)) &&& 255 = 0) c]
      rfl
    · unfold z6dp
      rw [z6_n (c := (((S.2 37 0) + v) + (S.2 37 4 &&& 1)) &&& 255 = 0) c]
      rfl
  show rz _ 0 [(0, .ref 37), (1, .int v)] [] _ _
  refine p_Processor_add_0 (rz_toI (c6_has 8) ⟨fun c => ?_, fun c => ?_⟩)
  · have hd : S.2 37 4 &&& 8 = 0 := by
      by_cases z : S.2 37 4 &&& 8 = 0
      · exact z
      · rw [z6_p z] at c; exact absurd c (by decide)
    refine rz_toV (c6_addBinary v hp) ?_
    unfold z6ap z6aa
    rw [if_pos hd, if_pos hd]
  · have hd : ¬ S.2 37 4 &&& 8 = 0 := fun z => c (z6_n (fun y => y z))
    refine ⟨fun d => key _ ?_ hd, fun d => key _ ?_ hd⟩
    · rw [z6dl, if_pos d]
    · rw [z6dl, if_neg d]
end ARI
section ARM
variable {S : rz_S} {K : rz_S → Prop}
theorem t6_m79 {a3 s0 s1 : Int32} (w : K (rz_uI (rz_uI S 116 79 (z6k (z6f (S.2 116 79) s1 s0) a3)) 116 75 (a3 &&& 255))) : rz mM_adds 79 [(0, .ref 116), (3, .int a3)] [.int s0, .int s1, .ref 116] S (rz_v K) := by
  refine p_M_adds_79 (rz_toV (d6_flag _ _) (rz_toI (d6_marks _) ?_))
  rw [rz_uIU, rz_uI_s]
  exact w
theorem t6_m62 {a3 s0 s1 : Int32} (w : K (rz_uI (rz_uI S 116 79 (z6k (z6f (z6f (S.2 116 79) s1 s0) 1 (z6c (¬ a3 ≤ 255))) a3)) 116 75 (a3 &&& 255))) : rz mM_adds 62 [(0, .ref 116), (3, .int a3)] [.int s0, .int s1, .ref 116] S (rz_v K) := by
  refine p_M_adds_62 (rz_toV (d6_flag _ _) ⟨fun c => t6_m79 ?_, fun c => t6_m79 ?_⟩)
  · rw [rz_uIU, rz_uI_s]
    rw [z6_n (c := ¬ a3 ≤ 255) (fun z => z c)] at w
    exact w
  · rw [rz_uIU, rz_uI_s]
    rw [z6_p (c := ¬ a3 ≤ 255) c] at w
    exact w
theorem t6_m250 {a3 s0 s1 : Int32} (w : K (rz_uI (rz_uI S 116 79 (z6f (S.2 116 79) s1 s0)) 116 75 (a3 &&& 255))) : rz mM_adds 250 [(0, .ref 116), (5, .int a3)] [.int s0, .int s1, .ref 116] S (rz_v K) := p_M_adds_250 (rz_toV (d6_flag _ _) w)
theorem t6_m235 {a3 : Int32} (w : K (rz_uI (rz_uI S 116 79 (z6f (S.2 116 79) 1 (z6c (¬ a3 ≤ 255)))) 116 75 (a3 &&& 255))) : rz mM_adds 235 [(0, .ref 116), (5, .int a3)] [] S (rz_v K) :=
  p_M_adds_235 ⟨fun c => t6_m250 (by rw [z6_n (fun z => z c)] at w; exact w), fun c => t6_m250 (by rw [z6_p c] at w; exact w)⟩
theorem t6_m217 {a3 s0 s1 : Int32} (w : K (rz_uI (rz_uI S 116 79 (z6f (z6f (S.2 116 79) s1 s0) 1 (z6c (¬ z6d2 a3 ≤ 255)))) 116 75 (z6d2 a3 &&& 255))) : rz mM_adds 217 [(0, .ref 116), (5, .int a3)] [.int s0, .int s1, .ref 116] S (rz_v K) := by
  refine p_M_adds_217 (rz_toV (d6_flag _ _) ⟨fun c => t6_m235 ?_, fun c => t6_m235 ?_⟩)
  · rw [rz_uIU, rz_uI_s]
    rw [z6d2, if_pos c] at w
    exact w
  · rw [rz_uIU, rz_uI_s]
    rw [z6d2, if_neg c] at w
    exact w
theorem t6_m183 {a1 a3 s0 s1 : Int32} (w : K (rz_uI (rz_uI S 116 79 (z6f (z6f (z6f (S.2 116 79) s1 s0) 64 (z6c (¬ z6ov (S.2 116 75) a1 a3 = 0))) 1 (z6c (¬ z6d2 a3 ≤ 255)))) 116 75 (z6d2 a3 &&& 255))) : rz mM_adds 183 [(0, .ref 116), (1, .int a1), (5, .int a3)] [.int s0, .int s1, .ref 116] S (rz_v K) := by
  refine p_M_adds_183 (rz_toV (d6_flag _ _) ⟨fun c => t6_m217 ?_, fun c => t6_m217 ?_⟩)
  · rw [rz_uIU, rz_uI_s]
    rw [z6_n (fun z => z c)] at w
    exact w
  · rw [rz_uIU, rz_uI_s]
    rw [z6_p (c := ¬ z6ov (S.2 116 75) a1 a3 = 0) c] at w
    exact w
theorem t6_m162 {a1 a3 s0 s1 : Int32} (w : K (rz_uI (rz_uI S 116 79 (z6f (z6f (z6f (z6f (S.2 116 79) s1 s0) 128 (z6c (¬ a3 &&& 128 = 0))) 64 (z6c (¬ z6ov (S.2 116 75) a1 a3 = 0))) 1 (z6c (¬ z6d2 a3 ≤ 255)))) 116 75 (z6d2 a3 &&& 255))) : rz mM_adds 162 [(0, .ref 116), (1, .int a1), (5, .int a3)] [.int s0, .int s1, .ref 116] S (rz_v K) := by
  refine p_M_adds_162 (rz_toV (d6_flag _ _) ⟨fun c => t6_m183 ?_, fun c => t6_m183 ?_⟩)
  · rw [rz_uIU, rz_uI_s]
    rw [z6_n (c := ¬ a3 &&& 128 = 0) (fun z => z c)] at w
    exact w
  · rw [rz_uIU, rz_uI_s]
    rw [z6_p (c := ¬ a3 &&& 128 = 0) c] at w
    exact w
theorem t6_m13 {v s0 : Int32} (e0 : s0 = S.2 116 79 &&& 1) (w : K (rz_uI (rz_uI S 116 79 (z6ap (S.2 116 79) (S.2 116 75) v)) 116 75 (z6aa (S.2 116 79) (S.2 116 75) v))) : rz mM_adds 13 [(0, .ref 116), (1, .int v)] [.int s0] S (rz_v K) := by
  subst e0
  have key : ∀ a2, a2 = z6dl (S.2 116 75) v (S.2 116 79 &&& 1) → ¬ S.2 116 79 &&& 8 = 0 → rz mM_adds 128 [(0, .ref 116), (1, .int v), (3, .int (((S.2 116 75) + v) + (S.2 116 79 &&& 1))), (4, .int a2)] [] S (rz_v K) := by
    intro a2 e hd
    subst e
    unfold z6ap z6aa at w
    rw [if_neg hd, if_neg hd] at w
    refine p_M_adds_128 ⟨fun c => t6_m162 ?_, fun c => t6_m162 ?_⟩
    · unfold z6dp at w
      rw [z6_p (c := (((S.2 116 75) + v) + (S.2 116 79 &&& 1)) &&& 255 = 0) c] at w
      exact w
    · unfold z6dp at w
      rw [z6_n (c := (((S.2 116 75) + v) + (S.2 116 79 &&& 1)) &&& 255 = 0) c] at w
      exact w
  refine p_M_adds_13 (rz_toI (d6_is 8) ⟨fun c => ?_, fun c => ?_⟩)
  · have hd : S.2 116 79 &&& 8 = 0 := by
      by_cases z : S.2 116 79 &&& 8 = 0
      · exact z
      · rw [z6_p z] at c; exact absurd c (by decide)
    unfold z6ap z6aa z6ab at w
    rw [if_pos hd, if_pos hd] at w
    refine ⟨fun d => t6_m62 ?_, fun d => t6_m62 ?_⟩
    · rw [z6_n (c := ¬ z6ov (S.2 116 75) v (((S.2 116 75) + v) + (S.2 116 79 &&& 1)) = 0) (fun z => z d)] at w
      exact w
    · rw [z6_p (c := ¬ z6ov (S.2 116 75) v (((S.2 116 75) + v) + (S.2 116 79 &&& 1)) = 0) d] at w
      exact w
  · have hd : ¬ S.2 116 79 &&& 8 = 0 := fun z => c (z6_n (fun y => y z))
    refine ⟨fun d => key _ ?_ hd, fun d => key _ ?_ hd⟩
    · rw [z6dl, if_pos d]
    · rw [z6dl, if_neg d]
theorem d6_adds (v : Int32) : rz_ev mM_adds [.ref 116, .int v] S (rz_v (fun S1 => S1 = rz_uI (rz_uI S 116 79 (z6ap (S.2 116 79) (S.2 116 75) v)) 116 75 (z6aa (S.2 116 79) (S.2 116 75) v))) := by
  show rz _ 0 [(0, .ref 116), (1, .int v)] [] _ _
  have h := z6_c1 (S.2 116 79)
  refine p_M_adds_0 (rz_toI (d6_is 1) ⟨fun c => t6_m13 ?_ rfl, fun c => t6_m13 ?_ rfl⟩)
  · rw [← h, c]
  · rw [← h]
    by_cases z : S.2 116 79 &&& 1 = 0
    · exact absurd (z6_n (fun y => y z)) c
    · rw [z6_p z]
end ARM
/-! differences -/
def z6sd (a v c : Int32) : Int32 := ((a - v) - 1) + c
def z6sp (p a v : Int32) : Int32 := z6k (z6f (z6f p 64 (z6c (¬ ((a ^^^ v) &&& (a ^^^ z6sd a v (p &&& 1))) &&& 128 = 0))) 1 (z6c (¬ z6sd a v (p &&& 1) < 0))) (z6sd a v (p &&& 1))
def z6tl (a v c : Int32) : Int32 := if 0 ≤ (((a &&& 15) - (v &&& 15)) - 1) + c then (((a &&& 15) - (v &&& 15)) - 1) + c else ((((((a &&& 15) - (v &&& 15)) - 1) + c) - 6) &&& 15) - 16
def z6tu (a v c : Int32) : Int32 := ((a &&& 240) - (v &&& 240)) + z6tl a v c
def z6t2 (u : Int32) : Int32 := if 0 ≤ u then u else u - 96
def z6sa (p a v : Int32) : Int32 := if p &&& 8 = 0 then z6sd a v (p &&& 1) &&& 255 else z6t2 (z6tu a v (p &&& 1)) &&& 255
theorem z6_x255 : ∀ j, j < 256 → nI j ^^^ 255 = nI (255 - j) := by decide +kernel
theorem z6_s256 : ∀ s, s < 512 → (nI s - 256) &&& 255 = nI s &&& 255 := by decide +kernel
theorem z6_sum {i j k : Nat} (hi : i < 256) (hj : j < 256) (hk : k < 2) : z6sd (nI i) (nI j) (nI k) = nI (i + (255 - j) + k) - 256 := by
  unfold z6sd
  apply Int32.toBitVec_inj.mp
  show ((BitVec.ofNat 32 i - BitVec.ofNat 32 j) - 1#32) + BitVec.ofNat 32 k = BitVec.ofNat 32 (i + (255 - j) + k) - 256#32
  apply BitVec.eq_of_toNat_eq
  simp only [BitVec.toNat_add, BitVec.toNat_sub, BitVec.toNat_ofNat]
  omega
theorem z6_b7 {x y : Int32} (h : x &&& 255 = y &&& 255) : bt x 7 = bt y 7 := by
  have h1 := congrArg (fun z => bt z 7) h
  simp only [b_and, b_255] at h1
  simpa using h1
theorem z6_128b (x : Int32) : x &&& 128 = if bt x 7 then 128 else 0 := by
  have h : ∀ n, n < 256 → nI n &&& 128 = if bt (nI n) 7 then 128 else 0 := by decide +kernel
  obtain ⟨j, hj, e⟩ := pk_andE x (m := 255) 8 (by decide)
  have e1 : x &&& 128 = (x &&& 255) &&& 128 := by rw [Int32.and_assoc]; exact congrArg (fun z => x &&& z) (by decide)
  have e2 : bt x 7 = bt (x &&& 255) 7 := by rw [b_and, b_255]; simp
  rw [e1, e2, e]
  exact h j hj
theorem z6k_c {p x y : Int32} (h : x &&& 255 = y &&& 255) : z6k p x = z6k p y := by
  unfold z6k
  rw [h, z6_128b x, z6_128b y, z6_b7 h]
theorem z6_ovs {a v s d : Int32} (h : s &&& 255 = d &&& 255) : z6ov a (v ^^^ 255) s = ((a ^^^ v) &&& (a ^^^ d)) &&& 128 := by
  unfold z6ov
  rw [z6_128b, z6_128b]
  have : bt (((a ^^^ (v ^^^ 255)) ^^^ (-1)) &&& (a ^^^ s)) 7 = bt ((a ^^^ v) &&& (a ^^^ d)) 7 := by
    simp only [b_and, b_xor, b_255, z6_b7 h, b_m1 7 (by omega)]
    cases bt a 7 <;> cases bt v 7 <;> cases bt d 7 <;> rfl
  rw [this]
theorem z6_subE {p a v : Int32} (ha : byt a) (hv : byt v) : z6ab p a (v ^^^ 255) (p &&& 1) = z6sp p a v ∧ ((a + (v ^^^ 255)) + (p &&& 1)) &&& 255 = z6sd a v (p &&& 1) &&& 255 := by
  obtain ⟨i, hi, rfl⟩ := ha
  obtain ⟨j, hj, rfl⟩ := hv
  obtain ⟨k, hk, e⟩ := pk_andE p (m := 1) 1 (by decide)
  unfold z6ab z6sp
  rw [e, z6_sum hi hj (by omega)]
  have es : (nI i + (nI j ^^^ 255)) + nI k = nI (i + (255 - j) + k) := by rw [z6_x255 j hj, nI_add, nI_add]
  rw [es]
  have h255 := (z6_s256 (i + (255 - j) + k) (by omega)).symm
  refine ⟨?_, h255⟩
  rw [z6k_c h255, z6_ovs h255]
  have hc : z6c (¬ nI (i + (255 - j) + k) ≤ 255) = z6c (¬ nI (i + (255 - j) + k) - 256 < 0) := by
    rw [z6cb, z6cb]
    congr 1
    apply decide_eq_decide.mpr
    have h1 := nI_leI (a := i + (255 - j) + k) (b := 255) (by omega) (by omega)
    by_cases z : i + (255 - j) + k ≤ 255
    · have h2 : nI (i + (255 - j) + k) - nI 256 < 0 := pk_sneg (by omega) (by omega)
      exact ⟨fun q => absurd (h1.mpr z) q, fun q => absurd h2 q⟩
    · have h2 : nI (i + (255 - j) + k) - nI 256 = nI (i + (255 - j) + k - 256) := pk_sub (by omega)
      have h3 : ¬ nI (i + (255 - j) + k) - nI 256 < 0 := by rw [h2]; exact nI_pos (by omega)
      exact ⟨fun _ => h3, fun _ q => z (h1.mp q)⟩
  rw [hc]
theorem z6_k8 : ∀ n, n < 256 → ∀ w1 w2 w3 w4 : Bool, z6f (z6f (z6f (z6f (nI n) 64 (z6b w1)) 1 (z6b w2)) 2 (z6b w3)) 128 (z6b w4) &&& 8 = nI n &&& 8 := by decide +kernel
theorem z6_sp8 {p a v : Int32} (hp : byt p) : z6sp p a v &&& 8 = p &&& 8 := by
  obtain ⟨n, hn, rfl⟩ := hp
  unfold z6sp z6k
  rw [z6cb, z6cb, z6cb, z6cb]
  exact z6_k8 n hn _ _ _ _
section SUB
variable {S : rz_S} {K : rz_S → Prop}
theorem t6_s61 {v a3 : Int32} (hp : byt (S.2 37 4)) (ha : byt (S.2 37 0)) (hv : byt v) (h3 : ¬ S.2 37 4 &&& 8 = 0 → a3 = z6t2 (z6tu (S.2 37 0) v (S.2 37 4 &&& 1))) (w : K (rz_uI (rz_uI S 37 4 (z6sp (S.2 37 4) (S.2 37 0) v)) 37 0 (z6sa (S.2 37 4) (S.2 37 0) v))) : rz mProcessor_subtract 61 [(0, .ref 37), (1, .int v), (3, .int a3)] [] S (rz_v K) := by
  obtain ⟨e1, e2⟩ := z6_subE (p := S.2 37 4) ha hv
  refine p_Processor_subtract_61 (rz_toV (c6_addBinary _ hp) (rz_toI (c6_has 8) ?_))
  rw [e1, e2]
  have e8 : (rz_uI (rz_uI S 37 4 (z6sp (S.2 37 4) (S.2 37 0) v)) 37 0 (z6sd (S.2 37 0) v (S.2 37 4 &&& 1) &&& 255)).2 37 4 = z6sp (S.2 37 4) (S.2 37 0) v := rfl
  rw [e8, z6_sp8 hp]
  unfold z6sa at w
  refine ⟨fun c => ?_, fun c => ?_⟩
  · have hd : S.2 37 4 &&& 8 = 0 := by
      by_cases z : S.2 37 4 &&& 8 = 0
      · exact z
      · rw [z6_p z] at c; exact absurd c (by decide)
    rw [if_pos hd] at w
    exact w
  · have hd : ¬ S.2 37 4 &&& 8 = 0 := fun z => c (z6_n (fun y => y z))
    rw [if_neg hd] at w
    rw [h3 hd, rz_uIU]
    exact w
theorem c6_sub (v : Int32) (hp : byt (S.2 37 4)) (ha : byt (S.2 37 0)) (hv : byt v) : rz_ev mProcessor_subtract [.ref 37, .int v] S (rz_v (fun S1 => S1 = rz_uI (rz_uI S 37 4 (z6sp (S.2 37 4) (S.2 37 0) v)) 37 0 (z6sa (S.2 37 4) (S.2 37 0) v))) := by
  have key : ∀ a2, a2 = z6tl (S.2 37 0) v (S.2 37 4 &&& 1) → rz mProcessor_subtract 37 [(0, .ref 37), (1, .int v), (2, .int a2)] [] S (rz_v (fun S1 => S1 = rz_uI (rz_uI S 37 4 (z6sp (S.2 37 4) (S.2 37 0) v)) 37 0 (z6sa (S.2 37 4) (S.2 37 0) v))) := by
    intro a2 e
    subst e
    refine p_Processor_subtract_37 ⟨fun c => t6_s61 hp ha hv (fun _ => ?_) rfl, fun c => t6_s61 hp ha hv (fun _ => ?_) rfl⟩
    · unfold z6t2
      rw [if_pos (show 0 ≤ z6tu (S.2 37 0) v (S.2 37 4 &&& 1) from c)]
      rfl
    · unfold z6t2
      rw [if_neg (show ¬ 0 ≤ z6tu (S.2 37 0) v (S.2 37 4 &&& 1) from c)]
      exact (Int32.sub_eq_add_neg (z6tu (S.2 37 0) v (S.2 37 4 &&& 1)) 96).symm
  show rz _ 0 [(0, .ref 37), (1, .int v)] [] _ _
  refine p_Processor_subtract_0 ⟨fun d => key _ ?_, fun d => key _ ?_⟩
  · rw [z6tl, if_pos d]
  · rw [z6tl, if_neg d]
theorem t6_o122 {v a4 a6 : Int32} (w : K (rz_uI S 116 75 (z6t2 (((a4 &&& 240) - (v &&& 240)) + a6) &&& 255))) : rz mM_takesOff 122 [(0, .ref 116), (1, .int v), (4, .int a4), (6, .int a6)] [] S (rz_v K) := by
  unfold z6t2 at w
  refine p_M_takesOff_122 ⟨fun c => ?_, fun c => ?_⟩
  · rw [if_pos c] at w; exact w
  · rw [if_neg c] at w; exact w
theorem t6_o69 {v a2 a3 a4 s0 s1 : Int32} (w : K (rz_uI (rz_uI S 116 79 (z6k (z6f (S.2 116 79) s1 s0) a3)) 116 75 (if z6k (z6f (S.2 116 79) s1 s0) a3 &&& 8 = 0 then a3 &&& 255 else z6t2 (z6tu a4 v a2) &&& 255))) : rz mM_takesOff 69 [(0, .ref 116), (1, .int v), (2, .int a2), (3, .int a3), (4, .int a4)] [.int s0, .int s1, .ref 116] S (rz_v K) := by
  refine p_M_takesOff_69 (rz_toV (d6_flag _ _) (rz_toI (d6_marks _) (rz_toI (d6_is 8) ?_)))
  simp only [rz_uIU, rz_uI_s]
  refine ⟨fun c => ?_, fun c => ?_⟩
  · have hd : z6k (z6f (S.2 116 79) s1 s0) a3 &&& 8 = 0 := by
      by_cases z : z6k (z6f (S.2 116 79) s1 s0) a3 &&& 8 = 0
      · exact z
      · rw [z6_p z] at c; exact absurd c (by decide)
    rw [if_pos hd] at w
    exact w
  · have hd : ¬ z6k (z6f (S.2 116 79) s1 s0) a3 &&& 8 = 0 := fun z => c (z6_n (fun y => y z))
    rw [if_neg hd] at w
    unfold z6tu z6tl at w
    refine ⟨fun d => t6_o122 ?_, fun d => t6_o122 ?_⟩
    · rw [if_pos d] at w; exact w
    · rw [if_neg d] at w; exact w
theorem t6_o55 {v a2 a3 a4 s0 s1 : Int32} (w : K (rz_uI (rz_uI S 116 79 (z6k (z6f (z6f (S.2 116 79) s1 s0) 1 (z6c (¬ a3 < 0))) a3)) 116 75 (if z6k (z6f (z6f (S.2 116 79) s1 s0) 1 (z6c (¬ a3 < 0))) a3 &&& 8 = 0 then a3 &&& 255 else z6t2 (z6tu a4 v a2) &&& 255))) : rz mM_takesOff 55 [(0, .ref 116), (1, .int v), (2, .int a2), (3, .int a3), (4, .int a4)] [.int s0, .int s1, .ref 116] S (rz_v K) := by
  refine p_M_takesOff_55 (rz_toV (d6_flag _ _) ⟨fun c => t6_o69 ?_, fun c => t6_o69 ?_⟩)
  · rw [rz_uIU, rz_uI_s]
    rw [z6_n (c := ¬ a3 < 0) (fun z => z c)] at w
    exact w
  · rw [rz_uIU, rz_uI_s]
    rw [z6_p (c := ¬ a3 < 0) c] at w
    exact w
theorem d6_takesOff (v : Int32) (hp : byt (S.2 116 79)) : rz_ev mM_takesOff [.ref 116, .int v] S (rz_v (fun S1 => S1 = rz_uI (rz_uI S 116 79 (z6sp (S.2 116 79) (S.2 116 75) v)) 116 75 (z6sa (S.2 116 79) (S.2 116 75) v))) := by
  have key : ∀ s0, s0 = S.2 116 79 &&& 1 → rz mM_takesOff 13 [(0, .ref 116), (1, .int v)] [.int s0] S (rz_v (fun S1 => S1 = rz_uI (rz_uI S 116 79 (z6sp (S.2 116 79) (S.2 116 75) v)) 116 75 (z6sa (S.2 116 79) (S.2 116 75) v))) := by
    intro s0 e0
    subst e0
    have h8 := z6_sp8 (p := S.2 116 79) (a := S.2 116 75) (v := v) hp
    unfold z6sp at h8
    refine p_M_takesOff_13 ⟨fun c => t6_o55 ?_, fun c => t6_o55 ?_⟩
    · unfold z6sp z6sa
      rw [z6_n (c := ¬ ((S.2 116 75 ^^^ v) &&& (S.2 116 75 ^^^ z6sd (S.2 116 75) v (S.2 116 79 &&& 1))) &&& 128 = 0) (fun z => z c)] at h8 ⊢
      rw [← h8]
      rfl
    · unfold z6sp z6sa
      rw [z6_p (c := ¬ ((S.2 116 75 ^^^ v) &&& (S.2 116 75 ^^^ z6sd (S.2 116 75) v (S.2 116 79 &&& 1))) &&& 128 = 0) c] at h8 ⊢
      rw [← h8]
      rfl
  show rz _ 0 [(0, .ref 116), (1, .int v)] [] _ _
  have h := z6_c1 (S.2 116 79)
  refine p_M_takesOff_0 (rz_toI (d6_is 1) ⟨fun c => key _ ?_, fun c => key _ ?_⟩)
  · rw [← h, c]
  · rw [← h]
    by_cases z : S.2 116 79 &&& 1 = 0
    · exact absurd (z6_n (fun y => y z)) c
    · rw [z6_p z]
/-! comparisons, BIT -/
theorem z6_cm0 : ∀ n, n < 256 → ∀ w1 w2 w3 : Bool, z6f (z6f (z6f (nI n) 2 (z6b w1)) 128 (z6b w2)) 1 (z6b w3) = z6f (z6f (z6f (nI n) 1 (z6b w3)) 2 (z6b w1)) 128 (z6b w2) := by decide +kernel
theorem z6_cm {p d : Int32} {c : Prop} [Decidable c] (hp : byt p) : z6f (z6k p d) 1 (z6c c) = z6k (z6f p 1 (z6c c)) d := by
  obtain ⟨n, hn, rfl⟩ := hp
  unfold z6k
  rw [z6cb, z6cb, z6cb]
  exact z6_cm0 n hn _ _ _
def z6cp (p a v : Int32) : Int32 := z6k (z6f p 1 (z6c (¬ a < v))) (a - v)
theorem c6_compare (a v : Int32) (hp : byt (S.2 37 4)) : rz_ev mProcessor_compare [.ref 37, .int a, .int v] S (rz_v (fun S1 => S1 = rz_uI S 37 4 (z6cp (S.2 37 4) a v))) := by
  show rz _ 0 [(0, .ref 37), (1, .int a), (2, .int v)] [] _ _
  unfold z6cp
  refine p_Processor_compare_0 (rz_toI (c6_marked _ hp) ⟨fun c => p_Processor_compare_20 (rz_toV (c6_flag _ _) ?_), fun c => p_Processor_compare_20 (rz_toV (c6_flag _ _) ?_)⟩)
  · rw [rz_uIU, rz_uI_s, ← z6_cm hp, z6_n (fun z => z c)]
  · rw [rz_uIU, rz_uI_s, ← z6_cm hp, z6_p c]
theorem d6_compares (a v : Int32) : rz_ev mM_compares [.ref 116, .int a, .int v] S (rz_v (fun S1 => S1 = rz_uI S 116 79 (z6cp (S.2 116 79) a v))) := by
  show rz _ 0 [(0, .ref 116), (1, .int a), (2, .int v)] [] _ _
  unfold z6cp
  refine p_M_compares_0 ⟨fun c => p_M_compares_12 (rz_toV (d6_flag _ _) (rz_toI (d6_marks _) ?_)), fun c => p_M_compares_12 (rz_toV (d6_flag _ _) (rz_toI (d6_marks _) ?_))⟩
  · rw [rz_uIU, rz_uI_s, z6_n (c := ¬ a < v) (fun z => z c)]
  · rw [rz_uIU, rz_uI_s, z6_p (c := ¬ a < v) c]
def z6bp (p a v : Int32) : Int32 := z6f (z6f (z6f p 2 (z6c (a &&& v = 0))) 128 (z6c (¬ v &&& 128 = 0))) 64 (z6c (¬ v &&& 64 = 0))
theorem z6_bi0 : ∀ n, n < 256 → ∀ w1 w2 w3 : Bool, z6f (z6f (z6f (nI n) 128 (z6b w2)) 64 (z6b w3)) 2 (z6b w1) = z6f (z6f (z6f (nI n) 2 (z6b w1)) 128 (z6b w2)) 64 (z6b w3) := by decide +kernel
theorem z6_bi {p a v : Int32} (hp : byt p) : z6f (z6f (z6f p 128 (z6c (¬ v &&& 128 = 0))) 64 (z6c (¬ v &&& 64 = 0))) 2 (z6c (v &&& a = 0)) = z6bp p a v := by
  obtain ⟨n, hn, rfl⟩ := hp
  unfold z6bp
  rw [Int32.and_comm v a, z6cb, z6cb, z6cb]
  exact z6_bi0 n hn _ _ _
theorem t6_u202 {v s0 s1 : Int32} (w : K (rz_uI S 37 4 (z6f (z6f (S.2 37 4) s1 s0) 2 (z6c (v &&& S.2 37 0 = 0))))) : rz mProcessor_useValue 202 [(0, .ref 37), (2, .int v)] [.int s0, .int s1, .ref 37] S (rz_v K) := by
  refine p_Processor_useValue_202 (rz_toV (c6_flag _ _) ⟨fun c => p_Processor_useValue_221 (rz_toV (c6_flag _ _) ?_), fun c => p_Processor_useValue_221 (rz_toV (c6_flag _ _) ?_)⟩)
  · rw [rz_uIU, rz_uI_s]; rw [z6_p (c := v &&& S.2 37 0 = 0) c] at w; exact w
  · rw [rz_uIU, rz_uI_s]; rw [z6_n (c := v &&& S.2 37 0 = 0) c] at w; exact w
theorem t6_u184 {v s0 s1 : Int32} (w : K (rz_uI S 37 4 (z6f (z6f (z6f (S.2 37 4) s1 s0) 64 (z6c (¬ v &&& 64 = 0))) 2 (z6c (v &&& S.2 37 0 = 0))))) : rz mProcessor_useValue 184 [(0, .ref 37), (2, .int v)] [.int s0, .int s1, .ref 37] S (rz_v K) := by
  refine p_Processor_useValue_184 (rz_toV (c6_flag _ _) ⟨fun c => t6_u202 ?_, fun c => t6_u202 ?_⟩)
  · rw [rz_uIU, rz_uI_s]; rw [z6_n (c := ¬ v &&& 64 = 0) (fun z => z c)] at w; exact w
  · rw [rz_uIU, rz_uI_s]; rw [z6_p (c := ¬ v &&& 64 = 0) c] at w; exact w
theorem t6_t60 {K : Int32 → rz_S → Prop} {v s0 s1 : Int32} (w : K 1 (rz_uI S 116 79 (z6f (z6f (S.2 116 79) s1 s0) 64 (z6c (¬ v &&& 64 = 0))))) : rz mM_tests 60 [(0, .ref 116), (2, .int v)] [.int s0, .int s1, .ref 116] S (rz_i K) := by
  refine p_M_tests_60 (rz_toV (d6_flag _ _) ⟨fun c => p_M_tests_78 (rz_toV (d6_flag _ _) ?_), fun c => p_M_tests_78 (rz_toV (d6_flag _ _) ?_)⟩)
  · rw [rz_uIU, rz_uI_s]; rw [z6_n (c := ¬ v &&& 64 = 0) (fun z => z c)] at w; exact w
  · rw [rz_uIU, rz_uI_s]; rw [z6_p (c := ¬ v &&& 64 = 0) c] at w; exact w
theorem t6_t40 {K : Int32 → rz_S → Prop} {v s0 s1 : Int32} (w : K 1 (rz_uI S 116 79 (z6f (z6f (z6f (S.2 116 79) s1 s0) 128 (z6c (¬ v &&& 128 = 0))) 64 (z6c (¬ v &&& 64 = 0))))) : rz mM_tests 40 [(0, .ref 116), (2, .int v)] [.int s0, .int s1, .ref 116] S (rz_i K) := by
  refine p_M_tests_40 (rz_toV (d6_flag _ _) ⟨fun c => t6_t60 ?_, fun c => t6_t60 ?_⟩)
  · rw [rz_uIU, rz_uI_s]; rw [z6_n (c := ¬ v &&& 128 = 0) (fun z => z c)] at w; exact w
  · rw [rz_uIU, rz_uI_s]; rw [z6_p (c := ¬ v &&& 128 = 0) c] at w; exact w
/-! shifts, INC, DEC -/
def z6hv (c : Nat) (p v : Int32) : Int32 := match c with
  | 16 => v <<< ((1 : Int32) &&& 31)
  | 17 => v >>> ((1 : Int32) &&& 31)
  | 18 => (v <<< ((1 : Int32) &&& 31)) ||| (p &&& 1)
  | 19 => (v >>> ((1 : Int32) &&& 31)) ||| ((p &&& 1) <<< ((7 : Int32) &&& 31))
  | 20 => v + 1
  | _ => v - 1
def z6hf (c : Nat) (p v : Int32) : Int32 := match c with
  | 16 => z6f p 1 (z6c (¬ v &&& 128 = 0))
  | 17 => z6f p 1 (z6c (¬ v &&& 1 = 0))
  | 18 => z6f p 1 (z6c (¬ v &&& 128 = 0))
  | 19 => z6f p 1 (z6c (¬ v &&& 1 = 0))
  | _ => p
def z6hp (c : Nat) (p v : Int32) : Int32 := z6k (z6hf c p v) (z6hv c p v)
theorem rz_uI_self {S : rz_S} {k j : Nat} : rz_uI S k j (S.2 k j) = S := by
  unfold rz_uI
  obtain ⟨S1, S2⟩ := S
  congr 1
  funext q z
  by_cases h : q = k ∧ z = j
  · rw [if_pos h, h.1, h.2]
  · rw [if_neg h]
theorem z6hf_b {c : Nat} {p v : Int32} (hp : byt p) : byt (z6hf c p v) := by
  unfold z6hf
  split <;> first | exact z6f_b hp (byt_lit (n := 1) (by omega)) | exact hp
theorem t6_cv {c : Nat} {acc v : Int32} (hc : 16 ≤ c ∧ c ≤ 21) (w : rz mProcessor_changeValue 180 [(0, .ref 37), (2, .int acc), (3, .int (z6hv c (S.2 37 4) v))] [] (rz_uI S 37 4 (z6hf c (S.2 37 4) v)) (rz_v K)) : rz mProcessor_changeValue 19 [(0, .ref 37), (1, .int (nI c)), (2, .int acc)] [.int v] S (rz_v K) := by
  have hcs : c = 16 ∨ c = 17 ∨ c = 18 ∨ c = 19 ∨ c = 20 ∨ c = 21 := by omega
  rcases hcs with rfl | rfl | rfl | rfl | rfl | rfl
  · refine p_Processor_changeValue_19 ⟨fun c => absurd c (by decide), fun _ => ⟨fun d => p_Processor_changeValue_79 (rz_toV (c6_flag _ _) ?_), fun d => p_Processor_changeValue_79 (rz_toV (c6_flag _ _) ?_)⟩, fun c => absurd c (by decide), fun c => absurd c (by decide), fun c => absurd c (by decide), fun c => absurd c (by decide)⟩
    · unfold z6hf at w; simp only at w; rw [z6_n (c := ¬ v &&& 128 = 0) (fun z => z d)] at w; exact w
    · unfold z6hf at w; simp only at w; rw [z6_p (c := ¬ v &&& 128 = 0) d] at w; exact w
  · refine p_Processor_changeValue_19 ⟨fun c => absurd c (by decide), fun c => absurd c (by decide), fun _ => ⟨fun d => p_Processor_changeValue_102 (rz_toV (c6_flag _ _) ?_), fun d => p_Processor_changeValue_102 (rz_toV (c6_flag _ _) ?_)⟩, fun c => absurd c (by decide), fun c => absurd c (by decide), fun c => absurd c (by decide)⟩
    · unfold z6hf at w; simp only at w; rw [z6_n (c := ¬ v &&& 1 = 0) (fun z => z d)] at w; exact w
    · unfold z6hf at w; simp only at w; rw [z6_p (c := ¬ v &&& 1 = 0) d] at w; exact w
  · refine p_Processor_changeValue_19 ⟨fun c => absurd c (by decide), fun c => absurd c (by decide), fun c => absurd c (by decide), fun _ => ⟨fun d => p_Processor_changeValue_127 (rz_toV (c6_flag _ _) ?_), fun d => p_Processor_changeValue_127 (rz_toV (c6_flag _ _) ?_)⟩, fun c => absurd c (by decide), fun c => absurd c (by decide)⟩
    · unfold z6hf at w; simp only at w; rw [z6_n (c := ¬ v &&& 128 = 0) (fun z => z d)] at w; exact w
    · unfold z6hf at w; simp only at w; rw [z6_p (c := ¬ v &&& 128 = 0) d] at w; exact w
  · refine p_Processor_changeValue_19 ⟨fun c => absurd c (by decide), fun c => absurd c (by decide), fun c => absurd c (by decide), fun c => absurd c (by decide), fun _ => ⟨fun d => p_Processor_changeValue_153 (rz_toV (c6_flag _ _) ?_), fun d => p_Processor_changeValue_153 (rz_toV (c6_flag _ _) ?_)⟩, fun c => absurd c (by decide)⟩
    · unfold z6hf at w; simp only at w; rw [z6_n (c := ¬ v &&& 1 = 0) (fun z => z d)] at w; exact w
    · unfold z6hf at w; simp only at w; rw [z6_p (c := ¬ v &&& 1 = 0) d] at w; exact w
  · refine p_Processor_changeValue_19 ⟨fun c => absurd c (by decide), fun c => absurd c (by decide), fun c => absurd c (by decide), fun c => absurd c (by decide), fun c => absurd c (by decide), fun _ => ?_⟩
    unfold z6hf at w; simp only at w; rw [rz_uI_self] at w; exact w
  · refine p_Processor_changeValue_19 ⟨fun _ => ?_, fun c => absurd c (by decide), fun c => absurd c (by decide), fun c => absurd c (by decide), fun c => absurd c (by decide), fun c => absurd c (by decide)⟩
    unfold z6hf at w; simp only at w; rw [rz_uI_self] at w; exact w
theorem c6_changeA {c : Nat} (hc : 16 ≤ c ∧ c ≤ 21) (hp : byt (S.2 37 4)) : rz_ev mProcessor_changeValue [.ref 37, .int (nI c), .int 1] S (rz_v (fun S1 => S1 = rz_uI (rz_uI S 37 4 (z6hp c (S.2 37 4) (S.2 37 0))) 37 0 (z6hv c (S.2 37 4) (S.2 37 0) &&& 255))) := by
  show rz _ 0 [(0, .ref 37), (1, .int (nI c)), (2, .int 1)] [] _ _
  refine p_Processor_changeValue_0 ⟨fun c => absurd c (by decide), fun _ => t6_cv hc (p_Processor_changeValue_180 (rz_toI (c6_marked _ (z6hf_b hp)) ⟨fun c => absurd c (by decide), fun _ => ?_⟩))⟩
  rw [rz_uIU, rz_uI_s]
  rfl
theorem c6_changeM {r : Nat → Int32} {G : Int32 → Int32} {c : Nat} (h : z6X S r G) (hc : 16 ≤ c ∧ c ≤ 21) (hp : byt (S.2 37 4)) : rz_ev mProcessor_changeValue [.ref 37, .int (nI c), .int 0] S (rz_v (fun S1 => S1 = rz_fA (rz_uI S 37 4 (z6hp c (S.2 37 4) (G (S.2 37 8)))) 38 (upd (S.1 38) ((S.2 37 8 &&& 2047).toNatClampNeg) ((z6hv c (S.2 37 4) (G (S.2 37 8)) &&& 255) &&& 255)))) := by
  show rz _ 0 [(0, .ref 37), (1, .int (nI c)), (2, .int 0)] [] _ _
  refine p_Processor_changeValue_0 ⟨fun _ => rz_toI (c6_get h _) (t6_cv hc (p_Processor_changeValue_180 (rz_toI (c6_marked _ (z6hf_b hp)) ⟨fun _ => ?_, fun c => absurd rfl c⟩))), fun c => absurd rfl c⟩
  rw [rz_uIU, rz_uI_s]
  exact rz_toV (c6_set _ _) rfl
def z6wh (c : Nat) : Nat := match c with
  | 16 => 0
  | 17 => 2
  | 18 => 1
  | 19 => 3
  | 20 => 7
  | _ => 6
theorem d6_shifted {c : Nat} (v : Int32) (hc : 16 ≤ c ∧ c ≤ 21) : rz_ev mM_shifted [.ref 116, .int (nI (z6wh c)), .int v] S (rz_i (fun x S1 => x = z6hv c (S.2 116 79) v &&& 255 ∧ S1 = rz_uI S 116 79 (z6hp c (S.2 116 79) v))) := by
  have key : ∀ s0, s0 = S.2 116 79 &&& 1 → rz mM_shifted 13 [(0, .ref 116), (1, .int (nI (z6wh c))), (2, .int v)] [.int s0] S (rz_i (fun x S1 => x = z6hv c (S.2 116 79) v &&& 255 ∧ S1 = rz_uI S 116 79 (z6hp c (S.2 116 79) v))) := by
    intro s0 e0
    subst e0
    have hcs : c = 16 ∨ c = 17 ∨ c = 18 ∨ c = 19 ∨ c = 20 ∨ c = 21 := by omega
    unfold z6hp z6hf
    rcases hcs with rfl | rfl | rfl | rfl | rfl | rfl
    · refine p_M_shifted_13 ⟨fun c => absurd c (by decide), fun _ => ⟨fun d => p_M_shifted_71 (rz_toV (d6_flag _ _) (rz_toI (d6_marks _) ⟨rfl, ?_⟩)), fun d => p_M_shifted_71 (rz_toV (d6_flag _ _) (rz_toI (d6_marks _) ⟨rfl, ?_⟩))⟩, fun c => absurd c (by decide), fun c => absurd c (by decide), fun c => absurd c (by decide), fun c => absurd c (by decide), fun c => absurd c (by decide), fun c => absurd c (by decide)⟩
      · rw [rz_uIU, rz_uI_s, z6_n (c := ¬ v &&& 128 = 0) (fun z => z d)]; rfl
      · rw [rz_uIU, rz_uI_s, z6_p (c := ¬ v &&& 128 = 0) d]; rfl
    · refine p_M_shifted_13 ⟨fun c => absurd c (by decide), fun c => absurd c (by decide), fun c => absurd c (by decide), fun _ => ⟨fun d => p_M_shifted_123 (rz_toV (d6_flag _ _) (rz_toI (d6_marks _) ⟨rfl, ?_⟩)), fun d => p_M_shifted_123 (rz_toV (d6_flag _ _) (rz_toI (d6_marks _) ⟨rfl, ?_⟩))⟩, fun c => absurd c (by decide), fun c => absurd c (by decide), fun c => absurd c (by decide), fun c => absurd c (by decide)⟩
      · rw [rz_uIU, rz_uI_s, z6_n (c := ¬ v &&& 1 = 0) (fun z => z d)]; rfl
      · rw [rz_uIU, rz_uI_s, z6_p (c := ¬ v &&& 1 = 0) d]; rfl
    · refine p_M_shifted_13 ⟨fun c => absurd c (by decide), fun c => absurd c (by decide), fun _ => ⟨fun d => p_M_shifted_97 (rz_toV (d6_flag _ _) (rz_toI (d6_marks _) ⟨rfl, ?_⟩)), fun d => p_M_shifted_97 (rz_toV (d6_flag _ _) (rz_toI (d6_marks _) ⟨rfl, ?_⟩))⟩, fun c => absurd c (by decide), fun c => absurd c (by decide), fun c => absurd c (by decide), fun c => absurd c (by decide), fun c => absurd c (by decide)⟩
      · rw [rz_uIU, rz_uI_s, z6_n (c := ¬ v &&& 128 = 0) (fun z => z d)]; rfl
      · rw [rz_uIU, rz_uI_s, z6_p (c := ¬ v &&& 128 = 0) d]; rfl
    · refine p_M_shifted_13 ⟨fun c => absurd c (by decide), fun c => absurd c (by decide), fun c => absurd c (by decide), fun c => absurd c (by decide), fun _ => ⟨fun d => p_M_shifted_147 (rz_toV (d6_flag _ _) (rz_toI (d6_marks _) ⟨rfl, ?_⟩)), fun d => p_M_shifted_147 (rz_toV (d6_flag _ _) (rz_toI (d6_marks _) ⟨rfl, ?_⟩))⟩, fun c => absurd c (by decide), fun c => absurd c (by decide), fun c => absurd c (by decide)⟩
      · rw [rz_uIU, rz_uI_s, z6_n (c := ¬ v &&& 1 = 0) (fun z => z d)]; rfl
      · rw [rz_uIU, rz_uI_s, z6_p (c := ¬ v &&& 1 = 0) d]; rfl
    · exact p_M_shifted_13 ⟨fun _ => rz_toI (d6_marks _) ⟨rfl, rfl⟩, fun c => absurd c (by decide), fun c => absurd c (by decide), fun c => absurd c (by decide), fun c => absurd c (by decide), fun c => absurd c (by decide), fun c => absurd c (by decide), fun c => absurd c (by decide)⟩
    · exact p_M_shifted_13 ⟨fun c => absurd c (by decide), fun c => absurd c (by decide), fun c => absurd c (by decide), fun c => absurd c (by decide), fun c => absurd c (by decide), fun c => absurd c (by decide), fun c => absurd c (by decide), fun _ => rz_toI (d6_marks _) ⟨rfl, rfl⟩⟩
  show rz _ 0 [(0, .ref 116), (1, .int (nI (z6wh c))), (2, .int v)] [] _ _
  have h := z6_c1 (S.2 116 79)
  refine p_M_shifted_0 (rz_toI (d6_is 1) ⟨fun c => key _ ?_, fun c => key _ ?_⟩)
  · rw [← h, c]
  · rw [← h]
    by_cases z : S.2 116 79 &&& 1 = 0
    · exact absurd (z6_n (fun y => y z)) c
    · rw [z6_p z]
end SUB
