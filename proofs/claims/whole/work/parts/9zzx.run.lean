/-! SCRATCH ends (10): from the class's runs to the tracks in time, and the end -/
theorem rzx_d {Z : rx_M} {as : List Value} {S S' S1 : rz_S} {r : Option Value} {Q : Option Value → rz_S → Prop} (h : rzx Z as S r S1) (hq : rz_ev Z as S' Q) (e : rz_H S = rz_H S') : ∃ S2, rz_H S1 = rz_H S2 ∧ Q r S2 := by
  obtain ⟨n, hn⟩ := h
  obtain ⟨m, r', S2, hm, q⟩ := hq
  rw [← e] at hm
  have a := rx_mono hn (Nat.le_max_left n m)
  have c := rx_mono hm (Nat.le_max_right n m)
  rw [a] at c
  have c2 := Prod.mk.inj (Option.some.inj c)
  refine ⟨S2, c2.2, ?_⟩
  rw [c2.1]
  exact q
theorem f465 {V U : rz_S} (e : rz_H V = rz_H U) : V.2 46 5 = U.2 46 5 := by
  have h : ∃ ci fs, rz_T[46]? = some (.inr (.inr (ci, fs))) ∧ fs[5]? = some none := ⟨_, _, rfl, rfl⟩
  obtain ⟨ci, fs, h1, h2⟩ := h
  have a := rz_get (S := V) h1
  have c := rz_get (S := U) h1
  rw [e, c] at a
  have a2 : fs.mapIdx (rz_f U 46) = fs.mapIdx (rz_f V 46) := (Prod.mk.inj (Sum.inr.inj (Sum.inr.inj (Option.some.inj a)))).2
  have a3 := congrArg (fun l => l[5]?) a2
  simp only [List.getElem?_mapIdx, h2, Option.map_some] at a3
  exact (Value.int.inj (Option.some.inj a3)).symm
/-- what one scratch READS and WRITES: track, sector, ENTRY, the disk behind the MAP's, the rows -/
def StR (pr : Bool) (B : Nat → Nat → Bool) (id : Option (Nat × Nat)) (B2 : Nat → Nat → Bool) (id2 : Option (Nat × Nat)) (t s e : Nat) (B1 : Nat → Nat → Bool) (d rm rm' r1 : Nat → Nat) : Prop := id2 ≠ none ∧ (id ≠ none → id2 = id) ∧ 1 ≤ t ∧ t ≤ 12 ∧ s < sct t ∧ e < 4 ∧ Hld B id2 t s d ∧ d (2 + 16 * e) ≠ 0 ∧ 1 ≤ d (3 + 16 * e) ∧ d (3 + 16 * e) ≤ 12 ∧ Hld B id2 7 0 rm ∧ (∀ k, k < 64 → rm' k < 256) ∧ (∀ k, k < 64 → (k < 4 ∨ 28 ≤ k) → rm' k = rm k) ∧ pc (rm 19) ≤ pc (rm' 19) ∧ (rm' 18 ≠ rm 18 → pc (rm 19) < pc (rm' 19)) ∧ (∃ ft fs, JW B pr id2 7 0 rm' 0 ft fs id2 B1) ∧ Hld B1 id2 t s r1 ∧ (∃ ft fs, JW B1 pr id2 t s (fun k => if k = 2 + 16 * e then 0 else r1 k) 0 ft fs id2 B2)
theorem stepC {B : Nat → Nat → Bool} {pr : Bool} {id : Option (Nat × Nat)} {U V V2 : rz_S} {m : Nat} (hm : m ≤ 10) (hC : Cx B pr id U) (hl : U.2 109 1 = nI m) (e : rz_H V = rz_H U) (h : scS V V2) : ∃ U2 B2 id2 t s en B1 d rm rm' r1, rz_H V2 = rz_H U2 ∧ Cx B2 pr id2 U2 ∧ U2.2 109 1 = nI m ∧ StR pr B id B2 id2 t s en B1 d rm rm' r1 := by
  obtain ⟨V0, V1, h0, h1, h5, h2⟩ := h
  obtain ⟨U0, e0, _, hU0⟩ := rzx_d h0 (c_rewind (S := U)) e
  have u0 : ∀ u z, u ≠ 46 → U0.2 u z = U.2 u z := fun u z hu => by rw [hU0]; simp (disch := omega) only [uI1, fA2, rz_fA_n, rz_uI_n, rz_fA_s, rz_uI_s, pk_us]
  have a0 : U0.1 = U.1 := by rw [hU0]; rfl
  have C0 : Cx B pr id U0 := Cx_x hC (fun q _ _ => by rw [a0]) (fun u z hu => u0 u z (by omega))
  have l0 : U0.2 109 1 = nI m := (u0 109 1 (by omega)).trans hl
  obtain ⟨U1, e1, x, ex, fx, fp⟩ := rzx_d h1 (fxAll hm l0 C0 (by rw [hU0]; simp (disch := omega) only [uI1, fA2, rz_fA_n, rz_uI_n, rz_fA_s, rz_uI_s, pk_us]) (by rw [hU0]; simp (disch := omega) only [uI1, fA2, rz_fA_n, rz_uI_n, rz_fA_s, rz_uI_s, pk_us]) (by rw [hU0]; simp (disch := omega) only [uI1, fA2, rz_fA_n, rz_uI_n, rz_fA_s, rz_uI_s, pk_us]) (by rw [hU0]; simp (disch := omega) only [uI1, fA2, rz_fA_n, rz_uI_n, rz_fA_s, rz_uI_s, pk_us]) (by rw [hU0]; simp (disch := omega) only [uI1, fA2, rz_fA_n, rz_uI_n, rz_fA_s, rz_uI_s, pk_us])) e0
  have x0 : x = 0 := (Value.int.inj (Option.some.inj ex)).symm
  obtain ⟨id2, t, s, en, d, hid, C1, t1, t2, s1, e4, x1, x2, x4, hH, rows, dn⟩ := fp x0 ((f465 e1).symm.trans h5)
  obtain ⟨U2, e2, y, ey, sp⟩ := rzx_d h2 (sfX hH.1 C1 t1 t2 s1 e4 x1 x2 x4 hH rows) e1
  have y0 : y = 0 := (Value.int.inj (Option.some.inj ey)).symm
  obtain ⟨gx, B1, B2, rm, rm', r1, b1, b2, b3, b4, b5, b6, b7, b8, b9, b10, b11⟩ := sp y0
  refine ⟨U2, B2, id2, t, s, en, B1, d, rm, rm', r1, e2, b9, ?_, hH.1, hid, t1, t2, s1, e4, hH, by rw [Nat.add_comm]; exact dn, b10, b11, b1, b2, b3, b4, b5, b6, b7, b8⟩
  exact (gx.2 109 1 (by omega) (by omega) (by omega) (by omega) (by omega)).trans ((fx.2 109 1 (by omega) (by omega) (by omega) (by omega)).trans l0)
/-- step by step -/
theorem dch {α δ : Type} (G : Nat → α → Prop) (R : α → α → δ → Prop) (a0 : α) (d0 : δ) (h0 : G 0 a0) : ∀ n, (∀ i, i < n → ∀ a, G i a → ∃ a' d, G (i + 1) a' ∧ R a a' d) → ∃ (f : Nat → α) (g : Nat → δ), (∀ i, i ≤ n → G i (f i)) ∧ ∀ i, i < n → R (f i) (f (i + 1)) (g i) := by
  intro n
  induction n with
  | zero => intro _; exact ⟨fun _ => a0, fun _ => d0, fun i hi => by rw [show i = 0 by omega]; exact h0, fun i hi => by omega⟩
  | succ n ih =>
    intro hs
    obtain ⟨f, g, h1, h2⟩ := ih (fun i hi => hs i (by omega))
    obtain ⟨a', d, h3, h4⟩ := hs n (by omega) (f n) (h1 n (Nat.le_refl _))
    refine ⟨fun j => if j ≤ n then f j else a', fun j => if j < n then g j else d, fun i hi => ?_, fun i hi => ?_⟩
    · show G i (if i ≤ n then f i else a')
      by_cases q : i ≤ n
      · rw [if_pos q]; exact h1 i q
      · rw [if_neg q, show i = n + 1 by omega]; exact h3
    · show R (if i ≤ n then f i else a') (if i + 1 ≤ n then f (i + 1) else a') (if i < n then g i else d)
      by_cases q : i < n
      · rw [if_pos (show i ≤ n by omega), if_pos (show i + 1 ≤ n by omega), if_pos q]; exact h2 i q
      · have e : i = n := by omega
        subst e
        rw [if_pos (Nat.le_refl i), if_neg (show ¬ i + 1 ≤ i by omega), if_neg q]; exact h4
/-- two rows one between the other -/
def mix {α : Type} (x y : Nat → α) (τ : Nat) : α := if τ % 2 = 0 then x (τ / 2) else y (τ / 2)
theorem mix_e {α : Type} (x y : Nat → α) (i : Nat) : mix x y (2 * i) = x i := by
  unfold mix
  rw [if_pos (by omega), show 2 * i / 2 = i by omega]
theorem mix_o {α : Type} (x y : Nat → α) (i : Nat) : mix x y (2 * i + 1) = y i := by
  unfold mix
  rw [if_neg (by omega), show (2 * i + 1) / 2 = i by omega]
theorem HldF {B : Nat → Nat → Bool} {t s i j : Nat} {d : Nat → Nat} (h : Hld B (some (i, j)) t s d) : ∃ p, p < 8 * tN t ∧ hdr (B t) (8 * tN t) (gb (hpl t s i j)) p ∧ (∀ p', p' < p → ¬ hdr (B t) (8 * tN t) (gb (hpl t s i j)) p') ∧ Rd (B t) (8 * tN t) p d := by
  rcases h.2.2.2 with ⟨q, _⟩ | ⟨i', j', q, _, _, r⟩
  · cases q
  · cases q
    rcases r with ⟨_, q⟩ | ⟨_, _, q⟩ | ⟨p, n, p1, p2, p3, p4, g, D⟩
    · omega
    · omega
    · refine ⟨p, p1, hdr_mt.mpr ⟨p2, p3⟩, fun p' hp' hh => ?_, n, g, ?_⟩
      · have := hdr_mt.mp hh
        exact p4 p' hp' this.1 this.2
      · rcases D with ⟨_, a⟩ | ⟨_, _, a⟩ | ⟨_, _, _, a⟩ | ⟨a1, a2, _, _, a3⟩
        · omega
        · omega
        · omega
        · exact ⟨a1, a2, a3⟩
theorem EvJ {B B' : Nat → Nat → Bool} {pr : Bool} {t s i j ft fs : Nat} {r r' : Nat → Nat} (t2 : t ≤ 12) (hs : s < 256) (hi : i < 256) (hj : j < 256) (h : Hld B (some (i, j)) t s r) (hr : ∀ k, k < 64 → r' k < 256) (w : JW B pr (some (i, j)) t s r' 0 ft fs (some (i, j)) B') : (∃ p, EvA (8 * tN t) (gb (hpl t s i j)) (B t) (B' t) p r r') ∧ ∀ u, u ≠ t → B' u = B u := by
  obtain ⟨p, p1, p2, p3, p4⟩ := HldF h
  rcases w with ⟨_, a, _⟩ | ⟨_, _, ⟨_, a, _⟩ | ⟨i', j', b', e1, _, _, w, e2⟩⟩
  · omega
  · omega
  · cases e1
    have eb : B' t = b' := by rw [e2]; exact if_pos rfl
    refine ⟨⟨p, ?_⟩, fun u hu => by rw [e2]; exact if_neg hu⟩
    rcases w with ⟨_, a, _⟩ | ⟨_, _, a, _⟩ | ⟨q, q1, q2, q3, q4, q5, v⟩
    · omega
    · omega
    · have hq := hdr_mt.mpr ⟨q2, q3⟩
      have e : q = p := by
        rcases Nat.lt_trichotomy q p with y | y | y
        · exact absurd hq (p3 q y)
        · exact y
        · have := hdr_mt.mp p2
          exact absurd this.2 (q4 p y this.1)
      subst e
      rw [eb]
      exact ⟨hOK_h (by omega) hs hi hj, q1, hq, p3, p4, hr, q5, v⟩
/-- what is known of J scratches -/
def Run (pr : Bool) (J : Nat) (i0 j0 : Nat) (Bs B1 : Nat → Nat → Nat → Bool) (ts ss es : Nat → Nat) (d rm rm' r1 : Nat → Nat → Nat) : Prop := i0 < 256 ∧ j0 < 256 ∧ (∀ i, i ≤ J → ∀ t, 1 ≤ t → t ≤ 12 → rgb (Bs i t) (8 * tN t)) ∧ ∀ i, i < J → ∃ id, StR pr (Bs i) id (Bs (i + 1)) (some (i0, j0)) (ts i) (ss i) (es i) (B1 i) (d i) (rm i) (rm' i) (r1 i)
theorem RunTE {pr : Bool} {J i0 j0 t0 : Nat} {Bs B1 : Nat → Nat → Nat → Bool} {ts ss es : Nat → Nat} {d rm rm' r1 : Nat → Nat → Nat} (R : Run pr J i0 j0 Bs B1 ts ss es d rm rm' r1) (h1 : 1 ≤ t0) (h2 : t0 ≤ 12) : ∃ ps, TE (8 * tN t0) (sct t0) J (fun s => gb (hpl t0 s i0 j0)) (mix (fun i => Bs i t0) (fun i => B1 i t0)) (mix (fun _ => t0 = 7) (fun i => ts i = t0)) (mix (fun _ => 0) ss) ps es (mix rm r1) (mix rm' (fun i k => if k = 2 + 16 * es i then 0 else r1 i k)) := by
  obtain ⟨l1, l2, rg, st⟩ := R
  have hN : 5000 ≤ 8 * tN t0 := by unfold tN; omega
  have hsb := sct_b h1 h2
  -- the MAP's WRITE, the ENTRY's WRITE
  have evM : ∀ i, i < J → t0 = 7 → ∃ p, EvA (8 * tN t0) (gb (hpl t0 0 i0 j0)) (Bs i t0) (B1 i t0) p (rm i) (rm' i) := fun i hi e => by
    obtain ⟨id, _, _, _, _, _, _, _, _, _, _, m1, m2, _, _, _, ⟨ft, fs, w⟩, _⟩ := st i hi
    subst e
    exact (EvJ (by omega) (by omega) l1 l2 m1 m2 w).1
  have noM : ∀ i, i < J → t0 ≠ 7 → B1 i t0 = Bs i t0 := fun i hi e => by
    obtain ⟨id, _, _, _, _, _, _, _, _, _, _, m1, m2, _, _, _, ⟨ft, fs, w⟩, _⟩ := st i hi
    exact (EvJ (by omega) (by omega) l1 l2 m1 m2 w).2 t0 e
  have hr1 : ∀ i, i < J → ∀ k, k < 64 → (if k = 2 + 16 * es i then 0 else r1 i k) < 256 := fun i hi k hk => by
    obtain ⟨id, _, _, _, _, _, _, _, _, _, _, _, _, _, _, _, _, n1, _⟩ := st i hi
    by_cases q : k = 2 + 16 * es i
    · rw [if_pos q]; omega
    · rw [if_neg q]; exact n1.2.1 k hk
  have evE : ∀ i, i < J → ts i = t0 → ∃ p, EvA (8 * tN t0) (gb (hpl t0 (ss i) i0 j0)) (B1 i t0) (Bs (i + 1) t0) p (r1 i) (fun k => if k = 2 + 16 * es i then 0 else r1 i k) := fun i hi e => by
    obtain ⟨id, _, _, _, _, s1, _, _, _, _, _, _, _, _, _, _, _, n1, ⟨ft, fs, w⟩⟩ := st i hi
    rw [e] at n1 w s1
    exact (EvJ h2 (by omega) l1 l2 n1 (hr1 i hi) w).1
  have noE : ∀ i, i < J → ts i ≠ t0 → Bs (i + 1) t0 = B1 i t0 := fun i hi e => by
    obtain ⟨id, _, _, t1, t2, s1, _, _, _, _, _, _, _, _, _, _, _, n1, ⟨ft, fs, w⟩⟩ := st i hi
    have := sct_b t1 t2
    exact (EvJ t2 (by omega) l1 l2 n1 (hr1 i hi) w).2 t0 (fun z => e z.symm)
  have all : ∀ τ, ∃ p, τ < 2 * J → mix (fun _ => t0 = 7) (fun i => ts i = t0) τ → EvA (8 * tN t0) (gb (hpl t0 (mix (fun _ => 0) ss τ) i0 j0)) (mix (fun i => Bs i t0) (fun i => B1 i t0) τ) (mix (fun i => Bs i t0) (fun i => B1 i t0) (τ + 1)) p (mix rm r1 τ) (mix rm' (fun i k => if k = 2 + 16 * es i then 0 else r1 i k) τ) := fun τ => by
    by_cases q : τ < 2 * J ∧ mix (fun _ => t0 = 7) (fun i => ts i = t0) τ
    · obtain ⟨q1, q2⟩ := q
      obtain ⟨i, hi, al⟩ := par q1
      rcases al with rfl | rfl
      · rw [mix_e] at q2
        obtain ⟨p, hp⟩ := evM i hi q2
        refine ⟨p, fun _ _ => ?_⟩
        rw [mix_e, mix_e, mix_e, mix_e, mix_o]
        exact hp
      · rw [mix_o] at q2
        obtain ⟨p, hp⟩ := evE i hi q2
        refine ⟨p, fun _ _ => ?_⟩
        rw [mix_o, mix_o, mix_o, mix_o, show 2 * i + 1 + 1 = 2 * (i + 1) by omega, mix_e]
        exact hp
    · exact ⟨0, fun a c => absurd ⟨a, c⟩ q⟩
  obtain ⟨ps, hps⟩ := Classical.axiomOfChoice all
  refine ⟨ps, ⟨by omega, fun τ hτ => ?_, fun τ hτ he => ?_, fun τ hτ he => hps τ hτ he⟩, fun i hi he => ?_, fun i hi he => ?_, fun τ hτ he => ?_⟩
  · by_cases q : τ % 2 = 0
    · have e : τ = 2 * (τ / 2) := by omega
      rw [e, mix_e]
      exact rg _ (by omega) t0 h1 h2
    · have e : τ = 2 * (τ / 2) + 1 := by omega
      rw [e, mix_o]
      by_cases z : t0 = 7
      · obtain ⟨p, hp⟩ := evM (τ / 2) (by omega) z
        rw [hp.2.2.2.2.2.2.1]
        exact pw_r _ _ _ _ _
      · rw [noM _ (by omega) z]
        exact rg _ (by omega) t0 h1 h2
  · obtain ⟨i, hi, al⟩ := par hτ
    rcases al with rfl | rfl
    · rw [mix_e] at he
      rw [mix_e, mix_o]
      exact noM i hi he
    · rw [mix_o] at he
      rw [mix_o, show 2 * i + 1 + 1 = 2 * (i + 1) by omega, mix_e]
      exact noE i hi he
  · rw [mix_o] at he
    obtain ⟨id, _, _, t1, t2, s1, e4, hd, d0, d1, d2, _⟩ := st i hi
    refine ⟨e4, fun k hk => by rw [mix_o, mix_o], ?_⟩
    rw [mix_o, mix_e]
    rw [he] at hd
    obtain ⟨q0, q1, q2, q3, q4⟩ := HldF hd
    exact ⟨q0, d i, q1, q2, q3, q4, d0, d1, d2⟩
  · rw [mix_e] at he
    obtain ⟨id, _, _, _, _, _, _, _, _, _, _, m1, m2, m3, m4, m5, _⟩ := st i hi
    rw [mix_e, mix_e, mix_e]
    exact ⟨rfl, fun j hj => by rw [mix_e]; exact he, m3, m4, m5⟩
  · obtain ⟨i, hi, al⟩ := par hτ
    rcases al with rfl | rfl
    · rw [mix_e]; omega
    · rw [mix_o] at he ⊢
      obtain ⟨id, _, _, t1, t2, s1, _⟩ := st i hi
      rw [he] at s1
      exact s1
def bnd (t : Nat) : Nat := [0, 102, 102, 102, 87, 87, 87, 97, 73, 73, 60, 60, 60].getD t 0
theorem RunT {pr : Bool} {J i0 j0 t0 : Nat} {Bs B1 : Nat → Nat → Nat → Bool} {ts ss es : Nat → Nat} {d rm rm' r1 : Nat → Nat → Nat} (R : Run pr J i0 j0 Bs B1 ts ss es d rm rm' r1) (h1 : 1 ≤ t0) (h2 : t0 ≤ 12) : cnt (fun i => ts i = t0) J ≤ bnd t0 := by
  obtain ⟨ps, T⟩ := RunTE R h1 h2
  obtain ⟨Rr, F, m, a1, a2, a3, a4, a5, a6⟩ := track T
  have e : cnt (fun i => mix (fun _ => t0 = 7) (fun i => ts i = t0) (2 * i + 1)) J = cnt (fun i => ts i = t0) J := by
    congr 1
    funext i
    exact mix_o _ _ i
  rw [e] at a1 a2
  have m0 : t0 ≠ 7 → m = 0 := fun z => a6 (fun i _ q => z (by rw [mix_e] at q; exact q))
  have al : t0 = 1 ∨ t0 = 2 ∨ t0 = 3 ∨ t0 = 4 ∨ t0 = 5 ∨ t0 = 6 ∨ t0 = 7 ∨ t0 = 8 ∨ t0 = 9 ∨ t0 = 10 ∨ t0 = 11 ∨ t0 = 12 := by omega
  generalize cnt (fun i => ts i = t0) J = A at *
  rcases al with z | z | z | z | z | z | z | z | z | z | z | z <;> subst z
  · rw [show tN 1 = 1000 from rfl] at a1 a3
    rw [show sct 1 = 8 from rfl] at a4
    have := m0 (by omega)
    show A ≤ 102
    by_cases r2 : Rr ≤ 2
    · omega
    · omega
  · rw [show tN 2 = 1000 from rfl] at a1 a3
    rw [show sct 2 = 8 from rfl] at a4
    have := m0 (by omega)
    show A ≤ 102
    by_cases r2 : Rr ≤ 2
    · omega
    · omega
  · rw [show tN 3 = 1000 from rfl] at a1 a3
    rw [show sct 3 = 8 from rfl] at a4
    have := m0 (by omega)
    show A ≤ 102
    by_cases r2 : Rr ≤ 2
    · omega
    · omega
  · rw [show tN 4 = 880 from rfl] at a1 a3
    rw [show sct 4 = 7 from rfl] at a4
    have := m0 (by omega)
    show A ≤ 87
    by_cases r2 : Rr ≤ 2
    · omega
    · omega
  · rw [show tN 5 = 880 from rfl] at a1 a3
    rw [show sct 5 = 7 from rfl] at a4
    have := m0 (by omega)
    show A ≤ 87
    by_cases r2 : Rr ≤ 2
    · omega
    · omega
  · rw [show tN 6 = 880 from rfl] at a1 a3
    rw [show sct 6 = 7 from rfl] at a4
    have := m0 (by omega)
    show A ≤ 87
    by_cases r2 : Rr ≤ 2
    · omega
    · omega
  · rw [show tN 7 = 760 from rfl] at a1 a3
    rw [show sct 7 = 6 from rfl] at a4
    show A ≤ 97
    omega
  · rw [show tN 8 = 760 from rfl] at a1 a3
    rw [show sct 8 = 6 from rfl] at a4
    have := m0 (by omega)
    show A ≤ 73
    by_cases r2 : Rr ≤ 2
    · omega
    · omega
  · rw [show tN 9 = 760 from rfl] at a1 a3
    rw [show sct 9 = 6 from rfl] at a4
    have := m0 (by omega)
    show A ≤ 73
    by_cases r2 : Rr ≤ 2
    · omega
    · omega
  · rw [show tN 10 = 640 from rfl] at a1 a3
    rw [show sct 10 = 5 from rfl] at a4
    have := m0 (by omega)
    show A ≤ 60
    by_cases r2 : Rr ≤ 2
    · omega
    · omega
  · rw [show tN 11 = 640 from rfl] at a1 a3
    rw [show sct 11 = 5 from rfl] at a4
    have := m0 (by omega)
    show A ≤ 60
    by_cases r2 : Rr ≤ 2
    · omega
    · omega
  · rw [show tN 12 = 640 from rfl] at a1 a3
    rw [show sct 12 = 5 from rfl] at a4
    have := m0 (by omega)
    show A ≤ 60
    by_cases r2 : Rr ≤ 2
    · omega
    · omega
def sbn : Nat → Nat
  | 0 => 0
  | n + 1 => sbn n + bnd (n + 1)
theorem peel {ts : Nat → Nat} {J : Nat} (h : ∀ t, 1 ≤ t → t ≤ 12 → cnt (fun i => ts i = t) J ≤ bnd t) : ∀ n, n ≤ 12 → cnt (fun i => 1 ≤ ts i ∧ ts i ≤ n) J ≤ sbn n := by
  intro n
  induction n with
  | zero => intro _; rw [cnt_0 J (fun i _ z => by omega)]; exact Nat.zero_le _
  | succ n ih =>
    intro hn
    have := cnt_or (P := fun i => 1 ≤ ts i ∧ ts i ≤ n + 1) (Q := fun i => 1 ≤ ts i ∧ ts i ≤ n) (R := fun i => ts i = n + 1) J (fun i _ z => by
      by_cases q : ts i = n + 1
      · exact Or.inr q
      · exact Or.inl ⟨z.1, by omega⟩)
    have a := ih (by omega)
    have c := h (n + 1) (by omega) hn
    show _ ≤ sbn n + bnd (n + 1)
    omega
theorem cnt_all {P : Nat → Prop} : ∀ n, (∀ i, i < n → P i) → cnt P n = n := by
  intro n
  induction n with
  | zero => intro _; rfl
  | succ n ih =>
    intro h
    show cnt P n + iv (P n) = n + 1
    rw [ih (fun i hi => h i (by omega)), iv_t (h n (by omega))]
theorem Run_no {pr : Bool} {i0 j0 : Nat} {Bs B1 : Nat → Nat → Nat → Bool} {ts ss es : Nat → Nat} {d rm rm' r1 : Nat → Nat → Nat} (R : Run pr 1000 i0 j0 Bs B1 ts ss es d rm rm' r1) : False := by
  have a := peel (ts := ts) (J := 1000) (fun t t1 t2 => RunT R t1 t2) 12 (by omega)
  rw [cnt_all 1000 (fun i hi => by
    obtain ⟨id, _, _, t1, t2, _⟩ := R.2.2.2 i hi
    exact ⟨t1, t2⟩)] at a
  exact absurd a (by decide)
