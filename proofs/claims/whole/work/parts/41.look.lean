/-! look: both, and the pair -/
section RZT
variable {M : rx_M} {pc tgt len : Nat} {l : rx_L} {rest : List Value} {S : rz_S} {Q : Option Value → rz_S → Prop} {x : Int32} {d lo hi : Int} {offs : Array Int}
theorem rz_tsOut (hd : decode (rm_code M) pc = .ok (.tableswitch d lo hi offs, len)) (h : x.toInt < lo ∨ hi < x.toInt) (ht : rx_tg pc d = some tgt) (k : rz M tgt l rest S Q) : rz M pc l (.int x :: rest) S Q := rz_pure (pc' := tgt) (l' := l) (st' := rest) hd (by simp only [rx_pure, rx_tsw, if_pos h, rx_go, ht]) k
end RZT
def lkX (S : rz_S) : Nat → Int32
  | 0 => sStatus_number S
  | 1 => sStatus_track S
  | 2 => sStatus_sector S
  | 3 => (if sX_outEnded S = 0 then 0 else 1)
  | 4 => sTape_count S
  | 5 => sDisk_idFirst S
  | 6 => sDisk_idSecond S
  | 7 => cn_of (fun c => sChannel_mode S (48 + 4 * c)) 15
  | 8 => sProcessor_a S
  | 9 => sProcessor_x S
  | 10 => sProcessor_y S
  | 11 => sProcessor_s S
  | 12 => sProcessor_p S
  | 13 => sProcessor_pc S
  | 14 => sProcessor_cycles S
  | _ => -1
theorem d_X_look_0 : decode (rm_code mX_look) 0 = .ok (.iload_n 1, 1) := by decide +kernel
theorem d_X_look_1 : decode (rm_code mX_look) 1 = .ok (.tableswitch (200) (0) (14) #[(75), (83), (91), (99), (112), (120), (128), (136), (144), (152), (160), (168), (176), (184), (192)], 75) := by decide +kernel
theorem d_X_look_76 : decode (rm_code mX_look) 76 = .ok (.aload_n 0, 1) := by decide +kernel
theorem d_X_look_77 : decode (rm_code mX_look) 77 = .ok (.getfield 19, 3) := by decide +kernel
theorem d_X_look_80 : decode (rm_code mX_look) 80 = .ok (.getfield 84, 3) := by decide +kernel
theorem d_X_look_83 : decode (rm_code mX_look) 83 = .ok (.ireturn, 1) := by decide +kernel
theorem d_X_look_84 : decode (rm_code mX_look) 84 = .ok (.aload_n 0, 1) := by decide +kernel
theorem d_X_look_85 : decode (rm_code mX_look) 85 = .ok (.getfield 19, 3) := by decide +kernel
theorem d_X_look_88 : decode (rm_code mX_look) 88 = .ok (.getfield 122, 3) := by decide +kernel
theorem d_X_look_91 : decode (rm_code mX_look) 91 = .ok (.ireturn, 1) := by decide +kernel
theorem d_X_look_92 : decode (rm_code mX_look) 92 = .ok (.aload_n 0, 1) := by decide +kernel
theorem d_X_look_93 : decode (rm_code mX_look) 93 = .ok (.getfield 19, 3) := by decide +kernel
theorem d_X_look_96 : decode (rm_code mX_look) 96 = .ok (.getfield 125, 3) := by decide +kernel
theorem d_X_look_99 : decode (rm_code mX_look) 99 = .ok (.ireturn, 1) := by decide +kernel
theorem d_X_look_100 : decode (rm_code mX_look) 100 = .ok (.aload_n 0, 1) := by decide +kernel
theorem d_X_look_101 : decode (rm_code mX_look) 101 = .ok (.getfield 65, 3) := by decide +kernel
theorem d_X_look_104 : decode (rm_code mX_look) 104 = .ok (.ifCond .eq (7), 3) := by decide +kernel
theorem d_X_look_107 : decode (rm_code mX_look) 107 = .ok (.iconst 1, 1) := by decide +kernel
theorem d_X_look_108 : decode (rm_code mX_look) 108 = .ok (.goto (4), 3) := by decide +kernel
theorem d_X_look_111 : decode (rm_code mX_look) 111 = .ok (.iconst 0, 1) := by decide +kernel
theorem d_X_look_112 : decode (rm_code mX_look) 112 = .ok (.ireturn, 1) := by decide +kernel
theorem d_X_look_113 : decode (rm_code mX_look) 113 = .ok (.aload_n 0, 1) := by decide +kernel
theorem d_X_look_114 : decode (rm_code mX_look) 114 = .ok (.getfield 10, 3) := by decide +kernel
theorem d_X_look_117 : decode (rm_code mX_look) 117 = .ok (.getfield 69, 3) := by decide +kernel
theorem d_X_look_120 : decode (rm_code mX_look) 120 = .ok (.ireturn, 1) := by decide +kernel
theorem d_X_look_121 : decode (rm_code mX_look) 121 = .ok (.aload_n 0, 1) := by decide +kernel
theorem d_X_look_122 : decode (rm_code mX_look) 122 = .ok (.getfield 28, 3) := by decide +kernel
theorem d_X_look_125 : decode (rm_code mX_look) 125 = .ok (.getfield 128, 3) := by decide +kernel
theorem d_X_look_128 : decode (rm_code mX_look) 128 = .ok (.ireturn, 1) := by decide +kernel
theorem d_X_look_129 : decode (rm_code mX_look) 129 = .ok (.aload_n 0, 1) := by decide +kernel
theorem d_X_look_130 : decode (rm_code mX_look) 130 = .ok (.getfield 28, 3) := by decide +kernel
theorem d_X_look_133 : decode (rm_code mX_look) 133 = .ok (.getfield 131, 3) := by decide +kernel
theorem d_X_look_136 : decode (rm_code mX_look) 136 = .ok (.ireturn, 1) := by decide +kernel
theorem d_X_look_137 : decode (rm_code mX_look) 137 = .ok (.aload_n 0, 1) := by decide +kernel
theorem d_X_look_138 : decode (rm_code mX_look) 138 = .ok (.getfield 44, 3) := by decide +kernel
theorem d_X_look_141 : decode (rm_code mX_look) 141 = .ok (.invokevirtual 134, 3) := by decide +kernel
theorem d_X_look_144 : decode (rm_code mX_look) 144 = .ok (.ireturn, 1) := by decide +kernel
theorem d_X_look_145 : decode (rm_code mX_look) 145 = .ok (.aload_n 0, 1) := by decide +kernel
theorem d_X_look_146 : decode (rm_code mX_look) 146 = .ok (.getfield 35, 3) := by decide +kernel
theorem d_X_look_149 : decode (rm_code mX_look) 149 = .ok (.getfield 137, 3) := by decide +kernel
theorem d_X_look_152 : decode (rm_code mX_look) 152 = .ok (.ireturn, 1) := by decide +kernel
theorem d_X_look_153 : decode (rm_code mX_look) 153 = .ok (.aload_n 0, 1) := by decide +kernel
theorem d_X_look_154 : decode (rm_code mX_look) 154 = .ok (.getfield 35, 3) := by decide +kernel
theorem d_X_look_157 : decode (rm_code mX_look) 157 = .ok (.getfield 140, 3) := by decide +kernel
theorem d_X_look_160 : decode (rm_code mX_look) 160 = .ok (.ireturn, 1) := by decide +kernel
theorem d_X_look_161 : decode (rm_code mX_look) 161 = .ok (.aload_n 0, 1) := by decide +kernel
theorem d_X_look_162 : decode (rm_code mX_look) 162 = .ok (.getfield 35, 3) := by decide +kernel
theorem d_X_look_165 : decode (rm_code mX_look) 165 = .ok (.getfield 143, 3) := by decide +kernel
theorem d_X_look_168 : decode (rm_code mX_look) 168 = .ok (.ireturn, 1) := by decide +kernel
theorem d_X_look_169 : decode (rm_code mX_look) 169 = .ok (.aload_n 0, 1) := by decide +kernel
theorem d_X_look_170 : decode (rm_code mX_look) 170 = .ok (.getfield 35, 3) := by decide +kernel
theorem d_X_look_173 : decode (rm_code mX_look) 173 = .ok (.getfield 146, 3) := by decide +kernel
theorem d_X_look_176 : decode (rm_code mX_look) 176 = .ok (.ireturn, 1) := by decide +kernel
theorem d_X_look_177 : decode (rm_code mX_look) 177 = .ok (.aload_n 0, 1) := by decide +kernel
theorem d_X_look_178 : decode (rm_code mX_look) 178 = .ok (.getfield 35, 3) := by decide +kernel
theorem d_X_look_181 : decode (rm_code mX_look) 181 = .ok (.getfield 149, 3) := by decide +kernel
theorem d_X_look_184 : decode (rm_code mX_look) 184 = .ok (.ireturn, 1) := by decide +kernel
theorem d_X_look_185 : decode (rm_code mX_look) 185 = .ok (.aload_n 0, 1) := by decide +kernel
theorem d_X_look_186 : decode (rm_code mX_look) 186 = .ok (.getfield 35, 3) := by decide +kernel
theorem d_X_look_189 : decode (rm_code mX_look) 189 = .ok (.getfield 152, 3) := by decide +kernel
theorem d_X_look_192 : decode (rm_code mX_look) 192 = .ok (.ireturn, 1) := by decide +kernel
theorem d_X_look_193 : decode (rm_code mX_look) 193 = .ok (.aload_n 0, 1) := by decide +kernel
theorem d_X_look_194 : decode (rm_code mX_look) 194 = .ok (.getfield 35, 3) := by decide +kernel
theorem d_X_look_197 : decode (rm_code mX_look) 197 = .ok (.getfield 155, 3) := by decide +kernel
theorem d_X_look_200 : decode (rm_code mX_look) 200 = .ok (.ireturn, 1) := by decide +kernel
theorem d_X_look_201 : decode (rm_code mX_look) 201 = .ok (.iconst (-1), 1) := by decide +kernel
theorem d_X_look_202 : decode (rm_code mX_look) 202 = .ok (.ireturn, 1) := by decide +kernel
theorem c_X_look_in {S : rz_S} {j : Nat} (hj : j < 15) : rz_ev mX_look [.ref 0, .int (nI j)] S (rz_i (fun x S1 => x = lkX S j ∧ S1 = S)) := by
  show rz _ 0 [(0, .ref 0), (1, .int (nI j))] [] _ _
  refine rz_pure (pc' := 1) d_X_look_0 rfl ?_
  match j, hj with
  | 0, _ =>
    refine rz_pure (pc' := 76) d_X_look_1 rfl ?_
    refine rz_pure (pc' := 77) d_X_look_76 rfl ?_
    refine rz_getr d_X_look_77 f_11_19 rfl rfl ?_
    refine rz_geti d_X_look_80 f_11_84 rfl rfl ?_
    exact rz_ireti d_X_look_83 rfl rfl ⟨by first | rfl | (exact (if_pos b1).symm) | (exact (if_neg b1).symm), rfl⟩
  | 1, _ =>
    refine rz_pure (pc' := 84) d_X_look_1 rfl ?_
    refine rz_pure (pc' := 85) d_X_look_84 rfl ?_
    refine rz_getr d_X_look_85 f_11_19 rfl rfl ?_
    refine rz_geti d_X_look_88 f_11_122 rfl rfl ?_
    exact rz_ireti d_X_look_91 rfl rfl ⟨by first | rfl | (exact (if_pos b1).symm) | (exact (if_neg b1).symm), rfl⟩
  | 2, _ =>
    refine rz_pure (pc' := 92) d_X_look_1 rfl ?_
    refine rz_pure (pc' := 93) d_X_look_92 rfl ?_
    refine rz_getr d_X_look_93 f_11_19 rfl rfl ?_
    refine rz_geti d_X_look_96 f_11_125 rfl rfl ?_
    exact rz_ireti d_X_look_99 rfl rfl ⟨by first | rfl | (exact (if_pos b1).symm) | (exact (if_neg b1).symm), rfl⟩
  | 3, _ =>
    refine rz_pure (pc' := 100) d_X_look_1 rfl ?_
    refine rz_pure (pc' := 101) d_X_look_100 rfl ?_
    refine rz_geti d_X_look_101 f_11_65 rfl rfl ?_
    refine rz_ifeq (tgt := 111) d_X_look_104 rfl (fun b1 => ?_) (fun b1 => ?_)
    · skip
      refine rz_iconst (v := 0) d_X_look_111 (by decide) ?_
      exact rz_ireti d_X_look_112 rfl rfl ⟨by first | rfl | (exact (if_pos b1).symm) | (exact (if_neg b1).symm), rfl⟩
    · skip
      refine rz_iconst (v := 1) d_X_look_107 (by decide) ?_
      refine rz_pure (pc' := 112) d_X_look_108 rfl ?_
      exact rz_ireti d_X_look_112 rfl rfl ⟨by first | rfl | (exact (if_pos b1).symm) | (exact (if_neg b1).symm), rfl⟩
  | 4, _ =>
    refine rz_pure (pc' := 113) d_X_look_1 rfl ?_
    refine rz_pure (pc' := 114) d_X_look_113 rfl ?_
    refine rz_getr d_X_look_114 f_11_10 rfl rfl ?_
    refine rz_geti d_X_look_117 f_11_69 rfl rfl ?_
    exact rz_ireti d_X_look_120 rfl rfl ⟨by first | rfl | (exact (if_pos b1).symm) | (exact (if_neg b1).symm), rfl⟩
  | 5, _ =>
    refine rz_pure (pc' := 121) d_X_look_1 rfl ?_
    refine rz_pure (pc' := 122) d_X_look_121 rfl ?_
    refine rz_getr d_X_look_122 f_11_28 rfl rfl ?_
    refine rz_geti d_X_look_125 f_11_128 rfl rfl ?_
    exact rz_ireti d_X_look_128 rfl rfl ⟨by first | rfl | (exact (if_pos b1).symm) | (exact (if_neg b1).symm), rfl⟩
  | 6, _ =>
    refine rz_pure (pc' := 129) d_X_look_1 rfl ?_
    refine rz_pure (pc' := 130) d_X_look_129 rfl ?_
    refine rz_getr d_X_look_130 f_11_28 rfl rfl ?_
    refine rz_geti d_X_look_133 f_11_131 rfl rfl ?_
    exact rz_ireti d_X_look_136 rfl rfl ⟨by first | rfl | (exact (if_pos b1).symm) | (exact (if_neg b1).symm), rfl⟩
  | 7, _ =>
    refine rz_pure (pc' := 137) d_X_look_1 rfl ?_
    refine rz_pure (pc' := 138) d_X_look_137 rfl ?_
    refine rz_getr d_X_look_138 f_11_44 rfl rfl ?_
    refine rz_callVi (t := []) d_X_look_141 w_11_134 rfl rfl rfl (c_Dos_countOpen) (fun x1 S1 q1 => ?_)
    obtain ⟨rfl, rfl⟩ := q1
    exact rz_ireti d_X_look_144 rfl rfl ⟨by first | rfl | (exact (if_pos b1).symm) | (exact (if_neg b1).symm), rfl⟩
  | 8, _ =>
    refine rz_pure (pc' := 145) d_X_look_1 rfl ?_
    refine rz_pure (pc' := 146) d_X_look_145 rfl ?_
    refine rz_getr d_X_look_146 f_11_35 rfl rfl ?_
    refine rz_geti d_X_look_149 f_11_137 rfl rfl ?_
    exact rz_ireti d_X_look_152 rfl rfl ⟨by first | rfl | (exact (if_pos b1).symm) | (exact (if_neg b1).symm), rfl⟩
  | 9, _ =>
    refine rz_pure (pc' := 153) d_X_look_1 rfl ?_
    refine rz_pure (pc' := 154) d_X_look_153 rfl ?_
    refine rz_getr d_X_look_154 f_11_35 rfl rfl ?_
    refine rz_geti d_X_look_157 f_11_140 rfl rfl ?_
    exact rz_ireti d_X_look_160 rfl rfl ⟨by first | rfl | (exact (if_pos b1).symm) | (exact (if_neg b1).symm), rfl⟩
  | 10, _ =>
    refine rz_pure (pc' := 161) d_X_look_1 rfl ?_
    refine rz_pure (pc' := 162) d_X_look_161 rfl ?_
    refine rz_getr d_X_look_162 f_11_35 rfl rfl ?_
    refine rz_geti d_X_look_165 f_11_143 rfl rfl ?_
    exact rz_ireti d_X_look_168 rfl rfl ⟨by first | rfl | (exact (if_pos b1).symm) | (exact (if_neg b1).symm), rfl⟩
  | 11, _ =>
    refine rz_pure (pc' := 169) d_X_look_1 rfl ?_
    refine rz_pure (pc' := 170) d_X_look_169 rfl ?_
    refine rz_getr d_X_look_170 f_11_35 rfl rfl ?_
    refine rz_geti d_X_look_173 f_11_146 rfl rfl ?_
    exact rz_ireti d_X_look_176 rfl rfl ⟨by first | rfl | (exact (if_pos b1).symm) | (exact (if_neg b1).symm), rfl⟩
  | 12, _ =>
    refine rz_pure (pc' := 177) d_X_look_1 rfl ?_
    refine rz_pure (pc' := 178) d_X_look_177 rfl ?_
    refine rz_getr d_X_look_178 f_11_35 rfl rfl ?_
    refine rz_geti d_X_look_181 f_11_149 rfl rfl ?_
    exact rz_ireti d_X_look_184 rfl rfl ⟨by first | rfl | (exact (if_pos b1).symm) | (exact (if_neg b1).symm), rfl⟩
  | 13, _ =>
    refine rz_pure (pc' := 185) d_X_look_1 rfl ?_
    refine rz_pure (pc' := 186) d_X_look_185 rfl ?_
    refine rz_getr d_X_look_186 f_11_35 rfl rfl ?_
    refine rz_geti d_X_look_189 f_11_152 rfl rfl ?_
    exact rz_ireti d_X_look_192 rfl rfl ⟨by first | rfl | (exact (if_pos b1).symm) | (exact (if_neg b1).symm), rfl⟩
  | 14, _ =>
    refine rz_pure (pc' := 193) d_X_look_1 rfl ?_
    refine rz_pure (pc' := 194) d_X_look_193 rfl ?_
    refine rz_getr d_X_look_194 f_11_35 rfl rfl ?_
    refine rz_geti d_X_look_197 f_11_155 rfl rfl ?_
    exact rz_ireti d_X_look_200 rfl rfl ⟨by first | rfl | (exact (if_pos b1).symm) | (exact (if_neg b1).symm), rfl⟩
  | j + 15, h => exact absurd h (by omega)
theorem c_X_look_out {S : rz_S} {x : Int32} (hx : x < 0 ∨ nI 15 ≤ x) : rz_ev mX_look [.ref 0, .int x] S (rz_i (fun y S1 => y = -1 ∧ S1 = S)) := by
  show rz _ 0 [(0, .ref 0), (1, .int x)] [] _ _
  refine rz_pure (pc' := 1) d_X_look_0 rfl ?_
  refine rz_tsOut (tgt := 201) d_X_look_1 ?_ rfl ?_
  · rcases hx with h | h
    · exact Or.inl (Int32.lt_iff_toInt_lt.mp h)
    · have := Int32.le_iff_toInt_le.mp h
      rw [nI_toInt (by decide)] at this
      exact Or.inr (by omega)
  refine rz_iconst (v := -1) d_X_look_201 (by decide) ?_
  exact rz_ireti d_X_look_202 rfl rfl (by exact ⟨rfl, rfl⟩)
def lkM (S : rz_S) : Nat → Int32
  | 0 => sM_number S
  | 1 => sM_track S
  | 2 => sM_sector S
  | 3 => sM_ended S
  | 4 => sM_taped S
  | 5 => sM_idOne S
  | 6 => sM_idTwo S
  | 7 => cn_of (aM_kind S) 15
  | 8 => sM_ra S
  | 9 => sM_rx S
  | 10 => sM_ry S
  | 11 => sM_rs S
  | 12 => sM_rp S
  | 13 => sM_endedAt S
  | 14 => sM_cycles S
  | _ => -1
theorem d_M_look_0 : decode (rm_code mM_look) 0 = .ok (.iload_n 1, 1) := by decide +kernel
theorem d_M_look_1 : decode (rm_code mM_look) 1 = .ok (.tableswitch (150) (0) (14) #[(75), (80), (85), (90), (95), (100), (105), (110), (115), (120), (125), (130), (135), (140), (145)], 75) := by decide +kernel
theorem d_M_look_76 : decode (rm_code mM_look) 76 = .ok (.aload_n 0, 1) := by decide +kernel
theorem d_M_look_77 : decode (rm_code mM_look) 77 = .ok (.getfield 227, 3) := by decide +kernel
theorem d_M_look_80 : decode (rm_code mM_look) 80 = .ok (.ireturn, 1) := by decide +kernel
theorem d_M_look_81 : decode (rm_code mM_look) 81 = .ok (.aload_n 0, 1) := by decide +kernel
theorem d_M_look_82 : decode (rm_code mM_look) 82 = .ok (.getfield 230, 3) := by decide +kernel
theorem d_M_look_85 : decode (rm_code mM_look) 85 = .ok (.ireturn, 1) := by decide +kernel
theorem d_M_look_86 : decode (rm_code mM_look) 86 = .ok (.aload_n 0, 1) := by decide +kernel
theorem d_M_look_87 : decode (rm_code mM_look) 87 = .ok (.getfield 233, 3) := by decide +kernel
theorem d_M_look_90 : decode (rm_code mM_look) 90 = .ok (.ireturn, 1) := by decide +kernel
theorem d_M_look_91 : decode (rm_code mM_look) 91 = .ok (.aload_n 0, 1) := by decide +kernel
theorem d_M_look_92 : decode (rm_code mM_look) 92 = .ok (.getfield 374, 3) := by decide +kernel
theorem d_M_look_95 : decode (rm_code mM_look) 95 = .ok (.ireturn, 1) := by decide +kernel
theorem d_M_look_96 : decode (rm_code mM_look) 96 = .ok (.aload_n 0, 1) := by decide +kernel
theorem d_M_look_97 : decode (rm_code mM_look) 97 = .ok (.getfield 254, 3) := by decide +kernel
theorem d_M_look_100 : decode (rm_code mM_look) 100 = .ok (.ireturn, 1) := by decide +kernel
theorem d_M_look_101 : decode (rm_code mM_look) 101 = .ok (.aload_n 0, 1) := by decide +kernel
theorem d_M_look_102 : decode (rm_code mM_look) 102 = .ok (.getfield 90, 3) := by decide +kernel
theorem d_M_look_105 : decode (rm_code mM_look) 105 = .ok (.ireturn, 1) := by decide +kernel
theorem d_M_look_106 : decode (rm_code mM_look) 106 = .ok (.aload_n 0, 1) := by decide +kernel
theorem d_M_look_107 : decode (rm_code mM_look) 107 = .ok (.getfield 93, 3) := by decide +kernel
theorem d_M_look_110 : decode (rm_code mM_look) 110 = .ok (.ireturn, 1) := by decide +kernel
theorem d_M_look_111 : decode (rm_code mM_look) 111 = .ok (.aload_n 0, 1) := by decide +kernel
theorem d_M_look_112 : decode (rm_code mM_look) 112 = .ok (.invokevirtual 281, 3) := by decide +kernel
theorem d_M_look_115 : decode (rm_code mM_look) 115 = .ok (.ireturn, 1) := by decide +kernel
theorem d_M_look_116 : decode (rm_code mM_look) 116 = .ok (.aload_n 0, 1) := by decide +kernel
theorem d_M_look_117 : decode (rm_code mM_look) 117 = .ok (.getfield 626, 3) := by decide +kernel
theorem d_M_look_120 : decode (rm_code mM_look) 120 = .ok (.ireturn, 1) := by decide +kernel
theorem d_M_look_121 : decode (rm_code mM_look) 121 = .ok (.aload_n 0, 1) := by decide +kernel
theorem d_M_look_122 : decode (rm_code mM_look) 122 = .ok (.getfield 629, 3) := by decide +kernel
theorem d_M_look_125 : decode (rm_code mM_look) 125 = .ok (.ireturn, 1) := by decide +kernel
theorem d_M_look_126 : decode (rm_code mM_look) 126 = .ok (.aload_n 0, 1) := by decide +kernel
theorem d_M_look_127 : decode (rm_code mM_look) 127 = .ok (.getfield 632, 3) := by decide +kernel
theorem d_M_look_130 : decode (rm_code mM_look) 130 = .ok (.ireturn, 1) := by decide +kernel
theorem d_M_look_131 : decode (rm_code mM_look) 131 = .ok (.aload_n 0, 1) := by decide +kernel
theorem d_M_look_132 : decode (rm_code mM_look) 132 = .ok (.getfield 635, 3) := by decide +kernel
theorem d_M_look_135 : decode (rm_code mM_look) 135 = .ok (.ireturn, 1) := by decide +kernel
theorem d_M_look_136 : decode (rm_code mM_look) 136 = .ok (.aload_n 0, 1) := by decide +kernel
theorem d_M_look_137 : decode (rm_code mM_look) 137 = .ok (.getfield 638, 3) := by decide +kernel
theorem d_M_look_140 : decode (rm_code mM_look) 140 = .ok (.ireturn, 1) := by decide +kernel
theorem d_M_look_141 : decode (rm_code mM_look) 141 = .ok (.aload_n 0, 1) := by decide +kernel
theorem d_M_look_142 : decode (rm_code mM_look) 142 = .ok (.getfield 647, 3) := by decide +kernel
theorem d_M_look_145 : decode (rm_code mM_look) 145 = .ok (.ireturn, 1) := by decide +kernel
theorem d_M_look_146 : decode (rm_code mM_look) 146 = .ok (.aload_n 0, 1) := by decide +kernel
theorem d_M_look_147 : decode (rm_code mM_look) 147 = .ok (.getfield 641, 3) := by decide +kernel
theorem d_M_look_150 : decode (rm_code mM_look) 150 = .ok (.ireturn, 1) := by decide +kernel
theorem d_M_look_151 : decode (rm_code mM_look) 151 = .ok (.iconst (-1), 1) := by decide +kernel
theorem d_M_look_152 : decode (rm_code mM_look) 152 = .ok (.ireturn, 1) := by decide +kernel
theorem c_M_look_in {S : rz_S} {j : Nat} (hj : j < 15) : rz_ev mM_look [.ref 116, .int (nI j)] S (rz_i (fun x S1 => x = lkM S j ∧ S1 = S)) := by
  show rz _ 0 [(0, .ref 116), (1, .int (nI j))] [] _ _
  refine rz_pure (pc' := 1) d_M_look_0 rfl ?_
  match j, hj with
  | 0, _ =>
    refine rz_pure (pc' := 76) d_M_look_1 rfl ?_
    refine rz_pure (pc' := 77) d_M_look_76 rfl ?_
    refine rz_geti d_M_look_77 f_12_227 rfl rfl ?_
    exact rz_ireti d_M_look_80 rfl rfl ⟨by first | rfl | (exact (if_pos b1).symm) | (exact (if_neg b1).symm), rfl⟩
  | 1, _ =>
    refine rz_pure (pc' := 81) d_M_look_1 rfl ?_
    refine rz_pure (pc' := 82) d_M_look_81 rfl ?_
    refine rz_geti d_M_look_82 f_12_230 rfl rfl ?_
    exact rz_ireti d_M_look_85 rfl rfl ⟨by first | rfl | (exact (if_pos b1).symm) | (exact (if_neg b1).symm), rfl⟩
  | 2, _ =>
    refine rz_pure (pc' := 86) d_M_look_1 rfl ?_
    refine rz_pure (pc' := 87) d_M_look_86 rfl ?_
    refine rz_geti d_M_look_87 f_12_233 rfl rfl ?_
    exact rz_ireti d_M_look_90 rfl rfl ⟨by first | rfl | (exact (if_pos b1).symm) | (exact (if_neg b1).symm), rfl⟩
  | 3, _ =>
    refine rz_pure (pc' := 91) d_M_look_1 rfl ?_
    refine rz_pure (pc' := 92) d_M_look_91 rfl ?_
    refine rz_geti d_M_look_92 f_12_374 rfl rfl ?_
    exact rz_ireti d_M_look_95 rfl rfl ⟨by first | rfl | (exact (if_pos b1).symm) | (exact (if_neg b1).symm), rfl⟩
  | 4, _ =>
    refine rz_pure (pc' := 96) d_M_look_1 rfl ?_
    refine rz_pure (pc' := 97) d_M_look_96 rfl ?_
    refine rz_geti d_M_look_97 f_12_254 rfl rfl ?_
    exact rz_ireti d_M_look_100 rfl rfl ⟨by first | rfl | (exact (if_pos b1).symm) | (exact (if_neg b1).symm), rfl⟩
  | 5, _ =>
    refine rz_pure (pc' := 101) d_M_look_1 rfl ?_
    refine rz_pure (pc' := 102) d_M_look_101 rfl ?_
    refine rz_geti d_M_look_102 f_12_90 rfl rfl ?_
    exact rz_ireti d_M_look_105 rfl rfl ⟨by first | rfl | (exact (if_pos b1).symm) | (exact (if_neg b1).symm), rfl⟩
  | 6, _ =>
    refine rz_pure (pc' := 106) d_M_look_1 rfl ?_
    refine rz_pure (pc' := 107) d_M_look_106 rfl ?_
    refine rz_geti d_M_look_107 f_12_93 rfl rfl ?_
    exact rz_ireti d_M_look_110 rfl rfl ⟨by first | rfl | (exact (if_pos b1).symm) | (exact (if_neg b1).symm), rfl⟩
  | 7, _ =>
    refine rz_pure (pc' := 111) d_M_look_1 rfl ?_
    refine rz_pure (pc' := 112) d_M_look_111 rfl ?_
    refine rz_callVi (t := []) d_M_look_112 w_12_281 rfl rfl rfl (c_M_openMany) (fun x1 S1 q1 => ?_)
    obtain ⟨rfl, rfl⟩ := q1
    exact rz_ireti d_M_look_115 rfl rfl ⟨by first | rfl | (exact (if_pos b1).symm) | (exact (if_neg b1).symm), rfl⟩
  | 8, _ =>
    refine rz_pure (pc' := 116) d_M_look_1 rfl ?_
    refine rz_pure (pc' := 117) d_M_look_116 rfl ?_
    refine rz_geti d_M_look_117 f_12_626 rfl rfl ?_
    exact rz_ireti d_M_look_120 rfl rfl ⟨by first | rfl | (exact (if_pos b1).symm) | (exact (if_neg b1).symm), rfl⟩
  | 9, _ =>
    refine rz_pure (pc' := 121) d_M_look_1 rfl ?_
    refine rz_pure (pc' := 122) d_M_look_121 rfl ?_
    refine rz_geti d_M_look_122 f_12_629 rfl rfl ?_
    exact rz_ireti d_M_look_125 rfl rfl ⟨by first | rfl | (exact (if_pos b1).symm) | (exact (if_neg b1).symm), rfl⟩
  | 10, _ =>
    refine rz_pure (pc' := 126) d_M_look_1 rfl ?_
    refine rz_pure (pc' := 127) d_M_look_126 rfl ?_
    refine rz_geti d_M_look_127 f_12_632 rfl rfl ?_
    exact rz_ireti d_M_look_130 rfl rfl ⟨by first | rfl | (exact (if_pos b1).symm) | (exact (if_neg b1).symm), rfl⟩
  | 11, _ =>
    refine rz_pure (pc' := 131) d_M_look_1 rfl ?_
    refine rz_pure (pc' := 132) d_M_look_131 rfl ?_
    refine rz_geti d_M_look_132 f_12_635 rfl rfl ?_
    exact rz_ireti d_M_look_135 rfl rfl ⟨by first | rfl | (exact (if_pos b1).symm) | (exact (if_neg b1).symm), rfl⟩
  | 12, _ =>
    refine rz_pure (pc' := 136) d_M_look_1 rfl ?_
    refine rz_pure (pc' := 137) d_M_look_136 rfl ?_
    refine rz_geti d_M_look_137 f_12_638 rfl rfl ?_
    exact rz_ireti d_M_look_140 rfl rfl ⟨by first | rfl | (exact (if_pos b1).symm) | (exact (if_neg b1).symm), rfl⟩
  | 13, _ =>
    refine rz_pure (pc' := 141) d_M_look_1 rfl ?_
    refine rz_pure (pc' := 142) d_M_look_141 rfl ?_
    refine rz_geti d_M_look_142 f_12_647 rfl rfl ?_
    exact rz_ireti d_M_look_145 rfl rfl ⟨by first | rfl | (exact (if_pos b1).symm) | (exact (if_neg b1).symm), rfl⟩
  | 14, _ =>
    refine rz_pure (pc' := 146) d_M_look_1 rfl ?_
    refine rz_pure (pc' := 147) d_M_look_146 rfl ?_
    refine rz_geti d_M_look_147 f_12_641 rfl rfl ?_
    exact rz_ireti d_M_look_150 rfl rfl ⟨by first | rfl | (exact (if_pos b1).symm) | (exact (if_neg b1).symm), rfl⟩
  | j + 15, h => exact absurd h (by omega)
theorem c_M_look_out {S : rz_S} {x : Int32} (hx : x < 0 ∨ nI 15 ≤ x) : rz_ev mM_look [.ref 116, .int x] S (rz_i (fun y S1 => y = -1 ∧ S1 = S)) := by
  show rz _ 0 [(0, .ref 116), (1, .int x)] [] _ _
  refine rz_pure (pc' := 1) d_M_look_0 rfl ?_
  refine rz_tsOut (tgt := 151) d_M_look_1 ?_ rfl ?_
  · rcases hx with h | h
    · exact Or.inl (Int32.lt_iff_toInt_lt.mp h)
    · have := Int32.le_iff_toInt_le.mp h
      rw [nI_toInt (by decide)] at this
      exact Or.inr (by omega)
  refine rz_iconst (v := -1) d_M_look_151 (by decide) ?_
  exact rz_ireti d_M_look_152 rfl rfl (by exact ⟨rfl, rfl⟩)
theorem rd_look {S : rz_S} {P : rz_S → Prop} (hR : ∀ j, j < 15 → lkX S j = lkM S j) (hP : P S) (x : Int32) : rd_two mX_look mM_look [.int x] S P := by
  rcases pk_ix x (n := 15) (by decide) with h | h | ⟨j, hj, rfl⟩
  · exact rd_exact (c_X_look_out (Or.inl h)) (c_M_look_out (Or.inl h)) rfl hP
  · exact rd_exact (c_X_look_out (Or.inr h)) (c_M_look_out (Or.inr h)) rfl hP
  · exact rd_exact (c_X_look_in hj) (c_M_look_in hj) (hR j hj) hP
