/-! what each block of the code asks (printed by wpgen.py) -/
theorem d_M_header_0 : decode (rm_code mM_header) 0 = .ok (.aload_n 0, 1) := by decide +kernel
theorem d_M_header_1 : decode (rm_code mM_header) 1 = .ok (.getfield 71, 3) := by decide +kernel
theorem d_M_header_4 : decode (rm_code mM_header) 4 = .ok (.iconst 0, 1) := by decide +kernel
theorem d_M_header_5 : decode (rm_code mM_header) 5 = .ok (.bipush (8), 2) := by decide +kernel
theorem d_M_header_7 : decode (rm_code mM_header) 7 = .ok (.iastore, 1) := by decide +kernel
theorem d_M_header_8 : decode (rm_code mM_header) 8 = .ok (.aload_n 0, 1) := by decide +kernel
theorem d_M_header_9 : decode (rm_code mM_header) 9 = .ok (.getfield 71, 3) := by decide +kernel
theorem d_M_header_12 : decode (rm_code mM_header) 12 = .ok (.iconst 1, 1) := by decide +kernel
theorem d_M_header_13 : decode (rm_code mM_header) 13 = .ok (.iload_n 2, 1) := by decide +kernel
theorem d_M_header_14 : decode (rm_code mM_header) 14 = .ok (.iload_n 1, 1) := by decide +kernel
theorem d_M_header_15 : decode (rm_code mM_header) 15 = .ok (.ixor, 1) := by decide +kernel
theorem d_M_header_16 : decode (rm_code mM_header) 16 = .ok (.iload_n 3, 1) := by decide +kernel
theorem d_M_header_17 : decode (rm_code mM_header) 17 = .ok (.ixor, 1) := by decide +kernel
theorem d_M_header_18 : decode (rm_code mM_header) 18 = .ok (.iload 4, 2) := by decide +kernel
theorem d_M_header_20 : decode (rm_code mM_header) 20 = .ok (.ixor, 1) := by decide +kernel
theorem d_M_header_21 : decode (rm_code mM_header) 21 = .ok (.iastore, 1) := by decide +kernel
theorem d_M_header_22 : decode (rm_code mM_header) 22 = .ok (.aload_n 0, 1) := by decide +kernel
theorem d_M_header_23 : decode (rm_code mM_header) 23 = .ok (.getfield 71, 3) := by decide +kernel
theorem d_M_header_26 : decode (rm_code mM_header) 26 = .ok (.iconst 2, 1) := by decide +kernel
theorem d_M_header_27 : decode (rm_code mM_header) 27 = .ok (.iload_n 2, 1) := by decide +kernel
theorem d_M_header_28 : decode (rm_code mM_header) 28 = .ok (.iastore, 1) := by decide +kernel
theorem d_M_header_29 : decode (rm_code mM_header) 29 = .ok (.aload_n 0, 1) := by decide +kernel
theorem d_M_header_30 : decode (rm_code mM_header) 30 = .ok (.getfield 71, 3) := by decide +kernel
theorem d_M_header_33 : decode (rm_code mM_header) 33 = .ok (.iconst 3, 1) := by decide +kernel
theorem d_M_header_34 : decode (rm_code mM_header) 34 = .ok (.iload_n 1, 1) := by decide +kernel
theorem d_M_header_35 : decode (rm_code mM_header) 35 = .ok (.iastore, 1) := by decide +kernel
theorem d_M_header_36 : decode (rm_code mM_header) 36 = .ok (.aload_n 0, 1) := by decide +kernel
theorem d_M_header_37 : decode (rm_code mM_header) 37 = .ok (.getfield 71, 3) := by decide +kernel
theorem d_M_header_40 : decode (rm_code mM_header) 40 = .ok (.iconst 4, 1) := by decide +kernel
theorem d_M_header_41 : decode (rm_code mM_header) 41 = .ok (.iload 4, 2) := by decide +kernel
theorem d_M_header_43 : decode (rm_code mM_header) 43 = .ok (.iastore, 1) := by decide +kernel
theorem d_M_header_44 : decode (rm_code mM_header) 44 = .ok (.aload_n 0, 1) := by decide +kernel
theorem d_M_header_45 : decode (rm_code mM_header) 45 = .ok (.getfield 71, 3) := by decide +kernel
theorem d_M_header_48 : decode (rm_code mM_header) 48 = .ok (.iconst 5, 1) := by decide +kernel
theorem d_M_header_49 : decode (rm_code mM_header) 49 = .ok (.iload_n 3, 1) := by decide +kernel
theorem d_M_header_50 : decode (rm_code mM_header) 50 = .ok (.iastore, 1) := by decide +kernel
theorem d_M_header_51 : decode (rm_code mM_header) 51 = .ok (.aload_n 0, 1) := by decide +kernel
theorem d_M_header_52 : decode (rm_code mM_header) 52 = .ok (.getfield 71, 3) := by decide +kernel
theorem d_M_header_55 : decode (rm_code mM_header) 55 = .ok (.bipush (6), 2) := by decide +kernel
theorem d_M_header_57 : decode (rm_code mM_header) 57 = .ok (.bipush (15), 2) := by decide +kernel
theorem d_M_header_59 : decode (rm_code mM_header) 59 = .ok (.iastore, 1) := by decide +kernel
theorem d_M_header_60 : decode (rm_code mM_header) 60 = .ok (.aload_n 0, 1) := by decide +kernel
theorem d_M_header_61 : decode (rm_code mM_header) 61 = .ok (.getfield 71, 3) := by decide +kernel
theorem d_M_header_64 : decode (rm_code mM_header) 64 = .ok (.bipush (7), 2) := by decide +kernel
theorem d_M_header_66 : decode (rm_code mM_header) 66 = .ok (.bipush (15), 2) := by decide +kernel
theorem d_M_header_68 : decode (rm_code mM_header) 68 = .ok (.iastore, 1) := by decide +kernel
theorem d_M_header_69 : decode (rm_code mM_header) 69 = .ok (.aload_n 0, 1) := by decide +kernel
theorem d_M_header_70 : decode (rm_code mM_header) 70 = .ok (.bipush (8), 2) := by decide +kernel
theorem d_M_header_72 : decode (rm_code mM_header) 72 = .ok (.invokevirtual 83, 3) := by decide +kernel
theorem d_M_header_75 : decode (rm_code mM_header) 75 = .ok (.return_, 1) := by decide +kernel
theorem p_M_header_0 {S : rz_S} {K : rz_S → Prop} {a1 : Int32} {a2 : Int32} {a3 : Int32} {a4 : Int32} (w : rz_ev mM_codes [.ref 116, .int 8] (rz_fA (rz_fA (rz_fA (rz_fA (rz_fA (rz_fA (rz_fA (rz_fA S 119 (upd (S.1 119) 0 8)) 119 (upd (upd (S.1 119) 0 8) 1 (((a2 ^^^ a1) ^^^ a3) ^^^ a4))) 119 (upd (upd (upd (S.1 119) 0 8) 1 (((a2 ^^^ a1) ^^^ a3) ^^^ a4)) 2 a2)) 119 (upd (upd (upd (upd (S.1 119) 0 8) 1 (((a2 ^^^ a1) ^^^ a3) ^^^ a4)) 2 a2) 3 a1)) 119 (upd (upd (upd (upd (upd (S.1 119) 0 8) 1 (((a2 ^^^ a1) ^^^ a3) ^^^ a4)) 2 a2) 3 a1) 4 a4)) 119 (upd (upd (upd (upd (upd (upd (S.1 119) 0 8) 1 (((a2 ^^^ a1) ^^^ a3) ^^^ a4)) 2 a2) 3 a1) 4 a4) 5 a3)) 119 (upd (upd (upd (upd (upd (upd (upd (S.1 119) 0 8) 1 (((a2 ^^^ a1) ^^^ a3) ^^^ a4)) 2 a2) 3 a1) 4 a4) 5 a3) 6 15)) 119 (upd (upd (upd (upd (upd (upd (upd (upd (S.1 119) 0 8) 1 (((a2 ^^^ a1) ^^^ a3) ^^^ a4)) 2 a2) 3 a1) 4 a4) 5 a3) 6 15) 7 15)) (rz_v (fun Sq1 => K Sq1))) : rz mM_header 0 [(0, .ref 116), (1, .int a1), (2, .int a2), (3, .int a3), (4, .int a4)] [] S (rz_v K) := by
  refine rz_pure (pc' := 1) d_M_header_0 rfl ?_
  refine rz_getr d_M_header_1 f_12_71 rfl rfl ?_
  refine rz_iconst (v := 0) d_M_header_4 (by decide) ?_
  refine rz_bipush (v := 8) d_M_header_5 (by decide) ?_
  refine rz_iastv (F := S.1 119) (i := 0) d_M_header_7 rfl (by decide) rfl (by decide) ?_
  refine rz_pure (pc' := 9) d_M_header_8 rfl ?_
  refine rz_getr d_M_header_9 f_12_71 rfl rfl ?_
  refine rz_iconst (v := 1) d_M_header_12 (by decide) ?_
  refine rz_pure (pc' := 14) d_M_header_13 rfl ?_
  refine rz_pure (pc' := 15) d_M_header_14 rfl ?_
  refine rz_ixor d_M_header_15 ?_
  refine rz_pure (pc' := 17) d_M_header_16 rfl ?_
  refine rz_ixor d_M_header_17 ?_
  refine rz_pure (pc' := 20) d_M_header_18 rfl ?_
  refine rz_ixor d_M_header_20 ?_
  refine rz_iastv (F := upd (S.1 119) 0 8) (i := 1) d_M_header_21 rfl (by decide) rz_fA_s (by decide) ?_
  refine rz_pure (pc' := 23) d_M_header_22 rfl ?_
  refine rz_getr d_M_header_23 f_12_71 rfl rfl ?_
  refine rz_iconst (v := 2) d_M_header_26 (by decide) ?_
  refine rz_pure (pc' := 28) d_M_header_27 rfl ?_
  refine rz_iastv (F := upd (upd (S.1 119) 0 8) 1 (((a2 ^^^ a1) ^^^ a3) ^^^ a4)) (i := 2) d_M_header_28 rfl (by decide) rz_fA_s (by decide) ?_
  refine rz_pure (pc' := 30) d_M_header_29 rfl ?_
  refine rz_getr d_M_header_30 f_12_71 rfl rfl ?_
  refine rz_iconst (v := 3) d_M_header_33 (by decide) ?_
  refine rz_pure (pc' := 35) d_M_header_34 rfl ?_
  refine rz_iastv (F := upd (upd (upd (S.1 119) 0 8) 1 (((a2 ^^^ a1) ^^^ a3) ^^^ a4)) 2 a2) (i := 3) d_M_header_35 rfl (by decide) rz_fA_s (by decide) ?_
  refine rz_pure (pc' := 37) d_M_header_36 rfl ?_
  refine rz_getr d_M_header_37 f_12_71 rfl rfl ?_
  refine rz_iconst (v := 4) d_M_header_40 (by decide) ?_
  refine rz_pure (pc' := 43) d_M_header_41 rfl ?_
  refine rz_iastv (F := upd (upd (upd (upd (S.1 119) 0 8) 1 (((a2 ^^^ a1) ^^^ a3) ^^^ a4)) 2 a2) 3 a1) (i := 4) d_M_header_43 rfl (by decide) rz_fA_s (by decide) ?_
  refine rz_pure (pc' := 45) d_M_header_44 rfl ?_
  refine rz_getr d_M_header_45 f_12_71 rfl rfl ?_
  refine rz_iconst (v := 5) d_M_header_48 (by decide) ?_
  refine rz_pure (pc' := 50) d_M_header_49 rfl ?_
  refine rz_iastv (F := upd (upd (upd (upd (upd (S.1 119) 0 8) 1 (((a2 ^^^ a1) ^^^ a3) ^^^ a4)) 2 a2) 3 a1) 4 a4) (i := 5) d_M_header_50 rfl (by decide) rz_fA_s (by decide) ?_
  refine rz_pure (pc' := 52) d_M_header_51 rfl ?_
  refine rz_getr d_M_header_52 f_12_71 rfl rfl ?_
  refine rz_bipush (v := 6) d_M_header_55 (by decide) ?_
  refine rz_bipush (v := 15) d_M_header_57 (by decide) ?_
  refine rz_iastv (F := upd (upd (upd (upd (upd (upd (S.1 119) 0 8) 1 (((a2 ^^^ a1) ^^^ a3) ^^^ a4)) 2 a2) 3 a1) 4 a4) 5 a3) (i := 6) d_M_header_59 rfl (by decide) rz_fA_s (by decide) ?_
  refine rz_pure (pc' := 61) d_M_header_60 rfl ?_
  refine rz_getr d_M_header_61 f_12_71 rfl rfl ?_
  refine rz_bipush (v := 7) d_M_header_64 (by decide) ?_
  refine rz_bipush (v := 15) d_M_header_66 (by decide) ?_
  refine rz_iastv (F := upd (upd (upd (upd (upd (upd (upd (S.1 119) 0 8) 1 (((a2 ^^^ a1) ^^^ a3) ^^^ a4)) 2 a2) 3 a1) 4 a4) 5 a3) 6 15) (i := 7) d_M_header_68 rfl (by decide) rz_fA_s (by decide) ?_
  refine rz_pure (pc' := 70) d_M_header_69 rfl ?_
  refine rz_bipush (v := 8) d_M_header_70 (by decide) ?_
  refine rz_callVv (t := [.int 8]) d_M_header_72 w_12_83 rfl rfl rfl w (fun Sq1 q1 => ?_)
  exact rz_vretv d_M_header_75 rfl q1
theorem d_M_data_0 : decode (rm_code mM_data) 0 = .ok (.iconst 0, 1) := by decide +kernel
theorem d_M_data_1 : decode (rm_code mM_data) 1 = .ok (.istore_n 3, 1) := by decide +kernel
theorem d_M_data_2 : decode (rm_code mM_data) 2 = .ok (.aload_n 0, 1) := by decide +kernel
theorem d_M_data_3 : decode (rm_code mM_data) 3 = .ok (.getfield 71, 3) := by decide +kernel
theorem d_M_data_6 : decode (rm_code mM_data) 6 = .ok (.iconst 0, 1) := by decide +kernel
theorem d_M_data_7 : decode (rm_code mM_data) 7 = .ok (.bipush (7), 2) := by decide +kernel
theorem d_M_data_9 : decode (rm_code mM_data) 9 = .ok (.iastore, 1) := by decide +kernel
theorem d_M_data_10 : decode (rm_code mM_data) 10 = .ok (.iconst 0, 1) := by decide +kernel
theorem d_M_data_11 : decode (rm_code mM_data) 11 = .ok (.istore 4, 2) := by decide +kernel
theorem d_M_data_13 : decode (rm_code mM_data) 13 = .ok (.iload 4, 2) := by decide +kernel
theorem d_M_data_15 : decode (rm_code mM_data) 15 = .ok (.bipush (64), 2) := by decide +kernel
theorem d_M_data_17 : decode (rm_code mM_data) 17 = .ok (.if_icmp .ge (33), 3) := by decide +kernel
theorem d_M_data_20 : decode (rm_code mM_data) 20 = .ok (.aload_n 0, 1) := by decide +kernel
theorem d_M_data_21 : decode (rm_code mM_data) 21 = .ok (.getfield 71, 3) := by decide +kernel
theorem d_M_data_24 : decode (rm_code mM_data) 24 = .ok (.iconst 1, 1) := by decide +kernel
theorem d_M_data_25 : decode (rm_code mM_data) 25 = .ok (.iload 4, 2) := by decide +kernel
theorem d_M_data_27 : decode (rm_code mM_data) 27 = .ok (.iadd, 1) := by decide +kernel
theorem d_M_data_28 : decode (rm_code mM_data) 28 = .ok (.aload_n 1, 1) := by decide +kernel
theorem d_M_data_29 : decode (rm_code mM_data) 29 = .ok (.iload_n 2, 1) := by decide +kernel
theorem d_M_data_30 : decode (rm_code mM_data) 30 = .ok (.iload 4, 2) := by decide +kernel
theorem d_M_data_32 : decode (rm_code mM_data) 32 = .ok (.iadd, 1) := by decide +kernel
theorem d_M_data_33 : decode (rm_code mM_data) 33 = .ok (.iaload, 1) := by decide +kernel
theorem d_M_data_34 : decode (rm_code mM_data) 34 = .ok (.iastore, 1) := by decide +kernel
theorem d_M_data_35 : decode (rm_code mM_data) 35 = .ok (.iload_n 3, 1) := by decide +kernel
theorem d_M_data_36 : decode (rm_code mM_data) 36 = .ok (.aload_n 1, 1) := by decide +kernel
theorem d_M_data_37 : decode (rm_code mM_data) 37 = .ok (.iload_n 2, 1) := by decide +kernel
theorem d_M_data_38 : decode (rm_code mM_data) 38 = .ok (.iload 4, 2) := by decide +kernel
theorem d_M_data_40 : decode (rm_code mM_data) 40 = .ok (.iadd, 1) := by decide +kernel
theorem d_M_data_41 : decode (rm_code mM_data) 41 = .ok (.iaload, 1) := by decide +kernel
theorem d_M_data_42 : decode (rm_code mM_data) 42 = .ok (.ixor, 1) := by decide +kernel
theorem d_M_data_43 : decode (rm_code mM_data) 43 = .ok (.istore_n 3, 1) := by decide +kernel
theorem d_M_data_44 : decode (rm_code mM_data) 44 = .ok (.iinc 4 (1), 3) := by decide +kernel
theorem d_M_data_47 : decode (rm_code mM_data) 47 = .ok (.goto (-34), 3) := by decide +kernel
theorem d_M_data_50 : decode (rm_code mM_data) 50 = .ok (.aload_n 0, 1) := by decide +kernel
theorem d_M_data_51 : decode (rm_code mM_data) 51 = .ok (.getfield 71, 3) := by decide +kernel
theorem d_M_data_54 : decode (rm_code mM_data) 54 = .ok (.bipush (65), 2) := by decide +kernel
theorem d_M_data_56 : decode (rm_code mM_data) 56 = .ok (.iload_n 3, 1) := by decide +kernel
theorem d_M_data_57 : decode (rm_code mM_data) 57 = .ok (.iastore, 1) := by decide +kernel
theorem d_M_data_58 : decode (rm_code mM_data) 58 = .ok (.aload_n 0, 1) := by decide +kernel
theorem d_M_data_59 : decode (rm_code mM_data) 59 = .ok (.getfield 71, 3) := by decide +kernel
theorem d_M_data_62 : decode (rm_code mM_data) 62 = .ok (.bipush (66), 2) := by decide +kernel
theorem d_M_data_64 : decode (rm_code mM_data) 64 = .ok (.iconst 0, 1) := by decide +kernel
theorem d_M_data_65 : decode (rm_code mM_data) 65 = .ok (.iastore, 1) := by decide +kernel
theorem d_M_data_66 : decode (rm_code mM_data) 66 = .ok (.aload_n 0, 1) := by decide +kernel
theorem d_M_data_67 : decode (rm_code mM_data) 67 = .ok (.getfield 71, 3) := by decide +kernel
theorem d_M_data_70 : decode (rm_code mM_data) 70 = .ok (.bipush (67), 2) := by decide +kernel
theorem d_M_data_72 : decode (rm_code mM_data) 72 = .ok (.iconst 0, 1) := by decide +kernel
theorem d_M_data_73 : decode (rm_code mM_data) 73 = .ok (.iastore, 1) := by decide +kernel
theorem d_M_data_74 : decode (rm_code mM_data) 74 = .ok (.aload_n 0, 1) := by decide +kernel
theorem d_M_data_75 : decode (rm_code mM_data) 75 = .ok (.bipush (68), 2) := by decide +kernel
theorem d_M_data_77 : decode (rm_code mM_data) 77 = .ok (.invokevirtual 83, 3) := by decide +kernel
theorem d_M_data_80 : decode (rm_code mM_data) 80 = .ok (.return_, 1) := by decide +kernel
theorem p_M_data_0 {S : rz_S} {K : rz_S → Prop} {a1 na1 : Nat} (ha1 : rz_T[a1]? = some (.inl (0, na1))) {a2 : Int32} (w : rz mM_data 13 [(0, .ref 116), (1, .ref a1), (2, .int a2), (3, .int 0), (4, .int 0)] [] (rz_fA S 119 (upd (S.1 119) 0 7)) (rz_v K)) : rz mM_data 0 [(0, .ref 116), (1, .ref a1), (2, .int a2)] [] S (rz_v K) := by
  refine rz_iconst (v := 0) d_M_data_0 (by decide) ?_
  refine rz_pure (pc' := 2) (l' := [(3, .int 0), (0, .ref 116), (1, .ref a1), (2, .int a2)]) d_M_data_1 rfl ?_
  refine rz_pure (pc' := 3) d_M_data_2 rfl ?_
  refine rz_getr d_M_data_3 f_12_71 rfl rfl ?_
  refine rz_iconst (v := 0) d_M_data_6 (by decide) ?_
  refine rz_bipush (v := 7) d_M_data_7 (by decide) ?_
  refine rz_iastv (F := S.1 119) (i := 0) d_M_data_9 rfl (by decide) rfl (by decide) ?_
  refine rz_iconst (v := 0) d_M_data_10 (by decide) ?_
  refine rz_pure (pc' := 13) (l' := [(4, .int 0), (3, .int 0), (0, .ref 116), (1, .ref a1), (2, .int a2)]) d_M_data_11 rfl ?_
  exact rz_pick (ks := [0, 1, 2, 3, 4]) (l := [(0, .ref 116), (1, .ref a1), (2, .int a2), (3, .int 0), (4, .int 0)]) rfl rfl (by decide) rfl w
theorem p_M_data_13 {S : rz_S} {K : rz_S → Prop} {a1 na1 : Nat} (ha1 : rz_T[a1]? = some (.inl (0, na1))) {a2 : Int32} {a3 : Int32} {a4 : Int32} (w : ((64 ≤ a4 → rz_ev mM_codes [.ref 116, .int 68] (rz_fA (rz_fA (rz_fA S 119 (upd (S.1 119) 65 a3)) 119 (upd (upd (S.1 119) 65 a3) 66 0)) 119 (upd (upd (upd (S.1 119) 65 a3) 66 0) 67 0)) (rz_v (fun Sq2 => K Sq2))) ∧ (¬ 64 ≤ a4 → rx_in (a2 + a4) na1 = true ∧ rx_in (1 + a4) 68 = true ∧ rz mM_data 13 [(0, .ref 116), (1, .ref a1), (2, .int a2), (3, .int (a3 ^^^ ((rz_fA S 119 (upd (S.1 119) ((1 + a4).toNatClampNeg) (S.1 a1 ((a2 + a4).toNatClampNeg)))).1 a1 ((a2 + a4).toNatClampNeg)))), (4, .int (a4 + 1))] [] (rz_fA S 119 (upd (S.1 119) ((1 + a4).toNatClampNeg) (S.1 a1 ((a2 + a4).toNatClampNeg)))) (rz_v K)))) : rz mM_data 13 [(0, .ref 116), (1, .ref a1), (2, .int a2), (3, .int a3), (4, .int a4)] [] S (rz_v K) := by
  refine rz_pure (pc' := 15) d_M_data_13 rfl ?_
  refine rz_bipush (v := 64) d_M_data_15 (by decide) ?_
  refine rz_icmpge (tgt := 50) d_M_data_17 rfl (fun b1 => ?_) (fun b1 => ?_)
  · skip
    refine rz_pure (pc' := 51) d_M_data_50 rfl ?_
    refine rz_getr d_M_data_51 f_12_71 rfl rfl ?_
    refine rz_bipush (v := 65) d_M_data_54 (by decide) ?_
    refine rz_pure (pc' := 57) d_M_data_56 rfl ?_
    refine rz_iastv (F := S.1 119) (i := 65) d_M_data_57 rfl (by decide) rfl (by decide) ?_
    refine rz_pure (pc' := 59) d_M_data_58 rfl ?_
    refine rz_getr d_M_data_59 f_12_71 rfl rfl ?_
    refine rz_bipush (v := 66) d_M_data_62 (by decide) ?_
    refine rz_iconst (v := 0) d_M_data_64 (by decide) ?_
    refine rz_iastv (F := upd (S.1 119) 65 a3) (i := 66) d_M_data_65 rfl (by decide) rz_fA_s (by decide) ?_
    refine rz_pure (pc' := 67) d_M_data_66 rfl ?_
    refine rz_getr d_M_data_67 f_12_71 rfl rfl ?_
    refine rz_bipush (v := 67) d_M_data_70 (by decide) ?_
    refine rz_iconst (v := 0) d_M_data_72 (by decide) ?_
    refine rz_iastv (F := upd (upd (S.1 119) 65 a3) 66 0) (i := 67) d_M_data_73 rfl (by decide) rz_fA_s (by decide) ?_
    refine rz_pure (pc' := 75) d_M_data_74 rfl ?_
    refine rz_bipush (v := 68) d_M_data_75 (by decide) ?_
    refine rz_callVv (t := [.int 68]) d_M_data_77 w_12_83 rfl rfl rfl (w.1 b1) (fun Sq2 q2 => ?_)
    exact rz_vretv d_M_data_80 rfl q2
  · skip
    refine rz_pure (pc' := 21) d_M_data_20 rfl ?_
    refine rz_getr d_M_data_21 f_12_71 rfl rfl ?_
    refine rz_iconst (v := 1) d_M_data_24 (by decide) ?_
    refine rz_pure (pc' := 27) d_M_data_25 rfl ?_
    refine rz_iadd d_M_data_27 ?_
    refine rz_pure (pc' := 29) d_M_data_28 rfl ?_
    refine rz_pure (pc' := 30) d_M_data_29 rfl ?_
    refine rz_pure (pc' := 32) d_M_data_30 rfl ?_
    refine rz_iadd d_M_data_32 ?_
    refine rz_ialdv (F := S.1 a1) (i := (a2 + a4).toNatClampNeg) d_M_data_33 (ha1) (w.2 b1).1 rfl rfl ?_
    refine rz_iastv (F := S.1 119) (i := (1 + a4).toNatClampNeg) d_M_data_34 rfl (w.2 b1).2.1 rfl rfl ?_
    refine rz_pure (pc' := 36) d_M_data_35 rfl ?_
    refine rz_pure (pc' := 37) d_M_data_36 rfl ?_
    refine rz_pure (pc' := 38) d_M_data_37 rfl ?_
    refine rz_pure (pc' := 40) d_M_data_38 rfl ?_
    refine rz_iadd d_M_data_40 ?_
    refine rz_ialdv (F := (rz_fA S 119 (upd (S.1 119) ((1 + a4).toNatClampNeg) (S.1 a1 ((a2 + a4).toNatClampNeg)))).1 a1) (i := (a2 + a4).toNatClampNeg) d_M_data_41 (ha1) (w.2 b1).1 rfl rfl ?_
    refine rz_ixor d_M_data_42 ?_
    refine rz_pure (pc' := 44) (l' := [(3, .int (a3 ^^^ ((rz_fA S 119 (upd (S.1 119) ((1 + a4).toNatClampNeg) (S.1 a1 ((a2 + a4).toNatClampNeg)))).1 a1 ((a2 + a4).toNatClampNeg)))), (0, .ref 116), (1, .ref a1), (2, .int a2), (4, .int a4)]) d_M_data_43 rfl ?_
    refine rz_pure (pc' := 47) (l' := [(4, .int (a4 + 1)), (3, .int (a3 ^^^ ((rz_fA S 119 (upd (S.1 119) ((1 + a4).toNatClampNeg) (S.1 a1 ((a2 + a4).toNatClampNeg)))).1 a1 ((a2 + a4).toNatClampNeg)))), (0, .ref 116), (1, .ref a1), (2, .int a2)]) d_M_data_44 rfl ?_
    refine rz_pure (pc' := 13) d_M_data_47 rfl ?_
    exact rz_pick (ks := [0, 1, 2, 3, 4]) (l := [(0, .ref 116), (1, .ref a1), (2, .int a2), (3, .int (a3 ^^^ ((rz_fA S 119 (upd (S.1 119) ((1 + a4).toNatClampNeg) (S.1 a1 ((a2 + a4).toNatClampNeg)))).1 a1 ((a2 + a4).toNatClampNeg)))), (4, .int (a4 + 1))]) rfl rfl (by decide) rfl (w.2 b1).2.2
theorem d_M_seek_0 : decode (rm_code mM_seek) 0 = .ok (.aload_n 0, 1) := by decide +kernel
theorem d_M_seek_1 : decode (rm_code mM_seek) 1 = .ok (.iload_n 1, 1) := by decide +kernel
theorem d_M_seek_2 : decode (rm_code mM_seek) 2 = .ok (.invokevirtual 87, 3) := by decide +kernel
theorem d_M_seek_5 : decode (rm_code mM_seek) 5 = .ok (.istore_n 3, 1) := by decide +kernel
theorem d_M_seek_6 : decode (rm_code mM_seek) 6 = .ok (.iload_n 3, 1) := by decide +kernel
theorem d_M_seek_7 : decode (rm_code mM_seek) 7 = .ok (.ifCond .ne (6), 3) := by decide +kernel
theorem d_M_seek_10 : decode (rm_code mM_seek) 10 = .ok (.bipush (21), 2) := by decide +kernel
theorem d_M_seek_12 : decode (rm_code mM_seek) 12 = .ok (.ireturn, 1) := by decide +kernel
theorem d_M_seek_13 : decode (rm_code mM_seek) 13 = .ok (.aload_n 0, 1) := by decide +kernel
theorem d_M_seek_14 : decode (rm_code mM_seek) 14 = .ok (.iload_n 1, 1) := by decide +kernel
theorem d_M_seek_15 : decode (rm_code mM_seek) 15 = .ok (.iload_n 2, 1) := by decide +kernel
theorem d_M_seek_16 : decode (rm_code mM_seek) 16 = .ok (.aload_n 0, 1) := by decide +kernel
theorem d_M_seek_17 : decode (rm_code mM_seek) 17 = .ok (.getfield 90, 3) := by decide +kernel
theorem d_M_seek_20 : decode (rm_code mM_seek) 20 = .ok (.aload_n 0, 1) := by decide +kernel
theorem d_M_seek_21 : decode (rm_code mM_seek) 21 = .ok (.getfield 93, 3) := by decide +kernel
theorem d_M_seek_24 : decode (rm_code mM_seek) 24 = .ok (.invokevirtual 96, 3) := by decide +kernel
theorem d_M_seek_27 : decode (rm_code mM_seek) 27 = .ok (.iconst 0, 1) := by decide +kernel
theorem d_M_seek_28 : decode (rm_code mM_seek) 28 = .ok (.istore 4, 2) := by decide +kernel
theorem d_M_seek_30 : decode (rm_code mM_seek) 30 = .ok (.iload 4, 2) := by decide +kernel
theorem d_M_seek_32 : decode (rm_code mM_seek) 32 = .ok (.iload_n 3, 1) := by decide +kernel
theorem d_M_seek_33 : decode (rm_code mM_seek) 33 = .ok (.if_icmp .ge (87), 3) := by decide +kernel
theorem d_M_seek_36 : decode (rm_code mM_seek) 36 = .ok (.aload_n 0, 1) := by decide +kernel
theorem d_M_seek_37 : decode (rm_code mM_seek) 37 = .ok (.iload_n 1, 1) := by decide +kernel
theorem d_M_seek_38 : decode (rm_code mM_seek) 38 = .ok (.aload_n 0, 1) := by decide +kernel
theorem d_M_seek_39 : decode (rm_code mM_seek) 39 = .ok (.getfield 64, 3) := by decide +kernel
theorem d_M_seek_42 : decode (rm_code mM_seek) 42 = .ok (.iload 4, 2) := by decide +kernel
theorem d_M_seek_44 : decode (rm_code mM_seek) 44 = .ok (.iaload, 1) := by decide +kernel
theorem d_M_seek_45 : decode (rm_code mM_seek) 45 = .ok (.bipush (10), 2) := by decide +kernel
theorem d_M_seek_47 : decode (rm_code mM_seek) 47 = .ok (.invokevirtual 60, 3) := by decide +kernel
theorem d_M_seek_50 : decode (rm_code mM_seek) 50 = .ok (.iconst 1, 1) := by decide +kernel
theorem d_M_seek_51 : decode (rm_code mM_seek) 51 = .ok (.istore 5, 2) := by decide +kernel
theorem d_M_seek_53 : decode (rm_code mM_seek) 53 = .ok (.iconst 0, 1) := by decide +kernel
theorem d_M_seek_54 : decode (rm_code mM_seek) 54 = .ok (.istore 6, 2) := by decide +kernel
theorem d_M_seek_56 : decode (rm_code mM_seek) 56 = .ok (.iload 6, 2) := by decide +kernel
theorem d_M_seek_58 : decode (rm_code mM_seek) 58 = .ok (.bipush (10), 2) := by decide +kernel
theorem d_M_seek_60 : decode (rm_code mM_seek) 60 = .ok (.if_icmp .ge (47), 3) := by decide +kernel
theorem d_M_seek_63 : decode (rm_code mM_seek) 63 = .ok (.iload 5, 2) := by decide +kernel
theorem d_M_seek_65 : decode (rm_code mM_seek) 65 = .ok (.ifCond .eq (42), 3) := by decide +kernel
theorem d_M_seek_68 : decode (rm_code mM_seek) 68 = .ok (.aload_n 0, 1) := by decide +kernel
theorem d_M_seek_69 : decode (rm_code mM_seek) 69 = .ok (.invokevirtual 100, 3) := by decide +kernel
theorem d_M_seek_72 : decode (rm_code mM_seek) 72 = .ok (.aload_n 0, 1) := by decide +kernel
theorem d_M_seek_73 : decode (rm_code mM_seek) 73 = .ok (.getfield 74, 3) := by decide +kernel
theorem d_M_seek_76 : decode (rm_code mM_seek) 76 = .ok (.iload 6, 2) := by decide +kernel
theorem d_M_seek_78 : decode (rm_code mM_seek) 78 = .ok (.iaload, 1) := by decide +kernel
theorem d_M_seek_79 : decode (rm_code mM_seek) 79 = .ok (.if_icmp .ne (19), 3) := by decide +kernel
theorem d_M_seek_82 : decode (rm_code mM_seek) 82 = .ok (.iload 6, 2) := by decide +kernel
theorem d_M_seek_84 : decode (rm_code mM_seek) 84 = .ok (.ifCond .eq (10), 3) := by decide +kernel
theorem d_M_seek_87 : decode (rm_code mM_seek) 87 = .ok (.aload_n 0, 1) := by decide +kernel
theorem d_M_seek_88 : decode (rm_code mM_seek) 88 = .ok (.getfield 53, 3) := by decide +kernel
theorem d_M_seek_91 : decode (rm_code mM_seek) 91 = .ok (.ifCond .ne (7), 3) := by decide +kernel
theorem d_M_seek_94 : decode (rm_code mM_seek) 94 = .ok (.iconst 1, 1) := by decide +kernel
theorem d_M_seek_95 : decode (rm_code mM_seek) 95 = .ok (.goto (4), 3) := by decide +kernel
theorem d_M_seek_98 : decode (rm_code mM_seek) 98 = .ok (.iconst 0, 1) := by decide +kernel
theorem d_M_seek_99 : decode (rm_code mM_seek) 99 = .ok (.istore 5, 2) := by decide +kernel
theorem d_M_seek_101 : decode (rm_code mM_seek) 101 = .ok (.iinc 6 (1), 3) := by decide +kernel
theorem d_M_seek_104 : decode (rm_code mM_seek) 104 = .ok (.goto (-48), 3) := by decide +kernel
theorem d_M_seek_107 : decode (rm_code mM_seek) 107 = .ok (.iload 5, 2) := by decide +kernel
theorem d_M_seek_109 : decode (rm_code mM_seek) 109 = .ok (.ifCond .eq (5), 3) := by decide +kernel
theorem d_M_seek_112 : decode (rm_code mM_seek) 112 = .ok (.iconst 0, 1) := by decide +kernel
theorem d_M_seek_113 : decode (rm_code mM_seek) 113 = .ok (.ireturn, 1) := by decide +kernel
theorem d_M_seek_114 : decode (rm_code mM_seek) 114 = .ok (.iinc 4 (1), 3) := by decide +kernel
theorem d_M_seek_117 : decode (rm_code mM_seek) 117 = .ok (.goto (-87), 3) := by decide +kernel
theorem d_M_seek_120 : decode (rm_code mM_seek) 120 = .ok (.bipush (20), 2) := by decide +kernel
theorem d_M_seek_122 : decode (rm_code mM_seek) 122 = .ok (.ireturn, 1) := by decide +kernel
theorem p_M_seek_0 {S : rz_S} {K : Int32 → rz_S → Prop} {a1 : Int32} {a2 : Int32} (w : rz_ev mM_round [.ref 116, .int a1] S (rz_i (fun xq1 Sq1 => ((xq1 = 0 → K 21 Sq1) ∧ (¬ xq1 = 0 → rz_ev mM_header [.ref 116, .int a1, .int a2, .int (Sq1.2 116 2), .int (Sq1.2 116 3)] Sq1 (rz_v (fun Sq3 => rz mM_seek 30 [(0, .ref 116), (1, .int a1), (3, .int xq1), (4, .int 0)] [] Sq3 (rz_i K)))))))) : rz mM_seek 0 [(0, .ref 116), (1, .int a1), (2, .int a2)] [] S (rz_i K) := by
  refine rz_pure (pc' := 1) d_M_seek_0 rfl ?_
  refine rz_pure (pc' := 2) d_M_seek_1 rfl ?_
  refine rz_callVi (t := [.int a1]) d_M_seek_2 w_12_87 rfl rfl rfl w (fun xq1 Sq1 q1 => ?_)
  refine rz_pure (pc' := 6) (l' := [(3, .int xq1), (0, .ref 116), (1, .int a1), (2, .int a2)]) d_M_seek_5 rfl ?_
  refine rz_pure (pc' := 7) d_M_seek_6 rfl ?_
  refine rz_ifne (tgt := 13) d_M_seek_7 rfl (fun b2 => ?_) (fun b2 => ?_)
  · skip
    refine rz_pure (pc' := 14) d_M_seek_13 rfl ?_
    refine rz_pure (pc' := 15) d_M_seek_14 rfl ?_
    refine rz_pure (pc' := 16) d_M_seek_15 rfl ?_
    refine rz_pure (pc' := 17) d_M_seek_16 rfl ?_
    refine rz_getiv (v := Sq1.2 116 2) d_M_seek_17 f_12_90 rfl rfl rfl ?_
    refine rz_pure (pc' := 21) d_M_seek_20 rfl ?_
    refine rz_getiv (v := Sq1.2 116 3) d_M_seek_21 f_12_93 rfl rfl rfl ?_
    refine rz_callVv (t := [.int (Sq1.2 116 3), .int (Sq1.2 116 2), .int a2, .int a1]) d_M_seek_24 w_12_96 rfl rfl rfl (q1.2 b2) (fun Sq3 q3 => ?_)
    refine rz_iconst (v := 0) d_M_seek_27 (by decide) ?_
    refine rz_pure (pc' := 30) (l' := [(4, .int 0), (3, .int xq1), (0, .ref 116), (1, .int a1), (2, .int a2)]) d_M_seek_28 rfl ?_
    exact rz_pick (ks := [0, 1, 3, 4]) (l := [(0, .ref 116), (1, .int a1), (3, .int xq1), (4, .int 0)]) rfl rfl (by decide) rfl q3
  · skip
    refine rz_bipush (v := 21) d_M_seek_10 (by decide) ?_
    exact rz_ireti d_M_seek_12 rfl rfl (q1.1 b2)
theorem p_M_seek_30 {S : rz_S} {K : Int32 → rz_S → Prop} {a1 : Int32} {a3 : Int32} {a4 : Int32} (w : ((a3 ≤ a4 → K 20 S) ∧ (¬ a3 ≤ a4 → rx_in a4 800 = true ∧ rz_ev mM_along [.ref 116, .int a1, .int (S.1 118 a4.toNatClampNeg), .int 10] S (rz_v (fun Sq2 => rz mM_seek 56 [(0, .ref 116), (1, .int a1), (3, .int a3), (4, .int a4), (5, .int 1), (6, .int 0)] [] Sq2 (rz_i K)))))) : rz mM_seek 30 [(0, .ref 116), (1, .int a1), (3, .int a3), (4, .int a4)] [] S (rz_i K) := by
  refine rz_pure (pc' := 32) d_M_seek_30 rfl ?_
  refine rz_pure (pc' := 33) d_M_seek_32 rfl ?_
  refine rz_icmpge (tgt := 120) d_M_seek_33 rfl (fun b1 => ?_) (fun b1 => ?_)
  · skip
    refine rz_bipush (v := 20) d_M_seek_120 (by decide) ?_
    exact rz_ireti d_M_seek_122 rfl rfl (w.1 b1)
  · skip
    refine rz_pure (pc' := 37) d_M_seek_36 rfl ?_
    refine rz_pure (pc' := 38) d_M_seek_37 rfl ?_
    refine rz_pure (pc' := 39) d_M_seek_38 rfl ?_
    refine rz_getr d_M_seek_39 f_12_64 rfl rfl ?_
    refine rz_pure (pc' := 44) d_M_seek_42 rfl ?_
    refine rz_ialdv (F := S.1 118) (i := a4.toNatClampNeg) d_M_seek_44 rfl (w.2 b1).1 rfl rfl ?_
    refine rz_bipush (v := 10) d_M_seek_45 (by decide) ?_
    refine rz_callVv (t := [.int 10, .int (S.1 118 a4.toNatClampNeg), .int a1]) d_M_seek_47 w_12_60 rfl rfl rfl (w.2 b1).2 (fun Sq2 q2 => ?_)
    refine rz_iconst (v := 1) d_M_seek_50 (by decide) ?_
    refine rz_pure (pc' := 53) (l' := [(5, .int 1), (0, .ref 116), (1, .int a1), (3, .int a3), (4, .int a4)]) d_M_seek_51 rfl ?_
    refine rz_iconst (v := 0) d_M_seek_53 (by decide) ?_
    refine rz_pure (pc' := 56) (l' := [(6, .int 0), (5, .int 1), (0, .ref 116), (1, .int a1), (3, .int a3), (4, .int a4)]) d_M_seek_54 rfl ?_
    exact rz_pick (ks := [0, 1, 3, 4, 5, 6]) (l := [(0, .ref 116), (1, .int a1), (3, .int a3), (4, .int a4), (5, .int 1), (6, .int 0)]) rfl rfl (by decide) rfl q2
theorem p_M_seek_56 {S : rz_S} {K : Int32 → rz_S → Prop} {a1 : Int32} {a3 : Int32} {a4 : Int32} {a5 : Int32} {a6 : Int32} (w : ((10 ≤ a6 → rz mM_seek 107 [(0, .ref 116), (1, .int a1), (3, .int a3), (4, .int a4), (5, .int a5)] [] S (rz_i K)) ∧ (¬ 10 ≤ a6 → ((a5 = 0 → rz mM_seek 107 [(0, .ref 116), (1, .int a1), (3, .int a3), (4, .int a4), (5, .int a5)] [] S (rz_i K)) ∧ (¬ a5 = 0 → rz_ev mM_comes [.ref 116] S (rz_i (fun xq3 Sq3 => rx_in a6 85 = true ∧ ((xq3 = Sq3.1 120 a6.toNatClampNeg → ((a6 = 0 → rz mM_seek 56 [(0, .ref 116), (1, .int a1), (3, .int a3), (4, .int a4), (5, .int 1), (6, .int (a6 + 1))] [] Sq3 (rz_i K)) ∧ (¬ a6 = 0 → ((Sq3.2 116 15 = 0 → rz mM_seek 56 [(0, .ref 116), (1, .int a1), (3, .int a3), (4, .int a4), (5, .int 1), (6, .int (a6 + 1))] [] Sq3 (rz_i K)) ∧ (¬ Sq3.2 116 15 = 0 → rz mM_seek 56 [(0, .ref 116), (1, .int a1), (3, .int a3), (4, .int a4), (5, .int 0), (6, .int (a6 + 1))] [] Sq3 (rz_i K)))))) ∧ (¬ xq3 = Sq3.1 120 a6.toNatClampNeg → rz mM_seek 56 [(0, .ref 116), (1, .int a1), (3, .int a3), (4, .int a4), (5, .int 0), (6, .int (a6 + 1))] [] Sq3 (rz_i K)))))))))) : rz mM_seek 56 [(0, .ref 116), (1, .int a1), (3, .int a3), (4, .int a4), (5, .int a5), (6, .int a6)] [] S (rz_i K) := by
  refine rz_pure (pc' := 58) d_M_seek_56 rfl ?_
  refine rz_bipush (v := 10) d_M_seek_58 (by decide) ?_
  refine rz_icmpge (tgt := 107) d_M_seek_60 rfl (fun b1 => ?_) (fun b1 => ?_)
  · skip
    exact rz_pick (ks := [0, 1, 3, 4, 5]) (l := [(0, .ref 116), (1, .int a1), (3, .int a3), (4, .int a4), (5, .int a5)]) rfl rfl (by decide) rfl (w.1 b1)
  · skip
    refine rz_pure (pc' := 65) d_M_seek_63 rfl ?_
    refine rz_ifeq (tgt := 107) d_M_seek_65 rfl (fun b2 => ?_) (fun b2 => ?_)
    · skip
      exact rz_pick (ks := [0, 1, 3, 4, 5]) (l := [(0, .ref 116), (1, .int a1), (3, .int a3), (4, .int a4), (5, .int a5)]) rfl rfl (by decide) rfl ((w.2 b1).1 b2)
    · skip
      refine rz_pure (pc' := 69) d_M_seek_68 rfl ?_
      refine rz_callVi (t := []) d_M_seek_69 w_12_100 rfl rfl rfl ((w.2 b1).2 b2) (fun xq3 Sq3 q3 => ?_)
      refine rz_pure (pc' := 73) d_M_seek_72 rfl ?_
      refine rz_getr d_M_seek_73 f_12_74 rfl rfl ?_
      refine rz_pure (pc' := 78) d_M_seek_76 rfl ?_
      refine rz_ialdv (F := Sq3.1 120) (i := a6.toNatClampNeg) d_M_seek_78 rfl q3.1 rfl rfl ?_
      refine rz_icmpne (tgt := 98) d_M_seek_79 rfl (fun b4 => ?_) (fun b4 => ?_)
      · skip
        refine rz_iconst (v := 0) d_M_seek_98 (by decide) ?_
        refine rz_pure (pc' := 101) (l' := [(5, .int 0), (0, .ref 116), (1, .int a1), (3, .int a3), (4, .int a4), (6, .int a6)]) d_M_seek_99 rfl ?_
        refine rz_pure (pc' := 104) (l' := [(6, .int (a6 + 1)), (5, .int 0), (0, .ref 116), (1, .int a1), (3, .int a3), (4, .int a4)]) d_M_seek_101 rfl ?_
        refine rz_pure (pc' := 56) d_M_seek_104 rfl ?_
        exact rz_pick (ks := [0, 1, 3, 4, 5, 6]) (l := [(0, .ref 116), (1, .int a1), (3, .int a3), (4, .int a4), (5, .int 0), (6, .int (a6 + 1))]) rfl rfl (by decide) rfl (q3.2.2 b4)
      · skip
        refine rz_pure (pc' := 84) d_M_seek_82 rfl ?_
        refine rz_ifeq (tgt := 94) d_M_seek_84 rfl (fun b5 => ?_) (fun b5 => ?_)
        · skip
          refine rz_iconst (v := 1) d_M_seek_94 (by decide) ?_
          refine rz_pure (pc' := 99) d_M_seek_95 rfl ?_
          refine rz_pure (pc' := 101) (l' := [(5, .int 1), (0, .ref 116), (1, .int a1), (3, .int a3), (4, .int a4), (6, .int a6)]) d_M_seek_99 rfl ?_
          refine rz_pure (pc' := 104) (l' := [(6, .int (a6 + 1)), (5, .int 1), (0, .ref 116), (1, .int a1), (3, .int a3), (4, .int a4)]) d_M_seek_101 rfl ?_
          refine rz_pure (pc' := 56) d_M_seek_104 rfl ?_
          exact rz_pick (ks := [0, 1, 3, 4, 5, 6]) (l := [(0, .ref 116), (1, .int a1), (3, .int a3), (4, .int a4), (5, .int 1), (6, .int (a6 + 1))]) rfl rfl (by decide) rfl ((q3.2.1 b4).1 b5)
        · skip
          refine rz_pure (pc' := 88) d_M_seek_87 rfl ?_
          refine rz_getiv (v := Sq3.2 116 15) d_M_seek_88 f_12_53 rfl rfl rfl ?_
          refine rz_ifne (tgt := 98) d_M_seek_91 rfl (fun b6 => ?_) (fun b6 => ?_)
          · skip
            refine rz_iconst (v := 0) d_M_seek_98 (by decide) ?_
            refine rz_pure (pc' := 101) (l' := [(5, .int 0), (0, .ref 116), (1, .int a1), (3, .int a3), (4, .int a4), (6, .int a6)]) d_M_seek_99 rfl ?_
            refine rz_pure (pc' := 104) (l' := [(6, .int (a6 + 1)), (5, .int 0), (0, .ref 116), (1, .int a1), (3, .int a3), (4, .int a4)]) d_M_seek_101 rfl ?_
            refine rz_pure (pc' := 56) d_M_seek_104 rfl ?_
            exact rz_pick (ks := [0, 1, 3, 4, 5, 6]) (l := [(0, .ref 116), (1, .int a1), (3, .int a3), (4, .int a4), (5, .int 0), (6, .int (a6 + 1))]) rfl rfl (by decide) rfl (((q3.2.1 b4).2 b5).2 b6)
          · skip
            refine rz_iconst (v := 1) d_M_seek_94 (by decide) ?_
            refine rz_pure (pc' := 99) d_M_seek_95 rfl ?_
            refine rz_pure (pc' := 101) (l' := [(5, .int 1), (0, .ref 116), (1, .int a1), (3, .int a3), (4, .int a4), (6, .int a6)]) d_M_seek_99 rfl ?_
            refine rz_pure (pc' := 104) (l' := [(6, .int (a6 + 1)), (5, .int 1), (0, .ref 116), (1, .int a1), (3, .int a3), (4, .int a4)]) d_M_seek_101 rfl ?_
            refine rz_pure (pc' := 56) d_M_seek_104 rfl ?_
            exact rz_pick (ks := [0, 1, 3, 4, 5, 6]) (l := [(0, .ref 116), (1, .int a1), (3, .int a3), (4, .int a4), (5, .int 1), (6, .int (a6 + 1))]) rfl rfl (by decide) rfl (((q3.2.1 b4).2 b5).1 b6)
theorem p_M_seek_107 {S : rz_S} {K : Int32 → rz_S → Prop} {a1 : Int32} {a3 : Int32} {a4 : Int32} {a5 : Int32} (w : ((a5 = 0 → rz mM_seek 30 [(0, .ref 116), (1, .int a1), (3, .int a3), (4, .int (a4 + 1))] [] S (rz_i K)) ∧ (¬ a5 = 0 → K 0 S))) : rz mM_seek 107 [(0, .ref 116), (1, .int a1), (3, .int a3), (4, .int a4), (5, .int a5)] [] S (rz_i K) := by
  refine rz_pure (pc' := 109) d_M_seek_107 rfl ?_
  refine rz_ifeq (tgt := 114) d_M_seek_109 rfl (fun b1 => ?_) (fun b1 => ?_)
  · skip
    refine rz_pure (pc' := 117) (l' := [(4, .int (a4 + 1)), (0, .ref 116), (1, .int a1), (3, .int a3), (5, .int a5)]) d_M_seek_114 rfl ?_
    refine rz_pure (pc' := 30) d_M_seek_117 rfl ?_
    exact rz_pick (ks := [0, 1, 3, 4]) (l := [(0, .ref 116), (1, .int a1), (3, .int a3), (4, .int (a4 + 1))]) rfl rfl (by decide) rfl (w.1 b1)
  · skip
    refine rz_iconst (v := 0) d_M_seek_112 (by decide) ?_
    exact rz_ireti d_M_seek_113 rfl rfl (w.2 b1)
theorem d_M_gets_0 : decode (rm_code mM_gets) 0 = .ok (.iconst 0, 1) := by decide +kernel
theorem d_M_gets_1 : decode (rm_code mM_gets) 1 = .ok (.istore_n 1, 1) := by decide +kernel
theorem d_M_gets_2 : decode (rm_code mM_gets) 2 = .ok (.iload_n 1, 1) := by decide +kernel
theorem d_M_gets_3 : decode (rm_code mM_gets) 3 = .ok (.ifCond .ne (16), 3) := by decide +kernel
theorem d_M_gets_6 : decode (rm_code mM_gets) 6 = .ok (.aload_n 0, 1) := by decide +kernel
theorem d_M_gets_7 : decode (rm_code mM_gets) 7 = .ok (.invokevirtual 100, 3) := by decide +kernel
theorem d_M_gets_10 : decode (rm_code mM_gets) 10 = .ok (.pop, 1) := by decide +kernel
theorem d_M_gets_11 : decode (rm_code mM_gets) 11 = .ok (.aload_n 0, 1) := by decide +kernel
theorem d_M_gets_12 : decode (rm_code mM_gets) 12 = .ok (.getfield 53, 3) := by decide +kernel
theorem d_M_gets_15 : decode (rm_code mM_gets) 15 = .ok (.istore_n 1, 1) := by decide +kernel
theorem d_M_gets_16 : decode (rm_code mM_gets) 16 = .ok (.goto (-14), 3) := by decide +kernel
theorem d_M_gets_19 : decode (rm_code mM_gets) 19 = .ok (.aload_n 0, 1) := by decide +kernel
theorem d_M_gets_20 : decode (rm_code mM_gets) 20 = .ok (.getfield 104, 3) := by decide +kernel
theorem d_M_gets_23 : decode (rm_code mM_gets) 23 = .ok (.iconst 0, 1) := by decide +kernel
theorem d_M_gets_24 : decode (rm_code mM_gets) 24 = .ok (.aload_n 0, 1) := by decide +kernel
theorem d_M_gets_25 : decode (rm_code mM_gets) 25 = .ok (.getfield 50, 3) := by decide +kernel
theorem d_M_gets_28 : decode (rm_code mM_gets) 28 = .ok (.iastore, 1) := by decide +kernel
theorem d_M_gets_29 : decode (rm_code mM_gets) 29 = .ok (.iconst 1, 1) := by decide +kernel
theorem d_M_gets_30 : decode (rm_code mM_gets) 30 = .ok (.istore_n 2, 1) := by decide +kernel
theorem d_M_gets_31 : decode (rm_code mM_gets) 31 = .ok (.iload_n 2, 1) := by decide +kernel
theorem d_M_gets_32 : decode (rm_code mM_gets) 32 = .ok (.bipush (85), 2) := by decide +kernel
theorem d_M_gets_34 : decode (rm_code mM_gets) 34 = .ok (.if_icmp .ge (19), 3) := by decide +kernel
theorem d_M_gets_37 : decode (rm_code mM_gets) 37 = .ok (.aload_n 0, 1) := by decide +kernel
theorem d_M_gets_38 : decode (rm_code mM_gets) 38 = .ok (.getfield 104, 3) := by decide +kernel
theorem d_M_gets_41 : decode (rm_code mM_gets) 41 = .ok (.iload_n 2, 1) := by decide +kernel
theorem d_M_gets_42 : decode (rm_code mM_gets) 42 = .ok (.aload_n 0, 1) := by decide +kernel
theorem d_M_gets_43 : decode (rm_code mM_gets) 43 = .ok (.invokevirtual 100, 3) := by decide +kernel
theorem d_M_gets_46 : decode (rm_code mM_gets) 46 = .ok (.iastore, 1) := by decide +kernel
theorem d_M_gets_47 : decode (rm_code mM_gets) 47 = .ok (.iinc 2 (1), 3) := by decide +kernel
theorem d_M_gets_50 : decode (rm_code mM_gets) 50 = .ok (.goto (-19), 3) := by decide +kernel
theorem d_M_gets_53 : decode (rm_code mM_gets) 53 = .ok (.return_, 1) := by decide +kernel
theorem p_M_gets_0 {S : rz_S} {K : rz_S → Prop} (w : rz mM_gets 2 [(0, .ref 116), (1, .int 0)] [] S (rz_v K)) : rz mM_gets 0 [(0, .ref 116)] [] S (rz_v K) := by
  refine rz_iconst (v := 0) d_M_gets_0 (by decide) ?_
  refine rz_pure (pc' := 2) (l' := [(1, .int 0), (0, .ref 116)]) d_M_gets_1 rfl ?_
  exact rz_pick (ks := [0, 1]) (l := [(0, .ref 116), (1, .int 0)]) rfl rfl (by decide) rfl w
theorem p_M_gets_2 {S : rz_S} {K : rz_S → Prop} {a1 : Int32} (w : ((a1 = 0 → rz_ev mM_comes [.ref 116] S (rz_i (fun xq2 Sq2 => rz mM_gets 2 [(0, .ref 116), (1, .int (Sq2.2 116 15))] [] Sq2 (rz_v K)))) ∧ (¬ a1 = 0 → rz mM_gets 31 [(0, .ref 116), (2, .int 1)] [] (rz_fA S 121 (upd (S.1 121) 0 (S.2 116 14))) (rz_v K)))) : rz mM_gets 2 [(0, .ref 116), (1, .int a1)] [] S (rz_v K) := by
  refine rz_pure (pc' := 3) d_M_gets_2 rfl ?_
  refine rz_ifne (tgt := 19) d_M_gets_3 rfl (fun b1 => ?_) (fun b1 => ?_)
  · skip
    refine rz_pure (pc' := 20) d_M_gets_19 rfl ?_
    refine rz_getr d_M_gets_20 f_12_104 rfl rfl ?_
    refine rz_iconst (v := 0) d_M_gets_23 (by decide) ?_
    refine rz_pure (pc' := 25) d_M_gets_24 rfl ?_
    refine rz_getiv (v := S.2 116 14) d_M_gets_25 f_12_50 rfl rfl rfl ?_
    refine rz_iastv (F := S.1 121) (i := 0) d_M_gets_28 rfl (by decide) rfl (by decide) ?_
    refine rz_iconst (v := 1) d_M_gets_29 (by decide) ?_
    refine rz_pure (pc' := 31) (l' := [(2, .int 1), (0, .ref 116), (1, .int a1)]) d_M_gets_30 rfl ?_
    exact rz_pick (ks := [0, 2]) (l := [(0, .ref 116), (2, .int 1)]) rfl rfl (by decide) rfl (w.2 b1)
  · skip
    refine rz_pure (pc' := 7) d_M_gets_6 rfl ?_
    refine rz_callVi (t := []) d_M_gets_7 w_12_100 rfl rfl rfl (w.1 b1) (fun xq2 Sq2 q2 => ?_)
    refine rz_pure (pc' := 11) d_M_gets_10 rfl ?_
    refine rz_pure (pc' := 12) d_M_gets_11 rfl ?_
    refine rz_getiv (v := Sq2.2 116 15) d_M_gets_12 f_12_53 rfl rfl rfl ?_
    refine rz_pure (pc' := 16) (l' := [(1, .int (Sq2.2 116 15)), (0, .ref 116)]) d_M_gets_15 rfl ?_
    refine rz_pure (pc' := 2) d_M_gets_16 rfl ?_
    exact rz_pick (ks := [0, 1]) (l := [(0, .ref 116), (1, .int (Sq2.2 116 15))]) rfl rfl (by decide) rfl q2
theorem p_M_gets_31 {S : rz_S} {K : rz_S → Prop} {a2 : Int32} (w : ((85 ≤ a2 → K S) ∧ (¬ 85 ≤ a2 → rz_ev mM_comes [.ref 116] S (rz_i (fun xq2 Sq2 => rx_in a2 85 = true ∧ rz mM_gets 31 [(0, .ref 116), (2, .int (a2 + 1))] [] (rz_fA Sq2 121 (upd (Sq2.1 121) a2.toNatClampNeg xq2)) (rz_v K)))))) : rz mM_gets 31 [(0, .ref 116), (2, .int a2)] [] S (rz_v K) := by
  refine rz_pure (pc' := 32) d_M_gets_31 rfl ?_
  refine rz_bipush (v := 85) d_M_gets_32 (by decide) ?_
  refine rz_icmpge (tgt := 53) d_M_gets_34 rfl (fun b1 => ?_) (fun b1 => ?_)
  · skip
    exact rz_vretv d_M_gets_53 rfl (w.1 b1)
  · skip
    refine rz_pure (pc' := 38) d_M_gets_37 rfl ?_
    refine rz_getr d_M_gets_38 f_12_104 rfl rfl ?_
    refine rz_pure (pc' := 42) d_M_gets_41 rfl ?_
    refine rz_pure (pc' := 43) d_M_gets_42 rfl ?_
    refine rz_callVi (t := []) d_M_gets_43 w_12_100 rfl rfl rfl (w.2 b1) (fun xq2 Sq2 q2 => ?_)
    refine rz_iastv (F := Sq2.1 121) (i := a2.toNatClampNeg) d_M_gets_46 rfl q2.1 rfl rfl ?_
    refine rz_pure (pc' := 50) (l' := [(2, .int (a2 + 1)), (0, .ref 116)]) d_M_gets_47 rfl ?_
    refine rz_pure (pc' := 31) d_M_gets_50 rfl ?_
    exact rz_pick (ks := [0, 2]) (l := [(0, .ref 116), (2, .int (a2 + 1))]) rfl rfl (by decide) rfl q2.2
theorem d_M_readBlock_0 : decode (rm_code mM_readBlock) 0 = .ok (.aload_n 0, 1) := by decide +kernel
theorem d_M_readBlock_1 : decode (rm_code mM_readBlock) 1 = .ok (.getfield 90, 3) := by decide +kernel
theorem d_M_readBlock_4 : decode (rm_code mM_readBlock) 4 = .ok (.iconst (-1), 1) := by decide +kernel
theorem d_M_readBlock_5 : decode (rm_code mM_readBlock) 5 = .ok (.if_icmp .ne (17), 3) := by decide +kernel
theorem d_M_readBlock_8 : decode (rm_code mM_readBlock) 8 = .ok (.aload_n 0, 1) := by decide +kernel
theorem d_M_readBlock_9 : decode (rm_code mM_readBlock) 9 = .ok (.invokevirtual 107, 3) := by decide +kernel
theorem d_M_readBlock_12 : decode (rm_code mM_readBlock) 12 = .ok (.istore 5, 2) := by decide +kernel
theorem d_M_readBlock_14 : decode (rm_code mM_readBlock) 14 = .ok (.iload 5, 2) := by decide +kernel
theorem d_M_readBlock_16 : decode (rm_code mM_readBlock) 16 = .ok (.ifCond .eq (6), 3) := by decide +kernel
theorem d_M_readBlock_19 : decode (rm_code mM_readBlock) 19 = .ok (.iload 5, 2) := by decide +kernel
theorem d_M_readBlock_21 : decode (rm_code mM_readBlock) 21 = .ok (.ireturn, 1) := by decide +kernel
theorem d_M_readBlock_22 : decode (rm_code mM_readBlock) 22 = .ok (.aload_n 0, 1) := by decide +kernel
theorem d_M_readBlock_23 : decode (rm_code mM_readBlock) 23 = .ok (.iload_n 1, 1) := by decide +kernel
theorem d_M_readBlock_24 : decode (rm_code mM_readBlock) 24 = .ok (.iload_n 2, 1) := by decide +kernel
theorem d_M_readBlock_25 : decode (rm_code mM_readBlock) 25 = .ok (.invokevirtual 110, 3) := by decide +kernel
theorem d_M_readBlock_28 : decode (rm_code mM_readBlock) 28 = .ok (.istore 5, 2) := by decide +kernel
theorem d_M_readBlock_30 : decode (rm_code mM_readBlock) 30 = .ok (.iload 5, 2) := by decide +kernel
theorem d_M_readBlock_32 : decode (rm_code mM_readBlock) 32 = .ok (.ifCond .eq (12), 3) := by decide +kernel
theorem d_M_readBlock_35 : decode (rm_code mM_readBlock) 35 = .ok (.aload_n 0, 1) := by decide +kernel
theorem d_M_readBlock_36 : decode (rm_code mM_readBlock) 36 = .ok (.iload 5, 2) := by decide +kernel
theorem d_M_readBlock_38 : decode (rm_code mM_readBlock) 38 = .ok (.iload_n 1, 1) := by decide +kernel
theorem d_M_readBlock_39 : decode (rm_code mM_readBlock) 39 = .ok (.iload_n 2, 1) := by decide +kernel
theorem d_M_readBlock_40 : decode (rm_code mM_readBlock) 40 = .ok (.invokevirtual 113, 3) := by decide +kernel
theorem d_M_readBlock_43 : decode (rm_code mM_readBlock) 43 = .ok (.ireturn, 1) := by decide +kernel
theorem d_M_readBlock_44 : decode (rm_code mM_readBlock) 44 = .ok (.aload_n 0, 1) := by decide +kernel
theorem d_M_readBlock_45 : decode (rm_code mM_readBlock) 45 = .ok (.invokevirtual 117, 3) := by decide +kernel
theorem d_M_readBlock_48 : decode (rm_code mM_readBlock) 48 = .ok (.iconst 0, 1) := by decide +kernel
theorem d_M_readBlock_49 : decode (rm_code mM_readBlock) 49 = .ok (.istore 6, 2) := by decide +kernel
theorem d_M_readBlock_51 : decode (rm_code mM_readBlock) 51 = .ok (.iload 6, 2) := by decide +kernel
theorem d_M_readBlock_53 : decode (rm_code mM_readBlock) 53 = .ok (.bipush (85), 2) := by decide +kernel
theorem d_M_readBlock_55 : decode (rm_code mM_readBlock) 55 = .ok (.if_icmp .ge (23), 3) := by decide +kernel
theorem d_M_readBlock_58 : decode (rm_code mM_readBlock) 58 = .ok (.aload_n 0, 1) := by decide +kernel
theorem d_M_readBlock_59 : decode (rm_code mM_readBlock) 59 = .ok (.getfield 74, 3) := by decide +kernel
theorem d_M_readBlock_62 : decode (rm_code mM_readBlock) 62 = .ok (.iload 6, 2) := by decide +kernel
theorem d_M_readBlock_64 : decode (rm_code mM_readBlock) 64 = .ok (.aload_n 0, 1) := by decide +kernel
theorem d_M_readBlock_65 : decode (rm_code mM_readBlock) 65 = .ok (.getfield 104, 3) := by decide +kernel
theorem d_M_readBlock_68 : decode (rm_code mM_readBlock) 68 = .ok (.iload 6, 2) := by decide +kernel
theorem d_M_readBlock_70 : decode (rm_code mM_readBlock) 70 = .ok (.iaload, 1) := by decide +kernel
theorem d_M_readBlock_71 : decode (rm_code mM_readBlock) 71 = .ok (.iastore, 1) := by decide +kernel
theorem d_M_readBlock_72 : decode (rm_code mM_readBlock) 72 = .ok (.iinc 6 (1), 3) := by decide +kernel
theorem d_M_readBlock_75 : decode (rm_code mM_readBlock) 75 = .ok (.goto (-24), 3) := by decide +kernel
theorem d_M_readBlock_78 : decode (rm_code mM_readBlock) 78 = .ok (.aload_n 0, 1) := by decide +kernel
theorem d_M_readBlock_79 : decode (rm_code mM_readBlock) 79 = .ok (.iconst 0, 1) := by decide +kernel
theorem d_M_readBlock_80 : decode (rm_code mM_readBlock) 80 = .ok (.invokevirtual 77, 3) := by decide +kernel
theorem d_M_readBlock_83 : decode (rm_code mM_readBlock) 83 = .ok (.iconst 0, 1) := by decide +kernel
theorem d_M_readBlock_84 : decode (rm_code mM_readBlock) 84 = .ok (.invokestatic 68, 3) := by decide +kernel
theorem d_M_readBlock_87 : decode (rm_code mM_readBlock) 87 = .ok (.if_icmp .ne (16), 3) := by decide +kernel
theorem d_M_readBlock_90 : decode (rm_code mM_readBlock) 90 = .ok (.aload_n 0, 1) := by decide +kernel
theorem d_M_readBlock_91 : decode (rm_code mM_readBlock) 91 = .ok (.iconst 1, 1) := by decide +kernel
theorem d_M_readBlock_92 : decode (rm_code mM_readBlock) 92 = .ok (.invokevirtual 77, 3) := by decide +kernel
theorem d_M_readBlock_95 : decode (rm_code mM_readBlock) 95 = .ok (.bipush (7), 2) := by decide +kernel
theorem d_M_readBlock_97 : decode (rm_code mM_readBlock) 97 = .ok (.invokestatic 68, 3) := by decide +kernel
theorem d_M_readBlock_100 : decode (rm_code mM_readBlock) 100 = .ok (.if_icmp .eq (12), 3) := by decide +kernel
theorem d_M_readBlock_103 : decode (rm_code mM_readBlock) 103 = .ok (.aload_n 0, 1) := by decide +kernel
theorem d_M_readBlock_104 : decode (rm_code mM_readBlock) 104 = .ok (.bipush (22), 2) := by decide +kernel
theorem d_M_readBlock_106 : decode (rm_code mM_readBlock) 106 = .ok (.iload_n 1, 1) := by decide +kernel
theorem d_M_readBlock_107 : decode (rm_code mM_readBlock) 107 = .ok (.iload_n 2, 1) := by decide +kernel
theorem d_M_readBlock_108 : decode (rm_code mM_readBlock) 108 = .ok (.invokevirtual 113, 3) := by decide +kernel
theorem d_M_readBlock_111 : decode (rm_code mM_readBlock) 111 = .ok (.ireturn, 1) := by decide +kernel
theorem d_M_readBlock_112 : decode (rm_code mM_readBlock) 112 = .ok (.aload_n 0, 1) := by decide +kernel
theorem d_M_readBlock_113 : decode (rm_code mM_readBlock) 113 = .ok (.sipush (136), 3) := by decide +kernel
theorem d_M_readBlock_116 : decode (rm_code mM_readBlock) 116 = .ok (.invokevirtual 121, 3) := by decide +kernel
theorem d_M_readBlock_119 : decode (rm_code mM_readBlock) 119 = .ok (.ifCond .ne (12), 3) := by decide +kernel
theorem d_M_readBlock_122 : decode (rm_code mM_readBlock) 122 = .ok (.aload_n 0, 1) := by decide +kernel
theorem d_M_readBlock_123 : decode (rm_code mM_readBlock) 123 = .ok (.bipush (24), 2) := by decide +kernel
theorem d_M_readBlock_125 : decode (rm_code mM_readBlock) 125 = .ok (.iload_n 1, 1) := by decide +kernel
theorem d_M_readBlock_126 : decode (rm_code mM_readBlock) 126 = .ok (.iload_n 2, 1) := by decide +kernel
theorem d_M_readBlock_127 : decode (rm_code mM_readBlock) 127 = .ok (.invokevirtual 113, 3) := by decide +kernel
theorem d_M_readBlock_130 : decode (rm_code mM_readBlock) 130 = .ok (.ireturn, 1) := by decide +kernel
theorem d_M_readBlock_131 : decode (rm_code mM_readBlock) 131 = .ok (.iconst 0, 1) := by decide +kernel
theorem d_M_readBlock_132 : decode (rm_code mM_readBlock) 132 = .ok (.istore 6, 2) := by decide +kernel
theorem d_M_readBlock_134 : decode (rm_code mM_readBlock) 134 = .ok (.iconst 1, 1) := by decide +kernel
theorem d_M_readBlock_135 : decode (rm_code mM_readBlock) 135 = .ok (.istore 7, 2) := by decide +kernel
theorem d_M_readBlock_137 : decode (rm_code mM_readBlock) 137 = .ok (.iload 7, 2) := by decide +kernel
theorem d_M_readBlock_139 : decode (rm_code mM_readBlock) 139 = .ok (.bipush (64), 2) := by decide +kernel
theorem d_M_readBlock_141 : decode (rm_code mM_readBlock) 141 = .ok (.if_icmp .gt (21), 3) := by decide +kernel
theorem d_M_readBlock_144 : decode (rm_code mM_readBlock) 144 = .ok (.iload 6, 2) := by decide +kernel
theorem d_M_readBlock_146 : decode (rm_code mM_readBlock) 146 = .ok (.aload_n 0, 1) := by decide +kernel
theorem d_M_readBlock_147 : decode (rm_code mM_readBlock) 147 = .ok (.getfield 71, 3) := by decide +kernel
theorem d_M_readBlock_150 : decode (rm_code mM_readBlock) 150 = .ok (.iload 7, 2) := by decide +kernel
theorem d_M_readBlock_152 : decode (rm_code mM_readBlock) 152 = .ok (.iaload, 1) := by decide +kernel
theorem d_M_readBlock_153 : decode (rm_code mM_readBlock) 153 = .ok (.ixor, 1) := by decide +kernel
theorem d_M_readBlock_154 : decode (rm_code mM_readBlock) 154 = .ok (.istore 6, 2) := by decide +kernel
theorem d_M_readBlock_156 : decode (rm_code mM_readBlock) 156 = .ok (.iinc 7 (1), 3) := by decide +kernel
theorem d_M_readBlock_159 : decode (rm_code mM_readBlock) 159 = .ok (.goto (-22), 3) := by decide +kernel
theorem d_M_readBlock_162 : decode (rm_code mM_readBlock) 162 = .ok (.iload 6, 2) := by decide +kernel
theorem d_M_readBlock_164 : decode (rm_code mM_readBlock) 164 = .ok (.aload_n 0, 1) := by decide +kernel
theorem d_M_readBlock_165 : decode (rm_code mM_readBlock) 165 = .ok (.getfield 71, 3) := by decide +kernel
theorem d_M_readBlock_168 : decode (rm_code mM_readBlock) 168 = .ok (.bipush (65), 2) := by decide +kernel
theorem d_M_readBlock_170 : decode (rm_code mM_readBlock) 170 = .ok (.iaload, 1) := by decide +kernel
theorem d_M_readBlock_171 : decode (rm_code mM_readBlock) 171 = .ok (.if_icmp .eq (12), 3) := by decide +kernel
theorem d_M_readBlock_174 : decode (rm_code mM_readBlock) 174 = .ok (.aload_n 0, 1) := by decide +kernel
theorem d_M_readBlock_175 : decode (rm_code mM_readBlock) 175 = .ok (.bipush (23), 2) := by decide +kernel
theorem d_M_readBlock_177 : decode (rm_code mM_readBlock) 177 = .ok (.iload_n 1, 1) := by decide +kernel
theorem d_M_readBlock_178 : decode (rm_code mM_readBlock) 178 = .ok (.iload_n 2, 1) := by decide +kernel
theorem d_M_readBlock_179 : decode (rm_code mM_readBlock) 179 = .ok (.invokevirtual 113, 3) := by decide +kernel
theorem d_M_readBlock_182 : decode (rm_code mM_readBlock) 182 = .ok (.ireturn, 1) := by decide +kernel
theorem d_M_readBlock_183 : decode (rm_code mM_readBlock) 183 = .ok (.iconst 0, 1) := by decide +kernel
theorem d_M_readBlock_184 : decode (rm_code mM_readBlock) 184 = .ok (.istore 7, 2) := by decide +kernel
theorem d_M_readBlock_186 : decode (rm_code mM_readBlock) 186 = .ok (.iload 7, 2) := by decide +kernel
theorem d_M_readBlock_188 : decode (rm_code mM_readBlock) 188 = .ok (.bipush (64), 2) := by decide +kernel
theorem d_M_readBlock_190 : decode (rm_code mM_readBlock) 190 = .ok (.if_icmp .ge (25), 3) := by decide +kernel
theorem d_M_readBlock_193 : decode (rm_code mM_readBlock) 193 = .ok (.aload_n 3, 1) := by decide +kernel
theorem d_M_readBlock_194 : decode (rm_code mM_readBlock) 194 = .ok (.iload 4, 2) := by decide +kernel
theorem d_M_readBlock_196 : decode (rm_code mM_readBlock) 196 = .ok (.iload 7, 2) := by decide +kernel
theorem d_M_readBlock_198 : decode (rm_code mM_readBlock) 198 = .ok (.iadd, 1) := by decide +kernel
theorem d_M_readBlock_199 : decode (rm_code mM_readBlock) 199 = .ok (.aload_n 0, 1) := by decide +kernel
theorem d_M_readBlock_200 : decode (rm_code mM_readBlock) 200 = .ok (.getfield 71, 3) := by decide +kernel
theorem d_M_readBlock_203 : decode (rm_code mM_readBlock) 203 = .ok (.iconst 1, 1) := by decide +kernel
theorem d_M_readBlock_204 : decode (rm_code mM_readBlock) 204 = .ok (.iload 7, 2) := by decide +kernel
theorem d_M_readBlock_206 : decode (rm_code mM_readBlock) 206 = .ok (.iadd, 1) := by decide +kernel
theorem d_M_readBlock_207 : decode (rm_code mM_readBlock) 207 = .ok (.iaload, 1) := by decide +kernel
theorem d_M_readBlock_208 : decode (rm_code mM_readBlock) 208 = .ok (.iastore, 1) := by decide +kernel
theorem d_M_readBlock_209 : decode (rm_code mM_readBlock) 209 = .ok (.iinc 7 (1), 3) := by decide +kernel
theorem d_M_readBlock_212 : decode (rm_code mM_readBlock) 212 = .ok (.goto (-26), 3) := by decide +kernel
theorem d_M_readBlock_215 : decode (rm_code mM_readBlock) 215 = .ok (.iconst 0, 1) := by decide +kernel
theorem d_M_readBlock_216 : decode (rm_code mM_readBlock) 216 = .ok (.ireturn, 1) := by decide +kernel
theorem p_M_readBlock_0 {S : rz_S} {K : Int32 → rz_S → Prop} {a1 : Int32} {a2 : Int32} {a3 na3 : Nat} (ha3 : rz_T[a3]? = some (.inl (0, na3))) {a4 : Int32} (w : ((S.2 116 2 = (-1) → rz_ev mM_takeId [.ref 116] S (rz_i (fun xq2 Sq2 => ((xq2 = 0 → rz mM_readBlock 22 [(0, .ref 116), (1, .int a1), (2, .int a2), (3, .ref a3), (4, .int a4)] [] Sq2 (rz_i K)) ∧ (¬ xq2 = 0 → K xq2 Sq2))))) ∧ (¬ S.2 116 2 = (-1) → rz mM_readBlock 22 [(0, .ref 116), (1, .int a1), (2, .int a2), (3, .ref a3), (4, .int a4)] [] S (rz_i K)))) : rz mM_readBlock 0 [(0, .ref 116), (1, .int a1), (2, .int a2), (3, .ref a3), (4, .int a4)] [] S (rz_i K) := by
  refine rz_pure (pc' := 1) d_M_readBlock_0 rfl ?_
  refine rz_getiv (v := S.2 116 2) d_M_readBlock_1 f_12_90 rfl rfl rfl ?_
  refine rz_iconst (v := -1) d_M_readBlock_4 (by decide) ?_
  refine rz_icmpne (tgt := 22) d_M_readBlock_5 rfl (fun b1 => ?_) (fun b1 => ?_)
  · skip
    exact rz_pick (ks := [0, 1, 2, 3, 4]) (l := [(0, .ref 116), (1, .int a1), (2, .int a2), (3, .ref a3), (4, .int a4)]) rfl rfl (by decide) rfl (w.2 b1)
  · skip
    refine rz_pure (pc' := 9) d_M_readBlock_8 rfl ?_
    refine rz_callVi (t := []) d_M_readBlock_9 w_12_107 rfl rfl rfl (w.1 b1) (fun xq2 Sq2 q2 => ?_)
    refine rz_pure (pc' := 14) (l' := [(5, .int xq2), (0, .ref 116), (1, .int a1), (2, .int a2), (3, .ref a3), (4, .int a4)]) d_M_readBlock_12 rfl ?_
    refine rz_pure (pc' := 16) d_M_readBlock_14 rfl ?_
    refine rz_ifeq (tgt := 22) d_M_readBlock_16 rfl (fun b3 => ?_) (fun b3 => ?_)
    · skip
      exact rz_pick (ks := [0, 1, 2, 3, 4]) (l := [(0, .ref 116), (1, .int a1), (2, .int a2), (3, .ref a3), (4, .int a4)]) rfl rfl (by decide) rfl (q2.1 b3)
    · skip
      refine rz_pure (pc' := 21) d_M_readBlock_19 rfl ?_
      exact rz_ireti d_M_readBlock_21 rfl rfl (q2.2 b3)
theorem p_M_readBlock_22 {S : rz_S} {K : Int32 → rz_S → Prop} {a1 : Int32} {a2 : Int32} {a3 na3 : Nat} (ha3 : rz_T[a3]? = some (.inl (0, na3))) {a4 : Int32} (w : rz_ev mM_seek [.ref 116, .int a1, .int a2] S (rz_i (fun xq1 Sq1 => ((xq1 = 0 → rz_ev mM_gets [.ref 116] Sq1 (rz_v (fun Sq3 => rz mM_readBlock 51 [(0, .ref 116), (1, .int a1), (2, .int a2), (3, .ref a3), (4, .int a4), (6, .int 0)] [] Sq3 (rz_i K)))) ∧ (¬ xq1 = 0 → rz_ev mM_fault [.ref 116, .int xq1, .int a1, .int a2] Sq1 (rz_i (fun xq4 Sq4 => K xq4 Sq4))))))) : rz mM_readBlock 22 [(0, .ref 116), (1, .int a1), (2, .int a2), (3, .ref a3), (4, .int a4)] [] S (rz_i K) := by
  refine rz_pure (pc' := 23) d_M_readBlock_22 rfl ?_
  refine rz_pure (pc' := 24) d_M_readBlock_23 rfl ?_
  refine rz_pure (pc' := 25) d_M_readBlock_24 rfl ?_
  refine rz_callVi (t := [.int a2, .int a1]) d_M_readBlock_25 w_12_110 rfl rfl rfl w (fun xq1 Sq1 q1 => ?_)
  refine rz_pure (pc' := 30) (l' := [(5, .int xq1), (0, .ref 116), (1, .int a1), (2, .int a2), (3, .ref a3), (4, .int a4)]) d_M_readBlock_28 rfl ?_
  refine rz_pure (pc' := 32) d_M_readBlock_30 rfl ?_
  refine rz_ifeq (tgt := 44) d_M_readBlock_32 rfl (fun b2 => ?_) (fun b2 => ?_)
  · skip
    refine rz_pure (pc' := 45) d_M_readBlock_44 rfl ?_
    refine rz_callVv (t := []) d_M_readBlock_45 w_12_117 rfl rfl rfl (q1.1 b2) (fun Sq3 q3 => ?_)
    refine rz_iconst (v := 0) d_M_readBlock_48 (by decide) ?_
    refine rz_pure (pc' := 51) (l' := [(6, .int 0), (5, .int xq1), (0, .ref 116), (1, .int a1), (2, .int a2), (3, .ref a3), (4, .int a4)]) d_M_readBlock_49 rfl ?_
    exact rz_pick (ks := [0, 1, 2, 3, 4, 6]) (l := [(0, .ref 116), (1, .int a1), (2, .int a2), (3, .ref a3), (4, .int a4), (6, .int 0)]) rfl rfl (by decide) rfl q3
  · skip
    refine rz_pure (pc' := 36) d_M_readBlock_35 rfl ?_
    refine rz_pure (pc' := 38) d_M_readBlock_36 rfl ?_
    refine rz_pure (pc' := 39) d_M_readBlock_38 rfl ?_
    refine rz_pure (pc' := 40) d_M_readBlock_39 rfl ?_
    refine rz_callVi (t := [.int a2, .int a1, .int xq1]) d_M_readBlock_40 w_12_113 rfl rfl rfl (q1.2 b2) (fun xq4 Sq4 q4 => ?_)
    exact rz_ireti d_M_readBlock_43 rfl rfl q4
theorem p_M_readBlock_51 {S : rz_S} {K : Int32 → rz_S → Prop} {a1 : Int32} {a2 : Int32} {a3 na3 : Nat} (ha3 : rz_T[a3]? = some (.inl (0, na3))) {a4 : Int32} {a6 : Int32} (w : ((85 ≤ a6 → rz_ev mM_group [.ref 116, .int 0] S (rz_i (fun xq2 Sq2 => rz_ev mM_groupOf [.int 0] Sq2 (rz_i (fun xq3 Sq3 => ((xq2 = xq3 → rz_ev mM_group [.ref 116, .int 1] Sq3 (rz_i (fun xq5 Sq5 => rz_ev mM_groupOf [.int 7] Sq5 (rz_i (fun xq6 Sq6 => ((xq5 = xq6 → rz_ev mM_reads [.ref 116, .int 136] Sq6 (rz_i (fun xq8 Sq8 => ((xq8 = 0 → rz_ev mM_fault [.ref 116, .int 24, .int a1, .int a2] Sq8 (rz_i (fun xq10 Sq10 => K xq10 Sq10))) ∧ (¬ xq8 = 0 → rz mM_readBlock 137 [(0, .ref 116), (1, .int a1), (2, .int a2), (3, .ref a3), (4, .int a4), (6, .int 0), (7, .int 1)] [] Sq8 (rz_i K)))))) ∧ (¬ xq5 = xq6 → rz mM_readBlock 103 [(0, .ref 116), (1, .int a1), (2, .int a2)] [] Sq6 (rz_i K)))))))) ∧ (¬ xq2 = xq3 → rz mM_readBlock 103 [(0, .ref 116), (1, .int a1), (2, .int a2)] [] Sq3 (rz_i K)))))))) ∧ (¬ 85 ≤ a6 → rx_in a6 85 = true ∧ rz mM_readBlock 51 [(0, .ref 116), (1, .int a1), (2, .int a2), (3, .ref a3), (4, .int a4), (6, .int (a6 + 1))] [] (rz_fA S 120 (upd (S.1 120) a6.toNatClampNeg (S.1 121 a6.toNatClampNeg))) (rz_i K)))) : rz mM_readBlock 51 [(0, .ref 116), (1, .int a1), (2, .int a2), (3, .ref a3), (4, .int a4), (6, .int a6)] [] S (rz_i K) := by
  refine rz_pure (pc' := 53) d_M_readBlock_51 rfl ?_
  refine rz_bipush (v := 85) d_M_readBlock_53 (by decide) ?_
  refine rz_icmpge (tgt := 78) d_M_readBlock_55 rfl (fun b1 => ?_) (fun b1 => ?_)
  · skip
    refine rz_pure (pc' := 79) d_M_readBlock_78 rfl ?_
    refine rz_iconst (v := 0) d_M_readBlock_79 (by decide) ?_
    refine rz_callVi (t := [.int 0]) d_M_readBlock_80 w_12_77 rfl rfl rfl (w.1 b1) (fun xq2 Sq2 q2 => ?_)
    refine rz_iconst (v := 0) d_M_readBlock_83 (by decide) ?_
    refine rz_callSi (t := [.int 0]) d_M_readBlock_84 rfl w_12_68 rfl rfl q2 (fun xq3 Sq3 q3 => ?_)
    refine rz_icmpne (tgt := 103) d_M_readBlock_87 rfl (fun b4 => ?_) (fun b4 => ?_)
    · skip
      exact rz_pick (ks := [0, 1, 2]) (l := [(0, .ref 116), (1, .int a1), (2, .int a2)]) rfl rfl (by decide) rfl (q3.2 b4)
    · skip
      refine rz_pure (pc' := 91) d_M_readBlock_90 rfl ?_
      refine rz_iconst (v := 1) d_M_readBlock_91 (by decide) ?_
      refine rz_callVi (t := [.int 1]) d_M_readBlock_92 w_12_77 rfl rfl rfl (q3.1 b4) (fun xq5 Sq5 q5 => ?_)
      refine rz_bipush (v := 7) d_M_readBlock_95 (by decide) ?_
      refine rz_callSi (t := [.int 7]) d_M_readBlock_97 rfl w_12_68 rfl rfl q5 (fun xq6 Sq6 q6 => ?_)
      refine rz_icmpeq (tgt := 112) d_M_readBlock_100 rfl (fun b7 => ?_) (fun b7 => ?_)
      · skip
        refine rz_pure (pc' := 113) d_M_readBlock_112 rfl ?_
        refine rz_sipush (v := 136) d_M_readBlock_113 (by decide) ?_
        refine rz_callVi (t := [.int 136]) d_M_readBlock_116 w_12_121 rfl rfl rfl (q6.1 b7) (fun xq8 Sq8 q8 => ?_)
        refine rz_ifne (tgt := 131) d_M_readBlock_119 rfl (fun b9 => ?_) (fun b9 => ?_)
        · skip
          refine rz_iconst (v := 0) d_M_readBlock_131 (by decide) ?_
          refine rz_pure (pc' := 134) (l' := [(6, .int 0), (0, .ref 116), (1, .int a1), (2, .int a2), (3, .ref a3), (4, .int a4)]) d_M_readBlock_132 rfl ?_
          refine rz_iconst (v := 1) d_M_readBlock_134 (by decide) ?_
          refine rz_pure (pc' := 137) (l' := [(7, .int 1), (6, .int 0), (0, .ref 116), (1, .int a1), (2, .int a2), (3, .ref a3), (4, .int a4)]) d_M_readBlock_135 rfl ?_
          exact rz_pick (ks := [0, 1, 2, 3, 4, 6, 7]) (l := [(0, .ref 116), (1, .int a1), (2, .int a2), (3, .ref a3), (4, .int a4), (6, .int 0), (7, .int 1)]) rfl rfl (by decide) rfl (q8.2 b9)
        · skip
          refine rz_pure (pc' := 123) d_M_readBlock_122 rfl ?_
          refine rz_bipush (v := 24) d_M_readBlock_123 (by decide) ?_
          refine rz_pure (pc' := 126) d_M_readBlock_125 rfl ?_
          refine rz_pure (pc' := 127) d_M_readBlock_126 rfl ?_
          refine rz_callVi (t := [.int a2, .int a1, .int 24]) d_M_readBlock_127 w_12_113 rfl rfl rfl (q8.1 b9) (fun xq10 Sq10 q10 => ?_)
          exact rz_ireti d_M_readBlock_130 rfl rfl q10
      · skip
        exact rz_pick (ks := [0, 1, 2]) (l := [(0, .ref 116), (1, .int a1), (2, .int a2)]) rfl rfl (by decide) rfl (q6.2 b7)
  · skip
    refine rz_pure (pc' := 59) d_M_readBlock_58 rfl ?_
    refine rz_getr d_M_readBlock_59 f_12_74 rfl rfl ?_
    refine rz_pure (pc' := 64) d_M_readBlock_62 rfl ?_
    refine rz_pure (pc' := 65) d_M_readBlock_64 rfl ?_
    refine rz_getr d_M_readBlock_65 f_12_104 rfl rfl ?_
    refine rz_pure (pc' := 70) d_M_readBlock_68 rfl ?_
    refine rz_ialdv (F := S.1 121) (i := a6.toNatClampNeg) d_M_readBlock_70 rfl (w.2 b1).1 rfl rfl ?_
    refine rz_iastv (F := S.1 120) (i := a6.toNatClampNeg) d_M_readBlock_71 rfl (w.2 b1).1 rfl rfl ?_
    refine rz_pure (pc' := 75) (l' := [(6, .int (a6 + 1)), (0, .ref 116), (1, .int a1), (2, .int a2), (3, .ref a3), (4, .int a4)]) d_M_readBlock_72 rfl ?_
    refine rz_pure (pc' := 51) d_M_readBlock_75 rfl ?_
    exact rz_pick (ks := [0, 1, 2, 3, 4, 6]) (l := [(0, .ref 116), (1, .int a1), (2, .int a2), (3, .ref a3), (4, .int a4), (6, .int (a6 + 1))]) rfl rfl (by decide) rfl (w.2 b1).2
theorem p_M_readBlock_103 {S : rz_S} {K : Int32 → rz_S → Prop} {a1 : Int32} {a2 : Int32} (w : rz_ev mM_fault [.ref 116, .int 22, .int a1, .int a2] S (rz_i (fun xq1 Sq1 => K xq1 Sq1))) : rz mM_readBlock 103 [(0, .ref 116), (1, .int a1), (2, .int a2)] [] S (rz_i K) := by
  refine rz_pure (pc' := 104) d_M_readBlock_103 rfl ?_
  refine rz_bipush (v := 22) d_M_readBlock_104 (by decide) ?_
  refine rz_pure (pc' := 107) d_M_readBlock_106 rfl ?_
  refine rz_pure (pc' := 108) d_M_readBlock_107 rfl ?_
  refine rz_callVi (t := [.int a2, .int a1, .int 22]) d_M_readBlock_108 w_12_113 rfl rfl rfl w (fun xq1 Sq1 q1 => ?_)
  exact rz_ireti d_M_readBlock_111 rfl rfl q1
theorem p_M_readBlock_137 {S : rz_S} {K : Int32 → rz_S → Prop} {a1 : Int32} {a2 : Int32} {a3 na3 : Nat} (ha3 : rz_T[a3]? = some (.inl (0, na3))) {a4 : Int32} {a6 : Int32} {a7 : Int32} (w : ((64 < a7 → ((a6 = S.1 119 65 → rz mM_readBlock 186 [(0, .ref 116), (3, .ref a3), (4, .int a4), (7, .int 0)] [] S (rz_i K)) ∧ (¬ a6 = S.1 119 65 → rz_ev mM_fault [.ref 116, .int 23, .int a1, .int a2] S (rz_i (fun xq3 Sq3 => K xq3 Sq3))))) ∧ (¬ 64 < a7 → rx_in a7 68 = true ∧ rz mM_readBlock 137 [(0, .ref 116), (1, .int a1), (2, .int a2), (3, .ref a3), (4, .int a4), (6, .int (a6 ^^^ (S.1 119 a7.toNatClampNeg))), (7, .int (a7 + 1))] [] S (rz_i K)))) : rz mM_readBlock 137 [(0, .ref 116), (1, .int a1), (2, .int a2), (3, .ref a3), (4, .int a4), (6, .int a6), (7, .int a7)] [] S (rz_i K) := by
  refine rz_pure (pc' := 139) d_M_readBlock_137 rfl ?_
  refine rz_bipush (v := 64) d_M_readBlock_139 (by decide) ?_
  refine rz_icmpgt (tgt := 162) d_M_readBlock_141 rfl (fun b1 => ?_) (fun b1 => ?_)
  · skip
    refine rz_pure (pc' := 164) d_M_readBlock_162 rfl ?_
    refine rz_pure (pc' := 165) d_M_readBlock_164 rfl ?_
    refine rz_getr d_M_readBlock_165 f_12_71 rfl rfl ?_
    refine rz_bipush (v := 65) d_M_readBlock_168 (by decide) ?_
    refine rz_ialdv (F := S.1 119) (i := 65) d_M_readBlock_170 rfl (by decide) rfl (by decide) ?_
    refine rz_icmpeq (tgt := 183) d_M_readBlock_171 rfl (fun b2 => ?_) (fun b2 => ?_)
    · skip
      refine rz_iconst (v := 0) d_M_readBlock_183 (by decide) ?_
      refine rz_pure (pc' := 186) (l' := [(7, .int 0), (0, .ref 116), (1, .int a1), (2, .int a2), (3, .ref a3), (4, .int a4), (6, .int a6)]) d_M_readBlock_184 rfl ?_
      exact rz_pick (ks := [0, 3, 4, 7]) (l := [(0, .ref 116), (3, .ref a3), (4, .int a4), (7, .int 0)]) rfl rfl (by decide) rfl ((w.1 b1).1 b2)
    · skip
      refine rz_pure (pc' := 175) d_M_readBlock_174 rfl ?_
      refine rz_bipush (v := 23) d_M_readBlock_175 (by decide) ?_
      refine rz_pure (pc' := 178) d_M_readBlock_177 rfl ?_
      refine rz_pure (pc' := 179) d_M_readBlock_178 rfl ?_
      refine rz_callVi (t := [.int a2, .int a1, .int 23]) d_M_readBlock_179 w_12_113 rfl rfl rfl ((w.1 b1).2 b2) (fun xq3 Sq3 q3 => ?_)
      exact rz_ireti d_M_readBlock_182 rfl rfl q3
  · skip
    refine rz_pure (pc' := 146) d_M_readBlock_144 rfl ?_
    refine rz_pure (pc' := 147) d_M_readBlock_146 rfl ?_
    refine rz_getr d_M_readBlock_147 f_12_71 rfl rfl ?_
    refine rz_pure (pc' := 152) d_M_readBlock_150 rfl ?_
    refine rz_ialdv (F := S.1 119) (i := a7.toNatClampNeg) d_M_readBlock_152 rfl (w.2 b1).1 rfl rfl ?_
    refine rz_ixor d_M_readBlock_153 ?_
    refine rz_pure (pc' := 156) (l' := [(6, .int (a6 ^^^ (S.1 119 a7.toNatClampNeg))), (0, .ref 116), (1, .int a1), (2, .int a2), (3, .ref a3), (4, .int a4), (7, .int a7)]) d_M_readBlock_154 rfl ?_
    refine rz_pure (pc' := 159) (l' := [(7, .int (a7 + 1)), (6, .int (a6 ^^^ (S.1 119 a7.toNatClampNeg))), (0, .ref 116), (1, .int a1), (2, .int a2), (3, .ref a3), (4, .int a4)]) d_M_readBlock_156 rfl ?_
    refine rz_pure (pc' := 137) d_M_readBlock_159 rfl ?_
    exact rz_pick (ks := [0, 1, 2, 3, 4, 6, 7]) (l := [(0, .ref 116), (1, .int a1), (2, .int a2), (3, .ref a3), (4, .int a4), (6, .int (a6 ^^^ (S.1 119 a7.toNatClampNeg))), (7, .int (a7 + 1))]) rfl rfl (by decide) rfl (w.2 b1).2
theorem p_M_readBlock_186 {S : rz_S} {K : Int32 → rz_S → Prop} {a3 na3 : Nat} (ha3 : rz_T[a3]? = some (.inl (0, na3))) {a4 : Int32} {a7 : Int32} (w : ((64 ≤ a7 → K 0 S) ∧ (¬ 64 ≤ a7 → rx_in (1 + a7) 68 = true ∧ rx_in (a4 + a7) na3 = true ∧ rz mM_readBlock 186 [(0, .ref 116), (3, .ref a3), (4, .int a4), (7, .int (a7 + 1))] [] (rz_fA S a3 (upd (S.1 a3) ((a4 + a7).toNatClampNeg) (S.1 119 ((1 + a7).toNatClampNeg)))) (rz_i K)))) : rz mM_readBlock 186 [(0, .ref 116), (3, .ref a3), (4, .int a4), (7, .int a7)] [] S (rz_i K) := by
  refine rz_pure (pc' := 188) d_M_readBlock_186 rfl ?_
  refine rz_bipush (v := 64) d_M_readBlock_188 (by decide) ?_
  refine rz_icmpge (tgt := 215) d_M_readBlock_190 rfl (fun b1 => ?_) (fun b1 => ?_)
  · skip
    refine rz_iconst (v := 0) d_M_readBlock_215 (by decide) ?_
    exact rz_ireti d_M_readBlock_216 rfl rfl (w.1 b1)
  · skip
    refine rz_pure (pc' := 194) d_M_readBlock_193 rfl ?_
    refine rz_pure (pc' := 196) d_M_readBlock_194 rfl ?_
    refine rz_pure (pc' := 198) d_M_readBlock_196 rfl ?_
    refine rz_iadd d_M_readBlock_198 ?_
    refine rz_pure (pc' := 200) d_M_readBlock_199 rfl ?_
    refine rz_getr d_M_readBlock_200 f_12_71 rfl rfl ?_
    refine rz_iconst (v := 1) d_M_readBlock_203 (by decide) ?_
    refine rz_pure (pc' := 206) d_M_readBlock_204 rfl ?_
    refine rz_iadd d_M_readBlock_206 ?_
    refine rz_ialdv (F := S.1 119) (i := (1 + a7).toNatClampNeg) d_M_readBlock_207 rfl (w.2 b1).1 rfl rfl ?_
    refine rz_iastv (F := S.1 a3) (i := (a4 + a7).toNatClampNeg) d_M_readBlock_208 (ha3) (w.2 b1).2.1 rfl rfl ?_
    refine rz_pure (pc' := 212) (l' := [(7, .int (a7 + 1)), (0, .ref 116), (3, .ref a3), (4, .int a4)]) d_M_readBlock_209 rfl ?_
    refine rz_pure (pc' := 186) d_M_readBlock_212 rfl ?_
    exact rz_pick (ks := [0, 3, 4, 7]) (l := [(0, .ref 116), (3, .ref a3), (4, .int a4), (7, .int (a7 + 1))]) rfl rfl (by decide) rfl (w.2 b1).2.2
theorem d_M_lays_0 : decode (rm_code mM_lays) 0 = .ok (.bipush (7), 2) := by decide +kernel
theorem d_M_lays_2 : decode (rm_code mM_lays) 2 = .ok (.istore_n 3, 1) := by decide +kernel
theorem d_M_lays_3 : decode (rm_code mM_lays) 3 = .ok (.iload_n 3, 1) := by decide +kernel
theorem d_M_lays_4 : decode (rm_code mM_lays) 4 = .ok (.ifCond .lt (53), 3) := by decide +kernel
theorem d_M_lays_7 : decode (rm_code mM_lays) 7 = .ok (.aload_n 0, 1) := by decide +kernel
theorem d_M_lays_8 : decode (rm_code mM_lays) 8 = .ok (.iload_n 1, 1) := by decide +kernel
theorem d_M_lays_9 : decode (rm_code mM_lays) 9 = .ok (.aload_n 0, 1) := by decide +kernel
theorem d_M_lays_10 : decode (rm_code mM_lays) 10 = .ok (.getfield 125, 3) := by decide +kernel
theorem d_M_lays_13 : decode (rm_code mM_lays) 13 = .ok (.iload_n 2, 1) := by decide +kernel
theorem d_M_lays_14 : decode (rm_code mM_lays) 14 = .ok (.iload_n 3, 1) := by decide +kernel
theorem d_M_lays_15 : decode (rm_code mM_lays) 15 = .ok (.ishr, 1) := by decide +kernel
theorem d_M_lays_16 : decode (rm_code mM_lays) 16 = .ok (.iconst 1, 1) := by decide +kernel
theorem d_M_lays_17 : decode (rm_code mM_lays) 17 = .ok (.iand, 1) := by decide +kernel
theorem d_M_lays_18 : decode (rm_code mM_lays) 18 = .ok (.invokevirtual 128, 3) := by decide +kernel
theorem d_M_lays_21 : decode (rm_code mM_lays) 21 = .ok (.aload_n 0, 1) := by decide +kernel
theorem d_M_lays_22 : decode (rm_code mM_lays) 22 = .ok (.aload_n 0, 1) := by decide +kernel
theorem d_M_lays_23 : decode (rm_code mM_lays) 23 = .ok (.getfield 125, 3) := by decide +kernel
theorem d_M_lays_26 : decode (rm_code mM_lays) 26 = .ok (.iconst 1, 1) := by decide +kernel
theorem d_M_lays_27 : decode (rm_code mM_lays) 27 = .ok (.iadd, 1) := by decide +kernel
theorem d_M_lays_28 : decode (rm_code mM_lays) 28 = .ok (.bipush (8), 2) := by decide +kernel
theorem d_M_lays_30 : decode (rm_code mM_lays) 30 = .ok (.iload_n 1, 1) := by decide +kernel
theorem d_M_lays_31 : decode (rm_code mM_lays) 31 = .ok (.invokestatic 21, 3) := by decide +kernel
theorem d_M_lays_34 : decode (rm_code mM_lays) 34 = .ok (.imul, 1) := by decide +kernel
theorem d_M_lays_35 : decode (rm_code mM_lays) 35 = .ok (.if_icmp .ne (7), 3) := by decide +kernel
theorem d_M_lays_38 : decode (rm_code mM_lays) 38 = .ok (.iconst 0, 1) := by decide +kernel
theorem d_M_lays_39 : decode (rm_code mM_lays) 39 = .ok (.goto (9), 3) := by decide +kernel
theorem d_M_lays_42 : decode (rm_code mM_lays) 42 = .ok (.aload_n 0, 1) := by decide +kernel
theorem d_M_lays_43 : decode (rm_code mM_lays) 43 = .ok (.getfield 125, 3) := by decide +kernel
theorem d_M_lays_46 : decode (rm_code mM_lays) 46 = .ok (.iconst 1, 1) := by decide +kernel
theorem d_M_lays_47 : decode (rm_code mM_lays) 47 = .ok (.iadd, 1) := by decide +kernel
theorem d_M_lays_48 : decode (rm_code mM_lays) 48 = .ok (.putfield 125, 3) := by decide +kernel
theorem d_M_lays_51 : decode (rm_code mM_lays) 51 = .ok (.iinc 3 (-1), 3) := by decide +kernel
theorem d_M_lays_54 : decode (rm_code mM_lays) 54 = .ok (.goto (-51), 3) := by decide +kernel
theorem d_M_lays_57 : decode (rm_code mM_lays) 57 = .ok (.return_, 1) := by decide +kernel
theorem p_M_lays_0 {S : rz_S} {K : rz_S → Prop} {a1 : Int32} {a2 : Int32} (w : rz mM_lays 3 [(0, .ref 116), (1, .int a1), (2, .int a2), (3, .int 7)] [] S (rz_v K)) : rz mM_lays 0 [(0, .ref 116), (1, .int a1), (2, .int a2)] [] S (rz_v K) := by
  refine rz_bipush (v := 7) d_M_lays_0 (by decide) ?_
  refine rz_pure (pc' := 3) (l' := [(3, .int 7), (0, .ref 116), (1, .int a1), (2, .int a2)]) d_M_lays_2 rfl ?_
  exact rz_pick (ks := [0, 1, 2, 3]) (l := [(0, .ref 116), (1, .int a1), (2, .int a2), (3, .int 7)]) rfl rfl (by decide) rfl w
theorem p_M_lays_3 {S : rz_S} {K : rz_S → Prop} {a1 : Int32} {a2 : Int32} {a3 : Int32} (w : ((a3 < 0 → K S) ∧ (¬ a3 < 0 → rz_ev mM_setBit [.ref 116, .int a1, .int (S.2 116 20), .int ((a2 >>> (a3 &&& 31)) &&& 1)] S (rz_v (fun Sq2 => rz_ev mM_bytesOf [.int a1] Sq2 (rz_i (fun xq3 Sq3 => (((Sq2.2 116 20) + 1 = 8 * xq3 → rz mM_lays 3 [(0, .ref 116), (1, .int a1), (2, .int a2), (3, .int (a3 + (-1)))] [] (rz_uI Sq3 116 20 0) (rz_v K)) ∧ (¬ (Sq2.2 116 20) + 1 = 8 * xq3 → rz mM_lays 3 [(0, .ref 116), (1, .int a1), (2, .int a2), (3, .int (a3 + (-1)))] [] (rz_uI Sq3 116 20 ((Sq3.2 116 20) + 1)) (rz_v K)))))))))) : rz mM_lays 3 [(0, .ref 116), (1, .int a1), (2, .int a2), (3, .int a3)] [] S (rz_v K) := by
  refine rz_pure (pc' := 4) d_M_lays_3 rfl ?_
  refine rz_iflt (tgt := 57) d_M_lays_4 rfl (fun b1 => ?_) (fun b1 => ?_)
  · skip
    exact rz_vretv d_M_lays_57 rfl (w.1 b1)
  · skip
    refine rz_pure (pc' := 8) d_M_lays_7 rfl ?_
    refine rz_pure (pc' := 9) d_M_lays_8 rfl ?_
    refine rz_pure (pc' := 10) d_M_lays_9 rfl ?_
    refine rz_getiv (v := S.2 116 20) d_M_lays_10 f_12_125 rfl rfl rfl ?_
    refine rz_pure (pc' := 14) d_M_lays_13 rfl ?_
    refine rz_pure (pc' := 15) d_M_lays_14 rfl ?_
    refine rz_ishr d_M_lays_15 ?_
    refine rz_iconst (v := 1) d_M_lays_16 (by decide) ?_
    refine rz_iand d_M_lays_17 ?_
    refine rz_callVv (t := [.int ((a2 >>> (a3 &&& 31)) &&& 1), .int (S.2 116 20), .int a1]) d_M_lays_18 w_12_128 rfl rfl rfl (w.2 b1) (fun Sq2 q2 => ?_)
    refine rz_pure (pc' := 22) d_M_lays_21 rfl ?_
    refine rz_pure (pc' := 23) d_M_lays_22 rfl ?_
    refine rz_getiv (v := Sq2.2 116 20) d_M_lays_23 f_12_125 rfl rfl rfl ?_
    refine rz_iconst (v := 1) d_M_lays_26 (by decide) ?_
    refine rz_iadd d_M_lays_27 ?_
    refine rz_bipush (v := 8) d_M_lays_28 (by decide) ?_
    refine rz_pure (pc' := 31) d_M_lays_30 rfl ?_
    refine rz_callSi (t := [.int a1]) d_M_lays_31 rfl w_12_21 rfl rfl q2 (fun xq3 Sq3 q3 => ?_)
    refine rz_imul d_M_lays_34 ?_
    refine rz_icmpne (tgt := 42) d_M_lays_35 rfl (fun b4 => ?_) (fun b4 => ?_)
    · skip
      refine rz_pure (pc' := 43) d_M_lays_42 rfl ?_
      refine rz_getiv (v := Sq3.2 116 20) d_M_lays_43 f_12_125 rfl rfl rfl ?_
      refine rz_iconst (v := 1) d_M_lays_46 (by decide) ?_
      refine rz_iadd d_M_lays_47 ?_
      refine rz_puti d_M_lays_48 f_12_125 rfl rfl rfl ?_
      refine rz_pure (pc' := 54) (l' := [(3, .int (a3 + (-1))), (0, .ref 116), (1, .int a1), (2, .int a2)]) d_M_lays_51 rfl ?_
      refine rz_pure (pc' := 3) d_M_lays_54 rfl ?_
      exact rz_pick (ks := [0, 1, 2, 3]) (l := [(0, .ref 116), (1, .int a1), (2, .int a2), (3, .int (a3 + (-1)))]) rfl rfl (by decide) rfl (q3.2 b4)
    · skip
      refine rz_iconst (v := 0) d_M_lays_38 (by decide) ?_
      refine rz_pure (pc' := 48) d_M_lays_39 rfl ?_
      refine rz_puti d_M_lays_48 f_12_125 rfl rfl rfl ?_
      refine rz_pure (pc' := 54) (l' := [(3, .int (a3 + (-1))), (0, .ref 116), (1, .int a1), (2, .int a2)]) d_M_lays_51 rfl ?_
      refine rz_pure (pc' := 3) d_M_lays_54 rfl ?_
      exact rz_pick (ks := [0, 1, 2, 3]) (l := [(0, .ref 116), (1, .int a1), (2, .int a2), (3, .int (a3 + (-1)))]) rfl rfl (by decide) rfl (q3.1 b4)
theorem d_M_writeBlock_0 : decode (rm_code mM_writeBlock) 0 = .ok (.aload_n 0, 1) := by decide +kernel
theorem d_M_writeBlock_1 : decode (rm_code mM_writeBlock) 1 = .ok (.getfield 131, 3) := by decide +kernel
theorem d_M_writeBlock_4 : decode (rm_code mM_writeBlock) 4 = .ok (.ifCond .eq (12), 3) := by decide +kernel
theorem d_M_writeBlock_7 : decode (rm_code mM_writeBlock) 7 = .ok (.aload_n 0, 1) := by decide +kernel
theorem d_M_writeBlock_8 : decode (rm_code mM_writeBlock) 8 = .ok (.bipush (26), 2) := by decide +kernel
theorem d_M_writeBlock_10 : decode (rm_code mM_writeBlock) 10 = .ok (.iload_n 1, 1) := by decide +kernel
theorem d_M_writeBlock_11 : decode (rm_code mM_writeBlock) 11 = .ok (.iload_n 2, 1) := by decide +kernel
theorem d_M_writeBlock_12 : decode (rm_code mM_writeBlock) 12 = .ok (.invokevirtual 113, 3) := by decide +kernel
theorem d_M_writeBlock_15 : decode (rm_code mM_writeBlock) 15 = .ok (.ireturn, 1) := by decide +kernel
theorem d_M_writeBlock_16 : decode (rm_code mM_writeBlock) 16 = .ok (.aload_n 0, 1) := by decide +kernel
theorem d_M_writeBlock_17 : decode (rm_code mM_writeBlock) 17 = .ok (.getfield 90, 3) := by decide +kernel
theorem d_M_writeBlock_20 : decode (rm_code mM_writeBlock) 20 = .ok (.iconst (-1), 1) := by decide +kernel
theorem d_M_writeBlock_21 : decode (rm_code mM_writeBlock) 21 = .ok (.if_icmp .ne (17), 3) := by decide +kernel
theorem d_M_writeBlock_24 : decode (rm_code mM_writeBlock) 24 = .ok (.aload_n 0, 1) := by decide +kernel
theorem d_M_writeBlock_25 : decode (rm_code mM_writeBlock) 25 = .ok (.invokevirtual 107, 3) := by decide +kernel
theorem d_M_writeBlock_28 : decode (rm_code mM_writeBlock) 28 = .ok (.istore 5, 2) := by decide +kernel
theorem d_M_writeBlock_30 : decode (rm_code mM_writeBlock) 30 = .ok (.iload 5, 2) := by decide +kernel
theorem d_M_writeBlock_32 : decode (rm_code mM_writeBlock) 32 = .ok (.ifCond .eq (6), 3) := by decide +kernel
theorem d_M_writeBlock_35 : decode (rm_code mM_writeBlock) 35 = .ok (.iload 5, 2) := by decide +kernel
theorem d_M_writeBlock_37 : decode (rm_code mM_writeBlock) 37 = .ok (.ireturn, 1) := by decide +kernel
theorem d_M_writeBlock_38 : decode (rm_code mM_writeBlock) 38 = .ok (.aload_n 0, 1) := by decide +kernel
theorem d_M_writeBlock_39 : decode (rm_code mM_writeBlock) 39 = .ok (.iload_n 1, 1) := by decide +kernel
theorem d_M_writeBlock_40 : decode (rm_code mM_writeBlock) 40 = .ok (.iload_n 2, 1) := by decide +kernel
theorem d_M_writeBlock_41 : decode (rm_code mM_writeBlock) 41 = .ok (.invokevirtual 110, 3) := by decide +kernel
theorem d_M_writeBlock_44 : decode (rm_code mM_writeBlock) 44 = .ok (.istore 5, 2) := by decide +kernel
theorem d_M_writeBlock_46 : decode (rm_code mM_writeBlock) 46 = .ok (.iload 5, 2) := by decide +kernel
theorem d_M_writeBlock_48 : decode (rm_code mM_writeBlock) 48 = .ok (.ifCond .eq (12), 3) := by decide +kernel
theorem d_M_writeBlock_51 : decode (rm_code mM_writeBlock) 51 = .ok (.aload_n 0, 1) := by decide +kernel
theorem d_M_writeBlock_52 : decode (rm_code mM_writeBlock) 52 = .ok (.iload 5, 2) := by decide +kernel
theorem d_M_writeBlock_54 : decode (rm_code mM_writeBlock) 54 = .ok (.iload_n 1, 1) := by decide +kernel
theorem d_M_writeBlock_55 : decode (rm_code mM_writeBlock) 55 = .ok (.iload_n 2, 1) := by decide +kernel
theorem d_M_writeBlock_56 : decode (rm_code mM_writeBlock) 56 = .ok (.invokevirtual 113, 3) := by decide +kernel
theorem d_M_writeBlock_59 : decode (rm_code mM_writeBlock) 59 = .ok (.ireturn, 1) := by decide +kernel
theorem d_M_writeBlock_60 : decode (rm_code mM_writeBlock) 60 = .ok (.iconst 0, 1) := by decide +kernel
theorem d_M_writeBlock_61 : decode (rm_code mM_writeBlock) 61 = .ok (.istore 6, 2) := by decide +kernel
theorem d_M_writeBlock_63 : decode (rm_code mM_writeBlock) 63 = .ok (.iload 6, 2) := by decide +kernel
theorem d_M_writeBlock_65 : decode (rm_code mM_writeBlock) 65 = .ok (.bipush (9), 2) := by decide +kernel
theorem d_M_writeBlock_67 : decode (rm_code mM_writeBlock) 67 = .ok (.if_icmp .ge (14), 3) := by decide +kernel
theorem d_M_writeBlock_70 : decode (rm_code mM_writeBlock) 70 = .ok (.aload_n 0, 1) := by decide +kernel
theorem d_M_writeBlock_71 : decode (rm_code mM_writeBlock) 71 = .ok (.invokevirtual 100, 3) := by decide +kernel
theorem d_M_writeBlock_74 : decode (rm_code mM_writeBlock) 74 = .ok (.pop, 1) := by decide +kernel
theorem d_M_writeBlock_75 : decode (rm_code mM_writeBlock) 75 = .ok (.iinc 6 (1), 3) := by decide +kernel
theorem d_M_writeBlock_78 : decode (rm_code mM_writeBlock) 78 = .ok (.goto (-15), 3) := by decide +kernel
theorem d_M_writeBlock_81 : decode (rm_code mM_writeBlock) 81 = .ok (.aload_n 0, 1) := by decide +kernel
theorem d_M_writeBlock_82 : decode (rm_code mM_writeBlock) 82 = .ok (.aload_n 0, 1) := by decide +kernel
theorem d_M_writeBlock_83 : decode (rm_code mM_writeBlock) 83 = .ok (.getfield 27, 3) := by decide +kernel
theorem d_M_writeBlock_86 : decode (rm_code mM_writeBlock) 86 = .ok (.putfield 125, 3) := by decide +kernel
theorem d_M_writeBlock_89 : decode (rm_code mM_writeBlock) 89 = .ok (.iconst 0, 1) := by decide +kernel
theorem d_M_writeBlock_90 : decode (rm_code mM_writeBlock) 90 = .ok (.istore 6, 2) := by decide +kernel
theorem d_M_writeBlock_92 : decode (rm_code mM_writeBlock) 92 = .ok (.iload 6, 2) := by decide +kernel
theorem d_M_writeBlock_94 : decode (rm_code mM_writeBlock) 94 = .ok (.iconst 5, 1) := by decide +kernel
theorem d_M_writeBlock_95 : decode (rm_code mM_writeBlock) 95 = .ok (.if_icmp .ge (17), 3) := by decide +kernel
theorem d_M_writeBlock_98 : decode (rm_code mM_writeBlock) 98 = .ok (.aload_n 0, 1) := by decide +kernel
theorem d_M_writeBlock_99 : decode (rm_code mM_writeBlock) 99 = .ok (.iload_n 1, 1) := by decide +kernel
theorem d_M_writeBlock_100 : decode (rm_code mM_writeBlock) 100 = .ok (.sipush (255), 3) := by decide +kernel
theorem d_M_writeBlock_103 : decode (rm_code mM_writeBlock) 103 = .ok (.invokevirtual 134, 3) := by decide +kernel
theorem d_M_writeBlock_106 : decode (rm_code mM_writeBlock) 106 = .ok (.iinc 6 (1), 3) := by decide +kernel
theorem d_M_writeBlock_109 : decode (rm_code mM_writeBlock) 109 = .ok (.goto (-17), 3) := by decide +kernel
theorem d_M_writeBlock_112 : decode (rm_code mM_writeBlock) 112 = .ok (.aload_n 0, 1) := by decide +kernel
theorem d_M_writeBlock_113 : decode (rm_code mM_writeBlock) 113 = .ok (.aload_n 3, 1) := by decide +kernel
theorem d_M_writeBlock_114 : decode (rm_code mM_writeBlock) 114 = .ok (.iload 4, 2) := by decide +kernel
theorem d_M_writeBlock_116 : decode (rm_code mM_writeBlock) 116 = .ok (.invokevirtual 138, 3) := by decide +kernel
theorem d_M_writeBlock_119 : decode (rm_code mM_writeBlock) 119 = .ok (.iconst 0, 1) := by decide +kernel
theorem d_M_writeBlock_120 : decode (rm_code mM_writeBlock) 120 = .ok (.istore 6, 2) := by decide +kernel
theorem d_M_writeBlock_122 : decode (rm_code mM_writeBlock) 122 = .ok (.iload 6, 2) := by decide +kernel
theorem d_M_writeBlock_124 : decode (rm_code mM_writeBlock) 124 = .ok (.bipush (85), 2) := by decide +kernel
theorem d_M_writeBlock_126 : decode (rm_code mM_writeBlock) 126 = .ok (.if_icmp .ge (21), 3) := by decide +kernel
theorem d_M_writeBlock_129 : decode (rm_code mM_writeBlock) 129 = .ok (.aload_n 0, 1) := by decide +kernel
theorem d_M_writeBlock_130 : decode (rm_code mM_writeBlock) 130 = .ok (.iload_n 1, 1) := by decide +kernel
theorem d_M_writeBlock_131 : decode (rm_code mM_writeBlock) 131 = .ok (.aload_n 0, 1) := by decide +kernel
theorem d_M_writeBlock_132 : decode (rm_code mM_writeBlock) 132 = .ok (.getfield 74, 3) := by decide +kernel
theorem d_M_writeBlock_135 : decode (rm_code mM_writeBlock) 135 = .ok (.iload 6, 2) := by decide +kernel
theorem d_M_writeBlock_137 : decode (rm_code mM_writeBlock) 137 = .ok (.iaload, 1) := by decide +kernel
theorem d_M_writeBlock_138 : decode (rm_code mM_writeBlock) 138 = .ok (.invokevirtual 134, 3) := by decide +kernel
theorem d_M_writeBlock_141 : decode (rm_code mM_writeBlock) 141 = .ok (.iinc 6 (1), 3) := by decide +kernel
theorem d_M_writeBlock_144 : decode (rm_code mM_writeBlock) 144 = .ok (.goto (-22), 3) := by decide +kernel
theorem d_M_writeBlock_147 : decode (rm_code mM_writeBlock) 147 = .ok (.aload_n 0, 1) := by decide +kernel
theorem d_M_writeBlock_148 : decode (rm_code mM_writeBlock) 148 = .ok (.iload_n 1, 1) := by decide +kernel
theorem d_M_writeBlock_149 : decode (rm_code mM_writeBlock) 149 = .ok (.iload_n 2, 1) := by decide +kernel
theorem d_M_writeBlock_150 : decode (rm_code mM_writeBlock) 150 = .ok (.invokevirtual 110, 3) := by decide +kernel
theorem d_M_writeBlock_153 : decode (rm_code mM_writeBlock) 153 = .ok (.ifCond .eq (12), 3) := by decide +kernel
theorem d_M_writeBlock_156 : decode (rm_code mM_writeBlock) 156 = .ok (.aload_n 0, 1) := by decide +kernel
theorem d_M_writeBlock_157 : decode (rm_code mM_writeBlock) 157 = .ok (.bipush (25), 2) := by decide +kernel
theorem d_M_writeBlock_159 : decode (rm_code mM_writeBlock) 159 = .ok (.iload_n 1, 1) := by decide +kernel
theorem d_M_writeBlock_160 : decode (rm_code mM_writeBlock) 160 = .ok (.iload_n 2, 1) := by decide +kernel
theorem d_M_writeBlock_161 : decode (rm_code mM_writeBlock) 161 = .ok (.invokevirtual 113, 3) := by decide +kernel
theorem d_M_writeBlock_164 : decode (rm_code mM_writeBlock) 164 = .ok (.ireturn, 1) := by decide +kernel
theorem d_M_writeBlock_165 : decode (rm_code mM_writeBlock) 165 = .ok (.aload_n 0, 1) := by decide +kernel
theorem d_M_writeBlock_166 : decode (rm_code mM_writeBlock) 166 = .ok (.invokevirtual 117, 3) := by decide +kernel
theorem d_M_writeBlock_169 : decode (rm_code mM_writeBlock) 169 = .ok (.aload_n 0, 1) := by decide +kernel
theorem d_M_writeBlock_170 : decode (rm_code mM_writeBlock) 170 = .ok (.aload_n 3, 1) := by decide +kernel
theorem d_M_writeBlock_171 : decode (rm_code mM_writeBlock) 171 = .ok (.iload 4, 2) := by decide +kernel
theorem d_M_writeBlock_173 : decode (rm_code mM_writeBlock) 173 = .ok (.invokevirtual 138, 3) := by decide +kernel
theorem d_M_writeBlock_176 : decode (rm_code mM_writeBlock) 176 = .ok (.iconst 1, 1) := by decide +kernel
theorem d_M_writeBlock_177 : decode (rm_code mM_writeBlock) 177 = .ok (.istore 6, 2) := by decide +kernel
theorem d_M_writeBlock_179 : decode (rm_code mM_writeBlock) 179 = .ok (.iconst 0, 1) := by decide +kernel
theorem d_M_writeBlock_180 : decode (rm_code mM_writeBlock) 180 = .ok (.istore 7, 2) := by decide +kernel
theorem d_M_writeBlock_182 : decode (rm_code mM_writeBlock) 182 = .ok (.iload 7, 2) := by decide +kernel
theorem d_M_writeBlock_184 : decode (rm_code mM_writeBlock) 184 = .ok (.bipush (85), 2) := by decide +kernel
theorem d_M_writeBlock_186 : decode (rm_code mM_writeBlock) 186 = .ok (.if_icmp .ge (38), 3) := by decide +kernel
theorem d_M_writeBlock_189 : decode (rm_code mM_writeBlock) 189 = .ok (.iload 6, 2) := by decide +kernel
theorem d_M_writeBlock_191 : decode (rm_code mM_writeBlock) 191 = .ok (.ifCond .eq (24), 3) := by decide +kernel
theorem d_M_writeBlock_194 : decode (rm_code mM_writeBlock) 194 = .ok (.aload_n 0, 1) := by decide +kernel
theorem d_M_writeBlock_195 : decode (rm_code mM_writeBlock) 195 = .ok (.getfield 104, 3) := by decide +kernel
theorem d_M_writeBlock_198 : decode (rm_code mM_writeBlock) 198 = .ok (.iload 7, 2) := by decide +kernel
theorem d_M_writeBlock_200 : decode (rm_code mM_writeBlock) 200 = .ok (.iaload, 1) := by decide +kernel
theorem d_M_writeBlock_201 : decode (rm_code mM_writeBlock) 201 = .ok (.aload_n 0, 1) := by decide +kernel
theorem d_M_writeBlock_202 : decode (rm_code mM_writeBlock) 202 = .ok (.getfield 74, 3) := by decide +kernel
theorem d_M_writeBlock_205 : decode (rm_code mM_writeBlock) 205 = .ok (.iload 7, 2) := by decide +kernel
theorem d_M_writeBlock_207 : decode (rm_code mM_writeBlock) 207 = .ok (.iaload, 1) := by decide +kernel
theorem d_M_writeBlock_208 : decode (rm_code mM_writeBlock) 208 = .ok (.if_icmp .ne (7), 3) := by decide +kernel
theorem d_M_writeBlock_211 : decode (rm_code mM_writeBlock) 211 = .ok (.iconst 1, 1) := by decide +kernel
theorem d_M_writeBlock_212 : decode (rm_code mM_writeBlock) 212 = .ok (.goto (4), 3) := by decide +kernel
theorem d_M_writeBlock_215 : decode (rm_code mM_writeBlock) 215 = .ok (.iconst 0, 1) := by decide +kernel
theorem d_M_writeBlock_216 : decode (rm_code mM_writeBlock) 216 = .ok (.istore 6, 2) := by decide +kernel
theorem d_M_writeBlock_218 : decode (rm_code mM_writeBlock) 218 = .ok (.iinc 7 (1), 3) := by decide +kernel
theorem d_M_writeBlock_221 : decode (rm_code mM_writeBlock) 221 = .ok (.goto (-39), 3) := by decide +kernel
theorem d_M_writeBlock_224 : decode (rm_code mM_writeBlock) 224 = .ok (.iload 6, 2) := by decide +kernel
theorem d_M_writeBlock_226 : decode (rm_code mM_writeBlock) 226 = .ok (.ifCond .eq (7), 3) := by decide +kernel
theorem d_M_writeBlock_229 : decode (rm_code mM_writeBlock) 229 = .ok (.iconst 0, 1) := by decide +kernel
theorem d_M_writeBlock_230 : decode (rm_code mM_writeBlock) 230 = .ok (.goto (11), 3) := by decide +kernel
theorem d_M_writeBlock_233 : decode (rm_code mM_writeBlock) 233 = .ok (.aload_n 0, 1) := by decide +kernel
theorem d_M_writeBlock_234 : decode (rm_code mM_writeBlock) 234 = .ok (.bipush (25), 2) := by decide +kernel
theorem d_M_writeBlock_236 : decode (rm_code mM_writeBlock) 236 = .ok (.iload_n 1, 1) := by decide +kernel
theorem d_M_writeBlock_237 : decode (rm_code mM_writeBlock) 237 = .ok (.iload_n 2, 1) := by decide +kernel
theorem d_M_writeBlock_238 : decode (rm_code mM_writeBlock) 238 = .ok (.invokevirtual 113, 3) := by decide +kernel
theorem d_M_writeBlock_241 : decode (rm_code mM_writeBlock) 241 = .ok (.ireturn, 1) := by decide +kernel
theorem p_M_writeBlock_0 {S : rz_S} {K : Int32 → rz_S → Prop} {a1 : Int32} {a2 : Int32} {a3 na3 : Nat} (ha3 : rz_T[a3]? = some (.inl (0, na3))) {a4 : Int32} (w : ((S.2 116 1 = 0 → ((S.2 116 2 = (-1) → rz_ev mM_takeId [.ref 116] S (rz_i (fun xq3 Sq3 => ((xq3 = 0 → rz mM_writeBlock 38 [(0, .ref 116), (1, .int a1), (2, .int a2), (3, .ref a3), (4, .int a4)] [] Sq3 (rz_i K)) ∧ (¬ xq3 = 0 → K xq3 Sq3))))) ∧ (¬ S.2 116 2 = (-1) → rz mM_writeBlock 38 [(0, .ref 116), (1, .int a1), (2, .int a2), (3, .ref a3), (4, .int a4)] [] S (rz_i K)))) ∧ (¬ S.2 116 1 = 0 → rz_ev mM_fault [.ref 116, .int 26, .int a1, .int a2] S (rz_i (fun xq5 Sq5 => K xq5 Sq5))))) : rz mM_writeBlock 0 [(0, .ref 116), (1, .int a1), (2, .int a2), (3, .ref a3), (4, .int a4)] [] S (rz_i K) := by
  refine rz_pure (pc' := 1) d_M_writeBlock_0 rfl ?_
  refine rz_getiv (v := S.2 116 1) d_M_writeBlock_1 f_12_131 rfl rfl rfl ?_
  refine rz_ifeq (tgt := 16) d_M_writeBlock_4 rfl (fun b1 => ?_) (fun b1 => ?_)
  · skip
    refine rz_pure (pc' := 17) d_M_writeBlock_16 rfl ?_
    refine rz_getiv (v := S.2 116 2) d_M_writeBlock_17 f_12_90 rfl rfl rfl ?_
    refine rz_iconst (v := -1) d_M_writeBlock_20 (by decide) ?_
    refine rz_icmpne (tgt := 38) d_M_writeBlock_21 rfl (fun b2 => ?_) (fun b2 => ?_)
    · skip
      exact rz_pick (ks := [0, 1, 2, 3, 4]) (l := [(0, .ref 116), (1, .int a1), (2, .int a2), (3, .ref a3), (4, .int a4)]) rfl rfl (by decide) rfl ((w.1 b1).2 b2)
    · skip
      refine rz_pure (pc' := 25) d_M_writeBlock_24 rfl ?_
      refine rz_callVi (t := []) d_M_writeBlock_25 w_12_107 rfl rfl rfl ((w.1 b1).1 b2) (fun xq3 Sq3 q3 => ?_)
      refine rz_pure (pc' := 30) (l' := [(5, .int xq3), (0, .ref 116), (1, .int a1), (2, .int a2), (3, .ref a3), (4, .int a4)]) d_M_writeBlock_28 rfl ?_
      refine rz_pure (pc' := 32) d_M_writeBlock_30 rfl ?_
      refine rz_ifeq (tgt := 38) d_M_writeBlock_32 rfl (fun b4 => ?_) (fun b4 => ?_)
      · skip
        exact rz_pick (ks := [0, 1, 2, 3, 4]) (l := [(0, .ref 116), (1, .int a1), (2, .int a2), (3, .ref a3), (4, .int a4)]) rfl rfl (by decide) rfl (q3.1 b4)
      · skip
        refine rz_pure (pc' := 37) d_M_writeBlock_35 rfl ?_
        exact rz_ireti d_M_writeBlock_37 rfl rfl (q3.2 b4)
  · skip
    refine rz_pure (pc' := 8) d_M_writeBlock_7 rfl ?_
    refine rz_bipush (v := 26) d_M_writeBlock_8 (by decide) ?_
    refine rz_pure (pc' := 11) d_M_writeBlock_10 rfl ?_
    refine rz_pure (pc' := 12) d_M_writeBlock_11 rfl ?_
    refine rz_callVi (t := [.int a2, .int a1, .int 26]) d_M_writeBlock_12 w_12_113 rfl rfl rfl (w.2 b1) (fun xq5 Sq5 q5 => ?_)
    exact rz_ireti d_M_writeBlock_15 rfl rfl q5
theorem p_M_writeBlock_38 {S : rz_S} {K : Int32 → rz_S → Prop} {a1 : Int32} {a2 : Int32} {a3 na3 : Nat} (ha3 : rz_T[a3]? = some (.inl (0, na3))) {a4 : Int32} (w : rz_ev mM_seek [.ref 116, .int a1, .int a2] S (rz_i (fun xq1 Sq1 => ((xq1 = 0 → rz mM_writeBlock 63 [(0, .ref 116), (1, .int a1), (2, .int a2), (3, .ref a3), (4, .int a4), (6, .int 0)] [] Sq1 (rz_i K)) ∧ (¬ xq1 = 0 → rz_ev mM_fault [.ref 116, .int xq1, .int a1, .int a2] Sq1 (rz_i (fun xq3 Sq3 => K xq3 Sq3))))))) : rz mM_writeBlock 38 [(0, .ref 116), (1, .int a1), (2, .int a2), (3, .ref a3), (4, .int a4)] [] S (rz_i K) := by
  refine rz_pure (pc' := 39) d_M_writeBlock_38 rfl ?_
  refine rz_pure (pc' := 40) d_M_writeBlock_39 rfl ?_
  refine rz_pure (pc' := 41) d_M_writeBlock_40 rfl ?_
  refine rz_callVi (t := [.int a2, .int a1]) d_M_writeBlock_41 w_12_110 rfl rfl rfl w (fun xq1 Sq1 q1 => ?_)
  refine rz_pure (pc' := 46) (l' := [(5, .int xq1), (0, .ref 116), (1, .int a1), (2, .int a2), (3, .ref a3), (4, .int a4)]) d_M_writeBlock_44 rfl ?_
  refine rz_pure (pc' := 48) d_M_writeBlock_46 rfl ?_
  refine rz_ifeq (tgt := 60) d_M_writeBlock_48 rfl (fun b2 => ?_) (fun b2 => ?_)
  · skip
    refine rz_iconst (v := 0) d_M_writeBlock_60 (by decide) ?_
    refine rz_pure (pc' := 63) (l' := [(6, .int 0), (5, .int xq1), (0, .ref 116), (1, .int a1), (2, .int a2), (3, .ref a3), (4, .int a4)]) d_M_writeBlock_61 rfl ?_
    exact rz_pick (ks := [0, 1, 2, 3, 4, 6]) (l := [(0, .ref 116), (1, .int a1), (2, .int a2), (3, .ref a3), (4, .int a4), (6, .int 0)]) rfl rfl (by decide) rfl (q1.1 b2)
  · skip
    refine rz_pure (pc' := 52) d_M_writeBlock_51 rfl ?_
    refine rz_pure (pc' := 54) d_M_writeBlock_52 rfl ?_
    refine rz_pure (pc' := 55) d_M_writeBlock_54 rfl ?_
    refine rz_pure (pc' := 56) d_M_writeBlock_55 rfl ?_
    refine rz_callVi (t := [.int a2, .int a1, .int xq1]) d_M_writeBlock_56 w_12_113 rfl rfl rfl (q1.2 b2) (fun xq3 Sq3 q3 => ?_)
    exact rz_ireti d_M_writeBlock_59 rfl rfl q3
theorem p_M_writeBlock_63 {S : rz_S} {K : Int32 → rz_S → Prop} {a1 : Int32} {a2 : Int32} {a3 na3 : Nat} (ha3 : rz_T[a3]? = some (.inl (0, na3))) {a4 : Int32} {a6 : Int32} (w : ((9 ≤ a6 → rz mM_writeBlock 92 [(0, .ref 116), (1, .int a1), (2, .int a2), (3, .ref a3), (4, .int a4), (6, .int 0)] [] (rz_uI S 116 20 (S.2 116 8)) (rz_i K)) ∧ (¬ 9 ≤ a6 → rz_ev mM_comes [.ref 116] S (rz_i (fun xq2 Sq2 => rz mM_writeBlock 63 [(0, .ref 116), (1, .int a1), (2, .int a2), (3, .ref a3), (4, .int a4), (6, .int (a6 + 1))] [] Sq2 (rz_i K)))))) : rz mM_writeBlock 63 [(0, .ref 116), (1, .int a1), (2, .int a2), (3, .ref a3), (4, .int a4), (6, .int a6)] [] S (rz_i K) := by
  refine rz_pure (pc' := 65) d_M_writeBlock_63 rfl ?_
  refine rz_bipush (v := 9) d_M_writeBlock_65 (by decide) ?_
  refine rz_icmpge (tgt := 81) d_M_writeBlock_67 rfl (fun b1 => ?_) (fun b1 => ?_)
  · skip
    refine rz_pure (pc' := 82) d_M_writeBlock_81 rfl ?_
    refine rz_pure (pc' := 83) d_M_writeBlock_82 rfl ?_
    refine rz_getiv (v := S.2 116 8) d_M_writeBlock_83 f_12_27 rfl rfl rfl ?_
    refine rz_puti d_M_writeBlock_86 f_12_125 rfl rfl rfl ?_
    refine rz_iconst (v := 0) d_M_writeBlock_89 (by decide) ?_
    refine rz_pure (pc' := 92) (l' := [(6, .int 0), (0, .ref 116), (1, .int a1), (2, .int a2), (3, .ref a3), (4, .int a4)]) d_M_writeBlock_90 rfl ?_
    exact rz_pick (ks := [0, 1, 2, 3, 4, 6]) (l := [(0, .ref 116), (1, .int a1), (2, .int a2), (3, .ref a3), (4, .int a4), (6, .int 0)]) rfl rfl (by decide) rfl (w.1 b1)
  · skip
    refine rz_pure (pc' := 71) d_M_writeBlock_70 rfl ?_
    refine rz_callVi (t := []) d_M_writeBlock_71 w_12_100 rfl rfl rfl (w.2 b1) (fun xq2 Sq2 q2 => ?_)
    refine rz_pure (pc' := 75) d_M_writeBlock_74 rfl ?_
    refine rz_pure (pc' := 78) (l' := [(6, .int (a6 + 1)), (0, .ref 116), (1, .int a1), (2, .int a2), (3, .ref a3), (4, .int a4)]) d_M_writeBlock_75 rfl ?_
    refine rz_pure (pc' := 63) d_M_writeBlock_78 rfl ?_
    exact rz_pick (ks := [0, 1, 2, 3, 4, 6]) (l := [(0, .ref 116), (1, .int a1), (2, .int a2), (3, .ref a3), (4, .int a4), (6, .int (a6 + 1))]) rfl rfl (by decide) rfl q2
theorem p_M_writeBlock_92 {S : rz_S} {K : Int32 → rz_S → Prop} {a1 : Int32} {a2 : Int32} {a3 na3 : Nat} (ha3 : rz_T[a3]? = some (.inl (0, na3))) {a4 : Int32} {a6 : Int32} (w : ((5 ≤ a6 → rz_ev mM_data [.ref 116, .ref a3, .int a4] S (rz_v (fun Sq2 => rz mM_writeBlock 122 [(0, .ref 116), (1, .int a1), (2, .int a2), (3, .ref a3), (4, .int a4), (6, .int 0)] [] Sq2 (rz_i K)))) ∧ (¬ 5 ≤ a6 → rz_ev mM_lays [.ref 116, .int a1, .int 255] S (rz_v (fun Sq3 => rz mM_writeBlock 92 [(0, .ref 116), (1, .int a1), (2, .int a2), (3, .ref a3), (4, .int a4), (6, .int (a6 + 1))] [] Sq3 (rz_i K)))))) : rz mM_writeBlock 92 [(0, .ref 116), (1, .int a1), (2, .int a2), (3, .ref a3), (4, .int a4), (6, .int a6)] [] S (rz_i K) := by
  refine rz_pure (pc' := 94) d_M_writeBlock_92 rfl ?_
  refine rz_iconst (v := 5) d_M_writeBlock_94 (by decide) ?_
  refine rz_icmpge (tgt := 112) d_M_writeBlock_95 rfl (fun b1 => ?_) (fun b1 => ?_)
  · skip
    refine rz_pure (pc' := 113) d_M_writeBlock_112 rfl ?_
    refine rz_pure (pc' := 114) d_M_writeBlock_113 rfl ?_
    refine rz_pure (pc' := 116) d_M_writeBlock_114 rfl ?_
    refine rz_callVv (t := [.int a4, .ref a3]) d_M_writeBlock_116 w_12_138 rfl rfl rfl (w.1 b1) (fun Sq2 q2 => ?_)
    refine rz_iconst (v := 0) d_M_writeBlock_119 (by decide) ?_
    refine rz_pure (pc' := 122) (l' := [(6, .int 0), (0, .ref 116), (1, .int a1), (2, .int a2), (3, .ref a3), (4, .int a4)]) d_M_writeBlock_120 rfl ?_
    exact rz_pick (ks := [0, 1, 2, 3, 4, 6]) (l := [(0, .ref 116), (1, .int a1), (2, .int a2), (3, .ref a3), (4, .int a4), (6, .int 0)]) rfl rfl (by decide) rfl q2
  · skip
    refine rz_pure (pc' := 99) d_M_writeBlock_98 rfl ?_
    refine rz_pure (pc' := 100) d_M_writeBlock_99 rfl ?_
    refine rz_sipush (v := 255) d_M_writeBlock_100 (by decide) ?_
    refine rz_callVv (t := [.int 255, .int a1]) d_M_writeBlock_103 w_12_134 rfl rfl rfl (w.2 b1) (fun Sq3 q3 => ?_)
    refine rz_pure (pc' := 109) (l' := [(6, .int (a6 + 1)), (0, .ref 116), (1, .int a1), (2, .int a2), (3, .ref a3), (4, .int a4)]) d_M_writeBlock_106 rfl ?_
    refine rz_pure (pc' := 92) d_M_writeBlock_109 rfl ?_
    exact rz_pick (ks := [0, 1, 2, 3, 4, 6]) (l := [(0, .ref 116), (1, .int a1), (2, .int a2), (3, .ref a3), (4, .int a4), (6, .int (a6 + 1))]) rfl rfl (by decide) rfl q3
theorem p_M_writeBlock_122 {S : rz_S} {K : Int32 → rz_S → Prop} {a1 : Int32} {a2 : Int32} {a3 na3 : Nat} (ha3 : rz_T[a3]? = some (.inl (0, na3))) {a4 : Int32} {a6 : Int32} (w : ((85 ≤ a6 → rz_ev mM_seek [.ref 116, .int a1, .int a2] S (rz_i (fun xq2 Sq2 => ((xq2 = 0 → rz_ev mM_gets [.ref 116] Sq2 (rz_v (fun Sq4 => rz_ev mM_data [.ref 116, .ref a3, .int a4] Sq4 (rz_v (fun Sq5 => rz mM_writeBlock 182 [(0, .ref 116), (1, .int a1), (2, .int a2), (6, .int 1), (7, .int 0)] [] Sq5 (rz_i K)))))) ∧ (¬ xq2 = 0 → rz_ev mM_fault [.ref 116, .int 25, .int a1, .int a2] Sq2 (rz_i (fun xq6 Sq6 => K xq6 Sq6))))))) ∧ (¬ 85 ≤ a6 → rx_in a6 85 = true ∧ rz_ev mM_lays [.ref 116, .int a1, .int (S.1 120 a6.toNatClampNeg)] S (rz_v (fun Sq7 => rz mM_writeBlock 122 [(0, .ref 116), (1, .int a1), (2, .int a2), (3, .ref a3), (4, .int a4), (6, .int (a6 + 1))] [] Sq7 (rz_i K)))))) : rz mM_writeBlock 122 [(0, .ref 116), (1, .int a1), (2, .int a2), (3, .ref a3), (4, .int a4), (6, .int a6)] [] S (rz_i K) := by
  refine rz_pure (pc' := 124) d_M_writeBlock_122 rfl ?_
  refine rz_bipush (v := 85) d_M_writeBlock_124 (by decide) ?_
  refine rz_icmpge (tgt := 147) d_M_writeBlock_126 rfl (fun b1 => ?_) (fun b1 => ?_)
  · skip
    refine rz_pure (pc' := 148) d_M_writeBlock_147 rfl ?_
    refine rz_pure (pc' := 149) d_M_writeBlock_148 rfl ?_
    refine rz_pure (pc' := 150) d_M_writeBlock_149 rfl ?_
    refine rz_callVi (t := [.int a2, .int a1]) d_M_writeBlock_150 w_12_110 rfl rfl rfl (w.1 b1) (fun xq2 Sq2 q2 => ?_)
    refine rz_ifeq (tgt := 165) d_M_writeBlock_153 rfl (fun b3 => ?_) (fun b3 => ?_)
    · skip
      refine rz_pure (pc' := 166) d_M_writeBlock_165 rfl ?_
      refine rz_callVv (t := []) d_M_writeBlock_166 w_12_117 rfl rfl rfl (q2.1 b3) (fun Sq4 q4 => ?_)
      refine rz_pure (pc' := 170) d_M_writeBlock_169 rfl ?_
      refine rz_pure (pc' := 171) d_M_writeBlock_170 rfl ?_
      refine rz_pure (pc' := 173) d_M_writeBlock_171 rfl ?_
      refine rz_callVv (t := [.int a4, .ref a3]) d_M_writeBlock_173 w_12_138 rfl rfl rfl q4 (fun Sq5 q5 => ?_)
      refine rz_iconst (v := 1) d_M_writeBlock_176 (by decide) ?_
      refine rz_pure (pc' := 179) (l' := [(6, .int 1), (0, .ref 116), (1, .int a1), (2, .int a2), (3, .ref a3), (4, .int a4)]) d_M_writeBlock_177 rfl ?_
      refine rz_iconst (v := 0) d_M_writeBlock_179 (by decide) ?_
      refine rz_pure (pc' := 182) (l' := [(7, .int 0), (6, .int 1), (0, .ref 116), (1, .int a1), (2, .int a2), (3, .ref a3), (4, .int a4)]) d_M_writeBlock_180 rfl ?_
      exact rz_pick (ks := [0, 1, 2, 6, 7]) (l := [(0, .ref 116), (1, .int a1), (2, .int a2), (6, .int 1), (7, .int 0)]) rfl rfl (by decide) rfl q5
    · skip
      refine rz_pure (pc' := 157) d_M_writeBlock_156 rfl ?_
      refine rz_bipush (v := 25) d_M_writeBlock_157 (by decide) ?_
      refine rz_pure (pc' := 160) d_M_writeBlock_159 rfl ?_
      refine rz_pure (pc' := 161) d_M_writeBlock_160 rfl ?_
      refine rz_callVi (t := [.int a2, .int a1, .int 25]) d_M_writeBlock_161 w_12_113 rfl rfl rfl (q2.2 b3) (fun xq6 Sq6 q6 => ?_)
      exact rz_ireti d_M_writeBlock_164 rfl rfl q6
  · skip
    refine rz_pure (pc' := 130) d_M_writeBlock_129 rfl ?_
    refine rz_pure (pc' := 131) d_M_writeBlock_130 rfl ?_
    refine rz_pure (pc' := 132) d_M_writeBlock_131 rfl ?_
    refine rz_getr d_M_writeBlock_132 f_12_74 rfl rfl ?_
    refine rz_pure (pc' := 137) d_M_writeBlock_135 rfl ?_
    refine rz_ialdv (F := S.1 120) (i := a6.toNatClampNeg) d_M_writeBlock_137 rfl (w.2 b1).1 rfl rfl ?_
    refine rz_callVv (t := [.int (S.1 120 a6.toNatClampNeg), .int a1]) d_M_writeBlock_138 w_12_134 rfl rfl rfl (w.2 b1).2 (fun Sq7 q7 => ?_)
    refine rz_pure (pc' := 144) (l' := [(6, .int (a6 + 1)), (0, .ref 116), (1, .int a1), (2, .int a2), (3, .ref a3), (4, .int a4)]) d_M_writeBlock_141 rfl ?_
    refine rz_pure (pc' := 122) d_M_writeBlock_144 rfl ?_
    exact rz_pick (ks := [0, 1, 2, 3, 4, 6]) (l := [(0, .ref 116), (1, .int a1), (2, .int a2), (3, .ref a3), (4, .int a4), (6, .int (a6 + 1))]) rfl rfl (by decide) rfl q7
theorem p_M_writeBlock_182 {S : rz_S} {K : Int32 → rz_S → Prop} {a1 : Int32} {a2 : Int32} {a6 : Int32} {a7 : Int32} (w : ((85 ≤ a7 → ((a6 = 0 → rz_ev mM_fault [.ref 116, .int 25, .int a1, .int a2] S (rz_i (fun xq3 Sq3 => K xq3 Sq3))) ∧ (¬ a6 = 0 → K 0 S))) ∧ (¬ 85 ≤ a7 → ((a6 = 0 → rz mM_writeBlock 182 [(0, .ref 116), (1, .int a1), (2, .int a2), (6, .int 0), (7, .int (a7 + 1))] [] S (rz_i K)) ∧ (¬ a6 = 0 → rx_in a7 85 = true ∧ ((S.1 121 a7.toNatClampNeg = S.1 120 a7.toNatClampNeg → rz mM_writeBlock 182 [(0, .ref 116), (1, .int a1), (2, .int a2), (6, .int 1), (7, .int (a7 + 1))] [] S (rz_i K)) ∧ (¬ S.1 121 a7.toNatClampNeg = S.1 120 a7.toNatClampNeg → rz mM_writeBlock 182 [(0, .ref 116), (1, .int a1), (2, .int a2), (6, .int 0), (7, .int (a7 + 1))] [] S (rz_i K)))))))) : rz mM_writeBlock 182 [(0, .ref 116), (1, .int a1), (2, .int a2), (6, .int a6), (7, .int a7)] [] S (rz_i K) := by
  refine rz_pure (pc' := 184) d_M_writeBlock_182 rfl ?_
  refine rz_bipush (v := 85) d_M_writeBlock_184 (by decide) ?_
  refine rz_icmpge (tgt := 224) d_M_writeBlock_186 rfl (fun b1 => ?_) (fun b1 => ?_)
  · skip
    refine rz_pure (pc' := 226) d_M_writeBlock_224 rfl ?_
    refine rz_ifeq (tgt := 233) d_M_writeBlock_226 rfl (fun b2 => ?_) (fun b2 => ?_)
    · skip
      refine rz_pure (pc' := 234) d_M_writeBlock_233 rfl ?_
      refine rz_bipush (v := 25) d_M_writeBlock_234 (by decide) ?_
      refine rz_pure (pc' := 237) d_M_writeBlock_236 rfl ?_
      refine rz_pure (pc' := 238) d_M_writeBlock_237 rfl ?_
      refine rz_callVi (t := [.int a2, .int a1, .int 25]) d_M_writeBlock_238 w_12_113 rfl rfl rfl ((w.1 b1).1 b2) (fun xq3 Sq3 q3 => ?_)
      exact rz_ireti d_M_writeBlock_241 rfl rfl q3
    · skip
      refine rz_iconst (v := 0) d_M_writeBlock_229 (by decide) ?_
      refine rz_pure (pc' := 241) d_M_writeBlock_230 rfl ?_
      exact rz_ireti d_M_writeBlock_241 rfl rfl ((w.1 b1).2 b2)
  · skip
    refine rz_pure (pc' := 191) d_M_writeBlock_189 rfl ?_
    refine rz_ifeq (tgt := 215) d_M_writeBlock_191 rfl (fun b4 => ?_) (fun b4 => ?_)
    · skip
      refine rz_iconst (v := 0) d_M_writeBlock_215 (by decide) ?_
      refine rz_pure (pc' := 218) (l' := [(6, .int 0), (0, .ref 116), (1, .int a1), (2, .int a2), (7, .int a7)]) d_M_writeBlock_216 rfl ?_
      refine rz_pure (pc' := 221) (l' := [(7, .int (a7 + 1)), (6, .int 0), (0, .ref 116), (1, .int a1), (2, .int a2)]) d_M_writeBlock_218 rfl ?_
      refine rz_pure (pc' := 182) d_M_writeBlock_221 rfl ?_
      exact rz_pick (ks := [0, 1, 2, 6, 7]) (l := [(0, .ref 116), (1, .int a1), (2, .int a2), (6, .int 0), (7, .int (a7 + 1))]) rfl rfl (by decide) rfl ((w.2 b1).1 b4)
    · skip
      refine rz_pure (pc' := 195) d_M_writeBlock_194 rfl ?_
      refine rz_getr d_M_writeBlock_195 f_12_104 rfl rfl ?_
      refine rz_pure (pc' := 200) d_M_writeBlock_198 rfl ?_
      refine rz_ialdv (F := S.1 121) (i := a7.toNatClampNeg) d_M_writeBlock_200 rfl ((w.2 b1).2 b4).1 rfl rfl ?_
      refine rz_pure (pc' := 202) d_M_writeBlock_201 rfl ?_
      refine rz_getr d_M_writeBlock_202 f_12_74 rfl rfl ?_
      refine rz_pure (pc' := 207) d_M_writeBlock_205 rfl ?_
      refine rz_ialdv (F := S.1 120) (i := a7.toNatClampNeg) d_M_writeBlock_207 rfl ((w.2 b1).2 b4).1 rfl rfl ?_
      refine rz_icmpne (tgt := 215) d_M_writeBlock_208 rfl (fun b5 => ?_) (fun b5 => ?_)
      · skip
        refine rz_iconst (v := 0) d_M_writeBlock_215 (by decide) ?_
        refine rz_pure (pc' := 218) (l' := [(6, .int 0), (0, .ref 116), (1, .int a1), (2, .int a2), (7, .int a7)]) d_M_writeBlock_216 rfl ?_
        refine rz_pure (pc' := 221) (l' := [(7, .int (a7 + 1)), (6, .int 0), (0, .ref 116), (1, .int a1), (2, .int a2)]) d_M_writeBlock_218 rfl ?_
        refine rz_pure (pc' := 182) d_M_writeBlock_221 rfl ?_
        exact rz_pick (ks := [0, 1, 2, 6, 7]) (l := [(0, .ref 116), (1, .int a1), (2, .int a2), (6, .int 0), (7, .int (a7 + 1))]) rfl rfl (by decide) rfl (((w.2 b1).2 b4).2.2 b5)
      · skip
        refine rz_iconst (v := 1) d_M_writeBlock_211 (by decide) ?_
        refine rz_pure (pc' := 216) d_M_writeBlock_212 rfl ?_
        refine rz_pure (pc' := 218) (l' := [(6, .int 1), (0, .ref 116), (1, .int a1), (2, .int a2), (7, .int a7)]) d_M_writeBlock_216 rfl ?_
        refine rz_pure (pc' := 221) (l' := [(7, .int (a7 + 1)), (6, .int 1), (0, .ref 116), (1, .int a1), (2, .int a2)]) d_M_writeBlock_218 rfl ?_
        refine rz_pure (pc' := 182) d_M_writeBlock_221 rfl ?_
        exact rz_pick (ks := [0, 1, 2, 6, 7]) (l := [(0, .ref 116), (1, .int a1), (2, .int a2), (6, .int 1), (7, .int (a7 + 1))]) rfl rfl (by decide) rfl (((w.2 b1).2 b4).2.1 b5)
theorem d_M_format_0 : decode (rm_code mM_format) 0 = .ok (.aload_n 0, 1) := by decide +kernel
theorem d_M_format_1 : decode (rm_code mM_format) 1 = .ok (.getfield 131, 3) := by decide +kernel
theorem d_M_format_4 : decode (rm_code mM_format) 4 = .ok (.ifCond .eq (12), 3) := by decide +kernel
theorem d_M_format_7 : decode (rm_code mM_format) 7 = .ok (.aload_n 0, 1) := by decide +kernel
theorem d_M_format_8 : decode (rm_code mM_format) 8 = .ok (.bipush (26), 2) := by decide +kernel
theorem d_M_format_10 : decode (rm_code mM_format) 10 = .ok (.iload_n 1, 1) := by decide +kernel
theorem d_M_format_11 : decode (rm_code mM_format) 11 = .ok (.iconst 0, 1) := by decide +kernel
theorem d_M_format_12 : decode (rm_code mM_format) 12 = .ok (.invokevirtual 113, 3) := by decide +kernel
theorem d_M_format_15 : decode (rm_code mM_format) 15 = .ok (.ireturn, 1) := by decide +kernel
theorem d_M_format_16 : decode (rm_code mM_format) 16 = .ok (.aload_n 0, 1) := by decide +kernel
theorem d_M_format_17 : decode (rm_code mM_format) 17 = .ok (.iconst 0, 1) := by decide +kernel
theorem d_M_format_18 : decode (rm_code mM_format) 18 = .ok (.putfield 125, 3) := by decide +kernel
theorem d_M_format_21 : decode (rm_code mM_format) 21 = .ok (.iconst 0, 1) := by decide +kernel
theorem d_M_format_22 : decode (rm_code mM_format) 22 = .ok (.istore 4, 2) := by decide +kernel
theorem d_M_format_24 : decode (rm_code mM_format) 24 = .ok (.iload 4, 2) := by decide +kernel
theorem d_M_format_26 : decode (rm_code mM_format) 26 = .ok (.iload_n 1, 1) := by decide +kernel
theorem d_M_format_27 : decode (rm_code mM_format) 27 = .ok (.invokestatic 1, 3) := by decide +kernel
theorem d_M_format_30 : decode (rm_code mM_format) 30 = .ok (.if_icmp .ge (175), 3) := by decide +kernel
theorem d_M_format_33 : decode (rm_code mM_format) 33 = .ok (.iconst 0, 1) := by decide +kernel
theorem d_M_format_34 : decode (rm_code mM_format) 34 = .ok (.istore 5, 2) := by decide +kernel
theorem d_M_format_36 : decode (rm_code mM_format) 36 = .ok (.iload 5, 2) := by decide +kernel
theorem d_M_format_38 : decode (rm_code mM_format) 38 = .ok (.iconst 5, 1) := by decide +kernel
theorem d_M_format_39 : decode (rm_code mM_format) 39 = .ok (.if_icmp .ge (17), 3) := by decide +kernel
theorem d_M_format_42 : decode (rm_code mM_format) 42 = .ok (.aload_n 0, 1) := by decide +kernel
theorem d_M_format_43 : decode (rm_code mM_format) 43 = .ok (.iload_n 1, 1) := by decide +kernel
theorem d_M_format_44 : decode (rm_code mM_format) 44 = .ok (.sipush (255), 3) := by decide +kernel
theorem d_M_format_47 : decode (rm_code mM_format) 47 = .ok (.invokevirtual 134, 3) := by decide +kernel
theorem d_M_format_50 : decode (rm_code mM_format) 50 = .ok (.iinc 5 (1), 3) := by decide +kernel
theorem d_M_format_53 : decode (rm_code mM_format) 53 = .ok (.goto (-17), 3) := by decide +kernel
theorem d_M_format_56 : decode (rm_code mM_format) 56 = .ok (.aload_n 0, 1) := by decide +kernel
theorem d_M_format_57 : decode (rm_code mM_format) 57 = .ok (.iload_n 1, 1) := by decide +kernel
theorem d_M_format_58 : decode (rm_code mM_format) 58 = .ok (.iload 4, 2) := by decide +kernel
theorem d_M_format_60 : decode (rm_code mM_format) 60 = .ok (.iload_n 2, 1) := by decide +kernel
theorem d_M_format_61 : decode (rm_code mM_format) 61 = .ok (.iload_n 3, 1) := by decide +kernel
theorem d_M_format_62 : decode (rm_code mM_format) 62 = .ok (.invokevirtual 96, 3) := by decide +kernel
theorem d_M_format_65 : decode (rm_code mM_format) 65 = .ok (.iconst 0, 1) := by decide +kernel
theorem d_M_format_66 : decode (rm_code mM_format) 66 = .ok (.istore 5, 2) := by decide +kernel
theorem d_M_format_68 : decode (rm_code mM_format) 68 = .ok (.iload 5, 2) := by decide +kernel
theorem d_M_format_70 : decode (rm_code mM_format) 70 = .ok (.bipush (10), 2) := by decide +kernel
theorem d_M_format_72 : decode (rm_code mM_format) 72 = .ok (.if_icmp .ge (21), 3) := by decide +kernel
theorem d_M_format_75 : decode (rm_code mM_format) 75 = .ok (.aload_n 0, 1) := by decide +kernel
theorem d_M_format_76 : decode (rm_code mM_format) 76 = .ok (.iload_n 1, 1) := by decide +kernel
theorem d_M_format_77 : decode (rm_code mM_format) 77 = .ok (.aload_n 0, 1) := by decide +kernel
theorem d_M_format_78 : decode (rm_code mM_format) 78 = .ok (.getfield 74, 3) := by decide +kernel
theorem d_M_format_81 : decode (rm_code mM_format) 81 = .ok (.iload 5, 2) := by decide +kernel
theorem d_M_format_83 : decode (rm_code mM_format) 83 = .ok (.iaload, 1) := by decide +kernel
theorem d_M_format_84 : decode (rm_code mM_format) 84 = .ok (.invokevirtual 134, 3) := by decide +kernel
theorem d_M_format_87 : decode (rm_code mM_format) 87 = .ok (.iinc 5 (1), 3) := by decide +kernel
theorem d_M_format_90 : decode (rm_code mM_format) 90 = .ok (.goto (-22), 3) := by decide +kernel
theorem d_M_format_93 : decode (rm_code mM_format) 93 = .ok (.iconst 0, 1) := by decide +kernel
theorem d_M_format_94 : decode (rm_code mM_format) 94 = .ok (.istore 5, 2) := by decide +kernel
theorem d_M_format_96 : decode (rm_code mM_format) 96 = .ok (.iload 5, 2) := by decide +kernel
theorem d_M_format_98 : decode (rm_code mM_format) 98 = .ok (.bipush (9), 2) := by decide +kernel
theorem d_M_format_100 : decode (rm_code mM_format) 100 = .ok (.if_icmp .ge (16), 3) := by decide +kernel
theorem d_M_format_103 : decode (rm_code mM_format) 103 = .ok (.aload_n 0, 1) := by decide +kernel
theorem d_M_format_104 : decode (rm_code mM_format) 104 = .ok (.iload_n 1, 1) := by decide +kernel
theorem d_M_format_105 : decode (rm_code mM_format) 105 = .ok (.bipush (85), 2) := by decide +kernel
theorem d_M_format_107 : decode (rm_code mM_format) 107 = .ok (.invokevirtual 134, 3) := by decide +kernel
theorem d_M_format_110 : decode (rm_code mM_format) 110 = .ok (.iinc 5 (1), 3) := by decide +kernel
theorem d_M_format_113 : decode (rm_code mM_format) 113 = .ok (.goto (-17), 3) := by decide +kernel
theorem d_M_format_116 : decode (rm_code mM_format) 116 = .ok (.iconst 0, 1) := by decide +kernel
theorem d_M_format_117 : decode (rm_code mM_format) 117 = .ok (.istore 5, 2) := by decide +kernel
theorem d_M_format_119 : decode (rm_code mM_format) 119 = .ok (.iload 5, 2) := by decide +kernel
theorem d_M_format_121 : decode (rm_code mM_format) 121 = .ok (.iconst 5, 1) := by decide +kernel
theorem d_M_format_122 : decode (rm_code mM_format) 122 = .ok (.if_icmp .ge (17), 3) := by decide +kernel
theorem d_M_format_125 : decode (rm_code mM_format) 125 = .ok (.aload_n 0, 1) := by decide +kernel
theorem d_M_format_126 : decode (rm_code mM_format) 126 = .ok (.iload_n 1, 1) := by decide +kernel
theorem d_M_format_127 : decode (rm_code mM_format) 127 = .ok (.sipush (255), 3) := by decide +kernel
theorem d_M_format_130 : decode (rm_code mM_format) 130 = .ok (.invokevirtual 134, 3) := by decide +kernel
theorem d_M_format_133 : decode (rm_code mM_format) 133 = .ok (.iinc 5 (1), 3) := by decide +kernel
theorem d_M_format_136 : decode (rm_code mM_format) 136 = .ok (.goto (-17), 3) := by decide +kernel
theorem d_M_format_139 : decode (rm_code mM_format) 139 = .ok (.aload_n 0, 1) := by decide +kernel
theorem d_M_format_140 : decode (rm_code mM_format) 140 = .ok (.aload_n 0, 1) := by decide +kernel
theorem d_M_format_141 : decode (rm_code mM_format) 141 = .ok (.getfield 142, 3) := by decide +kernel
theorem d_M_format_144 : decode (rm_code mM_format) 144 = .ok (.iconst 0, 1) := by decide +kernel
theorem d_M_format_145 : decode (rm_code mM_format) 145 = .ok (.invokevirtual 138, 3) := by decide +kernel
theorem d_M_format_148 : decode (rm_code mM_format) 148 = .ok (.iconst 0, 1) := by decide +kernel
theorem d_M_format_149 : decode (rm_code mM_format) 149 = .ok (.istore 5, 2) := by decide +kernel
theorem d_M_format_151 : decode (rm_code mM_format) 151 = .ok (.iload 5, 2) := by decide +kernel
theorem d_M_format_153 : decode (rm_code mM_format) 153 = .ok (.bipush (85), 2) := by decide +kernel
theorem d_M_format_155 : decode (rm_code mM_format) 155 = .ok (.if_icmp .ge (21), 3) := by decide +kernel
theorem d_M_format_158 : decode (rm_code mM_format) 158 = .ok (.aload_n 0, 1) := by decide +kernel
theorem d_M_format_159 : decode (rm_code mM_format) 159 = .ok (.iload_n 1, 1) := by decide +kernel
theorem d_M_format_160 : decode (rm_code mM_format) 160 = .ok (.aload_n 0, 1) := by decide +kernel
theorem d_M_format_161 : decode (rm_code mM_format) 161 = .ok (.getfield 74, 3) := by decide +kernel
theorem d_M_format_164 : decode (rm_code mM_format) 164 = .ok (.iload 5, 2) := by decide +kernel
theorem d_M_format_166 : decode (rm_code mM_format) 166 = .ok (.iaload, 1) := by decide +kernel
theorem d_M_format_167 : decode (rm_code mM_format) 167 = .ok (.invokevirtual 134, 3) := by decide +kernel
theorem d_M_format_170 : decode (rm_code mM_format) 170 = .ok (.iinc 5 (1), 3) := by decide +kernel
theorem d_M_format_173 : decode (rm_code mM_format) 173 = .ok (.goto (-22), 3) := by decide +kernel
theorem d_M_format_176 : decode (rm_code mM_format) 176 = .ok (.iconst 0, 1) := by decide +kernel
theorem d_M_format_177 : decode (rm_code mM_format) 177 = .ok (.istore 5, 2) := by decide +kernel
theorem d_M_format_179 : decode (rm_code mM_format) 179 = .ok (.iload 5, 2) := by decide +kernel
theorem d_M_format_181 : decode (rm_code mM_format) 181 = .ok (.bipush (8), 2) := by decide +kernel
theorem d_M_format_183 : decode (rm_code mM_format) 183 = .ok (.if_icmp .ge (16), 3) := by decide +kernel
theorem d_M_format_186 : decode (rm_code mM_format) 186 = .ok (.aload_n 0, 1) := by decide +kernel
theorem d_M_format_187 : decode (rm_code mM_format) 187 = .ok (.iload_n 1, 1) := by decide +kernel
theorem d_M_format_188 : decode (rm_code mM_format) 188 = .ok (.bipush (85), 2) := by decide +kernel
theorem d_M_format_190 : decode (rm_code mM_format) 190 = .ok (.invokevirtual 134, 3) := by decide +kernel
theorem d_M_format_193 : decode (rm_code mM_format) 193 = .ok (.iinc 5 (1), 3) := by decide +kernel
theorem d_M_format_196 : decode (rm_code mM_format) 196 = .ok (.goto (-17), 3) := by decide +kernel
theorem d_M_format_199 : decode (rm_code mM_format) 199 = .ok (.iinc 4 (1), 3) := by decide +kernel
theorem d_M_format_202 : decode (rm_code mM_format) 202 = .ok (.goto (-178), 3) := by decide +kernel
theorem d_M_format_205 : decode (rm_code mM_format) 205 = .ok (.aload_n 0, 1) := by decide +kernel
theorem d_M_format_206 : decode (rm_code mM_format) 206 = .ok (.getfield 125, 3) := by decide +kernel
theorem d_M_format_209 : decode (rm_code mM_format) 209 = .ok (.ifCond .eq (13), 3) := by decide +kernel
theorem d_M_format_212 : decode (rm_code mM_format) 212 = .ok (.aload_n 0, 1) := by decide +kernel
theorem d_M_format_213 : decode (rm_code mM_format) 213 = .ok (.iload_n 1, 1) := by decide +kernel
theorem d_M_format_214 : decode (rm_code mM_format) 214 = .ok (.bipush (85), 2) := by decide +kernel
theorem d_M_format_216 : decode (rm_code mM_format) 216 = .ok (.invokevirtual 134, 3) := by decide +kernel
theorem d_M_format_219 : decode (rm_code mM_format) 219 = .ok (.goto (-14), 3) := by decide +kernel
theorem d_M_format_222 : decode (rm_code mM_format) 222 = .ok (.iconst 0, 1) := by decide +kernel
theorem d_M_format_223 : decode (rm_code mM_format) 223 = .ok (.ireturn, 1) := by decide +kernel
theorem p_M_format_0 {S : rz_S} {K : Int32 → rz_S → Prop} {a1 : Int32} {a2 : Int32} {a3 : Int32} (w : ((S.2 116 1 = 0 → rz mM_format 24 [(0, .ref 116), (1, .int a1), (2, .int a2), (3, .int a3), (4, .int 0)] [] (rz_uI S 116 20 0) (rz_i K)) ∧ (¬ S.2 116 1 = 0 → rz_ev mM_fault [.ref 116, .int 26, .int a1, .int 0] S (rz_i (fun xq2 Sq2 => K xq2 Sq2))))) : rz mM_format 0 [(0, .ref 116), (1, .int a1), (2, .int a2), (3, .int a3)] [] S (rz_i K) := by
  refine rz_pure (pc' := 1) d_M_format_0 rfl ?_
  refine rz_getiv (v := S.2 116 1) d_M_format_1 f_12_131 rfl rfl rfl ?_
  refine rz_ifeq (tgt := 16) d_M_format_4 rfl (fun b1 => ?_) (fun b1 => ?_)
  · skip
    refine rz_pure (pc' := 17) d_M_format_16 rfl ?_
    refine rz_iconst (v := 0) d_M_format_17 (by decide) ?_
    refine rz_puti d_M_format_18 f_12_125 rfl rfl rfl ?_
    refine rz_iconst (v := 0) d_M_format_21 (by decide) ?_
    refine rz_pure (pc' := 24) (l' := [(4, .int 0), (0, .ref 116), (1, .int a1), (2, .int a2), (3, .int a3)]) d_M_format_22 rfl ?_
    exact rz_pick (ks := [0, 1, 2, 3, 4]) (l := [(0, .ref 116), (1, .int a1), (2, .int a2), (3, .int a3), (4, .int 0)]) rfl rfl (by decide) rfl (w.1 b1)
  · skip
    refine rz_pure (pc' := 8) d_M_format_7 rfl ?_
    refine rz_bipush (v := 26) d_M_format_8 (by decide) ?_
    refine rz_pure (pc' := 11) d_M_format_10 rfl ?_
    refine rz_iconst (v := 0) d_M_format_11 (by decide) ?_
    refine rz_callVi (t := [.int 0, .int a1, .int 26]) d_M_format_12 w_12_113 rfl rfl rfl (w.2 b1) (fun xq2 Sq2 q2 => ?_)
    exact rz_ireti d_M_format_15 rfl rfl q2
theorem p_M_format_24 {S : rz_S} {K : Int32 → rz_S → Prop} {a1 : Int32} {a2 : Int32} {a3 : Int32} {a4 : Int32} (w : rz_ev mM_sectorsOf [.int a1] S (rz_i (fun xq1 Sq1 => ((xq1 ≤ a4 → rz mM_format 205 [(0, .ref 116), (1, .int a1)] [] Sq1 (rz_i K)) ∧ (¬ xq1 ≤ a4 → rz mM_format 36 [(0, .ref 116), (1, .int a1), (2, .int a2), (3, .int a3), (4, .int a4), (5, .int 0)] [] Sq1 (rz_i K)))))) : rz mM_format 24 [(0, .ref 116), (1, .int a1), (2, .int a2), (3, .int a3), (4, .int a4)] [] S (rz_i K) := by
  refine rz_pure (pc' := 26) d_M_format_24 rfl ?_
  refine rz_pure (pc' := 27) d_M_format_26 rfl ?_
  refine rz_callSi (t := [.int a1]) d_M_format_27 rfl w_12_1 rfl rfl w (fun xq1 Sq1 q1 => ?_)
  refine rz_icmpge (tgt := 205) d_M_format_30 rfl (fun b2 => ?_) (fun b2 => ?_)
  · skip
    exact rz_pick (ks := [0, 1]) (l := [(0, .ref 116), (1, .int a1)]) rfl rfl (by decide) rfl (q1.1 b2)
  · skip
    refine rz_iconst (v := 0) d_M_format_33 (by decide) ?_
    refine rz_pure (pc' := 36) (l' := [(5, .int 0), (0, .ref 116), (1, .int a1), (2, .int a2), (3, .int a3), (4, .int a4)]) d_M_format_34 rfl ?_
    exact rz_pick (ks := [0, 1, 2, 3, 4, 5]) (l := [(0, .ref 116), (1, .int a1), (2, .int a2), (3, .int a3), (4, .int a4), (5, .int 0)]) rfl rfl (by decide) rfl (q1.2 b2)
theorem p_M_format_205 {S : rz_S} {K : Int32 → rz_S → Prop} {a1 : Int32} (w : ((S.2 116 20 = 0 → K 0 S) ∧ (¬ S.2 116 20 = 0 → rz_ev mM_lays [.ref 116, .int a1, .int 85] S (rz_v (fun Sq2 => rz mM_format 205 [(0, .ref 116), (1, .int a1)] [] Sq2 (rz_i K)))))) : rz mM_format 205 [(0, .ref 116), (1, .int a1)] [] S (rz_i K) := by
  refine rz_pure (pc' := 206) d_M_format_205 rfl ?_
  refine rz_getiv (v := S.2 116 20) d_M_format_206 f_12_125 rfl rfl rfl ?_
  refine rz_ifeq (tgt := 222) d_M_format_209 rfl (fun b1 => ?_) (fun b1 => ?_)
  · skip
    refine rz_iconst (v := 0) d_M_format_222 (by decide) ?_
    exact rz_ireti d_M_format_223 rfl rfl (w.1 b1)
  · skip
    refine rz_pure (pc' := 213) d_M_format_212 rfl ?_
    refine rz_pure (pc' := 214) d_M_format_213 rfl ?_
    refine rz_bipush (v := 85) d_M_format_214 (by decide) ?_
    refine rz_callVv (t := [.int 85, .int a1]) d_M_format_216 w_12_134 rfl rfl rfl (w.2 b1) (fun Sq2 q2 => ?_)
    refine rz_pure (pc' := 205) d_M_format_219 rfl ?_
    exact rz_pick (ks := [0, 1]) (l := [(0, .ref 116), (1, .int a1)]) rfl rfl (by decide) rfl q2
theorem p_M_format_36 {S : rz_S} {K : Int32 → rz_S → Prop} {a1 : Int32} {a2 : Int32} {a3 : Int32} {a4 : Int32} {a5 : Int32} (w : ((5 ≤ a5 → rz_ev mM_header [.ref 116, .int a1, .int a4, .int a2, .int a3] S (rz_v (fun Sq2 => rz mM_format 68 [(0, .ref 116), (1, .int a1), (2, .int a2), (3, .int a3), (4, .int a4), (5, .int 0)] [] Sq2 (rz_i K)))) ∧ (¬ 5 ≤ a5 → rz_ev mM_lays [.ref 116, .int a1, .int 255] S (rz_v (fun Sq3 => rz mM_format 36 [(0, .ref 116), (1, .int a1), (2, .int a2), (3, .int a3), (4, .int a4), (5, .int (a5 + 1))] [] Sq3 (rz_i K)))))) : rz mM_format 36 [(0, .ref 116), (1, .int a1), (2, .int a2), (3, .int a3), (4, .int a4), (5, .int a5)] [] S (rz_i K) := by
  refine rz_pure (pc' := 38) d_M_format_36 rfl ?_
  refine rz_iconst (v := 5) d_M_format_38 (by decide) ?_
  refine rz_icmpge (tgt := 56) d_M_format_39 rfl (fun b1 => ?_) (fun b1 => ?_)
  · skip
    refine rz_pure (pc' := 57) d_M_format_56 rfl ?_
    refine rz_pure (pc' := 58) d_M_format_57 rfl ?_
    refine rz_pure (pc' := 60) d_M_format_58 rfl ?_
    refine rz_pure (pc' := 61) d_M_format_60 rfl ?_
    refine rz_pure (pc' := 62) d_M_format_61 rfl ?_
    refine rz_callVv (t := [.int a3, .int a2, .int a4, .int a1]) d_M_format_62 w_12_96 rfl rfl rfl (w.1 b1) (fun Sq2 q2 => ?_)
    refine rz_iconst (v := 0) d_M_format_65 (by decide) ?_
    refine rz_pure (pc' := 68) (l' := [(5, .int 0), (0, .ref 116), (1, .int a1), (2, .int a2), (3, .int a3), (4, .int a4)]) d_M_format_66 rfl ?_
    exact rz_pick (ks := [0, 1, 2, 3, 4, 5]) (l := [(0, .ref 116), (1, .int a1), (2, .int a2), (3, .int a3), (4, .int a4), (5, .int 0)]) rfl rfl (by decide) rfl q2
  · skip
    refine rz_pure (pc' := 43) d_M_format_42 rfl ?_
    refine rz_pure (pc' := 44) d_M_format_43 rfl ?_
    refine rz_sipush (v := 255) d_M_format_44 (by decide) ?_
    refine rz_callVv (t := [.int 255, .int a1]) d_M_format_47 w_12_134 rfl rfl rfl (w.2 b1) (fun Sq3 q3 => ?_)
    refine rz_pure (pc' := 53) (l' := [(5, .int (a5 + 1)), (0, .ref 116), (1, .int a1), (2, .int a2), (3, .int a3), (4, .int a4)]) d_M_format_50 rfl ?_
    refine rz_pure (pc' := 36) d_M_format_53 rfl ?_
    exact rz_pick (ks := [0, 1, 2, 3, 4, 5]) (l := [(0, .ref 116), (1, .int a1), (2, .int a2), (3, .int a3), (4, .int a4), (5, .int (a5 + 1))]) rfl rfl (by decide) rfl q3
theorem p_M_format_68 {S : rz_S} {K : Int32 → rz_S → Prop} {a1 : Int32} {a2 : Int32} {a3 : Int32} {a4 : Int32} {a5 : Int32} (w : ((10 ≤ a5 → rz mM_format 96 [(0, .ref 116), (1, .int a1), (2, .int a2), (3, .int a3), (4, .int a4), (5, .int 0)] [] S (rz_i K)) ∧ (¬ 10 ≤ a5 → rx_in a5 85 = true ∧ rz_ev mM_lays [.ref 116, .int a1, .int (S.1 120 a5.toNatClampNeg)] S (rz_v (fun Sq2 => rz mM_format 68 [(0, .ref 116), (1, .int a1), (2, .int a2), (3, .int a3), (4, .int a4), (5, .int (a5 + 1))] [] Sq2 (rz_i K)))))) : rz mM_format 68 [(0, .ref 116), (1, .int a1), (2, .int a2), (3, .int a3), (4, .int a4), (5, .int a5)] [] S (rz_i K) := by
  refine rz_pure (pc' := 70) d_M_format_68 rfl ?_
  refine rz_bipush (v := 10) d_M_format_70 (by decide) ?_
  refine rz_icmpge (tgt := 93) d_M_format_72 rfl (fun b1 => ?_) (fun b1 => ?_)
  · skip
    refine rz_iconst (v := 0) d_M_format_93 (by decide) ?_
    refine rz_pure (pc' := 96) (l' := [(5, .int 0), (0, .ref 116), (1, .int a1), (2, .int a2), (3, .int a3), (4, .int a4)]) d_M_format_94 rfl ?_
    exact rz_pick (ks := [0, 1, 2, 3, 4, 5]) (l := [(0, .ref 116), (1, .int a1), (2, .int a2), (3, .int a3), (4, .int a4), (5, .int 0)]) rfl rfl (by decide) rfl (w.1 b1)
  · skip
    refine rz_pure (pc' := 76) d_M_format_75 rfl ?_
    refine rz_pure (pc' := 77) d_M_format_76 rfl ?_
    refine rz_pure (pc' := 78) d_M_format_77 rfl ?_
    refine rz_getr d_M_format_78 f_12_74 rfl rfl ?_
    refine rz_pure (pc' := 83) d_M_format_81 rfl ?_
    refine rz_ialdv (F := S.1 120) (i := a5.toNatClampNeg) d_M_format_83 rfl (w.2 b1).1 rfl rfl ?_
    refine rz_callVv (t := [.int (S.1 120 a5.toNatClampNeg), .int a1]) d_M_format_84 w_12_134 rfl rfl rfl (w.2 b1).2 (fun Sq2 q2 => ?_)
    refine rz_pure (pc' := 90) (l' := [(5, .int (a5 + 1)), (0, .ref 116), (1, .int a1), (2, .int a2), (3, .int a3), (4, .int a4)]) d_M_format_87 rfl ?_
    refine rz_pure (pc' := 68) d_M_format_90 rfl ?_
    exact rz_pick (ks := [0, 1, 2, 3, 4, 5]) (l := [(0, .ref 116), (1, .int a1), (2, .int a2), (3, .int a3), (4, .int a4), (5, .int (a5 + 1))]) rfl rfl (by decide) rfl q2
theorem p_M_format_96 {S : rz_S} {K : Int32 → rz_S → Prop} {a1 : Int32} {a2 : Int32} {a3 : Int32} {a4 : Int32} {a5 : Int32} (w : ((9 ≤ a5 → rz mM_format 119 [(0, .ref 116), (1, .int a1), (2, .int a2), (3, .int a3), (4, .int a4), (5, .int 0)] [] S (rz_i K)) ∧ (¬ 9 ≤ a5 → rz_ev mM_lays [.ref 116, .int a1, .int 85] S (rz_v (fun Sq2 => rz mM_format 96 [(0, .ref 116), (1, .int a1), (2, .int a2), (3, .int a3), (4, .int a4), (5, .int (a5 + 1))] [] Sq2 (rz_i K)))))) : rz mM_format 96 [(0, .ref 116), (1, .int a1), (2, .int a2), (3, .int a3), (4, .int a4), (5, .int a5)] [] S (rz_i K) := by
  refine rz_pure (pc' := 98) d_M_format_96 rfl ?_
  refine rz_bipush (v := 9) d_M_format_98 (by decide) ?_
  refine rz_icmpge (tgt := 116) d_M_format_100 rfl (fun b1 => ?_) (fun b1 => ?_)
  · skip
    refine rz_iconst (v := 0) d_M_format_116 (by decide) ?_
    refine rz_pure (pc' := 119) (l' := [(5, .int 0), (0, .ref 116), (1, .int a1), (2, .int a2), (3, .int a3), (4, .int a4)]) d_M_format_117 rfl ?_
    exact rz_pick (ks := [0, 1, 2, 3, 4, 5]) (l := [(0, .ref 116), (1, .int a1), (2, .int a2), (3, .int a3), (4, .int a4), (5, .int 0)]) rfl rfl (by decide) rfl (w.1 b1)
  · skip
    refine rz_pure (pc' := 104) d_M_format_103 rfl ?_
    refine rz_pure (pc' := 105) d_M_format_104 rfl ?_
    refine rz_bipush (v := 85) d_M_format_105 (by decide) ?_
    refine rz_callVv (t := [.int 85, .int a1]) d_M_format_107 w_12_134 rfl rfl rfl (w.2 b1) (fun Sq2 q2 => ?_)
    refine rz_pure (pc' := 113) (l' := [(5, .int (a5 + 1)), (0, .ref 116), (1, .int a1), (2, .int a2), (3, .int a3), (4, .int a4)]) d_M_format_110 rfl ?_
    refine rz_pure (pc' := 96) d_M_format_113 rfl ?_
    exact rz_pick (ks := [0, 1, 2, 3, 4, 5]) (l := [(0, .ref 116), (1, .int a1), (2, .int a2), (3, .int a3), (4, .int a4), (5, .int (a5 + 1))]) rfl rfl (by decide) rfl q2
theorem p_M_format_119 {S : rz_S} {K : Int32 → rz_S → Prop} {a1 : Int32} {a2 : Int32} {a3 : Int32} {a4 : Int32} {a5 : Int32} (w : ((5 ≤ a5 → rz_ev mM_data [.ref 116, .ref 122, .int 0] S (rz_v (fun Sq2 => rz mM_format 151 [(0, .ref 116), (1, .int a1), (2, .int a2), (3, .int a3), (4, .int a4), (5, .int 0)] [] Sq2 (rz_i K)))) ∧ (¬ 5 ≤ a5 → rz_ev mM_lays [.ref 116, .int a1, .int 255] S (rz_v (fun Sq3 => rz mM_format 119 [(0, .ref 116), (1, .int a1), (2, .int a2), (3, .int a3), (4, .int a4), (5, .int (a5 + 1))] [] Sq3 (rz_i K)))))) : rz mM_format 119 [(0, .ref 116), (1, .int a1), (2, .int a2), (3, .int a3), (4, .int a4), (5, .int a5)] [] S (rz_i K) := by
  refine rz_pure (pc' := 121) d_M_format_119 rfl ?_
  refine rz_iconst (v := 5) d_M_format_121 (by decide) ?_
  refine rz_icmpge (tgt := 139) d_M_format_122 rfl (fun b1 => ?_) (fun b1 => ?_)
  · skip
    refine rz_pure (pc' := 140) d_M_format_139 rfl ?_
    refine rz_pure (pc' := 141) d_M_format_140 rfl ?_
    refine rz_getr d_M_format_141 f_12_142 rfl rfl ?_
    refine rz_iconst (v := 0) d_M_format_144 (by decide) ?_
    refine rz_callVv (t := [.int 0, .ref 122]) d_M_format_145 w_12_138 rfl rfl rfl (w.1 b1) (fun Sq2 q2 => ?_)
    refine rz_iconst (v := 0) d_M_format_148 (by decide) ?_
    refine rz_pure (pc' := 151) (l' := [(5, .int 0), (0, .ref 116), (1, .int a1), (2, .int a2), (3, .int a3), (4, .int a4)]) d_M_format_149 rfl ?_
    exact rz_pick (ks := [0, 1, 2, 3, 4, 5]) (l := [(0, .ref 116), (1, .int a1), (2, .int a2), (3, .int a3), (4, .int a4), (5, .int 0)]) rfl rfl (by decide) rfl q2
  · skip
    refine rz_pure (pc' := 126) d_M_format_125 rfl ?_
    refine rz_pure (pc' := 127) d_M_format_126 rfl ?_
    refine rz_sipush (v := 255) d_M_format_127 (by decide) ?_
    refine rz_callVv (t := [.int 255, .int a1]) d_M_format_130 w_12_134 rfl rfl rfl (w.2 b1) (fun Sq3 q3 => ?_)
    refine rz_pure (pc' := 136) (l' := [(5, .int (a5 + 1)), (0, .ref 116), (1, .int a1), (2, .int a2), (3, .int a3), (4, .int a4)]) d_M_format_133 rfl ?_
    refine rz_pure (pc' := 119) d_M_format_136 rfl ?_
    exact rz_pick (ks := [0, 1, 2, 3, 4, 5]) (l := [(0, .ref 116), (1, .int a1), (2, .int a2), (3, .int a3), (4, .int a4), (5, .int (a5 + 1))]) rfl rfl (by decide) rfl q3
theorem p_M_format_151 {S : rz_S} {K : Int32 → rz_S → Prop} {a1 : Int32} {a2 : Int32} {a3 : Int32} {a4 : Int32} {a5 : Int32} (w : ((85 ≤ a5 → rz mM_format 179 [(0, .ref 116), (1, .int a1), (2, .int a2), (3, .int a3), (4, .int a4), (5, .int 0)] [] S (rz_i K)) ∧ (¬ 85 ≤ a5 → rx_in a5 85 = true ∧ rz_ev mM_lays [.ref 116, .int a1, .int (S.1 120 a5.toNatClampNeg)] S (rz_v (fun Sq2 => rz mM_format 151 [(0, .ref 116), (1, .int a1), (2, .int a2), (3, .int a3), (4, .int a4), (5, .int (a5 + 1))] [] Sq2 (rz_i K)))))) : rz mM_format 151 [(0, .ref 116), (1, .int a1), (2, .int a2), (3, .int a3), (4, .int a4), (5, .int a5)] [] S (rz_i K) := by
  refine rz_pure (pc' := 153) d_M_format_151 rfl ?_
  refine rz_bipush (v := 85) d_M_format_153 (by decide) ?_
  refine rz_icmpge (tgt := 176) d_M_format_155 rfl (fun b1 => ?_) (fun b1 => ?_)
  · skip
    refine rz_iconst (v := 0) d_M_format_176 (by decide) ?_
    refine rz_pure (pc' := 179) (l' := [(5, .int 0), (0, .ref 116), (1, .int a1), (2, .int a2), (3, .int a3), (4, .int a4)]) d_M_format_177 rfl ?_
    exact rz_pick (ks := [0, 1, 2, 3, 4, 5]) (l := [(0, .ref 116), (1, .int a1), (2, .int a2), (3, .int a3), (4, .int a4), (5, .int 0)]) rfl rfl (by decide) rfl (w.1 b1)
  · skip
    refine rz_pure (pc' := 159) d_M_format_158 rfl ?_
    refine rz_pure (pc' := 160) d_M_format_159 rfl ?_
    refine rz_pure (pc' := 161) d_M_format_160 rfl ?_
    refine rz_getr d_M_format_161 f_12_74 rfl rfl ?_
    refine rz_pure (pc' := 166) d_M_format_164 rfl ?_
    refine rz_ialdv (F := S.1 120) (i := a5.toNatClampNeg) d_M_format_166 rfl (w.2 b1).1 rfl rfl ?_
    refine rz_callVv (t := [.int (S.1 120 a5.toNatClampNeg), .int a1]) d_M_format_167 w_12_134 rfl rfl rfl (w.2 b1).2 (fun Sq2 q2 => ?_)
    refine rz_pure (pc' := 173) (l' := [(5, .int (a5 + 1)), (0, .ref 116), (1, .int a1), (2, .int a2), (3, .int a3), (4, .int a4)]) d_M_format_170 rfl ?_
    refine rz_pure (pc' := 151) d_M_format_173 rfl ?_
    exact rz_pick (ks := [0, 1, 2, 3, 4, 5]) (l := [(0, .ref 116), (1, .int a1), (2, .int a2), (3, .int a3), (4, .int a4), (5, .int (a5 + 1))]) rfl rfl (by decide) rfl q2
theorem p_M_format_179 {S : rz_S} {K : Int32 → rz_S → Prop} {a1 : Int32} {a2 : Int32} {a3 : Int32} {a4 : Int32} {a5 : Int32} (w : ((8 ≤ a5 → rz mM_format 24 [(0, .ref 116), (1, .int a1), (2, .int a2), (3, .int a3), (4, .int (a4 + 1))] [] S (rz_i K)) ∧ (¬ 8 ≤ a5 → rz_ev mM_lays [.ref 116, .int a1, .int 85] S (rz_v (fun Sq2 => rz mM_format 179 [(0, .ref 116), (1, .int a1), (2, .int a2), (3, .int a3), (4, .int a4), (5, .int (a5 + 1))] [] Sq2 (rz_i K)))))) : rz mM_format 179 [(0, .ref 116), (1, .int a1), (2, .int a2), (3, .int a3), (4, .int a4), (5, .int a5)] [] S (rz_i K) := by
  refine rz_pure (pc' := 181) d_M_format_179 rfl ?_
  refine rz_bipush (v := 8) d_M_format_181 (by decide) ?_
  refine rz_icmpge (tgt := 199) d_M_format_183 rfl (fun b1 => ?_) (fun b1 => ?_)
  · skip
    refine rz_pure (pc' := 202) (l' := [(4, .int (a4 + 1)), (0, .ref 116), (1, .int a1), (2, .int a2), (3, .int a3), (5, .int a5)]) d_M_format_199 rfl ?_
    refine rz_pure (pc' := 24) d_M_format_202 rfl ?_
    exact rz_pick (ks := [0, 1, 2, 3, 4]) (l := [(0, .ref 116), (1, .int a1), (2, .int a2), (3, .int a3), (4, .int (a4 + 1))]) rfl rfl (by decide) rfl (w.1 b1)
  · skip
    refine rz_pure (pc' := 187) d_M_format_186 rfl ?_
    refine rz_pure (pc' := 188) d_M_format_187 rfl ?_
    refine rz_bipush (v := 85) d_M_format_188 (by decide) ?_
    refine rz_callVv (t := [.int 85, .int a1]) d_M_format_190 w_12_134 rfl rfl rfl (w.2 b1) (fun Sq2 q2 => ?_)
    refine rz_pure (pc' := 196) (l' := [(5, .int (a5 + 1)), (0, .ref 116), (1, .int a1), (2, .int a2), (3, .int a3), (4, .int a4)]) d_M_format_193 rfl ?_
    refine rz_pure (pc' := 179) d_M_format_196 rfl ?_
    exact rz_pick (ks := [0, 1, 2, 3, 4, 5]) (l := [(0, .ref 116), (1, .int a1), (2, .int a2), (3, .int a3), (4, .int a4), (5, .int (a5 + 1))]) rfl rfl (by decide) rfl q2
theorem d_M_takeId_0 : decode (rm_code mM_takeId) 0 = .ok (.aload_n 0, 1) := by decide +kernel
theorem d_M_takeId_1 : decode (rm_code mM_takeId) 1 = .ok (.bipush (7), 2) := by decide +kernel
theorem d_M_takeId_3 : decode (rm_code mM_takeId) 3 = .ok (.invokevirtual 87, 3) := by decide +kernel
theorem d_M_takeId_6 : decode (rm_code mM_takeId) 6 = .ok (.istore_n 1, 1) := by decide +kernel
theorem d_M_takeId_7 : decode (rm_code mM_takeId) 7 = .ok (.aload_n 0, 1) := by decide +kernel
theorem d_M_takeId_8 : decode (rm_code mM_takeId) 8 = .ok (.iconst (-1), 1) := by decide +kernel
theorem d_M_takeId_9 : decode (rm_code mM_takeId) 9 = .ok (.putfield 90, 3) := by decide +kernel
theorem d_M_takeId_12 : decode (rm_code mM_takeId) 12 = .ok (.aload_n 0, 1) := by decide +kernel
theorem d_M_takeId_13 : decode (rm_code mM_takeId) 13 = .ok (.iconst (-1), 1) := by decide +kernel
theorem d_M_takeId_14 : decode (rm_code mM_takeId) 14 = .ok (.putfield 93, 3) := by decide +kernel
theorem d_M_takeId_17 : decode (rm_code mM_takeId) 17 = .ok (.iconst 0, 1) := by decide +kernel
theorem d_M_takeId_18 : decode (rm_code mM_takeId) 18 = .ok (.istore_n 2, 1) := by decide +kernel
theorem d_M_takeId_19 : decode (rm_code mM_takeId) 19 = .ok (.iload_n 2, 1) := by decide +kernel
theorem d_M_takeId_20 : decode (rm_code mM_takeId) 20 = .ok (.iload_n 1, 1) := by decide +kernel
theorem d_M_takeId_21 : decode (rm_code mM_takeId) 21 = .ok (.if_icmp .ge (134), 3) := by decide +kernel
theorem d_M_takeId_24 : decode (rm_code mM_takeId) 24 = .ok (.iload_n 2, 1) := by decide +kernel
theorem d_M_takeId_25 : decode (rm_code mM_takeId) 25 = .ok (.bipush (32), 2) := by decide +kernel
theorem d_M_takeId_27 : decode (rm_code mM_takeId) 27 = .ok (.if_icmp .ge (128), 3) := by decide +kernel
theorem d_M_takeId_30 : decode (rm_code mM_takeId) 30 = .ok (.aload_n 0, 1) := by decide +kernel
theorem d_M_takeId_31 : decode (rm_code mM_takeId) 31 = .ok (.bipush (7), 2) := by decide +kernel
theorem d_M_takeId_33 : decode (rm_code mM_takeId) 33 = .ok (.aload_n 0, 1) := by decide +kernel
theorem d_M_takeId_34 : decode (rm_code mM_takeId) 34 = .ok (.getfield 64, 3) := by decide +kernel
theorem d_M_takeId_37 : decode (rm_code mM_takeId) 37 = .ok (.iload_n 2, 1) := by decide +kernel
theorem d_M_takeId_38 : decode (rm_code mM_takeId) 38 = .ok (.iaload, 1) := by decide +kernel
theorem d_M_takeId_39 : decode (rm_code mM_takeId) 39 = .ok (.bipush (10), 2) := by decide +kernel
theorem d_M_takeId_41 : decode (rm_code mM_takeId) 41 = .ok (.invokevirtual 60, 3) := by decide +kernel
theorem d_M_takeId_44 : decode (rm_code mM_takeId) 44 = .ok (.iconst 0, 1) := by decide +kernel
theorem d_M_takeId_45 : decode (rm_code mM_takeId) 45 = .ok (.istore_n 3, 1) := by decide +kernel
theorem d_M_takeId_46 : decode (rm_code mM_takeId) 46 = .ok (.iload_n 3, 1) := by decide +kernel
theorem d_M_takeId_47 : decode (rm_code mM_takeId) 47 = .ok (.bipush (10), 2) := by decide +kernel
theorem d_M_takeId_49 : decode (rm_code mM_takeId) 49 = .ok (.if_icmp .ge (19), 3) := by decide +kernel
theorem d_M_takeId_52 : decode (rm_code mM_takeId) 52 = .ok (.aload_n 0, 1) := by decide +kernel
theorem d_M_takeId_53 : decode (rm_code mM_takeId) 53 = .ok (.getfield 74, 3) := by decide +kernel
theorem d_M_takeId_56 : decode (rm_code mM_takeId) 56 = .ok (.iload_n 3, 1) := by decide +kernel
theorem d_M_takeId_57 : decode (rm_code mM_takeId) 57 = .ok (.aload_n 0, 1) := by decide +kernel
theorem d_M_takeId_58 : decode (rm_code mM_takeId) 58 = .ok (.invokevirtual 100, 3) := by decide +kernel
theorem d_M_takeId_61 : decode (rm_code mM_takeId) 61 = .ok (.iastore, 1) := by decide +kernel
theorem d_M_takeId_62 : decode (rm_code mM_takeId) 62 = .ok (.iinc 3 (1), 3) := by decide +kernel
theorem d_M_takeId_65 : decode (rm_code mM_takeId) 65 = .ok (.goto (-19), 3) := by decide +kernel
theorem d_M_takeId_68 : decode (rm_code mM_takeId) 68 = .ok (.aload_n 0, 1) := by decide +kernel
theorem d_M_takeId_69 : decode (rm_code mM_takeId) 69 = .ok (.bipush (16), 2) := by decide +kernel
theorem d_M_takeId_71 : decode (rm_code mM_takeId) 71 = .ok (.invokevirtual 121, 3) := by decide +kernel
theorem d_M_takeId_74 : decode (rm_code mM_takeId) 74 = .ok (.ifCond .eq (75), 3) := by decide +kernel
theorem d_M_takeId_77 : decode (rm_code mM_takeId) 77 = .ok (.aload_n 0, 1) := by decide +kernel
theorem d_M_takeId_78 : decode (rm_code mM_takeId) 78 = .ok (.getfield 71, 3) := by decide +kernel
theorem d_M_takeId_81 : decode (rm_code mM_takeId) 81 = .ok (.iconst 0, 1) := by decide +kernel
theorem d_M_takeId_82 : decode (rm_code mM_takeId) 82 = .ok (.iaload, 1) := by decide +kernel
theorem d_M_takeId_83 : decode (rm_code mM_takeId) 83 = .ok (.bipush (8), 2) := by decide +kernel
theorem d_M_takeId_85 : decode (rm_code mM_takeId) 85 = .ok (.if_icmp .ne (64), 3) := by decide +kernel
theorem d_M_takeId_88 : decode (rm_code mM_takeId) 88 = .ok (.aload_n 0, 1) := by decide +kernel
theorem d_M_takeId_89 : decode (rm_code mM_takeId) 89 = .ok (.getfield 71, 3) := by decide +kernel
theorem d_M_takeId_92 : decode (rm_code mM_takeId) 92 = .ok (.iconst 1, 1) := by decide +kernel
theorem d_M_takeId_93 : decode (rm_code mM_takeId) 93 = .ok (.iaload, 1) := by decide +kernel
theorem d_M_takeId_94 : decode (rm_code mM_takeId) 94 = .ok (.aload_n 0, 1) := by decide +kernel
theorem d_M_takeId_95 : decode (rm_code mM_takeId) 95 = .ok (.getfield 71, 3) := by decide +kernel
theorem d_M_takeId_98 : decode (rm_code mM_takeId) 98 = .ok (.iconst 2, 1) := by decide +kernel
theorem d_M_takeId_99 : decode (rm_code mM_takeId) 99 = .ok (.iaload, 1) := by decide +kernel
theorem d_M_takeId_100 : decode (rm_code mM_takeId) 100 = .ok (.aload_n 0, 1) := by decide +kernel
theorem d_M_takeId_101 : decode (rm_code mM_takeId) 101 = .ok (.getfield 71, 3) := by decide +kernel
theorem d_M_takeId_104 : decode (rm_code mM_takeId) 104 = .ok (.iconst 3, 1) := by decide +kernel
theorem d_M_takeId_105 : decode (rm_code mM_takeId) 105 = .ok (.iaload, 1) := by decide +kernel
theorem d_M_takeId_106 : decode (rm_code mM_takeId) 106 = .ok (.ixor, 1) := by decide +kernel
theorem d_M_takeId_107 : decode (rm_code mM_takeId) 107 = .ok (.aload_n 0, 1) := by decide +kernel
theorem d_M_takeId_108 : decode (rm_code mM_takeId) 108 = .ok (.getfield 71, 3) := by decide +kernel
theorem d_M_takeId_111 : decode (rm_code mM_takeId) 111 = .ok (.iconst 4, 1) := by decide +kernel
theorem d_M_takeId_112 : decode (rm_code mM_takeId) 112 = .ok (.iaload, 1) := by decide +kernel
theorem d_M_takeId_113 : decode (rm_code mM_takeId) 113 = .ok (.ixor, 1) := by decide +kernel
theorem d_M_takeId_114 : decode (rm_code mM_takeId) 114 = .ok (.aload_n 0, 1) := by decide +kernel
theorem d_M_takeId_115 : decode (rm_code mM_takeId) 115 = .ok (.getfield 71, 3) := by decide +kernel
theorem d_M_takeId_118 : decode (rm_code mM_takeId) 118 = .ok (.iconst 5, 1) := by decide +kernel
theorem d_M_takeId_119 : decode (rm_code mM_takeId) 119 = .ok (.iaload, 1) := by decide +kernel
theorem d_M_takeId_120 : decode (rm_code mM_takeId) 120 = .ok (.ixor, 1) := by decide +kernel
theorem d_M_takeId_121 : decode (rm_code mM_takeId) 121 = .ok (.if_icmp .eq (6), 3) := by decide +kernel
theorem d_M_takeId_124 : decode (rm_code mM_takeId) 124 = .ok (.goto (25), 3) := by decide +kernel
theorem d_M_takeId_127 : decode (rm_code mM_takeId) 127 = .ok (.aload_n 0, 1) := by decide +kernel
theorem d_M_takeId_128 : decode (rm_code mM_takeId) 128 = .ok (.aload_n 0, 1) := by decide +kernel
theorem d_M_takeId_129 : decode (rm_code mM_takeId) 129 = .ok (.getfield 71, 3) := by decide +kernel
theorem d_M_takeId_132 : decode (rm_code mM_takeId) 132 = .ok (.iconst 5, 1) := by decide +kernel
theorem d_M_takeId_133 : decode (rm_code mM_takeId) 133 = .ok (.iaload, 1) := by decide +kernel
theorem d_M_takeId_134 : decode (rm_code mM_takeId) 134 = .ok (.putfield 90, 3) := by decide +kernel
theorem d_M_takeId_137 : decode (rm_code mM_takeId) 137 = .ok (.aload_n 0, 1) := by decide +kernel
theorem d_M_takeId_138 : decode (rm_code mM_takeId) 138 = .ok (.aload_n 0, 1) := by decide +kernel
theorem d_M_takeId_139 : decode (rm_code mM_takeId) 139 = .ok (.getfield 71, 3) := by decide +kernel
theorem d_M_takeId_142 : decode (rm_code mM_takeId) 142 = .ok (.iconst 4, 1) := by decide +kernel
theorem d_M_takeId_143 : decode (rm_code mM_takeId) 143 = .ok (.iaload, 1) := by decide +kernel
theorem d_M_takeId_144 : decode (rm_code mM_takeId) 144 = .ok (.putfield 93, 3) := by decide +kernel
theorem d_M_takeId_147 : decode (rm_code mM_takeId) 147 = .ok (.iconst 0, 1) := by decide +kernel
theorem d_M_takeId_148 : decode (rm_code mM_takeId) 148 = .ok (.ireturn, 1) := by decide +kernel
theorem d_M_takeId_149 : decode (rm_code mM_takeId) 149 = .ok (.iinc 2 (1), 3) := by decide +kernel
theorem d_M_takeId_152 : decode (rm_code mM_takeId) 152 = .ok (.goto (-133), 3) := by decide +kernel
theorem d_M_takeId_155 : decode (rm_code mM_takeId) 155 = .ok (.aload_n 0, 1) := by decide +kernel
theorem d_M_takeId_156 : decode (rm_code mM_takeId) 156 = .ok (.bipush (74), 2) := by decide +kernel
theorem d_M_takeId_158 : decode (rm_code mM_takeId) 158 = .ok (.bipush (7), 2) := by decide +kernel
theorem d_M_takeId_160 : decode (rm_code mM_takeId) 160 = .ok (.iconst 0, 1) := by decide +kernel
theorem d_M_takeId_161 : decode (rm_code mM_takeId) 161 = .ok (.invokevirtual 113, 3) := by decide +kernel
theorem d_M_takeId_164 : decode (rm_code mM_takeId) 164 = .ok (.ireturn, 1) := by decide +kernel
theorem p_M_takeId_0 {S : rz_S} {K : Int32 → rz_S → Prop} (w : rz_ev mM_round [.ref 116, .int 7] S (rz_i (fun xq1 Sq1 => rz mM_takeId 19 [(0, .ref 116), (1, .int xq1), (2, .int 0)] [] (rz_uI (rz_uI Sq1 116 2 (-1)) 116 3 (-1)) (rz_i K)))) : rz mM_takeId 0 [(0, .ref 116)] [] S (rz_i K) := by
  refine rz_pure (pc' := 1) d_M_takeId_0 rfl ?_
  refine rz_bipush (v := 7) d_M_takeId_1 (by decide) ?_
  refine rz_callVi (t := [.int 7]) d_M_takeId_3 w_12_87 rfl rfl rfl w (fun xq1 Sq1 q1 => ?_)
  refine rz_pure (pc' := 7) (l' := [(1, .int xq1), (0, .ref 116)]) d_M_takeId_6 rfl ?_
  refine rz_pure (pc' := 8) d_M_takeId_7 rfl ?_
  refine rz_iconst (v := -1) d_M_takeId_8 (by decide) ?_
  refine rz_puti d_M_takeId_9 f_12_90 rfl rfl rfl ?_
  refine rz_pure (pc' := 13) d_M_takeId_12 rfl ?_
  refine rz_iconst (v := -1) d_M_takeId_13 (by decide) ?_
  refine rz_puti d_M_takeId_14 f_12_93 rfl rfl rfl ?_
  refine rz_iconst (v := 0) d_M_takeId_17 (by decide) ?_
  refine rz_pure (pc' := 19) (l' := [(2, .int 0), (1, .int xq1), (0, .ref 116)]) d_M_takeId_18 rfl ?_
  exact rz_pick (ks := [0, 1, 2]) (l := [(0, .ref 116), (1, .int xq1), (2, .int 0)]) rfl rfl (by decide) rfl q1
theorem p_M_takeId_19 {S : rz_S} {K : Int32 → rz_S → Prop} {a1 : Int32} {a2 : Int32} (w : ((a1 ≤ a2 → rz mM_takeId 155 [(0, .ref 116)] [] S (rz_i K)) ∧ (¬ a1 ≤ a2 → ((32 ≤ a2 → rz mM_takeId 155 [(0, .ref 116)] [] S (rz_i K)) ∧ (¬ 32 ≤ a2 → rx_in a2 800 = true ∧ rz_ev mM_along [.ref 116, .int 7, .int (S.1 118 a2.toNatClampNeg), .int 10] S (rz_v (fun Sq3 => rz mM_takeId 46 [(0, .ref 116), (1, .int a1), (2, .int a2), (3, .int 0)] [] Sq3 (rz_i K)))))))) : rz mM_takeId 19 [(0, .ref 116), (1, .int a1), (2, .int a2)] [] S (rz_i K) := by
  refine rz_pure (pc' := 20) d_M_takeId_19 rfl ?_
  refine rz_pure (pc' := 21) d_M_takeId_20 rfl ?_
  refine rz_icmpge (tgt := 155) d_M_takeId_21 rfl (fun b1 => ?_) (fun b1 => ?_)
  · skip
    exact rz_pick (ks := [0]) (l := [(0, .ref 116)]) rfl rfl (by decide) rfl (w.1 b1)
  · skip
    refine rz_pure (pc' := 25) d_M_takeId_24 rfl ?_
    refine rz_bipush (v := 32) d_M_takeId_25 (by decide) ?_
    refine rz_icmpge (tgt := 155) d_M_takeId_27 rfl (fun b2 => ?_) (fun b2 => ?_)
    · skip
      exact rz_pick (ks := [0]) (l := [(0, .ref 116)]) rfl rfl (by decide) rfl ((w.2 b1).1 b2)
    · skip
      refine rz_pure (pc' := 31) d_M_takeId_30 rfl ?_
      refine rz_bipush (v := 7) d_M_takeId_31 (by decide) ?_
      refine rz_pure (pc' := 34) d_M_takeId_33 rfl ?_
      refine rz_getr d_M_takeId_34 f_12_64 rfl rfl ?_
      refine rz_pure (pc' := 38) d_M_takeId_37 rfl ?_
      refine rz_ialdv (F := S.1 118) (i := a2.toNatClampNeg) d_M_takeId_38 rfl ((w.2 b1).2 b2).1 rfl rfl ?_
      refine rz_bipush (v := 10) d_M_takeId_39 (by decide) ?_
      refine rz_callVv (t := [.int 10, .int (S.1 118 a2.toNatClampNeg), .int 7]) d_M_takeId_41 w_12_60 rfl rfl rfl ((w.2 b1).2 b2).2 (fun Sq3 q3 => ?_)
      refine rz_iconst (v := 0) d_M_takeId_44 (by decide) ?_
      refine rz_pure (pc' := 46) (l' := [(3, .int 0), (0, .ref 116), (1, .int a1), (2, .int a2)]) d_M_takeId_45 rfl ?_
      exact rz_pick (ks := [0, 1, 2, 3]) (l := [(0, .ref 116), (1, .int a1), (2, .int a2), (3, .int 0)]) rfl rfl (by decide) rfl q3
theorem p_M_takeId_155 {S : rz_S} {K : Int32 → rz_S → Prop} (w : rz_ev mM_fault [.ref 116, .int 74, .int 7, .int 0] S (rz_i (fun xq1 Sq1 => K xq1 Sq1))) : rz mM_takeId 155 [(0, .ref 116)] [] S (rz_i K) := by
  refine rz_pure (pc' := 156) d_M_takeId_155 rfl ?_
  refine rz_bipush (v := 74) d_M_takeId_156 (by decide) ?_
  refine rz_bipush (v := 7) d_M_takeId_158 (by decide) ?_
  refine rz_iconst (v := 0) d_M_takeId_160 (by decide) ?_
  refine rz_callVi (t := [.int 0, .int 7, .int 74]) d_M_takeId_161 w_12_113 rfl rfl rfl w (fun xq1 Sq1 q1 => ?_)
  exact rz_ireti d_M_takeId_164 rfl rfl q1
theorem p_M_takeId_46 {S : rz_S} {K : Int32 → rz_S → Prop} {a1 : Int32} {a2 : Int32} {a3 : Int32} (w : ((10 ≤ a3 → rz_ev mM_reads [.ref 116, .int 16] S (rz_i (fun xq2 Sq2 => ((xq2 = 0 → rz mM_takeId 19 [(0, .ref 116), (1, .int a1), (2, .int (a2 + 1))] [] Sq2 (rz_i K)) ∧ (¬ xq2 = 0 → ((Sq2.1 119 0 = 8 → ((Sq2.1 119 1 = (((Sq2.1 119 2) ^^^ (Sq2.1 119 3)) ^^^ (Sq2.1 119 4)) ^^^ (Sq2.1 119 5) → K 0 (rz_uI (rz_uI Sq2 116 2 (Sq2.1 119 5)) 116 3 (Sq2.1 119 4))) ∧ (¬ Sq2.1 119 1 = (((Sq2.1 119 2) ^^^ (Sq2.1 119 3)) ^^^ (Sq2.1 119 4)) ^^^ (Sq2.1 119 5) → rz mM_takeId 19 [(0, .ref 116), (1, .int a1), (2, .int (a2 + 1))] [] Sq2 (rz_i K)))) ∧ (¬ Sq2.1 119 0 = 8 → rz mM_takeId 19 [(0, .ref 116), (1, .int a1), (2, .int (a2 + 1))] [] Sq2 (rz_i K)))))))) ∧ (¬ 10 ≤ a3 → rz_ev mM_comes [.ref 116] S (rz_i (fun xq6 Sq6 => rx_in a3 85 = true ∧ rz mM_takeId 46 [(0, .ref 116), (1, .int a1), (2, .int a2), (3, .int (a3 + 1))] [] (rz_fA Sq6 120 (upd (Sq6.1 120) a3.toNatClampNeg xq6)) (rz_i K)))))) : rz mM_takeId 46 [(0, .ref 116), (1, .int a1), (2, .int a2), (3, .int a3)] [] S (rz_i K) := by
  refine rz_pure (pc' := 47) d_M_takeId_46 rfl ?_
  refine rz_bipush (v := 10) d_M_takeId_47 (by decide) ?_
  refine rz_icmpge (tgt := 68) d_M_takeId_49 rfl (fun b1 => ?_) (fun b1 => ?_)
  · skip
    refine rz_pure (pc' := 69) d_M_takeId_68 rfl ?_
    refine rz_bipush (v := 16) d_M_takeId_69 (by decide) ?_
    refine rz_callVi (t := [.int 16]) d_M_takeId_71 w_12_121 rfl rfl rfl (w.1 b1) (fun xq2 Sq2 q2 => ?_)
    refine rz_ifeq (tgt := 149) d_M_takeId_74 rfl (fun b3 => ?_) (fun b3 => ?_)
    · skip
      refine rz_pure (pc' := 152) (l' := [(2, .int (a2 + 1)), (0, .ref 116), (1, .int a1), (3, .int a3)]) d_M_takeId_149 rfl ?_
      refine rz_pure (pc' := 19) d_M_takeId_152 rfl ?_
      exact rz_pick (ks := [0, 1, 2]) (l := [(0, .ref 116), (1, .int a1), (2, .int (a2 + 1))]) rfl rfl (by decide) rfl (q2.1 b3)
    · skip
      refine rz_pure (pc' := 78) d_M_takeId_77 rfl ?_
      refine rz_getr d_M_takeId_78 f_12_71 rfl rfl ?_
      refine rz_iconst (v := 0) d_M_takeId_81 (by decide) ?_
      refine rz_ialdv (F := Sq2.1 119) (i := 0) d_M_takeId_82 rfl (by decide) rfl (by decide) ?_
      refine rz_bipush (v := 8) d_M_takeId_83 (by decide) ?_
      refine rz_icmpne (tgt := 149) d_M_takeId_85 rfl (fun b4 => ?_) (fun b4 => ?_)
      · skip
        refine rz_pure (pc' := 152) (l' := [(2, .int (a2 + 1)), (0, .ref 116), (1, .int a1), (3, .int a3)]) d_M_takeId_149 rfl ?_
        refine rz_pure (pc' := 19) d_M_takeId_152 rfl ?_
        exact rz_pick (ks := [0, 1, 2]) (l := [(0, .ref 116), (1, .int a1), (2, .int (a2 + 1))]) rfl rfl (by decide) rfl ((q2.2 b3).2 b4)
      · skip
        refine rz_pure (pc' := 89) d_M_takeId_88 rfl ?_
        refine rz_getr d_M_takeId_89 f_12_71 rfl rfl ?_
        refine rz_iconst (v := 1) d_M_takeId_92 (by decide) ?_
        refine rz_ialdv (F := Sq2.1 119) (i := 1) d_M_takeId_93 rfl (by decide) rfl (by decide) ?_
        refine rz_pure (pc' := 95) d_M_takeId_94 rfl ?_
        refine rz_getr d_M_takeId_95 f_12_71 rfl rfl ?_
        refine rz_iconst (v := 2) d_M_takeId_98 (by decide) ?_
        refine rz_ialdv (F := Sq2.1 119) (i := 2) d_M_takeId_99 rfl (by decide) rfl (by decide) ?_
        refine rz_pure (pc' := 101) d_M_takeId_100 rfl ?_
        refine rz_getr d_M_takeId_101 f_12_71 rfl rfl ?_
        refine rz_iconst (v := 3) d_M_takeId_104 (by decide) ?_
        refine rz_ialdv (F := Sq2.1 119) (i := 3) d_M_takeId_105 rfl (by decide) rfl (by decide) ?_
        refine rz_ixor d_M_takeId_106 ?_
        refine rz_pure (pc' := 108) d_M_takeId_107 rfl ?_
        refine rz_getr d_M_takeId_108 f_12_71 rfl rfl ?_
        refine rz_iconst (v := 4) d_M_takeId_111 (by decide) ?_
        refine rz_ialdv (F := Sq2.1 119) (i := 4) d_M_takeId_112 rfl (by decide) rfl (by decide) ?_
        refine rz_ixor d_M_takeId_113 ?_
        refine rz_pure (pc' := 115) d_M_takeId_114 rfl ?_
        refine rz_getr d_M_takeId_115 f_12_71 rfl rfl ?_
        refine rz_iconst (v := 5) d_M_takeId_118 (by decide) ?_
        refine rz_ialdv (F := Sq2.1 119) (i := 5) d_M_takeId_119 rfl (by decide) rfl (by decide) ?_
        refine rz_ixor d_M_takeId_120 ?_
        refine rz_icmpeq (tgt := 127) d_M_takeId_121 rfl (fun b5 => ?_) (fun b5 => ?_)
        · skip
          refine rz_pure (pc' := 128) d_M_takeId_127 rfl ?_
          refine rz_pure (pc' := 129) d_M_takeId_128 rfl ?_
          refine rz_getr d_M_takeId_129 f_12_71 rfl rfl ?_
          refine rz_iconst (v := 5) d_M_takeId_132 (by decide) ?_
          refine rz_ialdv (F := Sq2.1 119) (i := 5) d_M_takeId_133 rfl (by decide) rfl (by decide) ?_
          refine rz_puti d_M_takeId_134 f_12_90 rfl rfl rfl ?_
          refine rz_pure (pc' := 138) d_M_takeId_137 rfl ?_
          refine rz_pure (pc' := 139) d_M_takeId_138 rfl ?_
          refine rz_getr d_M_takeId_139 f_12_71 rfl rfl ?_
          refine rz_iconst (v := 4) d_M_takeId_142 (by decide) ?_
          refine rz_ialdv (F := Sq2.1 119) (i := 4) d_M_takeId_143 rfl (by decide) rfl (by decide) ?_
          refine rz_puti d_M_takeId_144 f_12_93 rfl rfl rfl ?_
          refine rz_iconst (v := 0) d_M_takeId_147 (by decide) ?_
          exact rz_ireti d_M_takeId_148 rfl rfl (((q2.2 b3).1 b4).1 b5)
        · skip
          refine rz_pure (pc' := 149) d_M_takeId_124 rfl ?_
          refine rz_pure (pc' := 152) (l' := [(2, .int (a2 + 1)), (0, .ref 116), (1, .int a1), (3, .int a3)]) d_M_takeId_149 rfl ?_
          refine rz_pure (pc' := 19) d_M_takeId_152 rfl ?_
          exact rz_pick (ks := [0, 1, 2]) (l := [(0, .ref 116), (1, .int a1), (2, .int (a2 + 1))]) rfl rfl (by decide) rfl (((q2.2 b3).1 b4).2 b5)
  · skip
    refine rz_pure (pc' := 53) d_M_takeId_52 rfl ?_
    refine rz_getr d_M_takeId_53 f_12_74 rfl rfl ?_
    refine rz_pure (pc' := 57) d_M_takeId_56 rfl ?_
    refine rz_pure (pc' := 58) d_M_takeId_57 rfl ?_
    refine rz_callVi (t := []) d_M_takeId_58 w_12_100 rfl rfl rfl (w.2 b1) (fun xq6 Sq6 q6 => ?_)
    refine rz_iastv (F := Sq6.1 120) (i := a3.toNatClampNeg) d_M_takeId_61 rfl q6.1 rfl rfl ?_
    refine rz_pure (pc' := 65) (l' := [(3, .int (a3 + 1)), (0, .ref 116), (1, .int a1), (2, .int a2)]) d_M_takeId_62 rfl ?_
    refine rz_pure (pc' := 46) d_M_takeId_65 rfl ?_
    exact rz_pick (ks := [0, 1, 2, 3]) (l := [(0, .ref 116), (1, .int a1), (2, .int a2), (3, .int (a3 + 1))]) rfl rfl (by decide) rfl q6.2
theorem d_M_loads_0 : decode (rm_code mM_loads) 0 = .ok (.aload_n 0, 1) := by decide +kernel
theorem d_M_loads_1 : decode (rm_code mM_loads) 1 = .ok (.bipush (7), 2) := by decide +kernel
theorem d_M_loads_3 : decode (rm_code mM_loads) 3 = .ok (.iconst 0, 1) := by decide +kernel
theorem d_M_loads_4 : decode (rm_code mM_loads) 4 = .ok (.aload_n 0, 1) := by decide +kernel
theorem d_M_loads_5 : decode (rm_code mM_loads) 5 = .ok (.getfield 145, 3) := by decide +kernel
theorem d_M_loads_8 : decode (rm_code mM_loads) 8 = .ok (.iconst 0, 1) := by decide +kernel
theorem d_M_loads_9 : decode (rm_code mM_loads) 9 = .ok (.invokevirtual 148, 3) := by decide +kernel
theorem d_M_loads_12 : decode (rm_code mM_loads) 12 = .ok (.ireturn, 1) := by decide +kernel
theorem p_M_loads_0 {S : rz_S} {K : Int32 → rz_S → Prop} (w : rz_ev mM_readBlock [.ref 116, .int 7, .int 0, .ref 123, .int 0] S (rz_i (fun xq1 Sq1 => K xq1 Sq1))) : rz mM_loads 0 [(0, .ref 116)] [] S (rz_i K) := by
  refine rz_pure (pc' := 1) d_M_loads_0 rfl ?_
  refine rz_bipush (v := 7) d_M_loads_1 (by decide) ?_
  refine rz_iconst (v := 0) d_M_loads_3 (by decide) ?_
  refine rz_pure (pc' := 5) d_M_loads_4 rfl ?_
  refine rz_getr d_M_loads_5 f_12_145 rfl rfl ?_
  refine rz_iconst (v := 0) d_M_loads_8 (by decide) ?_
  refine rz_callVi (t := [.int 0, .ref 123, .int 0, .int 7]) d_M_loads_9 w_12_148 rfl rfl rfl w (fun xq1 Sq1 q1 => ?_)
  exact rz_ireti d_M_loads_12 rfl rfl q1
theorem d_M_stores_0 : decode (rm_code mM_stores) 0 = .ok (.aload_n 0, 1) := by decide +kernel
theorem d_M_stores_1 : decode (rm_code mM_stores) 1 = .ok (.bipush (7), 2) := by decide +kernel
theorem d_M_stores_3 : decode (rm_code mM_stores) 3 = .ok (.iconst 0, 1) := by decide +kernel
theorem d_M_stores_4 : decode (rm_code mM_stores) 4 = .ok (.aload_n 0, 1) := by decide +kernel
theorem d_M_stores_5 : decode (rm_code mM_stores) 5 = .ok (.getfield 145, 3) := by decide +kernel
theorem d_M_stores_8 : decode (rm_code mM_stores) 8 = .ok (.iconst 0, 1) := by decide +kernel
theorem d_M_stores_9 : decode (rm_code mM_stores) 9 = .ok (.invokevirtual 152, 3) := by decide +kernel
theorem d_M_stores_12 : decode (rm_code mM_stores) 12 = .ok (.ireturn, 1) := by decide +kernel
theorem p_M_stores_0 {S : rz_S} {K : Int32 → rz_S → Prop} (w : rz_ev mM_writeBlock [.ref 116, .int 7, .int 0, .ref 123, .int 0] S (rz_i (fun xq1 Sq1 => K xq1 Sq1))) : rz mM_stores 0 [(0, .ref 116)] [] S (rz_i K) := by
  refine rz_pure (pc' := 1) d_M_stores_0 rfl ?_
  refine rz_bipush (v := 7) d_M_stores_1 (by decide) ?_
  refine rz_iconst (v := 0) d_M_stores_3 (by decide) ?_
  refine rz_pure (pc' := 5) d_M_stores_4 rfl ?_
  refine rz_getr d_M_stores_5 f_12_145 rfl rfl ?_
  refine rz_iconst (v := 0) d_M_stores_8 (by decide) ?_
  refine rz_callVi (t := [.int 0, .ref 123, .int 0, .int 7]) d_M_stores_9 w_12_152 rfl rfl rfl w (fun xq1 Sq1 q1 => ?_)
  exact rz_ireti d_M_stores_12 rfl rfl q1
theorem d_M_isFree_0 : decode (rm_code mM_isFree) 0 = .ok (.aload_n 0, 1) := by decide +kernel
theorem d_M_isFree_1 : decode (rm_code mM_isFree) 1 = .ok (.getfield 145, 3) := by decide +kernel
theorem d_M_isFree_4 : decode (rm_code mM_isFree) 4 = .ok (.iconst 3, 1) := by decide +kernel
theorem d_M_isFree_5 : decode (rm_code mM_isFree) 5 = .ok (.iconst 2, 1) := by decide +kernel
theorem d_M_isFree_6 : decode (rm_code mM_isFree) 6 = .ok (.iload_n 1, 1) := by decide +kernel
theorem d_M_isFree_7 : decode (rm_code mM_isFree) 7 = .ok (.imul, 1) := by decide +kernel
theorem d_M_isFree_8 : decode (rm_code mM_isFree) 8 = .ok (.iadd, 1) := by decide +kernel
theorem d_M_isFree_9 : decode (rm_code mM_isFree) 9 = .ok (.iaload, 1) := by decide +kernel
theorem d_M_isFree_10 : decode (rm_code mM_isFree) 10 = .ok (.iload_n 2, 1) := by decide +kernel
theorem d_M_isFree_11 : decode (rm_code mM_isFree) 11 = .ok (.ishr, 1) := by decide +kernel
theorem d_M_isFree_12 : decode (rm_code mM_isFree) 12 = .ok (.iconst 1, 1) := by decide +kernel
theorem d_M_isFree_13 : decode (rm_code mM_isFree) 13 = .ok (.iand, 1) := by decide +kernel
theorem d_M_isFree_14 : decode (rm_code mM_isFree) 14 = .ok (.iconst 1, 1) := by decide +kernel
theorem d_M_isFree_15 : decode (rm_code mM_isFree) 15 = .ok (.if_icmp .ne (7), 3) := by decide +kernel
theorem d_M_isFree_18 : decode (rm_code mM_isFree) 18 = .ok (.iconst 1, 1) := by decide +kernel
theorem d_M_isFree_19 : decode (rm_code mM_isFree) 19 = .ok (.goto (4), 3) := by decide +kernel
theorem d_M_isFree_22 : decode (rm_code mM_isFree) 22 = .ok (.iconst 0, 1) := by decide +kernel
theorem d_M_isFree_23 : decode (rm_code mM_isFree) 23 = .ok (.ireturn, 1) := by decide +kernel
theorem p_M_isFree_0 {S : rz_S} {K : Int32 → rz_S → Prop} {a1 : Int32} {a2 : Int32} (w : rx_in (3 + (2 * a1)) 64 = true ∧ ((((S.1 123 ((3 + (2 * a1)).toNatClampNeg)) >>> (a2 &&& 31)) &&& 1 = 1 → K 1 S) ∧ (¬ ((S.1 123 ((3 + (2 * a1)).toNatClampNeg)) >>> (a2 &&& 31)) &&& 1 = 1 → K 0 S))) : rz mM_isFree 0 [(0, .ref 116), (1, .int a1), (2, .int a2)] [] S (rz_i K) := by
  refine rz_pure (pc' := 1) d_M_isFree_0 rfl ?_
  refine rz_getr d_M_isFree_1 f_12_145 rfl rfl ?_
  refine rz_iconst (v := 3) d_M_isFree_4 (by decide) ?_
  refine rz_iconst (v := 2) d_M_isFree_5 (by decide) ?_
  refine rz_pure (pc' := 7) d_M_isFree_6 rfl ?_
  refine rz_imul d_M_isFree_7 ?_
  refine rz_iadd d_M_isFree_8 ?_
  refine rz_ialdv (F := S.1 123) (i := (3 + (2 * a1)).toNatClampNeg) d_M_isFree_9 rfl w.1 rfl rfl ?_
  refine rz_pure (pc' := 11) d_M_isFree_10 rfl ?_
  refine rz_ishr d_M_isFree_11 ?_
  refine rz_iconst (v := 1) d_M_isFree_12 (by decide) ?_
  refine rz_iand d_M_isFree_13 ?_
  refine rz_iconst (v := 1) d_M_isFree_14 (by decide) ?_
  refine rz_icmpne (tgt := 22) d_M_isFree_15 rfl (fun b1 => ?_) (fun b1 => ?_)
  · skip
    refine rz_iconst (v := 0) d_M_isFree_22 (by decide) ?_
    exact rz_ireti d_M_isFree_23 rfl (by decide) (w.2.2 b1)
  · skip
    refine rz_iconst (v := 1) d_M_isFree_18 (by decide) ?_
    refine rz_pure (pc' := 23) d_M_isFree_19 rfl ?_
    exact rz_ireti d_M_isFree_23 rfl (by decide) (w.2.1 b1)
theorem d_M_takes_0 : decode (rm_code mM_takes) 0 = .ok (.aload_n 0, 1) := by decide +kernel
theorem d_M_takes_1 : decode (rm_code mM_takes) 1 = .ok (.getfield 145, 3) := by decide +kernel
theorem d_M_takes_4 : decode (rm_code mM_takes) 4 = .ok (.iconst 3, 1) := by decide +kernel
theorem d_M_takes_5 : decode (rm_code mM_takes) 5 = .ok (.iconst 2, 1) := by decide +kernel
theorem d_M_takes_6 : decode (rm_code mM_takes) 6 = .ok (.iload_n 1, 1) := by decide +kernel
theorem d_M_takes_7 : decode (rm_code mM_takes) 7 = .ok (.imul, 1) := by decide +kernel
theorem d_M_takes_8 : decode (rm_code mM_takes) 8 = .ok (.iadd, 1) := by decide +kernel
theorem d_M_takes_9 : decode (rm_code mM_takes) 9 = .ok (.aload_n 0, 1) := by decide +kernel
theorem d_M_takes_10 : decode (rm_code mM_takes) 10 = .ok (.getfield 145, 3) := by decide +kernel
theorem d_M_takes_13 : decode (rm_code mM_takes) 13 = .ok (.iconst 3, 1) := by decide +kernel
theorem d_M_takes_14 : decode (rm_code mM_takes) 14 = .ok (.iconst 2, 1) := by decide +kernel
theorem d_M_takes_15 : decode (rm_code mM_takes) 15 = .ok (.iload_n 1, 1) := by decide +kernel
theorem d_M_takes_16 : decode (rm_code mM_takes) 16 = .ok (.imul, 1) := by decide +kernel
theorem d_M_takes_17 : decode (rm_code mM_takes) 17 = .ok (.iadd, 1) := by decide +kernel
theorem d_M_takes_18 : decode (rm_code mM_takes) 18 = .ok (.iaload, 1) := by decide +kernel
theorem d_M_takes_19 : decode (rm_code mM_takes) 19 = .ok (.iconst 1, 1) := by decide +kernel
theorem d_M_takes_20 : decode (rm_code mM_takes) 20 = .ok (.iload_n 2, 1) := by decide +kernel
theorem d_M_takes_21 : decode (rm_code mM_takes) 21 = .ok (.ishl, 1) := by decide +kernel
theorem d_M_takes_22 : decode (rm_code mM_takes) 22 = .ok (.iconst (-1), 1) := by decide +kernel
theorem d_M_takes_23 : decode (rm_code mM_takes) 23 = .ok (.ixor, 1) := by decide +kernel
theorem d_M_takes_24 : decode (rm_code mM_takes) 24 = .ok (.iand, 1) := by decide +kernel
theorem d_M_takes_25 : decode (rm_code mM_takes) 25 = .ok (.iastore, 1) := by decide +kernel
theorem d_M_takes_26 : decode (rm_code mM_takes) 26 = .ok (.aload_n 0, 1) := by decide +kernel
theorem d_M_takes_27 : decode (rm_code mM_takes) 27 = .ok (.getfield 145, 3) := by decide +kernel
theorem d_M_takes_30 : decode (rm_code mM_takes) 30 = .ok (.iconst 2, 1) := by decide +kernel
theorem d_M_takes_31 : decode (rm_code mM_takes) 31 = .ok (.iconst 2, 1) := by decide +kernel
theorem d_M_takes_32 : decode (rm_code mM_takes) 32 = .ok (.iload_n 1, 1) := by decide +kernel
theorem d_M_takes_33 : decode (rm_code mM_takes) 33 = .ok (.imul, 1) := by decide +kernel
theorem d_M_takes_34 : decode (rm_code mM_takes) 34 = .ok (.iadd, 1) := by decide +kernel
theorem d_M_takes_35 : decode (rm_code mM_takes) 35 = .ok (.aload_n 0, 1) := by decide +kernel
theorem d_M_takes_36 : decode (rm_code mM_takes) 36 = .ok (.getfield 145, 3) := by decide +kernel
theorem d_M_takes_39 : decode (rm_code mM_takes) 39 = .ok (.iconst 2, 1) := by decide +kernel
theorem d_M_takes_40 : decode (rm_code mM_takes) 40 = .ok (.iconst 2, 1) := by decide +kernel
theorem d_M_takes_41 : decode (rm_code mM_takes) 41 = .ok (.iload_n 1, 1) := by decide +kernel
theorem d_M_takes_42 : decode (rm_code mM_takes) 42 = .ok (.imul, 1) := by decide +kernel
theorem d_M_takes_43 : decode (rm_code mM_takes) 43 = .ok (.iadd, 1) := by decide +kernel
theorem d_M_takes_44 : decode (rm_code mM_takes) 44 = .ok (.iaload, 1) := by decide +kernel
theorem d_M_takes_45 : decode (rm_code mM_takes) 45 = .ok (.iconst 1, 1) := by decide +kernel
theorem d_M_takes_46 : decode (rm_code mM_takes) 46 = .ok (.isub, 1) := by decide +kernel
theorem d_M_takes_47 : decode (rm_code mM_takes) 47 = .ok (.sipush (255), 3) := by decide +kernel
theorem d_M_takes_50 : decode (rm_code mM_takes) 50 = .ok (.iand, 1) := by decide +kernel
theorem d_M_takes_51 : decode (rm_code mM_takes) 51 = .ok (.iastore, 1) := by decide +kernel
theorem d_M_takes_52 : decode (rm_code mM_takes) 52 = .ok (.aload_n 0, 1) := by decide +kernel
theorem d_M_takes_53 : decode (rm_code mM_takes) 53 = .ok (.iload_n 1, 1) := by decide +kernel
theorem d_M_takes_54 : decode (rm_code mM_takes) 54 = .ok (.putfield 155, 3) := by decide +kernel
theorem d_M_takes_57 : decode (rm_code mM_takes) 57 = .ok (.aload_n 0, 1) := by decide +kernel
theorem d_M_takes_58 : decode (rm_code mM_takes) 58 = .ok (.iload_n 2, 1) := by decide +kernel
theorem d_M_takes_59 : decode (rm_code mM_takes) 59 = .ok (.putfield 158, 3) := by decide +kernel
theorem d_M_takes_62 : decode (rm_code mM_takes) 62 = .ok (.return_, 1) := by decide +kernel
theorem p_M_takes_0 {S : rz_S} {K : rz_S → Prop} {a1 : Int32} {a2 : Int32} (w : rx_in (3 + (2 * a1)) 64 = true ∧ rx_in (2 + (2 * a1)) 64 = true ∧ K (rz_uI (rz_uI (rz_fA (rz_fA S 123 (upd (S.1 123) ((3 + (2 * a1)).toNatClampNeg) ((S.1 123 ((3 + (2 * a1)).toNatClampNeg)) &&& ((1 <<< (a2 &&& 31)) ^^^ (-1))))) 123 (upd (upd (S.1 123) ((3 + (2 * a1)).toNatClampNeg) ((S.1 123 ((3 + (2 * a1)).toNatClampNeg)) &&& ((1 <<< (a2 &&& 31)) ^^^ (-1)))) ((2 + (2 * a1)).toNatClampNeg) ((((upd (S.1 123) ((3 + (2 * a1)).toNatClampNeg) ((S.1 123 ((3 + (2 * a1)).toNatClampNeg)) &&& ((1 <<< (a2 &&& 31)) ^^^ (-1)))) ((2 + (2 * a1)).toNatClampNeg)) - 1) &&& 255))) 116 25 a1) 116 26 a2)) : rz mM_takes 0 [(0, .ref 116), (1, .int a1), (2, .int a2)] [] S (rz_v K) := by
  refine rz_pure (pc' := 1) d_M_takes_0 rfl ?_
  refine rz_getr d_M_takes_1 f_12_145 rfl rfl ?_
  refine rz_iconst (v := 3) d_M_takes_4 (by decide) ?_
  refine rz_iconst (v := 2) d_M_takes_5 (by decide) ?_
  refine rz_pure (pc' := 7) d_M_takes_6 rfl ?_
  refine rz_imul d_M_takes_7 ?_
  refine rz_iadd d_M_takes_8 ?_
  refine rz_pure (pc' := 10) d_M_takes_9 rfl ?_
  refine rz_getr d_M_takes_10 f_12_145 rfl rfl ?_
  refine rz_iconst (v := 3) d_M_takes_13 (by decide) ?_
  refine rz_iconst (v := 2) d_M_takes_14 (by decide) ?_
  refine rz_pure (pc' := 16) d_M_takes_15 rfl ?_
  refine rz_imul d_M_takes_16 ?_
  refine rz_iadd d_M_takes_17 ?_
  refine rz_ialdv (F := S.1 123) (i := (3 + (2 * a1)).toNatClampNeg) d_M_takes_18 rfl w.1 rfl rfl ?_
  refine rz_iconst (v := 1) d_M_takes_19 (by decide) ?_
  refine rz_pure (pc' := 21) d_M_takes_20 rfl ?_
  refine rz_ishl d_M_takes_21 ?_
  refine rz_iconst (v := -1) d_M_takes_22 (by decide) ?_
  refine rz_ixor d_M_takes_23 ?_
  refine rz_iand d_M_takes_24 ?_
  refine rz_iastv (F := S.1 123) (i := (3 + (2 * a1)).toNatClampNeg) d_M_takes_25 rfl w.1 rfl rfl ?_
  refine rz_pure (pc' := 27) d_M_takes_26 rfl ?_
  refine rz_getr d_M_takes_27 f_12_145 rfl rfl ?_
  refine rz_iconst (v := 2) d_M_takes_30 (by decide) ?_
  refine rz_iconst (v := 2) d_M_takes_31 (by decide) ?_
  refine rz_pure (pc' := 33) d_M_takes_32 rfl ?_
  refine rz_imul d_M_takes_33 ?_
  refine rz_iadd d_M_takes_34 ?_
  refine rz_pure (pc' := 36) d_M_takes_35 rfl ?_
  refine rz_getr d_M_takes_36 f_12_145 rfl rfl ?_
  refine rz_iconst (v := 2) d_M_takes_39 (by decide) ?_
  refine rz_iconst (v := 2) d_M_takes_40 (by decide) ?_
  refine rz_pure (pc' := 42) d_M_takes_41 rfl ?_
  refine rz_imul d_M_takes_42 ?_
  refine rz_iadd d_M_takes_43 ?_
  refine rz_ialdv (F := upd (S.1 123) ((3 + (2 * a1)).toNatClampNeg) ((S.1 123 ((3 + (2 * a1)).toNatClampNeg)) &&& ((1 <<< (a2 &&& 31)) ^^^ (-1)))) (i := (2 + (2 * a1)).toNatClampNeg) d_M_takes_44 rfl w.2.1 rz_fA_s rfl ?_
  refine rz_iconst (v := 1) d_M_takes_45 (by decide) ?_
  refine rz_isub d_M_takes_46 ?_
  refine rz_sipush (v := 255) d_M_takes_47 (by decide) ?_
  refine rz_iand d_M_takes_50 ?_
  refine rz_iastv (F := upd (S.1 123) ((3 + (2 * a1)).toNatClampNeg) ((S.1 123 ((3 + (2 * a1)).toNatClampNeg)) &&& ((1 <<< (a2 &&& 31)) ^^^ (-1)))) (i := (2 + (2 * a1)).toNatClampNeg) d_M_takes_51 rfl w.2.1 rz_fA_s rfl ?_
  refine rz_pure (pc' := 53) d_M_takes_52 rfl ?_
  refine rz_pure (pc' := 54) d_M_takes_53 rfl ?_
  refine rz_puti d_M_takes_54 f_12_155 rfl rfl rfl ?_
  refine rz_pure (pc' := 58) d_M_takes_57 rfl ?_
  refine rz_pure (pc' := 59) d_M_takes_58 rfl ?_
  refine rz_puti d_M_takes_59 f_12_158 rfl rfl rfl ?_
  exact rz_vretv d_M_takes_62 rfl w.2.2
theorem d_M_givesBack_0 : decode (rm_code mM_givesBack) 0 = .ok (.iload_n 1, 1) := by decide +kernel
theorem d_M_givesBack_1 : decode (rm_code mM_givesBack) 1 = .ok (.iload_n 2, 1) := by decide +kernel
theorem d_M_givesBack_2 : decode (rm_code mM_givesBack) 2 = .ok (.invokestatic 161, 3) := by decide +kernel
theorem d_M_givesBack_5 : decode (rm_code mM_givesBack) 5 = .ok (.ifCond .eq (12), 3) := by decide +kernel
theorem d_M_givesBack_8 : decode (rm_code mM_givesBack) 8 = .ok (.aload_n 0, 1) := by decide +kernel
theorem d_M_givesBack_9 : decode (rm_code mM_givesBack) 9 = .ok (.iload_n 1, 1) := by decide +kernel
theorem d_M_givesBack_10 : decode (rm_code mM_givesBack) 10 = .ok (.iload_n 2, 1) := by decide +kernel
theorem d_M_givesBack_11 : decode (rm_code mM_givesBack) 11 = .ok (.invokevirtual 165, 3) := by decide +kernel
theorem d_M_givesBack_14 : decode (rm_code mM_givesBack) 14 = .ok (.ifCond .eq (4), 3) := by decide +kernel
theorem d_M_givesBack_17 : decode (rm_code mM_givesBack) 17 = .ok (.return_, 1) := by decide +kernel
theorem d_M_givesBack_18 : decode (rm_code mM_givesBack) 18 = .ok (.aload_n 0, 1) := by decide +kernel
theorem d_M_givesBack_19 : decode (rm_code mM_givesBack) 19 = .ok (.getfield 145, 3) := by decide +kernel
theorem d_M_givesBack_22 : decode (rm_code mM_givesBack) 22 = .ok (.iconst 3, 1) := by decide +kernel
theorem d_M_givesBack_23 : decode (rm_code mM_givesBack) 23 = .ok (.iconst 2, 1) := by decide +kernel
theorem d_M_givesBack_24 : decode (rm_code mM_givesBack) 24 = .ok (.iload_n 1, 1) := by decide +kernel
theorem d_M_givesBack_25 : decode (rm_code mM_givesBack) 25 = .ok (.imul, 1) := by decide +kernel
theorem d_M_givesBack_26 : decode (rm_code mM_givesBack) 26 = .ok (.iadd, 1) := by decide +kernel
theorem d_M_givesBack_27 : decode (rm_code mM_givesBack) 27 = .ok (.aload_n 0, 1) := by decide +kernel
theorem d_M_givesBack_28 : decode (rm_code mM_givesBack) 28 = .ok (.getfield 145, 3) := by decide +kernel
theorem d_M_givesBack_31 : decode (rm_code mM_givesBack) 31 = .ok (.iconst 3, 1) := by decide +kernel
theorem d_M_givesBack_32 : decode (rm_code mM_givesBack) 32 = .ok (.iconst 2, 1) := by decide +kernel
theorem d_M_givesBack_33 : decode (rm_code mM_givesBack) 33 = .ok (.iload_n 1, 1) := by decide +kernel
theorem d_M_givesBack_34 : decode (rm_code mM_givesBack) 34 = .ok (.imul, 1) := by decide +kernel
theorem d_M_givesBack_35 : decode (rm_code mM_givesBack) 35 = .ok (.iadd, 1) := by decide +kernel
theorem d_M_givesBack_36 : decode (rm_code mM_givesBack) 36 = .ok (.iaload, 1) := by decide +kernel
theorem d_M_givesBack_37 : decode (rm_code mM_givesBack) 37 = .ok (.iconst 1, 1) := by decide +kernel
theorem d_M_givesBack_38 : decode (rm_code mM_givesBack) 38 = .ok (.iload_n 2, 1) := by decide +kernel
theorem d_M_givesBack_39 : decode (rm_code mM_givesBack) 39 = .ok (.ishl, 1) := by decide +kernel
theorem d_M_givesBack_40 : decode (rm_code mM_givesBack) 40 = .ok (.ior, 1) := by decide +kernel
theorem d_M_givesBack_41 : decode (rm_code mM_givesBack) 41 = .ok (.iastore, 1) := by decide +kernel
theorem d_M_givesBack_42 : decode (rm_code mM_givesBack) 42 = .ok (.aload_n 0, 1) := by decide +kernel
theorem d_M_givesBack_43 : decode (rm_code mM_givesBack) 43 = .ok (.getfield 145, 3) := by decide +kernel
theorem d_M_givesBack_46 : decode (rm_code mM_givesBack) 46 = .ok (.iconst 2, 1) := by decide +kernel
theorem d_M_givesBack_47 : decode (rm_code mM_givesBack) 47 = .ok (.iconst 2, 1) := by decide +kernel
theorem d_M_givesBack_48 : decode (rm_code mM_givesBack) 48 = .ok (.iload_n 1, 1) := by decide +kernel
theorem d_M_givesBack_49 : decode (rm_code mM_givesBack) 49 = .ok (.imul, 1) := by decide +kernel
theorem d_M_givesBack_50 : decode (rm_code mM_givesBack) 50 = .ok (.iadd, 1) := by decide +kernel
theorem d_M_givesBack_51 : decode (rm_code mM_givesBack) 51 = .ok (.aload_n 0, 1) := by decide +kernel
theorem d_M_givesBack_52 : decode (rm_code mM_givesBack) 52 = .ok (.getfield 145, 3) := by decide +kernel
theorem d_M_givesBack_55 : decode (rm_code mM_givesBack) 55 = .ok (.iconst 2, 1) := by decide +kernel
theorem d_M_givesBack_56 : decode (rm_code mM_givesBack) 56 = .ok (.iconst 2, 1) := by decide +kernel
theorem d_M_givesBack_57 : decode (rm_code mM_givesBack) 57 = .ok (.iload_n 1, 1) := by decide +kernel
theorem d_M_givesBack_58 : decode (rm_code mM_givesBack) 58 = .ok (.imul, 1) := by decide +kernel
theorem d_M_givesBack_59 : decode (rm_code mM_givesBack) 59 = .ok (.iadd, 1) := by decide +kernel
theorem d_M_givesBack_60 : decode (rm_code mM_givesBack) 60 = .ok (.iaload, 1) := by decide +kernel
theorem d_M_givesBack_61 : decode (rm_code mM_givesBack) 61 = .ok (.iconst 1, 1) := by decide +kernel
theorem d_M_givesBack_62 : decode (rm_code mM_givesBack) 62 = .ok (.iadd, 1) := by decide +kernel
theorem d_M_givesBack_63 : decode (rm_code mM_givesBack) 63 = .ok (.sipush (255), 3) := by decide +kernel
theorem d_M_givesBack_66 : decode (rm_code mM_givesBack) 66 = .ok (.iand, 1) := by decide +kernel
theorem d_M_givesBack_67 : decode (rm_code mM_givesBack) 67 = .ok (.iastore, 1) := by decide +kernel
theorem d_M_givesBack_68 : decode (rm_code mM_givesBack) 68 = .ok (.return_, 1) := by decide +kernel
theorem p_M_givesBack_0 {S : rz_S} {K : rz_S → Prop} {a1 : Int32} {a2 : Int32} (w : rz_ev mM_isLegal [.int a1, .int a2] S (rz_i (fun xq1 Sq1 => ((xq1 = 0 → K Sq1) ∧ (¬ xq1 = 0 → rz_ev mM_isFree [.ref 116, .int a1, .int a2] Sq1 (rz_i (fun xq3 Sq3 => ((xq3 = 0 → rx_in (3 + (2 * a1)) 64 = true ∧ rx_in (2 + (2 * a1)) 64 = true ∧ K (rz_fA (rz_fA Sq3 123 (upd (Sq3.1 123) ((3 + (2 * a1)).toNatClampNeg) ((Sq3.1 123 ((3 + (2 * a1)).toNatClampNeg)) ||| (1 <<< (a2 &&& 31))))) 123 (upd (upd (Sq3.1 123) ((3 + (2 * a1)).toNatClampNeg) ((Sq3.1 123 ((3 + (2 * a1)).toNatClampNeg)) ||| (1 <<< (a2 &&& 31)))) ((2 + (2 * a1)).toNatClampNeg) ((((upd (Sq3.1 123) ((3 + (2 * a1)).toNatClampNeg) ((Sq3.1 123 ((3 + (2 * a1)).toNatClampNeg)) ||| (1 <<< (a2 &&& 31)))) ((2 + (2 * a1)).toNatClampNeg)) + 1) &&& 255)))) ∧ (¬ xq3 = 0 → K Sq3))))))))) : rz mM_givesBack 0 [(0, .ref 116), (1, .int a1), (2, .int a2)] [] S (rz_v K) := by
  refine rz_pure (pc' := 1) d_M_givesBack_0 rfl ?_
  refine rz_pure (pc' := 2) d_M_givesBack_1 rfl ?_
  refine rz_callSi (t := [.int a2, .int a1]) d_M_givesBack_2 rfl w_12_161 rfl rfl w (fun xq1 Sq1 q1 => ?_)
  refine rz_ifeq (tgt := 17) d_M_givesBack_5 rfl (fun b2 => ?_) (fun b2 => ?_)
  · skip
    exact rz_vretv d_M_givesBack_17 rfl (q1.1 b2)
  · skip
    refine rz_pure (pc' := 9) d_M_givesBack_8 rfl ?_
    refine rz_pure (pc' := 10) d_M_givesBack_9 rfl ?_
    refine rz_pure (pc' := 11) d_M_givesBack_10 rfl ?_
    refine rz_callVi (t := [.int a2, .int a1]) d_M_givesBack_11 w_12_165 rfl rfl rfl (q1.2 b2) (fun xq3 Sq3 q3 => ?_)
    refine rz_ifeq (tgt := 18) d_M_givesBack_14 rfl (fun b4 => ?_) (fun b4 => ?_)
    · skip
      refine rz_pure (pc' := 19) d_M_givesBack_18 rfl ?_
      refine rz_getr d_M_givesBack_19 f_12_145 rfl rfl ?_
      refine rz_iconst (v := 3) d_M_givesBack_22 (by decide) ?_
      refine rz_iconst (v := 2) d_M_givesBack_23 (by decide) ?_
      refine rz_pure (pc' := 25) d_M_givesBack_24 rfl ?_
      refine rz_imul d_M_givesBack_25 ?_
      refine rz_iadd d_M_givesBack_26 ?_
      refine rz_pure (pc' := 28) d_M_givesBack_27 rfl ?_
      refine rz_getr d_M_givesBack_28 f_12_145 rfl rfl ?_
      refine rz_iconst (v := 3) d_M_givesBack_31 (by decide) ?_
      refine rz_iconst (v := 2) d_M_givesBack_32 (by decide) ?_
      refine rz_pure (pc' := 34) d_M_givesBack_33 rfl ?_
      refine rz_imul d_M_givesBack_34 ?_
      refine rz_iadd d_M_givesBack_35 ?_
      refine rz_ialdv (F := Sq3.1 123) (i := (3 + (2 * a1)).toNatClampNeg) d_M_givesBack_36 rfl (q3.1 b4).1 rfl rfl ?_
      refine rz_iconst (v := 1) d_M_givesBack_37 (by decide) ?_
      refine rz_pure (pc' := 39) d_M_givesBack_38 rfl ?_
      refine rz_ishl d_M_givesBack_39 ?_
      refine rz_ior d_M_givesBack_40 ?_
      refine rz_iastv (F := Sq3.1 123) (i := (3 + (2 * a1)).toNatClampNeg) d_M_givesBack_41 rfl (q3.1 b4).1 rfl rfl ?_
      refine rz_pure (pc' := 43) d_M_givesBack_42 rfl ?_
      refine rz_getr d_M_givesBack_43 f_12_145 rfl rfl ?_
      refine rz_iconst (v := 2) d_M_givesBack_46 (by decide) ?_
      refine rz_iconst (v := 2) d_M_givesBack_47 (by decide) ?_
      refine rz_pure (pc' := 49) d_M_givesBack_48 rfl ?_
      refine rz_imul d_M_givesBack_49 ?_
      refine rz_iadd d_M_givesBack_50 ?_
      refine rz_pure (pc' := 52) d_M_givesBack_51 rfl ?_
      refine rz_getr d_M_givesBack_52 f_12_145 rfl rfl ?_
      refine rz_iconst (v := 2) d_M_givesBack_55 (by decide) ?_
      refine rz_iconst (v := 2) d_M_givesBack_56 (by decide) ?_
      refine rz_pure (pc' := 58) d_M_givesBack_57 rfl ?_
      refine rz_imul d_M_givesBack_58 ?_
      refine rz_iadd d_M_givesBack_59 ?_
      refine rz_ialdv (F := upd (Sq3.1 123) ((3 + (2 * a1)).toNatClampNeg) ((Sq3.1 123 ((3 + (2 * a1)).toNatClampNeg)) ||| (1 <<< (a2 &&& 31)))) (i := (2 + (2 * a1)).toNatClampNeg) d_M_givesBack_60 rfl (q3.1 b4).2.1 rz_fA_s rfl ?_
      refine rz_iconst (v := 1) d_M_givesBack_61 (by decide) ?_
      refine rz_iadd d_M_givesBack_62 ?_
      refine rz_sipush (v := 255) d_M_givesBack_63 (by decide) ?_
      refine rz_iand d_M_givesBack_66 ?_
      refine rz_iastv (F := upd (Sq3.1 123) ((3 + (2 * a1)).toNatClampNeg) ((Sq3.1 123 ((3 + (2 * a1)).toNatClampNeg)) ||| (1 <<< (a2 &&& 31)))) (i := (2 + (2 * a1)).toNatClampNeg) d_M_givesBack_67 rfl (q3.1 b4).2.1 rz_fA_s rfl ?_
      exact rz_vretv d_M_givesBack_68 rfl (q3.1 b4).2.2
    · skip
      exact rz_vretv d_M_givesBack_17 rfl (q3.2 b4)
theorem d_M_lowest_0 : decode (rm_code mM_lowest) 0 = .ok (.iconst (-1), 1) := by decide +kernel
theorem d_M_lowest_1 : decode (rm_code mM_lowest) 1 = .ok (.istore_n 2, 1) := by decide +kernel
theorem d_M_lowest_2 : decode (rm_code mM_lowest) 2 = .ok (.aload_n 0, 1) := by decide +kernel
theorem d_M_lowest_3 : decode (rm_code mM_lowest) 3 = .ok (.getfield 145, 3) := by decide +kernel
theorem d_M_lowest_6 : decode (rm_code mM_lowest) 6 = .ok (.iconst 2, 1) := by decide +kernel
theorem d_M_lowest_7 : decode (rm_code mM_lowest) 7 = .ok (.iconst 2, 1) := by decide +kernel
theorem d_M_lowest_8 : decode (rm_code mM_lowest) 8 = .ok (.iload_n 1, 1) := by decide +kernel
theorem d_M_lowest_9 : decode (rm_code mM_lowest) 9 = .ok (.imul, 1) := by decide +kernel
theorem d_M_lowest_10 : decode (rm_code mM_lowest) 10 = .ok (.iadd, 1) := by decide +kernel
theorem d_M_lowest_11 : decode (rm_code mM_lowest) 11 = .ok (.iaload, 1) := by decide +kernel
theorem d_M_lowest_12 : decode (rm_code mM_lowest) 12 = .ok (.ifCond .eq (35), 3) := by decide +kernel
theorem d_M_lowest_15 : decode (rm_code mM_lowest) 15 = .ok (.iload_n 1, 1) := by decide +kernel
theorem d_M_lowest_16 : decode (rm_code mM_lowest) 16 = .ok (.invokestatic 1, 3) := by decide +kernel
theorem d_M_lowest_19 : decode (rm_code mM_lowest) 19 = .ok (.iconst 1, 1) := by decide +kernel
theorem d_M_lowest_20 : decode (rm_code mM_lowest) 20 = .ok (.isub, 1) := by decide +kernel
theorem d_M_lowest_21 : decode (rm_code mM_lowest) 21 = .ok (.istore_n 3, 1) := by decide +kernel
theorem d_M_lowest_22 : decode (rm_code mM_lowest) 22 = .ok (.iload_n 3, 1) := by decide +kernel
theorem d_M_lowest_23 : decode (rm_code mM_lowest) 23 = .ok (.ifCond .lt (24), 3) := by decide +kernel
theorem d_M_lowest_26 : decode (rm_code mM_lowest) 26 = .ok (.aload_n 0, 1) := by decide +kernel
theorem d_M_lowest_27 : decode (rm_code mM_lowest) 27 = .ok (.iload_n 1, 1) := by decide +kernel
theorem d_M_lowest_28 : decode (rm_code mM_lowest) 28 = .ok (.iload_n 3, 1) := by decide +kernel
theorem d_M_lowest_29 : decode (rm_code mM_lowest) 29 = .ok (.invokevirtual 165, 3) := by decide +kernel
theorem d_M_lowest_32 : decode (rm_code mM_lowest) 32 = .ok (.ifCond .eq (7), 3) := by decide +kernel
theorem d_M_lowest_35 : decode (rm_code mM_lowest) 35 = .ok (.iload_n 3, 1) := by decide +kernel
theorem d_M_lowest_36 : decode (rm_code mM_lowest) 36 = .ok (.goto (4), 3) := by decide +kernel
theorem d_M_lowest_39 : decode (rm_code mM_lowest) 39 = .ok (.iload_n 2, 1) := by decide +kernel
theorem d_M_lowest_40 : decode (rm_code mM_lowest) 40 = .ok (.istore_n 2, 1) := by decide +kernel
theorem d_M_lowest_41 : decode (rm_code mM_lowest) 41 = .ok (.iinc 3 (-1), 3) := by decide +kernel
theorem d_M_lowest_44 : decode (rm_code mM_lowest) 44 = .ok (.goto (-22), 3) := by decide +kernel
theorem d_M_lowest_47 : decode (rm_code mM_lowest) 47 = .ok (.iload_n 2, 1) := by decide +kernel
theorem d_M_lowest_48 : decode (rm_code mM_lowest) 48 = .ok (.ireturn, 1) := by decide +kernel
theorem p_M_lowest_0 {S : rz_S} {K : Int32 → rz_S → Prop} {a1 : Int32} (w : rx_in (2 + (2 * a1)) 64 = true ∧ ((S.1 123 ((2 + (2 * a1)).toNatClampNeg) = 0 → K (-1) S) ∧ (¬ S.1 123 ((2 + (2 * a1)).toNatClampNeg) = 0 → rz_ev mM_sectorsOf [.int a1] S (rz_i (fun xq2 Sq2 => rz mM_lowest 22 [(0, .ref 116), (1, .int a1), (2, .int (-1)), (3, .int (xq2 - 1))] [] Sq2 (rz_i K)))))) : rz mM_lowest 0 [(0, .ref 116), (1, .int a1)] [] S (rz_i K) := by
  refine rz_iconst (v := -1) d_M_lowest_0 (by decide) ?_
  refine rz_pure (pc' := 2) (l' := [(2, .int (-1)), (0, .ref 116), (1, .int a1)]) d_M_lowest_1 rfl ?_
  refine rz_pure (pc' := 3) d_M_lowest_2 rfl ?_
  refine rz_getr d_M_lowest_3 f_12_145 rfl rfl ?_
  refine rz_iconst (v := 2) d_M_lowest_6 (by decide) ?_
  refine rz_iconst (v := 2) d_M_lowest_7 (by decide) ?_
  refine rz_pure (pc' := 9) d_M_lowest_8 rfl ?_
  refine rz_imul d_M_lowest_9 ?_
  refine rz_iadd d_M_lowest_10 ?_
  refine rz_ialdv (F := S.1 123) (i := (2 + (2 * a1)).toNatClampNeg) d_M_lowest_11 rfl w.1 rfl rfl ?_
  refine rz_ifeq (tgt := 47) d_M_lowest_12 rfl (fun b1 => ?_) (fun b1 => ?_)
  · skip
    refine rz_pure (pc' := 48) d_M_lowest_47 rfl ?_
    exact rz_ireti d_M_lowest_48 rfl rfl (w.2.1 b1)
  · skip
    refine rz_pure (pc' := 16) d_M_lowest_15 rfl ?_
    refine rz_callSi (t := [.int a1]) d_M_lowest_16 rfl w_12_1 rfl rfl (w.2.2 b1) (fun xq2 Sq2 q2 => ?_)
    refine rz_iconst (v := 1) d_M_lowest_19 (by decide) ?_
    refine rz_isub d_M_lowest_20 ?_
    refine rz_pure (pc' := 22) (l' := [(3, .int (xq2 - 1)), (2, .int (-1)), (0, .ref 116), (1, .int a1)]) d_M_lowest_21 rfl ?_
    exact rz_pick (ks := [0, 1, 2, 3]) (l := [(0, .ref 116), (1, .int a1), (2, .int (-1)), (3, .int (xq2 - 1))]) rfl rfl (by decide) rfl q2
theorem p_M_lowest_22 {S : rz_S} {K : Int32 → rz_S → Prop} {a1 : Int32} {a2 : Int32} {a3 : Int32} (w : ((a3 < 0 → K a2 S) ∧ (¬ a3 < 0 → rz_ev mM_isFree [.ref 116, .int a1, .int a3] S (rz_i (fun xq2 Sq2 => ((xq2 = 0 → rz mM_lowest 22 [(0, .ref 116), (1, .int a1), (2, .int a2), (3, .int (a3 + (-1)))] [] Sq2 (rz_i K)) ∧ (¬ xq2 = 0 → rz mM_lowest 22 [(0, .ref 116), (1, .int a1), (2, .int a3), (3, .int (a3 + (-1)))] [] Sq2 (rz_i K)))))))) : rz mM_lowest 22 [(0, .ref 116), (1, .int a1), (2, .int a2), (3, .int a3)] [] S (rz_i K) := by
  refine rz_pure (pc' := 23) d_M_lowest_22 rfl ?_
  refine rz_iflt (tgt := 47) d_M_lowest_23 rfl (fun b1 => ?_) (fun b1 => ?_)
  · skip
    refine rz_pure (pc' := 48) d_M_lowest_47 rfl ?_
    exact rz_ireti d_M_lowest_48 rfl rfl (w.1 b1)
  · skip
    refine rz_pure (pc' := 27) d_M_lowest_26 rfl ?_
    refine rz_pure (pc' := 28) d_M_lowest_27 rfl ?_
    refine rz_pure (pc' := 29) d_M_lowest_28 rfl ?_
    refine rz_callVi (t := [.int a3, .int a1]) d_M_lowest_29 w_12_165 rfl rfl rfl (w.2 b1) (fun xq2 Sq2 q2 => ?_)
    refine rz_ifeq (tgt := 39) d_M_lowest_32 rfl (fun b3 => ?_) (fun b3 => ?_)
    · skip
      refine rz_pure (pc' := 40) d_M_lowest_39 rfl ?_
      refine rz_pure (pc' := 41) (l' := [(2, .int a2), (0, .ref 116), (1, .int a1), (3, .int a3)]) d_M_lowest_40 rfl ?_
      refine rz_pure (pc' := 44) (l' := [(3, .int (a3 + (-1))), (2, .int a2), (0, .ref 116), (1, .int a1)]) d_M_lowest_41 rfl ?_
      refine rz_pure (pc' := 22) d_M_lowest_44 rfl ?_
      exact rz_pick (ks := [0, 1, 2, 3]) (l := [(0, .ref 116), (1, .int a1), (2, .int a2), (3, .int (a3 + (-1)))]) rfl rfl (by decide) rfl (q2.1 b3)
    · skip
      refine rz_pure (pc' := 36) d_M_lowest_35 rfl ?_
      refine rz_pure (pc' := 40) d_M_lowest_36 rfl ?_
      refine rz_pure (pc' := 41) (l' := [(2, .int a3), (0, .ref 116), (1, .int a1), (3, .int a3)]) d_M_lowest_40 rfl ?_
      refine rz_pure (pc' := 44) (l' := [(3, .int (a3 + (-1))), (2, .int a3), (0, .ref 116), (1, .int a1)]) d_M_lowest_41 rfl ?_
      refine rz_pure (pc' := 22) d_M_lowest_44 rfl ?_
      exact rz_pick (ks := [0, 1, 2, 3]) (l := [(0, .ref 116), (1, .int a1), (2, .int a3), (3, .int (a3 + (-1)))]) rfl rfl (by decide) rfl (q2.2 b3)
