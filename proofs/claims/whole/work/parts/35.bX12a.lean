theorem dX12_undo_0 : decode mX12_undo.2.2.1 0 = .ok (.aload_n 0, 1) := by decide +kernel
theorem dX12_undo_1 : decode mX12_undo.2.2.1 1 = .ok (.getfield 66, 3) := by decide +kernel
theorem dX12_undo_4 : decode mX12_undo.2.2.1 4 = .ok (.ifCond .ne 6, 3) := by decide +kernel
theorem dX12_undo_7 : decode mX12_undo.2.2.1 7 = .ok (.bipush (-5), 2) := by decide +kernel
theorem dX12_undo_9 : decode mX12_undo.2.2.1 9 = .ok (.ireturn, 1) := by decide +kernel
theorem dX12_undo_10 : decode mX12_undo.2.2.1 10 = .ok (.aload_n 0, 1) := by decide +kernel
theorem dX12_undo_11 : decode mX12_undo.2.2.1 11 = .ok (.dup, 1) := by decide +kernel
theorem dX12_undo_12 : decode mX12_undo.2.2.1 12 = .ok (.getfield 66, 3) := by decide +kernel
theorem dX12_undo_15 : decode mX12_undo.2.2.1 15 = .ok (.iconst 1, 1) := by decide +kernel
theorem dX12_undo_16 : decode mX12_undo.2.2.1 16 = .ok (.isub, 1) := by decide +kernel
theorem dX12_undo_17 : decode mX12_undo.2.2.1 17 = .ok (.putfield 66, 3) := by decide +kernel
theorem dX12_undo_20 : decode mX12_undo.2.2.1 20 = .ok (.aload_n 0, 1) := by decide +kernel
theorem dX12_undo_21 : decode mX12_undo.2.2.1 21 = .ok (.getfield 9, 3) := by decide +kernel
theorem dX12_undo_24 : decode mX12_undo.2.2.1 24 = .ok (.aload_n 0, 1) := by decide +kernel
theorem dX12_undo_25 : decode mX12_undo.2.2.1 25 = .ok (.getfield 13, 3) := by decide +kernel
theorem dX12_undo_28 : decode mX12_undo.2.2.1 28 = .ok (.aload_n 0, 1) := by decide +kernel
theorem dX12_undo_29 : decode mX12_undo.2.2.1 29 = .ok (.getfield 66, 3) := by decide +kernel
theorem dX12_undo_32 : decode mX12_undo.2.2.1 32 = .ok (.iaload, 1) := by decide +kernel
theorem dX12_undo_33 : decode mX12_undo.2.2.1 33 = .ok (.aload_n 0, 1) := by decide +kernel
theorem dX12_undo_34 : decode mX12_undo.2.2.1 34 = .ok (.getfield 16, 3) := by decide +kernel
theorem dX12_undo_37 : decode mX12_undo.2.2.1 37 = .ok (.aload_n 0, 1) := by decide +kernel
theorem dX12_undo_38 : decode mX12_undo.2.2.1 38 = .ok (.getfield 66, 3) := by decide +kernel
theorem dX12_undo_41 : decode mX12_undo.2.2.1 41 = .ok (.iaload, 1) := by decide +kernel
theorem dX12_undo_42 : decode mX12_undo.2.2.1 42 = .ok (.iastore, 1) := by decide +kernel
theorem dX12_undo_43 : decode mX12_undo.2.2.1 43 = .ok (.aload_n 0, 1) := by decide +kernel
theorem dX12_undo_44 : decode mX12_undo.2.2.1 44 = .ok (.getfield 66, 3) := by decide +kernel
theorem dX12_undo_47 : decode mX12_undo.2.2.1 47 = .ok (.ireturn, 1) := by decide +kernel
set_option maxHeartbeats 100000 in
theorem kX12_undo_0 {d : Nat} {F : am_FT} {L : am_LT} {Q : am_QT} : wt am_S0 d mX12_undo 0 [some (.ref 45)] [] F L Q = if ¬ (F 45 5) = 0 then wt am_S0 d mX12_undo 10 [some (.ref 45)] [] F L Q else wt am_S0 d mX12_undo 7 [some (.ref 45)] [] F L Q := (wt_aload_n dX12_undo_0 rfl rfl).trans ((wt_getfield dX12_undo_1 rfl rfl (v := .int (F 45 5)) rfl).trans (wt_ifCond_ne dX12_undo_4 (t := 10) rfl))
set_option maxHeartbeats 100000 in
theorem kX12_undo_7 {d : Nat} {F : am_FT} {L : am_LT} {Q : am_QT} {l0 : Option Value} : wt am_S0 d mX12_undo 7 [l0] [] F L Q = Q (some (.int (-5))) F L := (wt_bipush dX12_undo_7 (v := (-5)) (by decide)).trans (wt_ireturn dX12_undo_9 rfl rfl)
set_option maxHeartbeats 100000 in
theorem kX12_undo_10 {d : Nat} {F : am_FT} {L : am_LT} {Q : am_QT} (h1 : am_oob ((F 45 5) - 1) 40 = false) : wt am_S0 d mX12_undo 10 [some (.ref 45)] [] F L Q = wt am_S0 d mX12_undo 38 [some (.ref 45)] [.ref 45, .ref 48, .int (F 47 (Int32.toNatClampNeg ((F 45 5) - 1))), .ref 46] (am_upF F 45 5 ((F 45 5) - 1)) L Q := (wt_aload_n dX12_undo_10 rfl rfl).trans ((wt_dup dX12_undo_11 rfl).trans ((wt_getfield dX12_undo_12 rfl rfl (v := .int (F 45 5)) rfl).trans ((wt_iconst dX12_undo_15 (v := 1) (by decide)).trans ((wt_isub dX12_undo_16).trans ((wt_putfield dX12_undo_17 rfl rfl ⟨rfl, rfl, rfl, rfl⟩).trans ((wt_aload_n dX12_undo_20 rfl rfl).trans ((wt_getfield dX12_undo_21 rfl rfl (v := .ref 46) rfl).trans ((wt_aload_n dX12_undo_24 rfl rfl).trans ((wt_getfield dX12_undo_25 rfl rfl (v := .ref 47) rfl).trans ((wt_aload_n dX12_undo_28 rfl rfl).trans ((wt_getfield dX12_undo_29 rfl rfl (v := .int ((F 45 5) - 1)) (F := am_upF F 45 5 ((F 45 5) - 1)) (p := 45) rfl).trans ((wt_iaload dX12_undo_32 rfl (by decide) h1).trans ((wt_aload_n dX12_undo_33 rfl rfl).trans ((wt_getfield dX12_undo_34 rfl rfl (v := .ref 48) rfl).trans (wt_aload_n dX12_undo_37 rfl rfl)))))))))))))))
set_option maxHeartbeats 100000 in
theorem kX12_undo_38 {d : Nat} {F : am_FT} {L : am_LT} {Q : am_QT} {s1 : Int32} (h1 : am_oob (F 45 5) 40 = false) (h2 : am_oob s1 60 = false) : wt am_S0 d mX12_undo 38 [some (.ref 45)] [.ref 45, .ref 48, .int s1, .ref 46] F L Q = Q (some (.int (F 45 5))) (am_upF F 46 (Int32.toNatClampNeg s1) (F 48 (Int32.toNatClampNeg (F 45 5)))) L := (wt_getfield dX12_undo_38 rfl rfl (v := .int (F 45 5)) rfl).trans ((wt_iaload dX12_undo_41 rfl (by decide) h1).trans ((wt_iastore dX12_undo_42 rfl h2).trans ((wt_aload_n dX12_undo_43 rfl rfl).trans ((wt_getfield dX12_undo_44 rfl rfl (v := .int (F 45 5)) (F := am_upF F 46 (Int32.toNatClampNeg s1) (F 48 (Int32.toNatClampNeg (F 45 5)))) (p := 45) rfl).trans (wt_ireturn dX12_undo_47 rfl rfl)))))
theorem dX12_redo_0 : decode mX12_redo.2.2.1 0 = .ok (.aload_n 0, 1) := by decide +kernel
theorem dX12_redo_1 : decode mX12_redo.2.2.1 1 = .ok (.getfield 66, 3) := by decide +kernel
theorem dX12_redo_4 : decode mX12_redo.2.2.1 4 = .ok (.aload_n 0, 1) := by decide +kernel
theorem dX12_redo_5 : decode mX12_redo.2.2.1 5 = .ok (.getfield 69, 3) := by decide +kernel
theorem dX12_redo_8 : decode mX12_redo.2.2.1 8 = .ok (.if_icmp .ne 6, 3) := by decide +kernel
theorem dX12_redo_11 : decode mX12_redo.2.2.1 11 = .ok (.bipush (-5), 2) := by decide +kernel
theorem dX12_redo_13 : decode mX12_redo.2.2.1 13 = .ok (.ireturn, 1) := by decide +kernel
theorem dX12_redo_14 : decode mX12_redo.2.2.1 14 = .ok (.aload_n 0, 1) := by decide +kernel
theorem dX12_redo_15 : decode mX12_redo.2.2.1 15 = .ok (.getfield 9, 3) := by decide +kernel
theorem dX12_redo_18 : decode mX12_redo.2.2.1 18 = .ok (.aload_n 0, 1) := by decide +kernel
theorem dX12_redo_19 : decode mX12_redo.2.2.1 19 = .ok (.getfield 13, 3) := by decide +kernel
theorem dX12_redo_22 : decode mX12_redo.2.2.1 22 = .ok (.aload_n 0, 1) := by decide +kernel
theorem dX12_redo_23 : decode mX12_redo.2.2.1 23 = .ok (.getfield 66, 3) := by decide +kernel
theorem dX12_redo_26 : decode mX12_redo.2.2.1 26 = .ok (.iaload, 1) := by decide +kernel
theorem dX12_redo_27 : decode mX12_redo.2.2.1 27 = .ok (.aload_n 0, 1) := by decide +kernel
theorem dX12_redo_28 : decode mX12_redo.2.2.1 28 = .ok (.getfield 19, 3) := by decide +kernel
theorem dX12_redo_31 : decode mX12_redo.2.2.1 31 = .ok (.aload_n 0, 1) := by decide +kernel
theorem dX12_redo_32 : decode mX12_redo.2.2.1 32 = .ok (.getfield 66, 3) := by decide +kernel
theorem dX12_redo_35 : decode mX12_redo.2.2.1 35 = .ok (.iaload, 1) := by decide +kernel
theorem dX12_redo_36 : decode mX12_redo.2.2.1 36 = .ok (.iastore, 1) := by decide +kernel
theorem dX12_redo_37 : decode mX12_redo.2.2.1 37 = .ok (.aload_n 0, 1) := by decide +kernel
theorem dX12_redo_38 : decode mX12_redo.2.2.1 38 = .ok (.dup, 1) := by decide +kernel
theorem dX12_redo_39 : decode mX12_redo.2.2.1 39 = .ok (.getfield 66, 3) := by decide +kernel
theorem dX12_redo_42 : decode mX12_redo.2.2.1 42 = .ok (.iconst 1, 1) := by decide +kernel
theorem dX12_redo_43 : decode mX12_redo.2.2.1 43 = .ok (.iadd, 1) := by decide +kernel
theorem dX12_redo_44 : decode mX12_redo.2.2.1 44 = .ok (.putfield 66, 3) := by decide +kernel
theorem dX12_redo_47 : decode mX12_redo.2.2.1 47 = .ok (.aload_n 0, 1) := by decide +kernel
theorem dX12_redo_48 : decode mX12_redo.2.2.1 48 = .ok (.getfield 69, 3) := by decide +kernel
theorem dX12_redo_51 : decode mX12_redo.2.2.1 51 = .ok (.aload_n 0, 1) := by decide +kernel
theorem dX12_redo_52 : decode mX12_redo.2.2.1 52 = .ok (.getfield 66, 3) := by decide +kernel
theorem dX12_redo_55 : decode mX12_redo.2.2.1 55 = .ok (.isub, 1) := by decide +kernel
theorem dX12_redo_56 : decode mX12_redo.2.2.1 56 = .ok (.ireturn, 1) := by decide +kernel
set_option maxHeartbeats 100000 in
theorem kX12_redo_0 {d : Nat} {F : am_FT} {L : am_LT} {Q : am_QT} : wt am_S0 d mX12_redo 0 [some (.ref 45)] [] F L Q = if ¬ (F 45 5) = (F 45 4) then wt am_S0 d mX12_redo 14 [some (.ref 45)] [] F L Q else wt am_S0 d mX12_redo 11 [some (.ref 45)] [] F L Q := (wt_aload_n dX12_redo_0 rfl rfl).trans ((wt_getfield dX12_redo_1 rfl rfl (v := .int (F 45 5)) rfl).trans ((wt_aload_n dX12_redo_4 rfl rfl).trans ((wt_getfield dX12_redo_5 rfl rfl (v := .int (F 45 4)) rfl).trans (wt_if_icmp_ne dX12_redo_8 (t := 14) rfl))))
set_option maxHeartbeats 100000 in
theorem kX12_redo_11 {d : Nat} {F : am_FT} {L : am_LT} {Q : am_QT} {l0 : Option Value} : wt am_S0 d mX12_redo 11 [l0] [] F L Q = Q (some (.int (-5))) F L := (wt_bipush dX12_redo_11 (v := (-5)) (by decide)).trans (wt_ireturn dX12_redo_13 rfl rfl)
set_option maxHeartbeats 100000 in
theorem kX12_redo_14 {d : Nat} {F : am_FT} {L : am_LT} {Q : am_QT} (h1 : am_oob (F 45 5) 40 = false) (h2 : am_oob (F 47 (Int32.toNatClampNeg (F 45 5))) 60 = false) : wt am_S0 d mX12_redo 14 [some (.ref 45)] [] F L Q = wt am_S0 d mX12_redo 42 [some (.ref 45)] [.int (F 45 5), .ref 45] (am_upF F 46 (Int32.toNatClampNeg (F 47 (Int32.toNatClampNeg (F 45 5)))) (F 49 (Int32.toNatClampNeg (F 45 5)))) L Q := (wt_aload_n dX12_redo_14 rfl rfl).trans ((wt_getfield dX12_redo_15 rfl rfl (v := .ref 46) rfl).trans ((wt_aload_n dX12_redo_18 rfl rfl).trans ((wt_getfield dX12_redo_19 rfl rfl (v := .ref 47) rfl).trans ((wt_aload_n dX12_redo_22 rfl rfl).trans ((wt_getfield dX12_redo_23 rfl rfl (v := .int (F 45 5)) rfl).trans ((wt_iaload dX12_redo_26 rfl (by decide) h1).trans ((wt_aload_n dX12_redo_27 rfl rfl).trans ((wt_getfield dX12_redo_28 rfl rfl (v := .ref 49) rfl).trans ((wt_aload_n dX12_redo_31 rfl rfl).trans ((wt_getfield dX12_redo_32 rfl rfl (v := .int (F 45 5)) rfl).trans ((wt_iaload dX12_redo_35 rfl (by decide) h1).trans ((wt_iastore dX12_redo_36 rfl h2).trans ((wt_aload_n dX12_redo_37 rfl rfl).trans ((wt_dup dX12_redo_38 rfl).trans (wt_getfield dX12_redo_39 rfl rfl (v := .int (F 45 5)) (F := am_upF F 46 (Int32.toNatClampNeg (F 47 (Int32.toNatClampNeg (F 45 5)))) (F 49 (Int32.toNatClampNeg (F 45 5)))) (p := 45) rfl)))))))))))))))
set_option maxHeartbeats 100000 in
theorem kX12_redo_42 {d : Nat} {F : am_FT} {L : am_LT} {Q : am_QT} {s1 : Int32} : wt am_S0 d mX12_redo 42 [some (.ref 45)] [.int s1, .ref 45] F L Q = Q (some (.int ((F 45 4) - (s1 + 1)))) (am_upF F 45 5 (s1 + 1)) L := (wt_iconst dX12_redo_42 (v := 1) (by decide)).trans ((wt_iadd dX12_redo_43).trans ((wt_putfield dX12_redo_44 rfl rfl ⟨rfl, rfl, rfl, rfl⟩).trans ((wt_aload_n dX12_redo_47 rfl rfl).trans ((wt_getfield dX12_redo_48 rfl rfl (v := .int (F 45 4)) (F := am_upF F 45 5 (s1 + 1)) (p := 45) rfl).trans ((wt_aload_n dX12_redo_51 rfl rfl).trans ((wt_getfield dX12_redo_52 rfl rfl (v := .int (s1 + 1)) (F := am_upF F 45 5 (s1 + 1)) (p := 45) rfl).trans ((wt_isub dX12_redo_55).trans (wt_ireturn dX12_redo_56 rfl rfl))))))))
theorem dX12_tree_0 : decode mX12_tree.2.2.1 0 = .ok (.iload_n 1, 1) := by decide +kernel
theorem dX12_tree_1 : decode mX12_tree.2.2.1 1 = .ok (.i2l, 1) := by decide +kernel
theorem dX12_tree_2 : decode mX12_tree.2.2.1 2 = .ok (.invokestatic 93, 3) := by decide +kernel
theorem dX12_tree_5 : decode mX12_tree.2.2.1 5 = .ok (.ifCond .eq 15, 3) := by decide +kernel
theorem dX12_tree_8 : decode mX12_tree.2.2.1 8 = .ok (.iload_n 2, 1) := by decide +kernel
theorem dX12_tree_9 : decode mX12_tree.2.2.1 9 = .ok (.i2l, 1) := by decide +kernel
theorem dX12_tree_10 : decode mX12_tree.2.2.1 10 = .ok (.lconst 1, 1) := by decide +kernel
theorem dX12_tree_11 : decode mX12_tree.2.2.1 11 = .ok (.ldc2_w 96, 3) := by decide +kernel
theorem dX12_tree_14 : decode mX12_tree.2.2.1 14 = .ok (.invokestatic 75, 3) := by decide +kernel
theorem dX12_tree_17 : decode mX12_tree.2.2.1 17 = .ok (.ifCond .ne 5, 3) := by decide +kernel
theorem dX12_tree_20 : decode mX12_tree.2.2.1 20 = .ok (.iconst (-1), 1) := by decide +kernel
theorem dX12_tree_21 : decode mX12_tree.2.2.1 21 = .ok (.ireturn, 1) := by decide +kernel
theorem dX12_tree_22 : decode mX12_tree.2.2.1 22 = .ok (.aload_n 0, 1) := by decide +kernel
theorem dX12_tree_23 : decode mX12_tree.2.2.1 23 = .ok (.getfield 72, 3) := by decide +kernel
theorem dX12_tree_26 : decode mX12_tree.2.2.1 26 = .ok (.bipush 6, 2) := by decide +kernel
theorem dX12_tree_28 : decode mX12_tree.2.2.1 28 = .ok (.if_icmp .ne 6, 3) := by decide +kernel
theorem dX12_tree_31 : decode mX12_tree.2.2.1 31 = .ok (.bipush (-3), 2) := by decide +kernel
theorem dX12_tree_33 : decode mX12_tree.2.2.1 33 = .ok (.ireturn, 1) := by decide +kernel
theorem dX12_tree_34 : decode mX12_tree.2.2.1 34 = .ok (.aload_n 0, 1) := by decide +kernel
theorem dX12_tree_35 : decode mX12_tree.2.2.1 35 = .ok (.getfield 9, 3) := by decide +kernel
theorem dX12_tree_38 : decode mX12_tree.2.2.1 38 = .ok (.aload_n 0, 1) := by decide +kernel
theorem dX12_tree_39 : decode mX12_tree.2.2.1 39 = .ok (.getfield 72, 3) := by decide +kernel
theorem dX12_tree_42 : decode mX12_tree.2.2.1 42 = .ok (.iload_n 1, 1) := by decide +kernel
theorem dX12_tree_43 : decode mX12_tree.2.2.1 43 = .ok (.iastore, 1) := by decide +kernel
theorem dX12_tree_44 : decode mX12_tree.2.2.1 44 = .ok (.aload_n 0, 1) := by decide +kernel
theorem dX12_tree_45 : decode mX12_tree.2.2.1 45 = .ok (.getfield 9, 3) := by decide +kernel
theorem dX12_tree_48 : decode mX12_tree.2.2.1 48 = .ok (.bipush 6, 2) := by decide +kernel
theorem dX12_tree_50 : decode mX12_tree.2.2.1 50 = .ok (.aload_n 0, 1) := by decide +kernel
theorem dX12_tree_51 : decode mX12_tree.2.2.1 51 = .ok (.getfield 72, 3) := by decide +kernel
theorem dX12_tree_54 : decode mX12_tree.2.2.1 54 = .ok (.iadd, 1) := by decide +kernel
theorem dX12_tree_55 : decode mX12_tree.2.2.1 55 = .ok (.iload_n 2, 1) := by decide +kernel
theorem dX12_tree_56 : decode mX12_tree.2.2.1 56 = .ok (.iastore, 1) := by decide +kernel
theorem dX12_tree_57 : decode mX12_tree.2.2.1 57 = .ok (.aload_n 0, 1) := by decide +kernel
theorem dX12_tree_58 : decode mX12_tree.2.2.1 58 = .ok (.getfield 9, 3) := by decide +kernel
theorem dX12_tree_61 : decode mX12_tree.2.2.1 61 = .ok (.bipush 12, 2) := by decide +kernel
theorem dX12_tree_63 : decode mX12_tree.2.2.1 63 = .ok (.aload_n 0, 1) := by decide +kernel
theorem dX12_tree_64 : decode mX12_tree.2.2.1 64 = .ok (.getfield 72, 3) := by decide +kernel
theorem dX12_tree_67 : decode mX12_tree.2.2.1 67 = .ok (.iadd, 1) := by decide +kernel
theorem dX12_tree_68 : decode mX12_tree.2.2.1 68 = .ok (.iconst 1, 1) := by decide +kernel
theorem dX12_tree_69 : decode mX12_tree.2.2.1 69 = .ok (.iastore, 1) := by decide +kernel
theorem dX12_tree_70 : decode mX12_tree.2.2.1 70 = .ok (.aload_n 0, 1) := by decide +kernel
theorem dX12_tree_71 : decode mX12_tree.2.2.1 71 = .ok (.dup, 1) := by decide +kernel
theorem dX12_tree_72 : decode mX12_tree.2.2.1 72 = .ok (.getfield 98, 3) := by decide +kernel
theorem dX12_tree_75 : decode mX12_tree.2.2.1 75 = .ok (.iconst 1, 1) := by decide +kernel
theorem dX12_tree_76 : decode mX12_tree.2.2.1 76 = .ok (.aload_n 0, 1) := by decide +kernel
theorem dX12_tree_77 : decode mX12_tree.2.2.1 77 = .ok (.getfield 72, 3) := by decide +kernel
theorem dX12_tree_80 : decode mX12_tree.2.2.1 80 = .ok (.ishl, 1) := by decide +kernel
theorem dX12_tree_81 : decode mX12_tree.2.2.1 81 = .ok (.ior, 1) := by decide +kernel
theorem dX12_tree_82 : decode mX12_tree.2.2.1 82 = .ok (.putfield 98, 3) := by decide +kernel
theorem dX12_tree_85 : decode mX12_tree.2.2.1 85 = .ok (.aload_n 0, 1) := by decide +kernel
theorem dX12_tree_86 : decode mX12_tree.2.2.1 86 = .ok (.dup, 1) := by decide +kernel
theorem dX12_tree_87 : decode mX12_tree.2.2.1 87 = .ok (.getfield 72, 3) := by decide +kernel
theorem dX12_tree_90 : decode mX12_tree.2.2.1 90 = .ok (.iconst 1, 1) := by decide +kernel
theorem dX12_tree_91 : decode mX12_tree.2.2.1 91 = .ok (.iadd, 1) := by decide +kernel
theorem dX12_tree_92 : decode mX12_tree.2.2.1 92 = .ok (.putfield 72, 3) := by decide +kernel
theorem dX12_tree_95 : decode mX12_tree.2.2.1 95 = .ok (.aload_n 0, 1) := by decide +kernel
theorem dX12_tree_96 : decode mX12_tree.2.2.1 96 = .ok (.getfield 72, 3) := by decide +kernel
theorem dX12_tree_99 : decode mX12_tree.2.2.1 99 = .ok (.iconst 1, 1) := by decide +kernel
theorem dX12_tree_100 : decode mX12_tree.2.2.1 100 = .ok (.isub, 1) := by decide +kernel
theorem dX12_tree_101 : decode mX12_tree.2.2.1 101 = .ok (.ireturn, 1) := by decide +kernel
set_option maxHeartbeats 100000 in
theorem kX12_tree_0 {d : Nat} {F : am_FT} {L : am_LT} {Q : am_QT} {l0 l2 : Option Value} {x1 : Int32} : wt am_S0 (d + 1) mX12_tree 0 [l0, some (.int x1), l2] [] F L Q = wc am_S0 d mX12_isCell [.long (Int32.toInt64 x1)] F L (fun r G K => wt am_S0 (d + 1) mX12_tree 5 [l0, some (.int x1), l2] (r.toList ++ []) G K Q) := (wt_iload_n dX12_tree_0 rfl).trans ((wt_i2l dX12_tree_1).trans (wt_callS dX12_tree_2 rfl (as := [.long (Int32.toInt64 x1)]) (rest := []) rfl rfl (Nat.le_of_ble_eq_true rfl) (Nat.le_of_ble_eq_true rfl)))
set_option maxHeartbeats 100000 in
theorem kX12_tree_5 {d : Nat} {F : am_FT} {L : am_LT} {Q : am_QT} {l0 l1 l2 : Option Value} {s0 : Int32} : wt am_S0 d mX12_tree 5 [l0, l1, l2] [.int s0] F L Q = if s0 = 0 then wt am_S0 d mX12_tree 20 [l0, l1, l2] [] F L Q else wt am_S0 d mX12_tree 8 [l0, l1, l2] [] F L Q := wt_ifCond_eq dX12_tree_5 (t := 20) rfl
set_option maxHeartbeats 100000 in
theorem kX12_tree_8 {d : Nat} {F : am_FT} {L : am_LT} {Q : am_QT} {l0 l1 : Option Value} {x2 : Int32} : wt am_S0 (d + 1) mX12_tree 8 [l0, l1, some (.int x2)] [] F L Q = wc am_S0 d mX12_within [.long (Int32.toInt64 x2), .long 1, .long 9] F L (fun r G K => wt am_S0 (d + 1) mX12_tree 17 [l0, l1, some (.int x2)] (r.toList ++ []) G K Q) := (wt_iload_n dX12_tree_8 rfl).trans ((wt_i2l dX12_tree_9).trans ((wt_lconst dX12_tree_10 (v := 1) (by decide)).trans ((wt_ldc2_w dX12_tree_11 (v := 9) rfl).trans (wt_callS dX12_tree_14 rfl (as := [.long (Int32.toInt64 x2), .long 1, .long 9]) (rest := []) rfl rfl (Nat.le_of_ble_eq_true rfl) (Nat.le_of_ble_eq_true rfl)))))
set_option maxHeartbeats 100000 in
theorem kX12_tree_17 {d : Nat} {F : am_FT} {L : am_LT} {Q : am_QT} {l0 l1 l2 : Option Value} {s0 : Int32} : wt am_S0 d mX12_tree 17 [l0, l1, l2] [.int s0] F L Q = if ¬ s0 = 0 then wt am_S0 d mX12_tree 22 [l0, l1, l2] [] F L Q else wt am_S0 d mX12_tree 20 [l0, l1, l2] [] F L Q := wt_ifCond_ne dX12_tree_17 (t := 22) rfl
set_option maxHeartbeats 100000 in
theorem kX12_tree_20 {d : Nat} {F : am_FT} {L : am_LT} {Q : am_QT} {l0 l1 l2 : Option Value} : wt am_S0 d mX12_tree 20 [l0, l1, l2] [] F L Q = Q (some (.int (-1))) F L := (wt_iconst dX12_tree_20 (v := (-1)) (by decide)).trans (wt_ireturn dX12_tree_21 rfl rfl)
set_option maxHeartbeats 100000 in
theorem kX12_tree_22 {d : Nat} {F : am_FT} {L : am_LT} {Q : am_QT} {l1 l2 : Option Value} : wt am_S0 d mX12_tree 22 [some (.ref 45), l1, l2] [] F L Q = if ¬ (F 45 6) = 6 then wt am_S0 d mX12_tree 34 [some (.ref 45), l1, l2] [] F L Q else wt am_S0 d mX12_tree 31 [some (.ref 45), l1, l2] [] F L Q := (wt_aload_n dX12_tree_22 rfl rfl).trans ((wt_getfield dX12_tree_23 rfl rfl (v := .int (F 45 6)) rfl).trans ((wt_bipush dX12_tree_26 (v := 6) (by decide)).trans (wt_if_icmp_ne dX12_tree_28 (t := 34) rfl)))
set_option maxHeartbeats 100000 in
theorem kX12_tree_31 {d : Nat} {F : am_FT} {L : am_LT} {Q : am_QT} {l0 l1 l2 : Option Value} : wt am_S0 d mX12_tree 31 [l0, l1, l2] [] F L Q = Q (some (.int (-3))) F L := (wt_bipush dX12_tree_31 (v := (-3)) (by decide)).trans (wt_ireturn dX12_tree_33 rfl rfl)
set_option maxHeartbeats 100000 in
theorem kX12_tree_34 {d : Nat} {F : am_FT} {L : am_LT} {Q : am_QT} {x1 x2 : Int32} (h1 : am_oob (F 45 6) 60 = false) (h2 : am_oob (6 + (F 45 6)) 60 = false) : wt am_S0 d mX12_tree 34 [some (.ref 45), some (.int x1), some (.int x2)] [] F L Q = wt am_S0 d mX12_tree 61 [some (.ref 45), some (.int x1), some (.int x2)] [.ref 46] (am_upF (am_upF F 46 (Int32.toNatClampNeg (F 45 6)) x1) 46 (Int32.toNatClampNeg (6 + (F 45 6))) x2) L Q := (wt_aload_n dX12_tree_34 rfl rfl).trans ((wt_getfield dX12_tree_35 rfl rfl (v := .ref 46) rfl).trans ((wt_aload_n dX12_tree_38 rfl rfl).trans ((wt_getfield dX12_tree_39 rfl rfl (v := .int (F 45 6)) rfl).trans ((wt_iload_n dX12_tree_42 rfl).trans ((wt_iastore dX12_tree_43 rfl h1).trans ((wt_aload_n dX12_tree_44 rfl rfl).trans ((wt_getfield dX12_tree_45 rfl rfl (v := .ref 46) rfl).trans ((wt_bipush dX12_tree_48 (v := 6) (by decide)).trans ((wt_aload_n dX12_tree_50 rfl rfl).trans ((wt_getfield dX12_tree_51 rfl rfl (v := .int (F 45 6)) (F := am_upF F 46 (Int32.toNatClampNeg (F 45 6)) x1) (p := 45) rfl).trans ((wt_iadd dX12_tree_54).trans ((wt_iload_n dX12_tree_55 rfl).trans ((wt_iastore dX12_tree_56 rfl h2).trans ((wt_aload_n dX12_tree_57 rfl rfl).trans (wt_getfield dX12_tree_58 rfl rfl (v := .ref 46) rfl)))))))))))))))
set_option maxHeartbeats 100000 in
theorem kX12_tree_61 {d : Nat} {F : am_FT} {L : am_LT} {Q : am_QT} {l1 l2 : Option Value} (h1 : am_oob (12 + (F 45 6)) 60 = false) : wt am_S0 d mX12_tree 61 [some (.ref 45), l1, l2] [.ref 46] F L Q = wt am_S0 d mX12_tree 86 [some (.ref 45), l1, l2] [.ref 45] (am_upF (am_upF F 46 (Int32.toNatClampNeg (12 + (F 45 6))) 1) 45 8 ((F 45 8) ||| ((1 : Int32) <<< ((F 45 6) &&& 31)))) L Q := (wt_bipush dX12_tree_61 (v := 12) (by decide)).trans ((wt_aload_n dX12_tree_63 rfl rfl).trans ((wt_getfield dX12_tree_64 rfl rfl (v := .int (F 45 6)) rfl).trans ((wt_iadd dX12_tree_67).trans ((wt_iconst dX12_tree_68 (v := 1) (by decide)).trans ((wt_iastore dX12_tree_69 rfl h1).trans ((wt_aload_n dX12_tree_70 rfl rfl).trans ((wt_dup dX12_tree_71 rfl).trans ((wt_getfield dX12_tree_72 rfl rfl (v := .int (F 45 8)) (F := am_upF F 46 (Int32.toNatClampNeg (12 + (F 45 6))) 1) (p := 45) rfl).trans ((wt_iconst dX12_tree_75 (v := 1) (by decide)).trans ((wt_aload_n dX12_tree_76 rfl rfl).trans ((wt_getfield dX12_tree_77 rfl rfl (v := .int (F 45 6)) (F := am_upF F 46 (Int32.toNatClampNeg (12 + (F 45 6))) 1) (p := 45) rfl).trans ((wt_ishl dX12_tree_80).trans ((wt_ior dX12_tree_81).trans ((wt_putfield dX12_tree_82 rfl rfl ⟨rfl, rfl, rfl, rfl⟩).trans (wt_aload_n dX12_tree_85 rfl rfl)))))))))))))))
set_option maxHeartbeats 100000 in
theorem kX12_tree_86 {d : Nat} {F : am_FT} {L : am_LT} {Q : am_QT} {l1 l2 : Option Value} : wt am_S0 d mX12_tree 86 [some (.ref 45), l1, l2] [.ref 45] F L Q = Q (some (.int (((F 45 6) + 1) - 1))) (am_upF F 45 6 ((F 45 6) + 1)) L := (wt_dup dX12_tree_86 rfl).trans ((wt_getfield dX12_tree_87 rfl rfl (v := .int (F 45 6)) rfl).trans ((wt_iconst dX12_tree_90 (v := 1) (by decide)).trans ((wt_iadd dX12_tree_91).trans ((wt_putfield dX12_tree_92 rfl rfl ⟨rfl, rfl, rfl, rfl⟩).trans ((wt_aload_n dX12_tree_95 rfl rfl).trans ((wt_getfield dX12_tree_96 rfl rfl (v := .int ((F 45 6) + 1)) (F := am_upF F 45 6 ((F 45 6) + 1)) (p := 45) rfl).trans ((wt_iconst dX12_tree_99 (v := 1) (by decide)).trans ((wt_isub dX12_tree_100).trans (wt_ireturn dX12_tree_101 rfl rfl)))))))))
theorem dX12_isCell_0 : decode mX12_isCell.2.2.1 0 = .ok (.lload_n 0, 1) := by decide +kernel
theorem dX12_isCell_1 : decode mX12_isCell.2.2.1 1 = .ok (.lconst 0, 1) := by decide +kernel
theorem dX12_isCell_2 : decode mX12_isCell.2.2.1 2 = .ok (.ldc2_w 82, 3) := by decide +kernel
theorem dX12_isCell_5 : decode mX12_isCell.2.2.1 5 = .ok (.invokestatic 75, 3) := by decide +kernel
theorem dX12_isCell_8 : decode mX12_isCell.2.2.1 8 = .ok (.ireturn, 1) := by decide +kernel
set_option maxHeartbeats 100000 in
theorem kX12_isCell_0 {d : Nat} {F : am_FT} {L : am_LT} {Q : am_QT} {l1 : Option Value} {x0 : Int64} : wt am_S0 (d + 1) mX12_isCell 0 [some (.long x0), l1] [] F L Q = wc am_S0 d mX12_within [.long x0, .long 0, .long 255] F L (fun r G K => wt am_S0 (d + 1) mX12_isCell 8 [some (.long x0), l1] (r.toList ++ []) G K Q) := (wt_lload_n dX12_isCell_0 rfl).trans ((wt_lconst dX12_isCell_1 (v := 0) (by decide)).trans ((wt_ldc2_w dX12_isCell_2 (v := 255) rfl).trans (wt_callS dX12_isCell_5 rfl (as := [.long x0, .long 0, .long 255]) (rest := []) rfl rfl (Nat.le_of_ble_eq_true rfl) (Nat.le_of_ble_eq_true rfl))))
set_option maxHeartbeats 100000 in
theorem kX12_isCell_8 {d : Nat} {F : am_FT} {L : am_LT} {Q : am_QT} {l0 l1 : Option Value} {s0 : Int32} (h1 : narrow .boolean (.int s0) = .int s0) : wt am_S0 d mX12_isCell 8 [l0, l1] [.int s0] F L Q = Q (some (.int s0)) F L := wt_ireturn dX12_isCell_8 rfl h1
theorem dX12_within_0 : decode mX12_within.2.2.1 0 = .ok (.lload_n 0, 1) := by decide +kernel
theorem dX12_within_1 : decode mX12_within.2.2.1 1 = .ok (.lload_n 2, 1) := by decide +kernel
theorem dX12_within_2 : decode mX12_within.2.2.1 2 = .ok (.lcmp, 1) := by decide +kernel
theorem dX12_within_3 : decode mX12_within.2.2.1 3 = .ok (.ifCond .lt 14, 3) := by decide +kernel
theorem dX12_within_6 : decode mX12_within.2.2.1 6 = .ok (.lload_n 0, 1) := by decide +kernel
theorem dX12_within_7 : decode mX12_within.2.2.1 7 = .ok (.lload 4, 2) := by decide +kernel
theorem dX12_within_9 : decode mX12_within.2.2.1 9 = .ok (.lcmp, 1) := by decide +kernel
theorem dX12_within_10 : decode mX12_within.2.2.1 10 = .ok (.ifCond .gt 7, 3) := by decide +kernel
theorem dX12_within_13 : decode mX12_within.2.2.1 13 = .ok (.iconst 1, 1) := by decide +kernel
theorem dX12_within_14 : decode mX12_within.2.2.1 14 = .ok (.goto 4, 3) := by decide +kernel
theorem dX12_within_17 : decode mX12_within.2.2.1 17 = .ok (.iconst 0, 1) := by decide +kernel
theorem dX12_within_18 : decode mX12_within.2.2.1 18 = .ok (.ireturn, 1) := by decide +kernel
set_option maxHeartbeats 100000 in
theorem kX12_within_0 {d : Nat} {F : am_FT} {L : am_LT} {Q : am_QT} {l1 l3 l4 l5 : Option Value} {x0 x2 : Int64} : wt am_S0 d mX12_within 0 [some (.long x0), l1, some (.long x2), l3, l4, l5] [] F L Q = if (lg_cmp x0 x2) < 0 then wt am_S0 d mX12_within 17 [some (.long x0), l1, some (.long x2), l3, l4, l5] [] F L Q else wt am_S0 d mX12_within 6 [some (.long x0), l1, some (.long x2), l3, l4, l5] [] F L Q := (wt_lload_n dX12_within_0 rfl).trans ((wt_lload_n dX12_within_1 rfl).trans ((wt_lcmp dX12_within_2).trans (wt_ifCond_lt dX12_within_3 (t := 17) rfl)))
set_option maxHeartbeats 100000 in
theorem kX12_within_6 {d : Nat} {F : am_FT} {L : am_LT} {Q : am_QT} {l1 l2 l3 l5 : Option Value} {x0 x4 : Int64} : wt am_S0 d mX12_within 6 [some (.long x0), l1, l2, l3, some (.long x4), l5] [] F L Q = if 0 < (lg_cmp x0 x4) then wt am_S0 d mX12_within 17 [some (.long x0), l1, l2, l3, some (.long x4), l5] [] F L Q else wt am_S0 d mX12_within 13 [some (.long x0), l1, l2, l3, some (.long x4), l5] [] F L Q := (wt_lload_n dX12_within_6 rfl).trans ((wt_lload dX12_within_7 rfl).trans ((wt_lcmp dX12_within_9).trans (wt_ifCond_gt dX12_within_10 (t := 17) rfl)))
set_option maxHeartbeats 100000 in
theorem kX12_within_13 {d : Nat} {F : am_FT} {L : am_LT} {Q : am_QT} {l0 l1 l2 l3 l4 l5 : Option Value} : wt am_S0 d mX12_within 13 [l0, l1, l2, l3, l4, l5] [] F L Q = wt am_S0 d mX12_within 18 [l0, l1, l2, l3, l4, l5] [.int 1] F L Q := (wt_iconst dX12_within_13 (v := 1) (by decide)).trans (wt_goto dX12_within_14 (t := 18) rfl)
set_option maxHeartbeats 100000 in
theorem kX12_within_17 {d : Nat} {F : am_FT} {L : am_LT} {Q : am_QT} {l0 l1 l2 l3 l4 l5 : Option Value} : wt am_S0 d mX12_within 17 [l0, l1, l2, l3, l4, l5] [] F L Q = wt am_S0 d mX12_within 18 [l0, l1, l2, l3, l4, l5] [.int 0] F L Q := wt_iconst dX12_within_17 (v := 0) (by decide)
set_option maxHeartbeats 100000 in
theorem kX12_within_18 {d : Nat} {F : am_FT} {L : am_LT} {Q : am_QT} {l0 l1 l2 l3 l4 l5 : Option Value} {s0 : Int32} (h1 : narrow .boolean (.int s0) = .int s0) : wt am_S0 d mX12_within 18 [l0, l1, l2, l3, l4, l5] [.int s0] F L Q = Q (some (.int s0)) F L := wt_ireturn dX12_within_18 rfl h1
theorem dX12_person_0 : decode mX12_person.2.2.1 0 = .ok (.iload_n 1, 1) := by decide +kernel
theorem dX12_person_1 : decode mX12_person.2.2.1 1 = .ok (.i2l, 1) := by decide +kernel
theorem dX12_person_2 : decode mX12_person.2.2.1 2 = .ok (.invokestatic 93, 3) := by decide +kernel
theorem dX12_person_5 : decode mX12_person.2.2.1 5 = .ok (.ifCond .eq 15, 3) := by decide +kernel
theorem dX12_person_8 : decode mX12_person.2.2.1 8 = .ok (.iload_n 2, 1) := by decide +kernel
theorem dX12_person_9 : decode mX12_person.2.2.1 9 = .ok (.i2l, 1) := by decide +kernel
theorem dX12_person_10 : decode mX12_person.2.2.1 10 = .ok (.lconst 0, 1) := by decide +kernel
theorem dX12_person_11 : decode mX12_person.2.2.1 11 = .ok (.ldc2_w 101, 3) := by decide +kernel
theorem dX12_person_14 : decode mX12_person.2.2.1 14 = .ok (.invokestatic 75, 3) := by decide +kernel
theorem dX12_person_17 : decode mX12_person.2.2.1 17 = .ok (.ifCond .ne 5, 3) := by decide +kernel
theorem dX12_person_20 : decode mX12_person.2.2.1 20 = .ok (.iconst (-1), 1) := by decide +kernel
theorem dX12_person_21 : decode mX12_person.2.2.1 21 = .ok (.ireturn, 1) := by decide +kernel
theorem dX12_person_22 : decode mX12_person.2.2.1 22 = .ok (.aload_n 0, 1) := by decide +kernel
theorem dX12_person_23 : decode mX12_person.2.2.1 23 = .ok (.getfield 79, 3) := by decide +kernel
theorem dX12_person_26 : decode mX12_person.2.2.1 26 = .ok (.bipush 10, 2) := by decide +kernel
theorem dX12_person_28 : decode mX12_person.2.2.1 28 = .ok (.if_icmp .ne 6, 3) := by decide +kernel
theorem dX12_person_31 : decode mX12_person.2.2.1 31 = .ok (.bipush (-3), 2) := by decide +kernel
theorem dX12_person_33 : decode mX12_person.2.2.1 33 = .ok (.ireturn, 1) := by decide +kernel
theorem dX12_person_34 : decode mX12_person.2.2.1 34 = .ok (.aload_n 0, 1) := by decide +kernel
theorem dX12_person_35 : decode mX12_person.2.2.1 35 = .ok (.iload_n 1, 1) := by decide +kernel
theorem dX12_person_36 : decode mX12_person.2.2.1 36 = .ok (.iload_n 2, 1) := by decide +kernel
theorem dX12_person_37 : decode mX12_person.2.2.1 37 = .ok (.iconst 1, 1) := by decide +kernel
theorem dX12_person_38 : decode mX12_person.2.2.1 38 = .ok (.invokevirtual 103, 3) := by decide +kernel
theorem dX12_person_41 : decode mX12_person.2.2.1 41 = .ok (.aload_n 0, 1) := by decide +kernel
theorem dX12_person_42 : decode mX12_person.2.2.1 42 = .ok (.getfield 79, 3) := by decide +kernel
theorem dX12_person_45 : decode mX12_person.2.2.1 45 = .ok (.iconst 1, 1) := by decide +kernel
theorem dX12_person_46 : decode mX12_person.2.2.1 46 = .ok (.isub, 1) := by decide +kernel
theorem dX12_person_47 : decode mX12_person.2.2.1 47 = .ok (.ireturn, 1) := by decide +kernel
set_option maxHeartbeats 100000 in
theorem kX12_person_0 {d : Nat} {F : am_FT} {L : am_LT} {Q : am_QT} {l0 l2 : Option Value} {x1 : Int32} : wt am_S0 (d + 1) mX12_person 0 [l0, some (.int x1), l2] [] F L Q = wc am_S0 d mX12_isCell [.long (Int32.toInt64 x1)] F L (fun r G K => wt am_S0 (d + 1) mX12_person 5 [l0, some (.int x1), l2] (r.toList ++ []) G K Q) := (wt_iload_n dX12_person_0 rfl).trans ((wt_i2l dX12_person_1).trans (wt_callS dX12_person_2 rfl (as := [.long (Int32.toInt64 x1)]) (rest := []) rfl rfl (Nat.le_of_ble_eq_true rfl) (Nat.le_of_ble_eq_true rfl)))
set_option maxHeartbeats 100000 in
theorem kX12_person_5 {d : Nat} {F : am_FT} {L : am_LT} {Q : am_QT} {l0 l1 l2 : Option Value} {s0 : Int32} : wt am_S0 d mX12_person 5 [l0, l1, l2] [.int s0] F L Q = if s0 = 0 then wt am_S0 d mX12_person 20 [l0, l1, l2] [] F L Q else wt am_S0 d mX12_person 8 [l0, l1, l2] [] F L Q := wt_ifCond_eq dX12_person_5 (t := 20) rfl
set_option maxHeartbeats 100000 in
theorem kX12_person_8 {d : Nat} {F : am_FT} {L : am_LT} {Q : am_QT} {l0 l1 : Option Value} {x2 : Int32} : wt am_S0 (d + 1) mX12_person 8 [l0, l1, some (.int x2)] [] F L Q = wc am_S0 d mX12_within [.long (Int32.toInt64 x2), .long 0, .long 63] F L (fun r G K => wt am_S0 (d + 1) mX12_person 17 [l0, l1, some (.int x2)] (r.toList ++ []) G K Q) := (wt_iload_n dX12_person_8 rfl).trans ((wt_i2l dX12_person_9).trans ((wt_lconst dX12_person_10 (v := 0) (by decide)).trans ((wt_ldc2_w dX12_person_11 (v := 63) rfl).trans (wt_callS dX12_person_14 rfl (as := [.long (Int32.toInt64 x2), .long 0, .long 63]) (rest := []) rfl rfl (Nat.le_of_ble_eq_true rfl) (Nat.le_of_ble_eq_true rfl)))))
set_option maxHeartbeats 100000 in
theorem kX12_person_17 {d : Nat} {F : am_FT} {L : am_LT} {Q : am_QT} {l0 l1 l2 : Option Value} {s0 : Int32} : wt am_S0 d mX12_person 17 [l0, l1, l2] [.int s0] F L Q = if ¬ s0 = 0 then wt am_S0 d mX12_person 22 [l0, l1, l2] [] F L Q else wt am_S0 d mX12_person 20 [l0, l1, l2] [] F L Q := wt_ifCond_ne dX12_person_17 (t := 22) rfl
set_option maxHeartbeats 100000 in
theorem kX12_person_20 {d : Nat} {F : am_FT} {L : am_LT} {Q : am_QT} {l0 l1 l2 : Option Value} : wt am_S0 d mX12_person 20 [l0, l1, l2] [] F L Q = Q (some (.int (-1))) F L := (wt_iconst dX12_person_20 (v := (-1)) (by decide)).trans (wt_ireturn dX12_person_21 rfl rfl)
set_option maxHeartbeats 100000 in
theorem kX12_person_22 {d : Nat} {F : am_FT} {L : am_LT} {Q : am_QT} {l1 l2 : Option Value} : wt am_S0 d mX12_person 22 [some (.ref 45), l1, l2] [] F L Q = if ¬ (F 45 7) = 10 then wt am_S0 d mX12_person 34 [some (.ref 45), l1, l2] [] F L Q else wt am_S0 d mX12_person 31 [some (.ref 45), l1, l2] [] F L Q := (wt_aload_n dX12_person_22 rfl rfl).trans ((wt_getfield dX12_person_23 rfl rfl (v := .int (F 45 7)) rfl).trans ((wt_bipush dX12_person_26 (v := 10) (by decide)).trans (wt_if_icmp_ne dX12_person_28 (t := 34) rfl)))
set_option maxHeartbeats 100000 in
theorem kX12_person_31 {d : Nat} {F : am_FT} {L : am_LT} {Q : am_QT} {l0 l1 l2 : Option Value} : wt am_S0 d mX12_person 31 [l0, l1, l2] [] F L Q = Q (some (.int (-3))) F L := (wt_bipush dX12_person_31 (v := (-3)) (by decide)).trans (wt_ireturn dX12_person_33 rfl rfl)
set_option maxHeartbeats 100000 in
theorem kX12_person_34 {d : Nat} {F : am_FT} {L : am_LT} {Q : am_QT} {x1 x2 : Int32} : wt am_S0 (d + 1) mX12_person 34 [some (.ref 45), some (.int x1), some (.int x2)] [] F L Q = wc am_S0 d mX12_adds [.ref 45, .int x1, .int x2, .int 1] F L (fun r G K => wt am_S0 (d + 1) mX12_person 41 [some (.ref 45), some (.int x1), some (.int x2)] (r.toList ++ []) G K Q) := (wt_aload_n dX12_person_34 rfl rfl).trans ((wt_iload_n dX12_person_35 rfl).trans ((wt_iload_n dX12_person_36 rfl).trans ((wt_iconst dX12_person_37 (v := 1) (by decide)).trans (wt_callV dX12_person_38 rfl (as := [.int x1, .int x2, .int 1]) (rest := []) rfl rfl (Nat.le_of_ble_eq_true rfl) rfl (Nat.le_of_ble_eq_true rfl)))))
set_option maxHeartbeats 100000 in
theorem kX12_person_41 {d : Nat} {F : am_FT} {L : am_LT} {Q : am_QT} {l1 l2 : Option Value} : wt am_S0 d mX12_person 41 [some (.ref 45), l1, l2] [] F L Q = Q (some (.int ((F 45 7) - 1))) F L := (wt_aload_n dX12_person_41 rfl rfl).trans ((wt_getfield dX12_person_42 rfl rfl (v := .int (F 45 7)) rfl).trans ((wt_iconst dX12_person_45 (v := 1) (by decide)).trans ((wt_isub dX12_person_46).trans (wt_ireturn dX12_person_47 rfl rfl))))
theorem dX12_adds_0 : decode mX12_adds.2.2.1 0 = .ok (.aload_n 0, 1) := by decide +kernel
theorem dX12_adds_1 : decode mX12_adds.2.2.1 1 = .ok (.getfield 9, 3) := by decide +kernel
theorem dX12_adds_4 : decode mX12_adds.2.2.1 4 = .ok (.bipush 30, 2) := by decide +kernel
theorem dX12_adds_6 : decode mX12_adds.2.2.1 6 = .ok (.aload_n 0, 1) := by decide +kernel
theorem dX12_adds_7 : decode mX12_adds.2.2.1 7 = .ok (.getfield 79, 3) := by decide +kernel
theorem dX12_adds_10 : decode mX12_adds.2.2.1 10 = .ok (.iadd, 1) := by decide +kernel
theorem dX12_adds_11 : decode mX12_adds.2.2.1 11 = .ok (.iload_n 1, 1) := by decide +kernel
theorem dX12_adds_12 : decode mX12_adds.2.2.1 12 = .ok (.iastore, 1) := by decide +kernel
theorem dX12_adds_13 : decode mX12_adds.2.2.1 13 = .ok (.aload_n 0, 1) := by decide +kernel
theorem dX12_adds_14 : decode mX12_adds.2.2.1 14 = .ok (.getfield 9, 3) := by decide +kernel
theorem dX12_adds_17 : decode mX12_adds.2.2.1 17 = .ok (.bipush 40, 2) := by decide +kernel
theorem dX12_adds_19 : decode mX12_adds.2.2.1 19 = .ok (.aload_n 0, 1) := by decide +kernel
theorem dX12_adds_20 : decode mX12_adds.2.2.1 20 = .ok (.getfield 79, 3) := by decide +kernel
theorem dX12_adds_23 : decode mX12_adds.2.2.1 23 = .ok (.iadd, 1) := by decide +kernel
theorem dX12_adds_24 : decode mX12_adds.2.2.1 24 = .ok (.iload_n 2, 1) := by decide +kernel
theorem dX12_adds_25 : decode mX12_adds.2.2.1 25 = .ok (.iastore, 1) := by decide +kernel
theorem dX12_adds_26 : decode mX12_adds.2.2.1 26 = .ok (.aload_n 0, 1) := by decide +kernel
theorem dX12_adds_27 : decode mX12_adds.2.2.1 27 = .ok (.getfield 9, 3) := by decide +kernel
theorem dX12_adds_30 : decode mX12_adds.2.2.1 30 = .ok (.bipush 50, 2) := by decide +kernel
theorem dX12_adds_32 : decode mX12_adds.2.2.1 32 = .ok (.aload_n 0, 1) := by decide +kernel
theorem dX12_adds_33 : decode mX12_adds.2.2.1 33 = .ok (.getfield 79, 3) := by decide +kernel
theorem dX12_adds_36 : decode mX12_adds.2.2.1 36 = .ok (.iadd, 1) := by decide +kernel
theorem dX12_adds_37 : decode mX12_adds.2.2.1 37 = .ok (.iload_n 3, 1) := by decide +kernel
theorem dX12_adds_38 : decode mX12_adds.2.2.1 38 = .ok (.iastore, 1) := by decide +kernel
theorem dX12_adds_39 : decode mX12_adds.2.2.1 39 = .ok (.aload_n 0, 1) := by decide +kernel
theorem dX12_adds_40 : decode mX12_adds.2.2.1 40 = .ok (.dup, 1) := by decide +kernel
theorem dX12_adds_41 : decode mX12_adds.2.2.1 41 = .ok (.getfield 79, 3) := by decide +kernel
theorem dX12_adds_44 : decode mX12_adds.2.2.1 44 = .ok (.iconst 1, 1) := by decide +kernel
theorem dX12_adds_45 : decode mX12_adds.2.2.1 45 = .ok (.iadd, 1) := by decide +kernel
theorem dX12_adds_46 : decode mX12_adds.2.2.1 46 = .ok (.putfield 79, 3) := by decide +kernel
theorem dX12_adds_49 : decode mX12_adds.2.2.1 49 = .ok (.return_, 1) := by decide +kernel
set_option maxHeartbeats 100000 in
theorem kX12_adds_0 {d : Nat} {F : am_FT} {L : am_LT} {Q : am_QT} {l3 : Option Value} {x1 x2 : Int32} (h1 : am_oob (30 + (F 45 7)) 60 = false) (h2 : am_oob (40 + (F 45 7)) 60 = false) : wt am_S0 d mX12_adds 0 [some (.ref 45), some (.int x1), some (.int x2), l3] [] F L Q = wt am_S0 d mX12_adds 26 [some (.ref 45), some (.int x1), some (.int x2), l3] [] (am_upF (am_upF F 46 (Int32.toNatClampNeg (30 + (F 45 7))) x1) 46 (Int32.toNatClampNeg (40 + (F 45 7))) x2) L Q := (wt_aload_n dX12_adds_0 rfl rfl).trans ((wt_getfield dX12_adds_1 rfl rfl (v := .ref 46) rfl).trans ((wt_bipush dX12_adds_4 (v := 30) (by decide)).trans ((wt_aload_n dX12_adds_6 rfl rfl).trans ((wt_getfield dX12_adds_7 rfl rfl (v := .int (F 45 7)) rfl).trans ((wt_iadd dX12_adds_10).trans ((wt_iload_n dX12_adds_11 rfl).trans ((wt_iastore dX12_adds_12 rfl h1).trans ((wt_aload_n dX12_adds_13 rfl rfl).trans ((wt_getfield dX12_adds_14 rfl rfl (v := .ref 46) rfl).trans ((wt_bipush dX12_adds_17 (v := 40) (by decide)).trans ((wt_aload_n dX12_adds_19 rfl rfl).trans ((wt_getfield dX12_adds_20 rfl rfl (v := .int (F 45 7)) (F := am_upF F 46 (Int32.toNatClampNeg (30 + (F 45 7))) x1) (p := 45) rfl).trans ((wt_iadd dX12_adds_23).trans ((wt_iload_n dX12_adds_24 rfl).trans (wt_iastore dX12_adds_25 rfl h2)))))))))))))))
set_option maxHeartbeats 100000 in
theorem kX12_adds_26 {d : Nat} {F : am_FT} {L : am_LT} {Q : am_QT} {l1 l2 : Option Value} {x3 : Int32} (h1 : am_oob (50 + (F 45 7)) 60 = false) : wt am_S0 d mX12_adds 26 [some (.ref 45), l1, l2, some (.int x3)] [] F L Q = Q none (am_upF (am_upF F 46 (Int32.toNatClampNeg (50 + (F 45 7))) x3) 45 7 ((F 45 7) + 1)) L := (wt_aload_n dX12_adds_26 rfl rfl).trans ((wt_getfield dX12_adds_27 rfl rfl (v := .ref 46) rfl).trans ((wt_bipush dX12_adds_30 (v := 50) (by decide)).trans ((wt_aload_n dX12_adds_32 rfl rfl).trans ((wt_getfield dX12_adds_33 rfl rfl (v := .int (F 45 7)) rfl).trans ((wt_iadd dX12_adds_36).trans ((wt_iload_n dX12_adds_37 rfl).trans ((wt_iastore dX12_adds_38 rfl h1).trans ((wt_aload_n dX12_adds_39 rfl rfl).trans ((wt_dup dX12_adds_40 rfl).trans ((wt_getfield dX12_adds_41 rfl rfl (v := .int (F 45 7)) (F := am_upF F 46 (Int32.toNatClampNeg (50 + (F 45 7))) x3) (p := 45) rfl).trans ((wt_iconst dX12_adds_44 (v := 1) (by decide)).trans ((wt_iadd dX12_adds_45).trans ((wt_putfield dX12_adds_46 rfl rfl ⟨rfl, rfl, rfl, rfl⟩).trans (wt_return dX12_adds_49 rfl))))))))))))))
theorem dX12_people_0 : decode mX12_people.2.2.1 0 = .ok (.iload_n 1, 1) := by decide +kernel
theorem dX12_people_1 : decode mX12_people.2.2.1 1 = .ok (.invokestatic 107, 3) := by decide +kernel
theorem dX12_people_4 : decode mX12_people.2.2.1 4 = .ok (.ifCond .eq 15, 3) := by decide +kernel
theorem dX12_people_7 : decode mX12_people.2.2.1 7 = .ok (.iload_n 3, 1) := by decide +kernel
theorem dX12_people_8 : decode mX12_people.2.2.1 8 = .ok (.i2l, 1) := by decide +kernel
theorem dX12_people_9 : decode mX12_people.2.2.1 9 = .ok (.lconst 1, 1) := by decide +kernel
theorem dX12_people_10 : decode mX12_people.2.2.1 10 = .ok (.ldc2_w 111, 3) := by decide +kernel
theorem dX12_people_13 : decode mX12_people.2.2.1 13 = .ok (.invokestatic 75, 3) := by decide +kernel
theorem dX12_people_16 : decode mX12_people.2.2.1 16 = .ok (.ifCond .ne 5, 3) := by decide +kernel
theorem dX12_people_19 : decode mX12_people.2.2.1 19 = .ok (.iconst (-1), 1) := by decide +kernel
theorem dX12_people_20 : decode mX12_people.2.2.1 20 = .ok (.ireturn, 1) := by decide +kernel
theorem dX12_people_21 : decode mX12_people.2.2.1 21 = .ok (.aload_n 0, 1) := by decide +kernel
theorem dX12_people_22 : decode mX12_people.2.2.1 22 = .ok (.getfield 49, 3) := by decide +kernel
theorem dX12_people_25 : decode mX12_people.2.2.1 25 = .ok (.iload_n 1, 1) := by decide +kernel
theorem dX12_people_26 : decode mX12_people.2.2.1 26 = .ok (.iaload, 1) := by decide +kernel
theorem dX12_people_27 : decode mX12_people.2.2.1 27 = .ok (.ifCond .lt 17, 3) := by decide +kernel
theorem dX12_people_30 : decode mX12_people.2.2.1 30 = .ok (.aload_n 0, 1) := by decide +kernel
theorem dX12_people_31 : decode mX12_people.2.2.1 31 = .ok (.getfield 49, 3) := by decide +kernel
theorem dX12_people_34 : decode mX12_people.2.2.1 34 = .ok (.iload_n 1, 1) := by decide +kernel
theorem dX12_people_35 : decode mX12_people.2.2.1 35 = .ok (.iaload, 1) := by decide +kernel
theorem dX12_people_36 : decode mX12_people.2.2.1 36 = .ok (.bipush 51, 2) := by decide +kernel
theorem dX12_people_38 : decode mX12_people.2.2.1 38 = .ok (.if_icmp .eq 6, 3) := by decide +kernel
theorem dX12_people_41 : decode mX12_people.2.2.1 41 = .ok (.bipush (-12), 2) := by decide +kernel
theorem dX12_people_43 : decode mX12_people.2.2.1 43 = .ok (.ireturn, 1) := by decide +kernel
theorem dX12_people_44 : decode mX12_people.2.2.1 44 = .ok (.iconst 0, 1) := by decide +kernel
theorem dX12_people_45 : decode mX12_people.2.2.1 45 = .ok (.istore 4, 2) := by decide +kernel
theorem dX12_people_47 : decode mX12_people.2.2.1 47 = .ok (.aload_n 0, 1) := by decide +kernel
theorem dX12_people_48 : decode mX12_people.2.2.1 48 = .ok (.getfield 49, 3) := by decide +kernel
theorem dX12_people_51 : decode mX12_people.2.2.1 51 = .ok (.iload_n 1, 1) := by decide +kernel
theorem dX12_people_52 : decode mX12_people.2.2.1 52 = .ok (.iaload, 1) := by decide +kernel
theorem dX12_people_53 : decode mX12_people.2.2.1 53 = .ok (.bipush 51, 2) := by decide +kernel
theorem dX12_people_55 : decode mX12_people.2.2.1 55 = .ok (.if_icmp .ne 11, 3) := by decide +kernel
theorem dX12_people_58 : decode mX12_people.2.2.1 58 = .ok (.iload_n 2, 1) := by decide +kernel
theorem dX12_people_59 : decode mX12_people.2.2.1 59 = .ok (.ifCond .lt 7, 3) := by decide +kernel
theorem dX12_people_62 : decode mX12_people.2.2.1 62 = .ok (.iconst 1, 1) := by decide +kernel
theorem dX12_people_63 : decode mX12_people.2.2.1 63 = .ok (.goto 4, 3) := by decide +kernel
theorem dX12_people_66 : decode mX12_people.2.2.1 66 = .ok (.iconst 0, 1) := by decide +kernel
theorem dX12_people_67 : decode mX12_people.2.2.1 67 = .ok (.istore 5, 2) := by decide +kernel
theorem dX12_people_69 : decode mX12_people.2.2.1 69 = .ok (.iload 5, 2) := by decide +kernel
theorem dX12_people_71 : decode mX12_people.2.2.1 71 = .ok (.ifCond .eq 161, 3) := by decide +kernel
theorem dX12_people_74 : decode mX12_people.2.2.1 74 = .ok (.iload 4, 2) := by decide +kernel
theorem dX12_people_76 : decode mX12_people.2.2.1 76 = .ok (.iload_n 3, 1) := by decide +kernel
theorem dX12_people_77 : decode mX12_people.2.2.1 77 = .ok (.if_icmp .ge 155, 3) := by decide +kernel
theorem dX12_people_80 : decode mX12_people.2.2.1 80 = .ok (.iload_n 2, 1) := by decide +kernel
theorem dX12_people_81 : decode mX12_people.2.2.1 81 = .ok (.aload_n 0, 1) := by decide +kernel
theorem dX12_people_82 : decode mX12_people.2.2.1 82 = .ok (.getfield 52, 3) := by decide +kernel
theorem dX12_people_85 : decode mX12_people.2.2.1 85 = .ok (.iload_n 1, 1) := by decide +kernel
theorem dX12_people_86 : decode mX12_people.2.2.1 86 = .ok (.iaload, 1) := by decide +kernel
theorem dX12_people_87 : decode mX12_people.2.2.1 87 = .ok (.iconst 3, 1) := by decide +kernel
theorem dX12_people_88 : decode mX12_people.2.2.1 88 = .ok (.isub, 1) := by decide +kernel
theorem dX12_people_89 : decode mX12_people.2.2.1 89 = .ok (.iconst 3, 1) := by decide +kernel
theorem dX12_people_90 : decode mX12_people.2.2.1 90 = .ok (.iload 4, 2) := by decide +kernel
theorem dX12_people_92 : decode mX12_people.2.2.1 92 = .ok (.imul, 1) := by decide +kernel
theorem dX12_people_93 : decode mX12_people.2.2.1 93 = .ok (.isub, 1) := by decide +kernel
theorem dX12_people_94 : decode mX12_people.2.2.1 94 = .ok (.if_icmp .gt 16, 3) := by decide +kernel
theorem dX12_people_97 : decode mX12_people.2.2.1 97 = .ok (.aload_n 0, 1) := by decide +kernel
theorem dX12_people_98 : decode mX12_people.2.2.1 98 = .ok (.getfield 79, 3) := by decide +kernel
theorem dX12_people_101 : decode mX12_people.2.2.1 101 = .ok (.bipush 10, 2) := by decide +kernel
theorem dX12_people_103 : decode mX12_people.2.2.1 103 = .ok (.if_icmp .ge 7, 3) := by decide +kernel
theorem dX12_people_106 : decode mX12_people.2.2.1 106 = .ok (.iconst 1, 1) := by decide +kernel
theorem dX12_people_107 : decode mX12_people.2.2.1 107 = .ok (.goto 4, 3) := by decide +kernel
theorem dX12_people_110 : decode mX12_people.2.2.1 110 = .ok (.iconst 0, 1) := by decide +kernel
theorem dX12_people_111 : decode mX12_people.2.2.1 111 = .ok (.istore 5, 2) := by decide +kernel
theorem dX12_people_113 : decode mX12_people.2.2.1 113 = .ok (.bipush 60, 2) := by decide +kernel
theorem dX12_people_115 : decode mX12_people.2.2.1 115 = .ok (.iload_n 1, 1) := by decide +kernel
theorem dX12_people_116 : decode mX12_people.2.2.1 116 = .ok (.imul, 1) := by decide +kernel
theorem dX12_people_117 : decode mX12_people.2.2.1 117 = .ok (.iload_n 2, 1) := by decide +kernel
theorem dX12_people_118 : decode mX12_people.2.2.1 118 = .ok (.iadd, 1) := by decide +kernel
theorem dX12_people_119 : decode mX12_people.2.2.1 119 = .ok (.iconst 3, 1) := by decide +kernel
theorem dX12_people_120 : decode mX12_people.2.2.1 120 = .ok (.iload 4, 2) := by decide +kernel
theorem dX12_people_122 : decode mX12_people.2.2.1 122 = .ok (.imul, 1) := by decide +kernel
theorem dX12_people_123 : decode mX12_people.2.2.1 123 = .ok (.iadd, 1) := by decide +kernel
theorem dX12_people_124 : decode mX12_people.2.2.1 124 = .ok (.istore 6, 2) := by decide +kernel
theorem dX12_people_126 : decode mX12_people.2.2.1 126 = .ok (.iload 5, 2) := by decide +kernel
theorem dX12_people_128 : decode mX12_people.2.2.1 128 = .ok (.ifCond .eq 58, 3) := by decide +kernel
theorem dX12_people_131 : decode mX12_people.2.2.1 131 = .ok (.aload_n 0, 1) := by decide +kernel
theorem dX12_people_132 : decode mX12_people.2.2.1 132 = .ok (.getfield 55, 3) := by decide +kernel
theorem dX12_people_135 : decode mX12_people.2.2.1 135 = .ok (.iload 6, 2) := by decide +kernel
theorem dX12_people_137 : decode mX12_people.2.2.1 137 = .ok (.laload, 1) := by decide +kernel
theorem dX12_people_138 : decode mX12_people.2.2.1 138 = .ok (.invokestatic 93, 3) := by decide +kernel
theorem dX12_people_141 : decode mX12_people.2.2.1 141 = .ok (.ifCond .eq 45, 3) := by decide +kernel
theorem dX12_people_144 : decode mX12_people.2.2.1 144 = .ok (.aload_n 0, 1) := by decide +kernel
theorem dX12_people_145 : decode mX12_people.2.2.1 145 = .ok (.getfield 55, 3) := by decide +kernel
theorem dX12_people_148 : decode mX12_people.2.2.1 148 = .ok (.iload 6, 2) := by decide +kernel
theorem dX12_people_150 : decode mX12_people.2.2.1 150 = .ok (.iconst 1, 1) := by decide +kernel
theorem dX12_people_151 : decode mX12_people.2.2.1 151 = .ok (.iadd, 1) := by decide +kernel
theorem dX12_people_152 : decode mX12_people.2.2.1 152 = .ok (.laload, 1) := by decide +kernel
theorem dX12_people_153 : decode mX12_people.2.2.1 153 = .ok (.lconst 0, 1) := by decide +kernel
theorem dX12_people_154 : decode mX12_people.2.2.1 154 = .ok (.ldc2_w 101, 3) := by decide +kernel
theorem dX12_people_157 : decode mX12_people.2.2.1 157 = .ok (.invokestatic 75, 3) := by decide +kernel
theorem dX12_people_160 : decode mX12_people.2.2.1 160 = .ok (.ifCond .eq 26, 3) := by decide +kernel
theorem dX12_people_163 : decode mX12_people.2.2.1 163 = .ok (.aload_n 0, 1) := by decide +kernel
theorem dX12_people_164 : decode mX12_people.2.2.1 164 = .ok (.getfield 55, 3) := by decide +kernel
theorem dX12_people_167 : decode mX12_people.2.2.1 167 = .ok (.iload 6, 2) := by decide +kernel
theorem dX12_people_169 : decode mX12_people.2.2.1 169 = .ok (.iconst 2, 1) := by decide +kernel
theorem dX12_people_170 : decode mX12_people.2.2.1 170 = .ok (.iadd, 1) := by decide +kernel
theorem dX12_people_171 : decode mX12_people.2.2.1 171 = .ok (.laload, 1) := by decide +kernel
theorem dX12_people_172 : decode mX12_people.2.2.1 172 = .ok (.lconst 0, 1) := by decide +kernel
theorem dX12_people_173 : decode mX12_people.2.2.1 173 = .ok (.ldc2_w 113, 3) := by decide +kernel
theorem dX12_people_176 : decode mX12_people.2.2.1 176 = .ok (.invokestatic 75, 3) := by decide +kernel
theorem dX12_people_179 : decode mX12_people.2.2.1 179 = .ok (.ifCond .eq 7, 3) := by decide +kernel
theorem dX12_people_182 : decode mX12_people.2.2.1 182 = .ok (.iconst 1, 1) := by decide +kernel
theorem dX12_people_183 : decode mX12_people.2.2.1 183 = .ok (.goto 4, 3) := by decide +kernel
theorem dX12_people_186 : decode mX12_people.2.2.1 186 = .ok (.iconst 0, 1) := by decide +kernel
theorem dX12_people_187 : decode mX12_people.2.2.1 187 = .ok (.istore 5, 2) := by decide +kernel
theorem dX12_people_189 : decode mX12_people.2.2.1 189 = .ok (.iload 5, 2) := by decide +kernel
theorem dX12_people_191 : decode mX12_people.2.2.1 191 = .ok (.ifCond .eq 38, 3) := by decide +kernel
theorem dX12_people_194 : decode mX12_people.2.2.1 194 = .ok (.aload_n 0, 1) := by decide +kernel
theorem dX12_people_195 : decode mX12_people.2.2.1 195 = .ok (.aload_n 0, 1) := by decide +kernel
theorem dX12_people_196 : decode mX12_people.2.2.1 196 = .ok (.getfield 55, 3) := by decide +kernel
theorem dX12_people_199 : decode mX12_people.2.2.1 199 = .ok (.iload 6, 2) := by decide +kernel
theorem dX12_people_201 : decode mX12_people.2.2.1 201 = .ok (.laload, 1) := by decide +kernel
theorem dX12_people_202 : decode mX12_people.2.2.1 202 = .ok (.l2i, 1) := by decide +kernel
theorem dX12_people_203 : decode mX12_people.2.2.1 203 = .ok (.aload_n 0, 1) := by decide +kernel
theorem dX12_people_204 : decode mX12_people.2.2.1 204 = .ok (.getfield 55, 3) := by decide +kernel
theorem dX12_people_207 : decode mX12_people.2.2.1 207 = .ok (.iload 6, 2) := by decide +kernel
theorem dX12_people_209 : decode mX12_people.2.2.1 209 = .ok (.iconst 1, 1) := by decide +kernel
theorem dX12_people_210 : decode mX12_people.2.2.1 210 = .ok (.iadd, 1) := by decide +kernel
theorem dX12_people_211 : decode mX12_people.2.2.1 211 = .ok (.laload, 1) := by decide +kernel
theorem dX12_people_212 : decode mX12_people.2.2.1 212 = .ok (.l2i, 1) := by decide +kernel
theorem dX12_people_213 : decode mX12_people.2.2.1 213 = .ok (.aload_n 0, 1) := by decide +kernel
theorem dX12_people_214 : decode mX12_people.2.2.1 214 = .ok (.getfield 55, 3) := by decide +kernel
theorem dX12_people_217 : decode mX12_people.2.2.1 217 = .ok (.iload 6, 2) := by decide +kernel
theorem dX12_people_219 : decode mX12_people.2.2.1 219 = .ok (.iconst 2, 1) := by decide +kernel
theorem dX12_people_220 : decode mX12_people.2.2.1 220 = .ok (.iadd, 1) := by decide +kernel
theorem dX12_people_221 : decode mX12_people.2.2.1 221 = .ok (.laload, 1) := by decide +kernel
theorem dX12_people_222 : decode mX12_people.2.2.1 222 = .ok (.l2i, 1) := by decide +kernel
theorem dX12_people_223 : decode mX12_people.2.2.1 223 = .ok (.invokevirtual 103, 3) := by decide +kernel
theorem dX12_people_226 : decode mX12_people.2.2.1 226 = .ok (.iinc 4 1, 3) := by decide +kernel
theorem dX12_people_229 : decode mX12_people.2.2.1 229 = .ok (.goto (-160), 3) := by decide +kernel
theorem dX12_people_232 : decode mX12_people.2.2.1 232 = .ok (.iload 4, 2) := by decide +kernel
theorem dX12_people_234 : decode mX12_people.2.2.1 234 = .ok (.ireturn, 1) := by decide +kernel
set_option maxHeartbeats 100000 in
theorem kX12_people_0 {d : Nat} {F : am_FT} {L : am_LT} {Q : am_QT} {l0 l2 l3 l4 l5 l6 : Option Value} {x1 : Int32} : wt am_S0 (d + 1) mX12_people 0 [l0, some (.int x1), l2, l3, l4, l5, l6] [] F L Q = wc am_S0 d mX12_isShelf [.int x1] F L (fun r G K => wt am_S0 (d + 1) mX12_people 4 [l0, some (.int x1), l2, l3, l4, l5, l6] (r.toList ++ []) G K Q) := (wt_iload_n dX12_people_0 rfl).trans (wt_callS dX12_people_1 rfl (as := [.int x1]) (rest := []) rfl rfl (Nat.le_of_ble_eq_true rfl) (Nat.le_of_ble_eq_true rfl))
set_option maxHeartbeats 100000 in
theorem kX12_people_4 {d : Nat} {F : am_FT} {L : am_LT} {Q : am_QT} {l0 l1 l2 l3 l4 l5 l6 : Option Value} {s0 : Int32} : wt am_S0 d mX12_people 4 [l0, l1, l2, l3, l4, l5, l6] [.int s0] F L Q = if s0 = 0 then wt am_S0 d mX12_people 19 [l0, l1, l2, l3, l4, l5, l6] [] F L Q else wt am_S0 d mX12_people 7 [l0, l1, l2, l3, l4, l5, l6] [] F L Q := wt_ifCond_eq dX12_people_4 (t := 19) rfl
set_option maxHeartbeats 100000 in
theorem kX12_people_7 {d : Nat} {F : am_FT} {L : am_LT} {Q : am_QT} {l0 l1 l2 l4 l5 l6 : Option Value} {x3 : Int32} : wt am_S0 (d + 1) mX12_people 7 [l0, l1, l2, some (.int x3), l4, l5, l6] [] F L Q = wc am_S0 d mX12_within [.long (Int32.toInt64 x3), .long 1, .long 10] F L (fun r G K => wt am_S0 (d + 1) mX12_people 16 [l0, l1, l2, some (.int x3), l4, l5, l6] (r.toList ++ []) G K Q) := (wt_iload_n dX12_people_7 rfl).trans ((wt_i2l dX12_people_8).trans ((wt_lconst dX12_people_9 (v := 1) (by decide)).trans ((wt_ldc2_w dX12_people_10 (v := 10) rfl).trans (wt_callS dX12_people_13 rfl (as := [.long (Int32.toInt64 x3), .long 1, .long 10]) (rest := []) rfl rfl (Nat.le_of_ble_eq_true rfl) (Nat.le_of_ble_eq_true rfl)))))
set_option maxHeartbeats 100000 in
theorem kX12_people_16 {d : Nat} {F : am_FT} {L : am_LT} {Q : am_QT} {l0 l1 l2 l3 l4 l5 l6 : Option Value} {s0 : Int32} : wt am_S0 d mX12_people 16 [l0, l1, l2, l3, l4, l5, l6] [.int s0] F L Q = if ¬ s0 = 0 then wt am_S0 d mX12_people 21 [l0, l1, l2, l3, l4, l5, l6] [] F L Q else wt am_S0 d mX12_people 19 [l0, l1, l2, l3, l4, l5, l6] [] F L Q := wt_ifCond_ne dX12_people_16 (t := 21) rfl
set_option maxHeartbeats 100000 in
theorem kX12_people_19 {d : Nat} {F : am_FT} {L : am_LT} {Q : am_QT} {l0 l1 l2 l3 l4 l5 l6 : Option Value} : wt am_S0 d mX12_people 19 [l0, l1, l2, l3, l4, l5, l6] [] F L Q = Q (some (.int (-1))) F L := (wt_iconst dX12_people_19 (v := (-1)) (by decide)).trans (wt_ireturn dX12_people_20 rfl rfl)
set_option maxHeartbeats 100000 in
theorem kX12_people_21 {d : Nat} {F : am_FT} {L : am_LT} {Q : am_QT} {l2 l3 l4 l5 l6 : Option Value} {x1 : Int32} (h1 : am_oob x1 6 = false) : wt am_S0 d mX12_people 21 [some (.ref 45), some (.int x1), l2, l3, l4, l5, l6] [] F L Q = if (F 59 (Int32.toNatClampNeg x1)) < 0 then wt am_S0 d mX12_people 44 [some (.ref 45), some (.int x1), l2, l3, l4, l5, l6] [] F L Q else wt am_S0 d mX12_people 30 [some (.ref 45), some (.int x1), l2, l3, l4, l5, l6] [] F L Q := (wt_aload_n dX12_people_21 rfl rfl).trans ((wt_getfield dX12_people_22 rfl rfl (v := .ref 59) rfl).trans ((wt_iload_n dX12_people_25 rfl).trans ((wt_iaload dX12_people_26 rfl (by decide) h1).trans (wt_ifCond_lt dX12_people_27 (t := 44) rfl))))
set_option maxHeartbeats 100000 in
theorem kX12_people_30 {d : Nat} {F : am_FT} {L : am_LT} {Q : am_QT} {l2 l3 l4 l5 l6 : Option Value} {x1 : Int32} (h1 : am_oob x1 6 = false) : wt am_S0 d mX12_people 30 [some (.ref 45), some (.int x1), l2, l3, l4, l5, l6] [] F L Q = if (F 59 (Int32.toNatClampNeg x1)) = 51 then wt am_S0 d mX12_people 44 [some (.ref 45), some (.int x1), l2, l3, l4, l5, l6] [] F L Q else wt am_S0 d mX12_people 41 [some (.ref 45), some (.int x1), l2, l3, l4, l5, l6] [] F L Q := (wt_aload_n dX12_people_30 rfl rfl).trans ((wt_getfield dX12_people_31 rfl rfl (v := .ref 59) rfl).trans ((wt_iload_n dX12_people_34 rfl).trans ((wt_iaload dX12_people_35 rfl (by decide) h1).trans ((wt_bipush dX12_people_36 (v := 51) (by decide)).trans (wt_if_icmp_eq dX12_people_38 (t := 44) rfl)))))
set_option maxHeartbeats 100000 in
theorem kX12_people_41 {d : Nat} {F : am_FT} {L : am_LT} {Q : am_QT} {l0 l1 l2 l3 l4 l5 l6 : Option Value} : wt am_S0 d mX12_people 41 [l0, l1, l2, l3, l4, l5, l6] [] F L Q = Q (some (.int (-12))) F L := (wt_bipush dX12_people_41 (v := (-12)) (by decide)).trans (wt_ireturn dX12_people_43 rfl rfl)
set_option maxHeartbeats 100000 in
theorem kX12_people_44 {d : Nat} {F : am_FT} {L : am_LT} {Q : am_QT} {l2 l4 l5 l6 : Option Value} {x3 x1 : Int32} (h1 : am_oob x1 6 = false) : wt am_S0 d mX12_people 44 [some (.ref 45), some (.int x1), l2, some (.int x3), l4, l5, l6] [] F L Q = if ¬ (F 59 (Int32.toNatClampNeg x1)) = 51 then wt am_S0 d mX12_people 66 [some (.ref 45), some (.int x1), l2, some (.int x3), some (.int 0), l5, l6] [] F L Q else wt am_S0 d mX12_people 58 [some (.ref 45), some (.int x1), l2, some (.int x3), some (.int 0), l5, l6] [] F L Q := (wt_iconst dX12_people_44 (v := 0) (by decide)).trans ((wt_istore dX12_people_45 (lv1 := [some (.ref 45), some (.int x1), l2, some (.int x3), some (.int 0), l5, l6]) (Nat.le_of_ble_eq_true rfl) rfl).trans ((wt_aload_n dX12_people_47 rfl rfl).trans ((wt_getfield dX12_people_48 rfl rfl (v := .ref 59) rfl).trans ((wt_iload_n dX12_people_51 rfl).trans ((wt_iaload dX12_people_52 rfl (by decide) h1).trans ((wt_bipush dX12_people_53 (v := 51) (by decide)).trans (wt_if_icmp_ne dX12_people_55 (t := 66) rfl)))))))
set_option maxHeartbeats 100000 in
theorem kX12_people_58 {d : Nat} {F : am_FT} {L : am_LT} {Q : am_QT} {l0 l1 l3 l4 l5 l6 : Option Value} {x2 : Int32} : wt am_S0 d mX12_people 58 [l0, l1, some (.int x2), l3, l4, l5, l6] [] F L Q = if x2 < 0 then wt am_S0 d mX12_people 66 [l0, l1, some (.int x2), l3, l4, l5, l6] [] F L Q else wt am_S0 d mX12_people 62 [l0, l1, some (.int x2), l3, l4, l5, l6] [] F L Q := (wt_iload_n dX12_people_58 rfl).trans (wt_ifCond_lt dX12_people_59 (t := 66) rfl)
set_option maxHeartbeats 100000 in
theorem kX12_people_62 {d : Nat} {F : am_FT} {L : am_LT} {Q : am_QT} {l0 l1 l2 l3 l4 l5 l6 : Option Value} : wt am_S0 d mX12_people 62 [l0, l1, l2, l3, l4, l5, l6] [] F L Q = wt am_S0 d mX12_people 67 [l0, l1, l2, l3, l4, l5, l6] [.int 1] F L Q := (wt_iconst dX12_people_62 (v := 1) (by decide)).trans (wt_goto dX12_people_63 (t := 67) rfl)
set_option maxHeartbeats 100000 in
theorem kX12_people_66 {d : Nat} {F : am_FT} {L : am_LT} {Q : am_QT} {l0 l1 l2 l3 l4 l5 l6 : Option Value} : wt am_S0 d mX12_people 66 [l0, l1, l2, l3, l4, l5, l6] [] F L Q = wt am_S0 d mX12_people 67 [l0, l1, l2, l3, l4, l5, l6] [.int 0] F L Q := wt_iconst dX12_people_66 (v := 0) (by decide)
set_option maxHeartbeats 100000 in
theorem kX12_people_67 {d : Nat} {F : am_FT} {L : am_LT} {Q : am_QT} {l0 l1 l2 l3 l5 l6 : Option Value} {s0 x4 : Int32} : wt am_S0 d mX12_people 67 [l0, l1, l2, l3, some (.int x4), l5, l6] [.int s0] F L Q = wt am_S0 d mX12_people 69 [l0, l1, l2, l3, some (.int x4), some (.int s0), l6] [] F L Q := wt_istore dX12_people_67 (lv1 := [l0, l1, l2, l3, some (.int x4), some (.int s0), l6]) (Nat.le_of_ble_eq_true rfl) rfl
set_option maxHeartbeats 100000 in
theorem kX12_people_69 {d : Nat} {F : am_FT} {L : am_LT} {Q : am_QT} {l0 l1 l2 l3 l4 l6 : Option Value} {x5 : Int32} : wt am_S0 d mX12_people 69 [l0, l1, l2, l3, l4, some (.int x5), l6] [] F L Q = if x5 = 0 then wt am_S0 d mX12_people 232 [l0, l1, l2, l3, l4, some (.int x5), l6] [] F L Q else wt am_S0 d mX12_people 74 [l0, l1, l2, l3, l4, some (.int x5), l6] [] F L Q := (wt_iload dX12_people_69 rfl).trans (wt_ifCond_eq dX12_people_71 (t := 232) rfl)
set_option maxHeartbeats 100000 in
theorem kX12_people_74 {d : Nat} {F : am_FT} {L : am_LT} {Q : am_QT} {l0 l1 l2 l5 l6 : Option Value} {x4 x3 : Int32} : wt am_S0 d mX12_people 74 [l0, l1, l2, some (.int x3), some (.int x4), l5, l6] [] F L Q = if x3 ≤ x4 then wt am_S0 d mX12_people 232 [l0, l1, l2, some (.int x3), some (.int x4), l5, l6] [] F L Q else wt am_S0 d mX12_people 80 [l0, l1, l2, some (.int x3), some (.int x4), l5, l6] [] F L Q := (wt_iload dX12_people_74 rfl).trans ((wt_iload_n dX12_people_76 rfl).trans (wt_if_icmp_ge dX12_people_77 (t := 232) rfl))
set_option maxHeartbeats 100000 in
theorem kX12_people_80 {d : Nat} {F : am_FT} {L : am_LT} {Q : am_QT} {l3 l5 l6 : Option Value} {x2 x1 x4 : Int32} (h1 : am_oob x1 6 = false) : wt am_S0 d mX12_people 80 [some (.ref 45), some (.int x1), some (.int x2), l3, some (.int x4), l5, l6] [] F L Q = if (((F 60 (Int32.toNatClampNeg x1)) - 3) - (3 * x4)) < x2 then wt am_S0 d mX12_people 110 [some (.ref 45), some (.int x1), some (.int x2), l3, some (.int x4), l5, l6] [] F L Q else wt am_S0 d mX12_people 97 [some (.ref 45), some (.int x1), some (.int x2), l3, some (.int x4), l5, l6] [] F L Q := (wt_iload_n dX12_people_80 rfl).trans ((wt_aload_n dX12_people_81 rfl rfl).trans ((wt_getfield dX12_people_82 rfl rfl (v := .ref 60) rfl).trans ((wt_iload_n dX12_people_85 rfl).trans ((wt_iaload dX12_people_86 rfl (by decide) h1).trans ((wt_iconst dX12_people_87 (v := 3) (by decide)).trans ((wt_isub dX12_people_88).trans ((wt_iconst dX12_people_89 (v := 3) (by decide)).trans ((wt_iload dX12_people_90 rfl).trans ((wt_imul dX12_people_92).trans ((wt_isub dX12_people_93).trans (wt_if_icmp_gt dX12_people_94 (t := 110) rfl)))))))))))
set_option maxHeartbeats 100000 in
theorem kX12_people_97 {d : Nat} {F : am_FT} {L : am_LT} {Q : am_QT} {l1 l2 l3 l4 l5 l6 : Option Value} : wt am_S0 d mX12_people 97 [some (.ref 45), l1, l2, l3, l4, l5, l6] [] F L Q = if 10 ≤ (F 45 7) then wt am_S0 d mX12_people 110 [some (.ref 45), l1, l2, l3, l4, l5, l6] [] F L Q else wt am_S0 d mX12_people 106 [some (.ref 45), l1, l2, l3, l4, l5, l6] [] F L Q := (wt_aload_n dX12_people_97 rfl rfl).trans ((wt_getfield dX12_people_98 rfl rfl (v := .int (F 45 7)) rfl).trans ((wt_bipush dX12_people_101 (v := 10) (by decide)).trans (wt_if_icmp_ge dX12_people_103 (t := 110) rfl)))
set_option maxHeartbeats 100000 in
theorem kX12_people_106 {d : Nat} {F : am_FT} {L : am_LT} {Q : am_QT} {l0 l1 l2 l3 l4 l5 l6 : Option Value} : wt am_S0 d mX12_people 106 [l0, l1, l2, l3, l4, l5, l6] [] F L Q = wt am_S0 d mX12_people 111 [l0, l1, l2, l3, l4, l5, l6] [.int 1] F L Q := (wt_iconst dX12_people_106 (v := 1) (by decide)).trans (wt_goto dX12_people_107 (t := 111) rfl)
set_option maxHeartbeats 100000 in
theorem kX12_people_110 {d : Nat} {F : am_FT} {L : am_LT} {Q : am_QT} {l0 l1 l2 l3 l4 l5 l6 : Option Value} : wt am_S0 d mX12_people 110 [l0, l1, l2, l3, l4, l5, l6] [] F L Q = wt am_S0 d mX12_people 111 [l0, l1, l2, l3, l4, l5, l6] [.int 0] F L Q := wt_iconst dX12_people_110 (v := 0) (by decide)
set_option maxHeartbeats 100000 in
theorem kX12_people_111 {d : Nat} {F : am_FT} {L : am_LT} {Q : am_QT} {l0 l3 l5 l6 : Option Value} {s0 x4 x1 x2 : Int32} : wt am_S0 d mX12_people 111 [l0, some (.int x1), some (.int x2), l3, some (.int x4), l5, l6] [.int s0] F L Q = if s0 = 0 then wt am_S0 d mX12_people 186 [l0, some (.int x1), some (.int x2), l3, some (.int x4), some (.int s0), some (.int (((60 * x1) + x2) + (3 * x4)))] [] F L Q else wt am_S0 d mX12_people 131 [l0, some (.int x1), some (.int x2), l3, some (.int x4), some (.int s0), some (.int (((60 * x1) + x2) + (3 * x4)))] [] F L Q := (wt_istore dX12_people_111 (lv1 := [l0, some (.int x1), some (.int x2), l3, some (.int x4), some (.int s0), l6]) (Nat.le_of_ble_eq_true rfl) rfl).trans ((wt_bipush dX12_people_113 (v := 60) (by decide)).trans ((wt_iload_n dX12_people_115 rfl).trans ((wt_imul dX12_people_116).trans ((wt_iload_n dX12_people_117 rfl).trans ((wt_iadd dX12_people_118).trans ((wt_iconst dX12_people_119 (v := 3) (by decide)).trans ((wt_iload dX12_people_120 rfl).trans ((wt_imul dX12_people_122).trans ((wt_iadd dX12_people_123).trans ((wt_istore dX12_people_124 (lv1 := [l0, some (.int x1), some (.int x2), l3, some (.int x4), some (.int s0), some (.int (((60 * x1) + x2) + (3 * x4)))]) (Nat.le_of_ble_eq_true rfl) rfl).trans ((wt_iload dX12_people_126 rfl).trans (wt_ifCond_eq dX12_people_128 (t := 186) rfl))))))))))))
set_option maxHeartbeats 100000 in
theorem kX12_people_131 {d : Nat} {F : am_FT} {L : am_LT} {Q : am_QT} {l1 l2 l3 l4 l5 : Option Value} {x6 : Int32} (h1 : am_oob x6 360 = false) : wt am_S0 (d + 1) mX12_people 131 [some (.ref 45), l1, l2, l3, l4, l5, some (.int x6)] [] F L Q = wc am_S0 d mX12_isCell [.long (L 61 (Int32.toNatClampNeg x6))] F L (fun r G K => wt am_S0 (d + 1) mX12_people 141 [some (.ref 45), l1, l2, l3, l4, l5, some (.int x6)] (r.toList ++ []) G K Q) := (wt_aload_n dX12_people_131 rfl rfl).trans ((wt_getfield dX12_people_132 rfl rfl (v := .ref 61) rfl).trans ((wt_iload dX12_people_135 rfl).trans ((wt_laload dX12_people_137 rfl h1).trans (wt_callS dX12_people_138 rfl (as := [.long (L 61 (Int32.toNatClampNeg x6))]) (rest := []) rfl rfl (Nat.le_of_ble_eq_true rfl) (Nat.le_of_ble_eq_true rfl)))))
set_option maxHeartbeats 100000 in
theorem kX12_people_141 {d : Nat} {F : am_FT} {L : am_LT} {Q : am_QT} {l0 l1 l2 l3 l4 l5 l6 : Option Value} {s0 : Int32} : wt am_S0 d mX12_people 141 [l0, l1, l2, l3, l4, l5, l6] [.int s0] F L Q = if s0 = 0 then wt am_S0 d mX12_people 186 [l0, l1, l2, l3, l4, l5, l6] [] F L Q else wt am_S0 d mX12_people 144 [l0, l1, l2, l3, l4, l5, l6] [] F L Q := wt_ifCond_eq dX12_people_141 (t := 186) rfl
set_option maxHeartbeats 100000 in
theorem kX12_people_144 {d : Nat} {F : am_FT} {L : am_LT} {Q : am_QT} {l1 l2 l3 l4 l5 : Option Value} {x6 : Int32} (h1 : am_oob (x6 + 1) 360 = false) : wt am_S0 (d + 1) mX12_people 144 [some (.ref 45), l1, l2, l3, l4, l5, some (.int x6)] [] F L Q = wc am_S0 d mX12_within [.long (L 61 (Int32.toNatClampNeg (x6 + 1))), .long 0, .long 63] F L (fun r G K => wt am_S0 (d + 1) mX12_people 160 [some (.ref 45), l1, l2, l3, l4, l5, some (.int x6)] (r.toList ++ []) G K Q) := (wt_aload_n dX12_people_144 rfl rfl).trans ((wt_getfield dX12_people_145 rfl rfl (v := .ref 61) rfl).trans ((wt_iload dX12_people_148 rfl).trans ((wt_iconst dX12_people_150 (v := 1) (by decide)).trans ((wt_iadd dX12_people_151).trans ((wt_laload dX12_people_152 rfl h1).trans ((wt_lconst dX12_people_153 (v := 0) (by decide)).trans ((wt_ldc2_w dX12_people_154 (v := 63) rfl).trans (wt_callS dX12_people_157 rfl (as := [.long (L 61 (Int32.toNatClampNeg (x6 + 1))), .long 0, .long 63]) (rest := []) rfl rfl (Nat.le_of_ble_eq_true rfl) (Nat.le_of_ble_eq_true rfl)))))))))
set_option maxHeartbeats 100000 in
theorem kX12_people_160 {d : Nat} {F : am_FT} {L : am_LT} {Q : am_QT} {l0 l1 l2 l3 l4 l5 l6 : Option Value} {s0 : Int32} : wt am_S0 d mX12_people 160 [l0, l1, l2, l3, l4, l5, l6] [.int s0] F L Q = if s0 = 0 then wt am_S0 d mX12_people 186 [l0, l1, l2, l3, l4, l5, l6] [] F L Q else wt am_S0 d mX12_people 163 [l0, l1, l2, l3, l4, l5, l6] [] F L Q := wt_ifCond_eq dX12_people_160 (t := 186) rfl
set_option maxHeartbeats 100000 in
theorem kX12_people_163 {d : Nat} {F : am_FT} {L : am_LT} {Q : am_QT} {l1 l2 l3 l4 l5 : Option Value} {x6 : Int32} (h1 : am_oob (x6 + 2) 360 = false) : wt am_S0 (d + 1) mX12_people 163 [some (.ref 45), l1, l2, l3, l4, l5, some (.int x6)] [] F L Q = wc am_S0 d mX12_within [.long (L 61 (Int32.toNatClampNeg (x6 + 2))), .long 0, .long 3] F L (fun r G K => wt am_S0 (d + 1) mX12_people 179 [some (.ref 45), l1, l2, l3, l4, l5, some (.int x6)] (r.toList ++ []) G K Q) := (wt_aload_n dX12_people_163 rfl rfl).trans ((wt_getfield dX12_people_164 rfl rfl (v := .ref 61) rfl).trans ((wt_iload dX12_people_167 rfl).trans ((wt_iconst dX12_people_169 (v := 2) (by decide)).trans ((wt_iadd dX12_people_170).trans ((wt_laload dX12_people_171 rfl h1).trans ((wt_lconst dX12_people_172 (v := 0) (by decide)).trans ((wt_ldc2_w dX12_people_173 (v := 3) rfl).trans (wt_callS dX12_people_176 rfl (as := [.long (L 61 (Int32.toNatClampNeg (x6 + 2))), .long 0, .long 3]) (rest := []) rfl rfl (Nat.le_of_ble_eq_true rfl) (Nat.le_of_ble_eq_true rfl)))))))))
set_option maxHeartbeats 100000 in
theorem kX12_people_179 {d : Nat} {F : am_FT} {L : am_LT} {Q : am_QT} {l0 l1 l2 l3 l4 l5 l6 : Option Value} {s0 : Int32} : wt am_S0 d mX12_people 179 [l0, l1, l2, l3, l4, l5, l6] [.int s0] F L Q = if s0 = 0 then wt am_S0 d mX12_people 186 [l0, l1, l2, l3, l4, l5, l6] [] F L Q else wt am_S0 d mX12_people 182 [l0, l1, l2, l3, l4, l5, l6] [] F L Q := wt_ifCond_eq dX12_people_179 (t := 186) rfl
set_option maxHeartbeats 100000 in
theorem kX12_people_182 {d : Nat} {F : am_FT} {L : am_LT} {Q : am_QT} {l0 l1 l2 l3 l4 l5 l6 : Option Value} : wt am_S0 d mX12_people 182 [l0, l1, l2, l3, l4, l5, l6] [] F L Q = wt am_S0 d mX12_people 187 [l0, l1, l2, l3, l4, l5, l6] [.int 1] F L Q := (wt_iconst dX12_people_182 (v := 1) (by decide)).trans (wt_goto dX12_people_183 (t := 187) rfl)
set_option maxHeartbeats 100000 in
theorem kX12_people_186 {d : Nat} {F : am_FT} {L : am_LT} {Q : am_QT} {l0 l1 l2 l3 l4 l5 l6 : Option Value} : wt am_S0 d mX12_people 186 [l0, l1, l2, l3, l4, l5, l6] [] F L Q = wt am_S0 d mX12_people 187 [l0, l1, l2, l3, l4, l5, l6] [.int 0] F L Q := wt_iconst dX12_people_186 (v := 0) (by decide)
set_option maxHeartbeats 100000 in
theorem kX12_people_187 {d : Nat} {F : am_FT} {L : am_LT} {Q : am_QT} {l0 l1 l2 l3 l5 l6 : Option Value} {s0 x4 : Int32} : wt am_S0 d mX12_people 187 [l0, l1, l2, l3, some (.int x4), l5, l6] [.int s0] F L Q = if s0 = 0 then wt am_S0 d mX12_people 229 [l0, l1, l2, l3, some (.int x4), some (.int s0), l6] [] F L Q else wt am_S0 d mX12_people 194 [l0, l1, l2, l3, some (.int x4), some (.int s0), l6] [] F L Q := (wt_istore dX12_people_187 (lv1 := [l0, l1, l2, l3, some (.int x4), some (.int s0), l6]) (Nat.le_of_ble_eq_true rfl) rfl).trans ((wt_iload dX12_people_189 rfl).trans (wt_ifCond_eq dX12_people_191 (t := 229) rfl))
set_option maxHeartbeats 100000 in
theorem kX12_people_194 {d : Nat} {F : am_FT} {L : am_LT} {Q : am_QT} {l1 l2 l3 l4 l5 : Option Value} {x6 : Int32} (h1 : am_oob x6 360 = false) (h2 : am_oob (x6 + 1) 360 = false) : wt am_S0 d mX12_people 194 [some (.ref 45), l1, l2, l3, l4, l5, some (.int x6)] [] F L Q = wt am_S0 d mX12_people 219 [some (.ref 45), l1, l2, l3, l4, l5, some (.int x6)] [.int x6, .ref 61, .int (Int64.toInt32 (L 61 (Int32.toNatClampNeg (x6 + 1)))), .int (Int64.toInt32 (L 61 (Int32.toNatClampNeg x6))), .ref 45] F L Q := (wt_aload_n dX12_people_194 rfl rfl).trans ((wt_aload_n dX12_people_195 rfl rfl).trans ((wt_getfield dX12_people_196 rfl rfl (v := .ref 61) rfl).trans ((wt_iload dX12_people_199 rfl).trans ((wt_laload dX12_people_201 rfl h1).trans ((wt_l2i dX12_people_202).trans ((wt_aload_n dX12_people_203 rfl rfl).trans ((wt_getfield dX12_people_204 rfl rfl (v := .ref 61) rfl).trans ((wt_iload dX12_people_207 rfl).trans ((wt_iconst dX12_people_209 (v := 1) (by decide)).trans ((wt_iadd dX12_people_210).trans ((wt_laload dX12_people_211 rfl h2).trans ((wt_l2i dX12_people_212).trans ((wt_aload_n dX12_people_213 rfl rfl).trans ((wt_getfield dX12_people_214 rfl rfl (v := .ref 61) rfl).trans (wt_iload dX12_people_217 rfl)))))))))))))))
set_option maxHeartbeats 100000 in
theorem kX12_people_219 {d : Nat} {F : am_FT} {L : am_LT} {Q : am_QT} {l0 l1 l2 l3 l4 l5 l6 : Option Value} {s1 s2 s4 : Int32} (h1 : am_oob (s4 + 2) 360 = false) : wt am_S0 (d + 1) mX12_people 219 [l0, l1, l2, l3, l4, l5, l6] [.int s4, .ref 61, .int s2, .int s1, .ref 45] F L Q = wc am_S0 d mX12_adds [.ref 45, .int s1, .int s2, .int (Int64.toInt32 (L 61 (Int32.toNatClampNeg (s4 + 2))))] F L (fun r G K => wt am_S0 (d + 1) mX12_people 226 [l0, l1, l2, l3, l4, l5, l6] (r.toList ++ []) G K Q) := (wt_iconst dX12_people_219 (v := 2) (by decide)).trans ((wt_iadd dX12_people_220).trans ((wt_laload dX12_people_221 rfl h1).trans ((wt_l2i dX12_people_222).trans (wt_callV dX12_people_223 rfl (as := [.int s1, .int s2, .int (Int64.toInt32 (L 61 (Int32.toNatClampNeg (s4 + 2))))]) (rest := []) rfl rfl (Nat.le_of_ble_eq_true rfl) rfl (Nat.le_of_ble_eq_true rfl)))))
set_option maxHeartbeats 100000 in
theorem kX12_people_226 {d : Nat} {F : am_FT} {L : am_LT} {Q : am_QT} {l0 l1 l2 l5 l6 : Option Value} {x4 x3 : Int32} : wt am_S0 d mX12_people 226 [l0, l1, l2, some (.int x3), some (.int x4), l5, l6] [] F L Q = wt am_S0 d mX12_people 229 [l0, l1, l2, some (.int x3), some (.int (x4 + 1)), l5, l6] [] F L Q := wt_iinc dX12_people_226 (v := 1) (lv1 := [l0, l1, l2, some (.int x3), some (.int (x4 + 1)), l5, l6]) rfl (Nat.le_of_ble_eq_true rfl) (by decide) rfl
set_option maxHeartbeats 100000 in
theorem kX12_people_229 {d : Nat} {F : am_FT} {L : am_LT} {Q : am_QT} {l0 l1 l2 l3 l4 l5 l6 : Option Value} : wt am_S0 d mX12_people 229 [l0, l1, l2, l3, l4, l5, l6] [] F L Q = wt am_S0 d mX12_people 69 [l0, l1, l2, l3, l4, l5, l6] [] F L Q := wt_goto dX12_people_229 (t := 69) rfl
set_option maxHeartbeats 100000 in
theorem kX12_people_232 {d : Nat} {F : am_FT} {L : am_LT} {Q : am_QT} {l0 l1 l2 l3 l5 l6 : Option Value} {x4 : Int32} : wt am_S0 d mX12_people 232 [l0, l1, l2, l3, some (.int x4), l5, l6] [] F L Q = Q (some (.int x4)) F L := (wt_iload dX12_people_232 rfl).trans (wt_ireturn dX12_people_234 rfl rfl)
theorem dX12_isShelf_0 : decode mX12_isShelf.2.2.1 0 = .ok (.iload_n 0, 1) := by decide +kernel
theorem dX12_isShelf_1 : decode mX12_isShelf.2.2.1 1 = .ok (.i2l, 1) := by decide +kernel
theorem dX12_isShelf_2 : decode mX12_isShelf.2.2.1 2 = .ok (.lconst 0, 1) := by decide +kernel
theorem dX12_isShelf_3 : decode mX12_isShelf.2.2.1 3 = .ok (.ldc2_w 315, 3) := by decide +kernel
theorem dX12_isShelf_6 : decode mX12_isShelf.2.2.1 6 = .ok (.invokestatic 75, 3) := by decide +kernel
theorem dX12_isShelf_9 : decode mX12_isShelf.2.2.1 9 = .ok (.ireturn, 1) := by decide +kernel
set_option maxHeartbeats 100000 in
theorem kX12_isShelf_0 {d : Nat} {F : am_FT} {L : am_LT} {Q : am_QT} {x0 : Int32} : wt am_S0 (d + 1) mX12_isShelf 0 [some (.int x0)] [] F L Q = wc am_S0 d mX12_within [.long (Int32.toInt64 x0), .long 0, .long 5] F L (fun r G K => wt am_S0 (d + 1) mX12_isShelf 9 [some (.int x0)] (r.toList ++ []) G K Q) := (wt_iload_n dX12_isShelf_0 rfl).trans ((wt_i2l dX12_isShelf_1).trans ((wt_lconst dX12_isShelf_2 (v := 0) (by decide)).trans ((wt_ldc2_w dX12_isShelf_3 (v := 5) rfl).trans (wt_callS dX12_isShelf_6 rfl (as := [.long (Int32.toInt64 x0), .long 0, .long 5]) (rest := []) rfl rfl (Nat.le_of_ble_eq_true rfl) (Nat.le_of_ble_eq_true rfl)))))
set_option maxHeartbeats 100000 in
theorem kX12_isShelf_9 {d : Nat} {F : am_FT} {L : am_LT} {Q : am_QT} {l0 : Option Value} {s0 : Int32} (h1 : narrow .boolean (.int s0) = .int s0) : wt am_S0 d mX12_isShelf 9 [l0] [.int s0] F L Q = Q (some (.int s0)) F L := wt_ireturn dX12_isShelf_9 rfl h1
theorem dX12_mend_0 : decode mX12_mend.2.2.1 0 = .ok (.aload_n 0, 1) := by decide +kernel
theorem dX12_mend_1 : decode mX12_mend.2.2.1 1 = .ok (.iload_n 1, 1) := by decide +kernel
theorem dX12_mend_2 : decode mX12_mend.2.2.1 2 = .ok (.iload_n 2, 1) := by decide +kernel
theorem dX12_mend_3 : decode mX12_mend.2.2.1 3 = .ok (.invokevirtual 118, 3) := by decide +kernel
theorem dX12_mend_6 : decode mX12_mend.2.2.1 6 = .ok (.istore 4, 2) := by decide +kernel
theorem dX12_mend_8 : decode mX12_mend.2.2.1 8 = .ok (.iload 4, 2) := by decide +kernel
theorem dX12_mend_10 : decode mX12_mend.2.2.1 10 = .ok (.ifCond .lt 21, 3) := by decide +kernel
theorem dX12_mend_13 : decode mX12_mend.2.2.1 13 = .ok (.iload_n 2, 1) := by decide +kernel
theorem dX12_mend_14 : decode mX12_mend.2.2.1 14 = .ok (.iload_n 3, 1) := by decide +kernel
theorem dX12_mend_15 : decode mX12_mend.2.2.1 15 = .ok (.invokestatic 122, 3) := by decide +kernel
theorem dX12_mend_18 : decode mX12_mend.2.2.1 18 = .ok (.ifCond .eq 13, 3) := by decide +kernel
theorem dX12_mend_21 : decode mX12_mend.2.2.1 21 = .ok (.aload_n 0, 1) := by decide +kernel
theorem dX12_mend_22 : decode mX12_mend.2.2.1 22 = .ok (.iload 4, 2) := by decide +kernel
theorem dX12_mend_24 : decode mX12_mend.2.2.1 24 = .ok (.iload_n 3, 1) := by decide +kernel
theorem dX12_mend_25 : decode mX12_mend.2.2.1 25 = .ok (.invokevirtual 126, 3) := by decide +kernel
theorem dX12_mend_28 : decode mX12_mend.2.2.1 28 = .ok (.goto 4, 3) := by decide +kernel
theorem dX12_mend_31 : decode mX12_mend.2.2.1 31 = .ok (.iconst (-1), 1) := by decide +kernel
theorem dX12_mend_32 : decode mX12_mend.2.2.1 32 = .ok (.ireturn, 1) := by decide +kernel
set_option maxHeartbeats 100000 in
theorem kX12_mend_0 {d : Nat} {F : am_FT} {L : am_LT} {Q : am_QT} {l3 l4 : Option Value} {x1 x2 : Int32} : wt am_S0 (d + 1) mX12_mend 0 [some (.ref 45), some (.int x1), some (.int x2), l3, l4] [] F L Q = wc am_S0 d mX12_placeOf [.ref 45, .int x1, .int x2] F L (fun r G K => wt am_S0 (d + 1) mX12_mend 6 [some (.ref 45), some (.int x1), some (.int x2), l3, l4] (r.toList ++ []) G K Q) := (wt_aload_n dX12_mend_0 rfl rfl).trans ((wt_iload_n dX12_mend_1 rfl).trans ((wt_iload_n dX12_mend_2 rfl).trans (wt_callV dX12_mend_3 rfl (as := [.int x1, .int x2]) (rest := []) rfl rfl (Nat.le_of_ble_eq_true rfl) rfl (Nat.le_of_ble_eq_true rfl))))
set_option maxHeartbeats 100000 in
theorem kX12_mend_6 {d : Nat} {F : am_FT} {L : am_LT} {Q : am_QT} {l0 l1 l2 l4 : Option Value} {s0 x3 : Int32} : wt am_S0 d mX12_mend 6 [l0, l1, l2, some (.int x3), l4] [.int s0] F L Q = if s0 < 0 then wt am_S0 d mX12_mend 31 [l0, l1, l2, some (.int x3), some (.int s0)] [] F L Q else wt am_S0 d mX12_mend 13 [l0, l1, l2, some (.int x3), some (.int s0)] [] F L Q := (wt_istore dX12_mend_6 (lv1 := [l0, l1, l2, some (.int x3), some (.int s0)]) (Nat.le_of_ble_eq_true rfl) rfl).trans ((wt_iload dX12_mend_8 rfl).trans (wt_ifCond_lt dX12_mend_10 (t := 31) rfl))
set_option maxHeartbeats 100000 in
theorem kX12_mend_13 {d : Nat} {F : am_FT} {L : am_LT} {Q : am_QT} {l0 l1 l4 : Option Value} {x2 x3 : Int32} : wt am_S0 (d + 1) mX12_mend 13 [l0, l1, some (.int x2), some (.int x3), l4] [] F L Q = wc am_S0 d mX12_mayBecome [.int x2, .int x3] F L (fun r G K => wt am_S0 (d + 1) mX12_mend 18 [l0, l1, some (.int x2), some (.int x3), l4] (r.toList ++ []) G K Q) := (wt_iload_n dX12_mend_13 rfl).trans ((wt_iload_n dX12_mend_14 rfl).trans (wt_callS dX12_mend_15 rfl (as := [.int x2, .int x3]) (rest := []) rfl rfl (Nat.le_of_ble_eq_true rfl) (Nat.le_of_ble_eq_true rfl)))
set_option maxHeartbeats 100000 in
theorem kX12_mend_18 {d : Nat} {F : am_FT} {L : am_LT} {Q : am_QT} {l0 l1 l2 l3 l4 : Option Value} {s0 : Int32} : wt am_S0 d mX12_mend 18 [l0, l1, l2, l3, l4] [.int s0] F L Q = if s0 = 0 then wt am_S0 d mX12_mend 31 [l0, l1, l2, l3, l4] [] F L Q else wt am_S0 d mX12_mend 21 [l0, l1, l2, l3, l4] [] F L Q := wt_ifCond_eq dX12_mend_18 (t := 31) rfl
set_option maxHeartbeats 100000 in
theorem kX12_mend_21 {d : Nat} {F : am_FT} {L : am_LT} {Q : am_QT} {l1 l2 : Option Value} {x4 x3 : Int32} : wt am_S0 (d + 1) mX12_mend 21 [some (.ref 45), l1, l2, some (.int x3), some (.int x4)] [] F L Q = wc am_S0 d mX12_becomes [.ref 45, .int x4, .int x3] F L (fun r G K => wt am_S0 (d + 1) mX12_mend 28 [some (.ref 45), l1, l2, some (.int x3), some (.int x4)] (r.toList ++ []) G K Q) := (wt_aload_n dX12_mend_21 rfl rfl).trans ((wt_iload dX12_mend_22 rfl).trans ((wt_iload_n dX12_mend_24 rfl).trans (wt_callV dX12_mend_25 rfl (as := [.int x4, .int x3]) (rest := []) rfl rfl (Nat.le_of_ble_eq_true rfl) rfl (Nat.le_of_ble_eq_true rfl))))
set_option maxHeartbeats 100000 in
theorem kX12_mend_28 {d : Nat} {F : am_FT} {L : am_LT} {Q : am_QT} {l0 l1 l2 l3 l4 : Option Value} {s0 : Int32} : wt am_S0 d mX12_mend 28 [l0, l1, l2, l3, l4] [.int s0] F L Q = wt am_S0 d mX12_mend 32 [l0, l1, l2, l3, l4] [.int s0] F L Q := wt_goto dX12_mend_28 (t := 32) rfl
set_option maxHeartbeats 100000 in
theorem kX12_mend_31 {d : Nat} {F : am_FT} {L : am_LT} {Q : am_QT} {l0 l1 l2 l3 l4 : Option Value} : wt am_S0 d mX12_mend 31 [l0, l1, l2, l3, l4] [] F L Q = wt am_S0 d mX12_mend 32 [l0, l1, l2, l3, l4] [.int (-1)] F L Q := wt_iconst dX12_mend_31 (v := (-1)) (by decide)
set_option maxHeartbeats 100000 in
theorem kX12_mend_32 {d : Nat} {F : am_FT} {L : am_LT} {Q : am_QT} {l0 l1 l2 l3 l4 : Option Value} {s0 : Int32} : wt am_S0 d mX12_mend 32 [l0, l1, l2, l3, l4] [.int s0] F L Q = Q (some (.int s0)) F L := wt_ireturn dX12_mend_32 rfl rfl
theorem dX12_placeOf_0 : decode mX12_placeOf.2.2.1 0 = .ok (.iload_n 2, 1) := by decide +kernel
theorem dX12_placeOf_1 : decode mX12_placeOf.2.2.1 1 = .ok (.tableswitch 105 0 6 #[43, 43, 43, 63, 80, 80, 80], 43) := by decide +kernel
theorem dX12_placeOf_44 : decode mX12_placeOf.2.2.1 44 = .ok (.aload_n 0, 1) := by decide +kernel
theorem dX12_placeOf_45 : decode mX12_placeOf.2.2.1 45 = .ok (.iload_n 1, 1) := by decide +kernel
theorem dX12_placeOf_46 : decode mX12_placeOf.2.2.1 46 = .ok (.i2l, 1) := by decide +kernel
theorem dX12_placeOf_47 : decode mX12_placeOf.2.2.1 47 = .ok (.invokevirtual 86, 3) := by decide +kernel
theorem dX12_placeOf_50 : decode mX12_placeOf.2.2.1 50 = .ok (.ifCond .eq 12, 3) := by decide +kernel
theorem dX12_placeOf_53 : decode mX12_placeOf.2.2.1 53 = .ok (.bipush 6, 2) := by decide +kernel
theorem dX12_placeOf_55 : decode mX12_placeOf.2.2.1 55 = .ok (.iload_n 2, 1) := by decide +kernel
theorem dX12_placeOf_56 : decode mX12_placeOf.2.2.1 56 = .ok (.imul, 1) := by decide +kernel
theorem dX12_placeOf_57 : decode mX12_placeOf.2.2.1 57 = .ok (.iload_n 1, 1) := by decide +kernel
theorem dX12_placeOf_58 : decode mX12_placeOf.2.2.1 58 = .ok (.iadd, 1) := by decide +kernel
theorem dX12_placeOf_59 : decode mX12_placeOf.2.2.1 59 = .ok (.goto 4, 3) := by decide +kernel
theorem dX12_placeOf_62 : decode mX12_placeOf.2.2.1 62 = .ok (.iconst (-1), 1) := by decide +kernel
theorem dX12_placeOf_63 : decode mX12_placeOf.2.2.1 63 = .ok (.ireturn, 1) := by decide +kernel
theorem dX12_placeOf_64 : decode mX12_placeOf.2.2.1 64 = .ok (.iload_n 1, 1) := by decide +kernel
theorem dX12_placeOf_65 : decode mX12_placeOf.2.2.1 65 = .ok (.i2l, 1) := by decide +kernel
theorem dX12_placeOf_66 : decode mX12_placeOf.2.2.1 66 = .ok (.invokestatic 90, 3) := by decide +kernel
theorem dX12_placeOf_69 : decode mX12_placeOf.2.2.1 69 = .ok (.ifCond .eq 10, 3) := by decide +kernel
theorem dX12_placeOf_72 : decode mX12_placeOf.2.2.1 72 = .ok (.bipush 18, 2) := by decide +kernel
theorem dX12_placeOf_74 : decode mX12_placeOf.2.2.1 74 = .ok (.iload_n 1, 1) := by decide +kernel
theorem dX12_placeOf_75 : decode mX12_placeOf.2.2.1 75 = .ok (.iadd, 1) := by decide +kernel
theorem dX12_placeOf_76 : decode mX12_placeOf.2.2.1 76 = .ok (.goto 4, 3) := by decide +kernel
theorem dX12_placeOf_79 : decode mX12_placeOf.2.2.1 79 = .ok (.iconst (-1), 1) := by decide +kernel
theorem dX12_placeOf_80 : decode mX12_placeOf.2.2.1 80 = .ok (.ireturn, 1) := by decide +kernel
theorem dX12_placeOf_81 : decode mX12_placeOf.2.2.1 81 = .ok (.aload_n 0, 1) := by decide +kernel
theorem dX12_placeOf_82 : decode mX12_placeOf.2.2.1 82 = .ok (.iload_n 1, 1) := by decide +kernel
theorem dX12_placeOf_83 : decode mX12_placeOf.2.2.1 83 = .ok (.i2l, 1) := by decide +kernel
theorem dX12_placeOf_84 : decode mX12_placeOf.2.2.1 84 = .ok (.invokevirtual 115, 3) := by decide +kernel
theorem dX12_placeOf_87 : decode mX12_placeOf.2.2.1 87 = .ok (.ifCond .eq 17, 3) := by decide +kernel
theorem dX12_placeOf_90 : decode mX12_placeOf.2.2.1 90 = .ok (.bipush 30, 2) := by decide +kernel
theorem dX12_placeOf_92 : decode mX12_placeOf.2.2.1 92 = .ok (.bipush 10, 2) := by decide +kernel
theorem dX12_placeOf_94 : decode mX12_placeOf.2.2.1 94 = .ok (.iload_n 2, 1) := by decide +kernel
theorem dX12_placeOf_95 : decode mX12_placeOf.2.2.1 95 = .ok (.iconst 4, 1) := by decide +kernel
theorem dX12_placeOf_96 : decode mX12_placeOf.2.2.1 96 = .ok (.isub, 1) := by decide +kernel
theorem dX12_placeOf_97 : decode mX12_placeOf.2.2.1 97 = .ok (.imul, 1) := by decide +kernel
theorem dX12_placeOf_98 : decode mX12_placeOf.2.2.1 98 = .ok (.iadd, 1) := by decide +kernel
theorem dX12_placeOf_99 : decode mX12_placeOf.2.2.1 99 = .ok (.iload_n 1, 1) := by decide +kernel
theorem dX12_placeOf_100 : decode mX12_placeOf.2.2.1 100 = .ok (.iadd, 1) := by decide +kernel
theorem dX12_placeOf_101 : decode mX12_placeOf.2.2.1 101 = .ok (.goto 4, 3) := by decide +kernel
theorem dX12_placeOf_104 : decode mX12_placeOf.2.2.1 104 = .ok (.iconst (-1), 1) := by decide +kernel
theorem dX12_placeOf_105 : decode mX12_placeOf.2.2.1 105 = .ok (.ireturn, 1) := by decide +kernel
theorem dX12_placeOf_106 : decode mX12_placeOf.2.2.1 106 = .ok (.iconst (-1), 1) := by decide +kernel
theorem dX12_placeOf_107 : decode mX12_placeOf.2.2.1 107 = .ok (.ireturn, 1) := by decide +kernel
set_option maxHeartbeats 100000 in
theorem kX12_placeOf_0 {d : Nat} {F : am_FT} {L : am_LT} {Q : am_QT} {l0 l1 : Option Value} {x2 : Int32} : wt am_S0 d mX12_placeOf 0 [l0, l1, some (.int x2)] [] F L Q = if x2 = 0 then wt am_S0 d mX12_placeOf 44 [l0, l1, some (.int x2)] [] F L Q else if x2 = 1 then wt am_S0 d mX12_placeOf 44 [l0, l1, some (.int x2)] [] F L Q else if x2 = 2 then wt am_S0 d mX12_placeOf 44 [l0, l1, some (.int x2)] [] F L Q else if x2 = 3 then wt am_S0 d mX12_placeOf 64 [l0, l1, some (.int x2)] [] F L Q else if x2 = 4 then wt am_S0 d mX12_placeOf 81 [l0, l1, some (.int x2)] [] F L Q else if x2 = 5 then wt am_S0 d mX12_placeOf 81 [l0, l1, some (.int x2)] [] F L Q else if x2 = 6 then wt am_S0 d mX12_placeOf 81 [l0, l1, some (.int x2)] [] F L Q else wt am_S0 d mX12_placeOf 106 [l0, l1, some (.int x2)] [] F L Q := by
  rw [wt_iload_n dX12_placeOf_0 rfl]
  by_cases g0 : x2 = 0
  · rw [if_pos g0, g0]
    exact wt_tableI dX12_placeOf_1 (by decide) (off := 43) rfl (t := 44) rfl
  rw [if_neg g0]
  by_cases g1 : x2 = 1
  · rw [if_pos g1, g1]
    exact wt_tableI dX12_placeOf_1 (by decide) (off := 43) rfl (t := 44) rfl
  rw [if_neg g1]
  by_cases g2 : x2 = 2
  · rw [if_pos g2, g2]
    exact wt_tableI dX12_placeOf_1 (by decide) (off := 43) rfl (t := 44) rfl
  rw [if_neg g2]
  by_cases g3 : x2 = 3
  · rw [if_pos g3, g3]
    exact wt_tableI dX12_placeOf_1 (by decide) (off := 63) rfl (t := 64) rfl
  rw [if_neg g3]
  by_cases g4 : x2 = 4
  · rw [if_pos g4, g4]
    exact wt_tableI dX12_placeOf_1 (by decide) (off := 80) rfl (t := 81) rfl
  rw [if_neg g4]
  by_cases g5 : x2 = 5
  · rw [if_pos g5, g5]
    exact wt_tableI dX12_placeOf_1 (by decide) (off := 80) rfl (t := 81) rfl
  rw [if_neg g5]
  by_cases g6 : x2 = 6
  · rw [if_pos g6, g6]
    exact wt_tableI dX12_placeOf_1 (by decide) (off := 80) rfl (t := 81) rfl
  rw [if_neg g6]
  have i0 : ¬ ((x2 : Int32)).toInt = 0 := fun z => g0 (Int32.toInt_inj.mp (z.trans (by decide)))
  have i1 : ¬ ((x2 : Int32)).toInt = 1 := fun z => g1 (Int32.toInt_inj.mp (z.trans (by decide)))
  have i2 : ¬ ((x2 : Int32)).toInt = 2 := fun z => g2 (Int32.toInt_inj.mp (z.trans (by decide)))
  have i3 : ¬ ((x2 : Int32)).toInt = 3 := fun z => g3 (Int32.toInt_inj.mp (z.trans (by decide)))
  have i4 : ¬ ((x2 : Int32)).toInt = 4 := fun z => g4 (Int32.toInt_inj.mp (z.trans (by decide)))
  have i5 : ¬ ((x2 : Int32)).toInt = 5 := fun z => g5 (Int32.toInt_inj.mp (z.trans (by decide)))
  have i6 : ¬ ((x2 : Int32)).toInt = 6 := fun z => g6 (Int32.toInt_inj.mp (z.trans (by decide)))
  exact wt_tableO dX12_placeOf_1 (by omega) (t := 106) rfl
set_option maxHeartbeats 100000 in
theorem kX12_placeOf_44 {d : Nat} {F : am_FT} {L : am_LT} {Q : am_QT} {l2 : Option Value} {x1 : Int32} : wt am_S0 (d + 1) mX12_placeOf 44 [some (.ref 45), some (.int x1), l2] [] F L Q = wc am_S0 d mX12_isTree [.ref 45, .long (Int32.toInt64 x1)] F L (fun r G K => wt am_S0 (d + 1) mX12_placeOf 50 [some (.ref 45), some (.int x1), l2] (r.toList ++ []) G K Q) := (wt_aload_n dX12_placeOf_44 rfl rfl).trans ((wt_iload_n dX12_placeOf_45 rfl).trans ((wt_i2l dX12_placeOf_46).trans (wt_callV dX12_placeOf_47 rfl (as := [.long (Int32.toInt64 x1)]) (rest := []) rfl rfl (Nat.le_of_ble_eq_true rfl) rfl (Nat.le_of_ble_eq_true rfl))))
set_option maxHeartbeats 100000 in
theorem kX12_placeOf_50 {d : Nat} {F : am_FT} {L : am_LT} {Q : am_QT} {l0 l1 l2 : Option Value} {s0 : Int32} : wt am_S0 d mX12_placeOf 50 [l0, l1, l2] [.int s0] F L Q = if s0 = 0 then wt am_S0 d mX12_placeOf 62 [l0, l1, l2] [] F L Q else wt am_S0 d mX12_placeOf 53 [l0, l1, l2] [] F L Q := wt_ifCond_eq dX12_placeOf_50 (t := 62) rfl
set_option maxHeartbeats 100000 in
theorem kX12_placeOf_53 {d : Nat} {F : am_FT} {L : am_LT} {Q : am_QT} {l0 : Option Value} {x2 x1 : Int32} : wt am_S0 d mX12_placeOf 53 [l0, some (.int x1), some (.int x2)] [] F L Q = wt am_S0 d mX12_placeOf 63 [l0, some (.int x1), some (.int x2)] [.int ((6 * x2) + x1)] F L Q := (wt_bipush dX12_placeOf_53 (v := 6) (by decide)).trans ((wt_iload_n dX12_placeOf_55 rfl).trans ((wt_imul dX12_placeOf_56).trans ((wt_iload_n dX12_placeOf_57 rfl).trans ((wt_iadd dX12_placeOf_58).trans (wt_goto dX12_placeOf_59 (t := 63) rfl)))))
set_option maxHeartbeats 100000 in
theorem kX12_placeOf_62 {d : Nat} {F : am_FT} {L : am_LT} {Q : am_QT} {l0 l1 l2 : Option Value} : wt am_S0 d mX12_placeOf 62 [l0, l1, l2] [] F L Q = wt am_S0 d mX12_placeOf 63 [l0, l1, l2] [.int (-1)] F L Q := wt_iconst dX12_placeOf_62 (v := (-1)) (by decide)
set_option maxHeartbeats 100000 in
theorem kX12_placeOf_63 {d : Nat} {F : am_FT} {L : am_LT} {Q : am_QT} {l0 l1 l2 : Option Value} {s0 : Int32} : wt am_S0 d mX12_placeOf 63 [l0, l1, l2] [.int s0] F L Q = Q (some (.int s0)) F L := wt_ireturn dX12_placeOf_63 rfl rfl
set_option maxHeartbeats 100000 in
theorem kX12_placeOf_64 {d : Nat} {F : am_FT} {L : am_LT} {Q : am_QT} {l0 l2 : Option Value} {x1 : Int32} : wt am_S0 (d + 1) mX12_placeOf 64 [l0, some (.int x1), l2] [] F L Q = wc am_S0 d mX12_isMonth [.long (Int32.toInt64 x1)] F L (fun r G K => wt am_S0 (d + 1) mX12_placeOf 69 [l0, some (.int x1), l2] (r.toList ++ []) G K Q) := (wt_iload_n dX12_placeOf_64 rfl).trans ((wt_i2l dX12_placeOf_65).trans (wt_callS dX12_placeOf_66 rfl (as := [.long (Int32.toInt64 x1)]) (rest := []) rfl rfl (Nat.le_of_ble_eq_true rfl) (Nat.le_of_ble_eq_true rfl)))
set_option maxHeartbeats 100000 in
theorem kX12_placeOf_69 {d : Nat} {F : am_FT} {L : am_LT} {Q : am_QT} {l0 l1 l2 : Option Value} {s0 : Int32} : wt am_S0 d mX12_placeOf 69 [l0, l1, l2] [.int s0] F L Q = if s0 = 0 then wt am_S0 d mX12_placeOf 79 [l0, l1, l2] [] F L Q else wt am_S0 d mX12_placeOf 72 [l0, l1, l2] [] F L Q := wt_ifCond_eq dX12_placeOf_69 (t := 79) rfl
set_option maxHeartbeats 100000 in
theorem kX12_placeOf_72 {d : Nat} {F : am_FT} {L : am_LT} {Q : am_QT} {l0 l2 : Option Value} {x1 : Int32} : wt am_S0 d mX12_placeOf 72 [l0, some (.int x1), l2] [] F L Q = wt am_S0 d mX12_placeOf 80 [l0, some (.int x1), l2] [.int (18 + x1)] F L Q := (wt_bipush dX12_placeOf_72 (v := 18) (by decide)).trans ((wt_iload_n dX12_placeOf_74 rfl).trans ((wt_iadd dX12_placeOf_75).trans (wt_goto dX12_placeOf_76 (t := 80) rfl)))
set_option maxHeartbeats 100000 in
theorem kX12_placeOf_79 {d : Nat} {F : am_FT} {L : am_LT} {Q : am_QT} {l0 l1 l2 : Option Value} : wt am_S0 d mX12_placeOf 79 [l0, l1, l2] [] F L Q = wt am_S0 d mX12_placeOf 80 [l0, l1, l2] [.int (-1)] F L Q := wt_iconst dX12_placeOf_79 (v := (-1)) (by decide)
set_option maxHeartbeats 100000 in
theorem kX12_placeOf_80 {d : Nat} {F : am_FT} {L : am_LT} {Q : am_QT} {l0 l1 l2 : Option Value} {s0 : Int32} : wt am_S0 d mX12_placeOf 80 [l0, l1, l2] [.int s0] F L Q = Q (some (.int s0)) F L := wt_ireturn dX12_placeOf_80 rfl rfl
set_option maxHeartbeats 100000 in
theorem kX12_placeOf_81 {d : Nat} {F : am_FT} {L : am_LT} {Q : am_QT} {l2 : Option Value} {x1 : Int32} : wt am_S0 (d + 1) mX12_placeOf 81 [some (.ref 45), some (.int x1), l2] [] F L Q = wc am_S0 d mX12_isOne [.ref 45, .long (Int32.toInt64 x1)] F L (fun r G K => wt am_S0 (d + 1) mX12_placeOf 87 [some (.ref 45), some (.int x1), l2] (r.toList ++ []) G K Q) := (wt_aload_n dX12_placeOf_81 rfl rfl).trans ((wt_iload_n dX12_placeOf_82 rfl).trans ((wt_i2l dX12_placeOf_83).trans (wt_callV dX12_placeOf_84 rfl (as := [.long (Int32.toInt64 x1)]) (rest := []) rfl rfl (Nat.le_of_ble_eq_true rfl) rfl (Nat.le_of_ble_eq_true rfl))))
set_option maxHeartbeats 100000 in
theorem kX12_placeOf_87 {d : Nat} {F : am_FT} {L : am_LT} {Q : am_QT} {l0 l1 l2 : Option Value} {s0 : Int32} : wt am_S0 d mX12_placeOf 87 [l0, l1, l2] [.int s0] F L Q = if s0 = 0 then wt am_S0 d mX12_placeOf 104 [l0, l1, l2] [] F L Q else wt am_S0 d mX12_placeOf 90 [l0, l1, l2] [] F L Q := wt_ifCond_eq dX12_placeOf_87 (t := 104) rfl
set_option maxHeartbeats 100000 in
theorem kX12_placeOf_90 {d : Nat} {F : am_FT} {L : am_LT} {Q : am_QT} {l0 : Option Value} {x2 x1 : Int32} : wt am_S0 d mX12_placeOf 90 [l0, some (.int x1), some (.int x2)] [] F L Q = wt am_S0 d mX12_placeOf 105 [l0, some (.int x1), some (.int x2)] [.int ((30 + (10 * (x2 - 4))) + x1)] F L Q := (wt_bipush dX12_placeOf_90 (v := 30) (by decide)).trans ((wt_bipush dX12_placeOf_92 (v := 10) (by decide)).trans ((wt_iload_n dX12_placeOf_94 rfl).trans ((wt_iconst dX12_placeOf_95 (v := 4) (by decide)).trans ((wt_isub dX12_placeOf_96).trans ((wt_imul dX12_placeOf_97).trans ((wt_iadd dX12_placeOf_98).trans ((wt_iload_n dX12_placeOf_99 rfl).trans ((wt_iadd dX12_placeOf_100).trans (wt_goto dX12_placeOf_101 (t := 105) rfl)))))))))
set_option maxHeartbeats 100000 in
theorem kX12_placeOf_104 {d : Nat} {F : am_FT} {L : am_LT} {Q : am_QT} {l0 l1 l2 : Option Value} : wt am_S0 d mX12_placeOf 104 [l0, l1, l2] [] F L Q = wt am_S0 d mX12_placeOf 105 [l0, l1, l2] [.int (-1)] F L Q := wt_iconst dX12_placeOf_104 (v := (-1)) (by decide)
set_option maxHeartbeats 100000 in
theorem kX12_placeOf_105 {d : Nat} {F : am_FT} {L : am_LT} {Q : am_QT} {l0 l1 l2 : Option Value} {s0 : Int32} : wt am_S0 d mX12_placeOf 105 [l0, l1, l2] [.int s0] F L Q = Q (some (.int s0)) F L := wt_ireturn dX12_placeOf_105 rfl rfl
set_option maxHeartbeats 100000 in
theorem kX12_placeOf_106 {d : Nat} {F : am_FT} {L : am_LT} {Q : am_QT} {l0 l1 l2 : Option Value} : wt am_S0 d mX12_placeOf 106 [l0, l1, l2] [] F L Q = Q (some (.int (-1))) F L := (wt_iconst dX12_placeOf_106 (v := (-1)) (by decide)).trans (wt_ireturn dX12_placeOf_107 rfl rfl)
theorem dX12_isTree_0 : decode mX12_isTree.2.2.1 0 = .ok (.lload_n 1, 1) := by decide +kernel
theorem dX12_isTree_1 : decode mX12_isTree.2.2.1 1 = .ok (.lconst 0, 1) := by decide +kernel
theorem dX12_isTree_2 : decode mX12_isTree.2.2.1 2 = .ok (.aload_n 0, 1) := by decide +kernel
theorem dX12_isTree_3 : decode mX12_isTree.2.2.1 3 = .ok (.getfield 72, 3) := by decide +kernel
theorem dX12_isTree_6 : decode mX12_isTree.2.2.1 6 = .ok (.iconst 1, 1) := by decide +kernel
theorem dX12_isTree_7 : decode mX12_isTree.2.2.1 7 = .ok (.isub, 1) := by decide +kernel
theorem dX12_isTree_8 : decode mX12_isTree.2.2.1 8 = .ok (.i2l, 1) := by decide +kernel
theorem dX12_isTree_9 : decode mX12_isTree.2.2.1 9 = .ok (.invokestatic 75, 3) := by decide +kernel
theorem dX12_isTree_12 : decode mX12_isTree.2.2.1 12 = .ok (.ireturn, 1) := by decide +kernel
set_option maxHeartbeats 100000 in
theorem kX12_isTree_0 {d : Nat} {F : am_FT} {L : am_LT} {Q : am_QT} {l2 : Option Value} {x1 : Int64} : wt am_S0 (d + 1) mX12_isTree 0 [some (.ref 45), some (.long x1), l2] [] F L Q = wc am_S0 d mX12_within [.long x1, .long 0, .long (Int32.toInt64 ((F 45 6) - 1))] F L (fun r G K => wt am_S0 (d + 1) mX12_isTree 12 [some (.ref 45), some (.long x1), l2] (r.toList ++ []) G K Q) := (wt_lload_n dX12_isTree_0 rfl).trans ((wt_lconst dX12_isTree_1 (v := 0) (by decide)).trans ((wt_aload_n dX12_isTree_2 rfl rfl).trans ((wt_getfield dX12_isTree_3 rfl rfl (v := .int (F 45 6)) rfl).trans ((wt_iconst dX12_isTree_6 (v := 1) (by decide)).trans ((wt_isub dX12_isTree_7).trans ((wt_i2l dX12_isTree_8).trans (wt_callS dX12_isTree_9 rfl (as := [.long x1, .long 0, .long (Int32.toInt64 ((F 45 6) - 1))]) (rest := []) rfl rfl (Nat.le_of_ble_eq_true rfl) (Nat.le_of_ble_eq_true rfl))))))))
set_option maxHeartbeats 100000 in
theorem kX12_isTree_12 {d : Nat} {F : am_FT} {L : am_LT} {Q : am_QT} {l0 l1 l2 : Option Value} {s0 : Int32} (h1 : narrow .boolean (.int s0) = .int s0) : wt am_S0 d mX12_isTree 12 [l0, l1, l2] [.int s0] F L Q = Q (some (.int s0)) F L := wt_ireturn dX12_isTree_12 rfl h1
theorem dX12_isMonth_0 : decode mX12_isMonth.2.2.1 0 = .ok (.lload_n 0, 1) := by decide +kernel
theorem dX12_isMonth_1 : decode mX12_isMonth.2.2.1 1 = .ok (.lconst 0, 1) := by decide +kernel
theorem dX12_isMonth_2 : decode mX12_isMonth.2.2.1 2 = .ok (.ldc2_w 84, 3) := by decide +kernel
theorem dX12_isMonth_5 : decode mX12_isMonth.2.2.1 5 = .ok (.invokestatic 75, 3) := by decide +kernel
theorem dX12_isMonth_8 : decode mX12_isMonth.2.2.1 8 = .ok (.ireturn, 1) := by decide +kernel
set_option maxHeartbeats 100000 in
theorem kX12_isMonth_0 {d : Nat} {F : am_FT} {L : am_LT} {Q : am_QT} {l1 : Option Value} {x0 : Int64} : wt am_S0 (d + 1) mX12_isMonth 0 [some (.long x0), l1] [] F L Q = wc am_S0 d mX12_within [.long x0, .long 0, .long 11] F L (fun r G K => wt am_S0 (d + 1) mX12_isMonth 8 [some (.long x0), l1] (r.toList ++ []) G K Q) := (wt_lload_n dX12_isMonth_0 rfl).trans ((wt_lconst dX12_isMonth_1 (v := 0) (by decide)).trans ((wt_ldc2_w dX12_isMonth_2 (v := 11) rfl).trans (wt_callS dX12_isMonth_5 rfl (as := [.long x0, .long 0, .long 11]) (rest := []) rfl rfl (Nat.le_of_ble_eq_true rfl) (Nat.le_of_ble_eq_true rfl))))
set_option maxHeartbeats 100000 in
theorem kX12_isMonth_8 {d : Nat} {F : am_FT} {L : am_LT} {Q : am_QT} {l0 l1 : Option Value} {s0 : Int32} (h1 : narrow .boolean (.int s0) = .int s0) : wt am_S0 d mX12_isMonth 8 [l0, l1] [.int s0] F L Q = Q (some (.int s0)) F L := wt_ireturn dX12_isMonth_8 rfl h1
theorem dX12_isOne_0 : decode mX12_isOne.2.2.1 0 = .ok (.lload_n 1, 1) := by decide +kernel
theorem dX12_isOne_1 : decode mX12_isOne.2.2.1 1 = .ok (.lconst 0, 1) := by decide +kernel
theorem dX12_isOne_2 : decode mX12_isOne.2.2.1 2 = .ok (.aload_n 0, 1) := by decide +kernel
theorem dX12_isOne_3 : decode mX12_isOne.2.2.1 3 = .ok (.getfield 79, 3) := by decide +kernel
theorem dX12_isOne_6 : decode mX12_isOne.2.2.1 6 = .ok (.iconst 1, 1) := by decide +kernel
theorem dX12_isOne_7 : decode mX12_isOne.2.2.1 7 = .ok (.isub, 1) := by decide +kernel
theorem dX12_isOne_8 : decode mX12_isOne.2.2.1 8 = .ok (.i2l, 1) := by decide +kernel
theorem dX12_isOne_9 : decode mX12_isOne.2.2.1 9 = .ok (.invokestatic 75, 3) := by decide +kernel
theorem dX12_isOne_12 : decode mX12_isOne.2.2.1 12 = .ok (.ireturn, 1) := by decide +kernel
set_option maxHeartbeats 100000 in
theorem kX12_isOne_0 {d : Nat} {F : am_FT} {L : am_LT} {Q : am_QT} {l2 : Option Value} {x1 : Int64} : wt am_S0 (d + 1) mX12_isOne 0 [some (.ref 45), some (.long x1), l2] [] F L Q = wc am_S0 d mX12_within [.long x1, .long 0, .long (Int32.toInt64 ((F 45 7) - 1))] F L (fun r G K => wt am_S0 (d + 1) mX12_isOne 12 [some (.ref 45), some (.long x1), l2] (r.toList ++ []) G K Q) := (wt_lload_n dX12_isOne_0 rfl).trans ((wt_lconst dX12_isOne_1 (v := 0) (by decide)).trans ((wt_aload_n dX12_isOne_2 rfl rfl).trans ((wt_getfield dX12_isOne_3 rfl rfl (v := .int (F 45 7)) rfl).trans ((wt_iconst dX12_isOne_6 (v := 1) (by decide)).trans ((wt_isub dX12_isOne_7).trans ((wt_i2l dX12_isOne_8).trans (wt_callS dX12_isOne_9 rfl (as := [.long x1, .long 0, .long (Int32.toInt64 ((F 45 7) - 1))]) (rest := []) rfl rfl (Nat.le_of_ble_eq_true rfl) (Nat.le_of_ble_eq_true rfl))))))))
set_option maxHeartbeats 100000 in
theorem kX12_isOne_12 {d : Nat} {F : am_FT} {L : am_LT} {Q : am_QT} {l0 l1 l2 : Option Value} {s0 : Int32} (h1 : narrow .boolean (.int s0) = .int s0) : wt am_S0 d mX12_isOne 12 [l0, l1, l2] [.int s0] F L Q = Q (some (.int s0)) F L := wt_ireturn dX12_isOne_12 rfl h1
theorem dX12_mayBecome_0 : decode mX12_mayBecome.2.2.1 0 = .ok (.iload_n 0, 1) := by decide +kernel
theorem dX12_mayBecome_1 : decode mX12_mayBecome.2.2.1 1 = .ok (.tableswitch 75 0 5 #[39, 45, 75, 55, 39, 65], 39) := by decide +kernel
theorem dX12_mayBecome_40 : decode mX12_mayBecome.2.2.1 40 = .ok (.iload_n 1, 1) := by decide +kernel
theorem dX12_mayBecome_41 : decode mX12_mayBecome.2.2.1 41 = .ok (.i2l, 1) := by decide +kernel
theorem dX12_mayBecome_42 : decode mX12_mayBecome.2.2.1 42 = .ok (.invokestatic 93, 3) := by decide +kernel
theorem dX12_mayBecome_45 : decode mX12_mayBecome.2.2.1 45 = .ok (.ireturn, 1) := by decide +kernel
theorem dX12_mayBecome_46 : decode mX12_mayBecome.2.2.1 46 = .ok (.iload_n 1, 1) := by decide +kernel
theorem dX12_mayBecome_47 : decode mX12_mayBecome.2.2.1 47 = .ok (.i2l, 1) := by decide +kernel
theorem dX12_mayBecome_48 : decode mX12_mayBecome.2.2.1 48 = .ok (.lconst 1, 1) := by decide +kernel
theorem dX12_mayBecome_49 : decode mX12_mayBecome.2.2.1 49 = .ok (.ldc2_w 96, 3) := by decide +kernel
theorem dX12_mayBecome_52 : decode mX12_mayBecome.2.2.1 52 = .ok (.invokestatic 75, 3) := by decide +kernel
theorem dX12_mayBecome_55 : decode mX12_mayBecome.2.2.1 55 = .ok (.ireturn, 1) := by decide +kernel
theorem dX12_mayBecome_56 : decode mX12_mayBecome.2.2.1 56 = .ok (.iload_n 1, 1) := by decide +kernel
theorem dX12_mayBecome_57 : decode mX12_mayBecome.2.2.1 57 = .ok (.i2l, 1) := by decide +kernel
theorem dX12_mayBecome_58 : decode mX12_mayBecome.2.2.1 58 = .ok (.lconst 0, 1) := by decide +kernel
theorem dX12_mayBecome_59 : decode mX12_mayBecome.2.2.1 59 = .ok (.ldc2_w 96, 3) := by decide +kernel
theorem dX12_mayBecome_62 : decode mX12_mayBecome.2.2.1 62 = .ok (.invokestatic 75, 3) := by decide +kernel
theorem dX12_mayBecome_65 : decode mX12_mayBecome.2.2.1 65 = .ok (.ireturn, 1) := by decide +kernel
theorem dX12_mayBecome_66 : decode mX12_mayBecome.2.2.1 66 = .ok (.iload_n 1, 1) := by decide +kernel
theorem dX12_mayBecome_67 : decode mX12_mayBecome.2.2.1 67 = .ok (.i2l, 1) := by decide +kernel
theorem dX12_mayBecome_68 : decode mX12_mayBecome.2.2.1 68 = .ok (.lconst 0, 1) := by decide +kernel
theorem dX12_mayBecome_69 : decode mX12_mayBecome.2.2.1 69 = .ok (.ldc2_w 101, 3) := by decide +kernel
theorem dX12_mayBecome_72 : decode mX12_mayBecome.2.2.1 72 = .ok (.invokestatic 75, 3) := by decide +kernel
theorem dX12_mayBecome_75 : decode mX12_mayBecome.2.2.1 75 = .ok (.ireturn, 1) := by decide +kernel
theorem dX12_mayBecome_76 : decode mX12_mayBecome.2.2.1 76 = .ok (.iload_n 1, 1) := by decide +kernel
theorem dX12_mayBecome_77 : decode mX12_mayBecome.2.2.1 77 = .ok (.i2l, 1) := by decide +kernel
theorem dX12_mayBecome_78 : decode mX12_mayBecome.2.2.1 78 = .ok (.lconst 0, 1) := by decide +kernel
theorem dX12_mayBecome_79 : decode mX12_mayBecome.2.2.1 79 = .ok (.ldc2_w 113, 3) := by decide +kernel
theorem dX12_mayBecome_82 : decode mX12_mayBecome.2.2.1 82 = .ok (.invokestatic 75, 3) := by decide +kernel
theorem dX12_mayBecome_85 : decode mX12_mayBecome.2.2.1 85 = .ok (.ireturn, 1) := by decide +kernel
set_option maxHeartbeats 100000 in
theorem kX12_mayBecome_0 {d : Nat} {F : am_FT} {L : am_LT} {Q : am_QT} {l1 : Option Value} {x0 : Int32} : wt am_S0 d mX12_mayBecome 0 [some (.int x0), l1] [] F L Q = if x0 = 0 then wt am_S0 d mX12_mayBecome 40 [some (.int x0), l1] [] F L Q else if x0 = 1 then wt am_S0 d mX12_mayBecome 46 [some (.int x0), l1] [] F L Q else if x0 = 2 then wt am_S0 d mX12_mayBecome 76 [some (.int x0), l1] [] F L Q else if x0 = 3 then wt am_S0 d mX12_mayBecome 56 [some (.int x0), l1] [] F L Q else if x0 = 4 then wt am_S0 d mX12_mayBecome 40 [some (.int x0), l1] [] F L Q else if x0 = 5 then wt am_S0 d mX12_mayBecome 66 [some (.int x0), l1] [] F L Q else wt am_S0 d mX12_mayBecome 76 [some (.int x0), l1] [] F L Q := by
  rw [wt_iload_n dX12_mayBecome_0 rfl]
  by_cases g0 : x0 = 0
  · rw [if_pos g0, g0]
    exact wt_tableI dX12_mayBecome_1 (by decide) (off := 39) rfl (t := 40) rfl
  rw [if_neg g0]
  by_cases g1 : x0 = 1
  · rw [if_pos g1, g1]
    exact wt_tableI dX12_mayBecome_1 (by decide) (off := 45) rfl (t := 46) rfl
  rw [if_neg g1]
  by_cases g2 : x0 = 2
  · rw [if_pos g2, g2]
    exact wt_tableI dX12_mayBecome_1 (by decide) (off := 75) rfl (t := 76) rfl
  rw [if_neg g2]
  by_cases g3 : x0 = 3
  · rw [if_pos g3, g3]
    exact wt_tableI dX12_mayBecome_1 (by decide) (off := 55) rfl (t := 56) rfl
  rw [if_neg g3]
  by_cases g4 : x0 = 4
  · rw [if_pos g4, g4]
    exact wt_tableI dX12_mayBecome_1 (by decide) (off := 39) rfl (t := 40) rfl
  rw [if_neg g4]
  by_cases g5 : x0 = 5
  · rw [if_pos g5, g5]
    exact wt_tableI dX12_mayBecome_1 (by decide) (off := 65) rfl (t := 66) rfl
  rw [if_neg g5]
  have i0 : ¬ ((x0 : Int32)).toInt = 0 := fun z => g0 (Int32.toInt_inj.mp (z.trans (by decide)))
  have i1 : ¬ ((x0 : Int32)).toInt = 1 := fun z => g1 (Int32.toInt_inj.mp (z.trans (by decide)))
  have i2 : ¬ ((x0 : Int32)).toInt = 2 := fun z => g2 (Int32.toInt_inj.mp (z.trans (by decide)))
  have i3 : ¬ ((x0 : Int32)).toInt = 3 := fun z => g3 (Int32.toInt_inj.mp (z.trans (by decide)))
  have i4 : ¬ ((x0 : Int32)).toInt = 4 := fun z => g4 (Int32.toInt_inj.mp (z.trans (by decide)))
  have i5 : ¬ ((x0 : Int32)).toInt = 5 := fun z => g5 (Int32.toInt_inj.mp (z.trans (by decide)))
  exact wt_tableO dX12_mayBecome_1 (by omega) (t := 76) rfl
set_option maxHeartbeats 100000 in
theorem kX12_mayBecome_40 {d : Nat} {F : am_FT} {L : am_LT} {Q : am_QT} {l0 : Option Value} {x1 : Int32} : wt am_S0 (d + 1) mX12_mayBecome 40 [l0, some (.int x1)] [] F L Q = wc am_S0 d mX12_isCell [.long (Int32.toInt64 x1)] F L (fun r G K => wt am_S0 (d + 1) mX12_mayBecome 45 [l0, some (.int x1)] (r.toList ++ []) G K Q) := (wt_iload_n dX12_mayBecome_40 rfl).trans ((wt_i2l dX12_mayBecome_41).trans (wt_callS dX12_mayBecome_42 rfl (as := [.long (Int32.toInt64 x1)]) (rest := []) rfl rfl (Nat.le_of_ble_eq_true rfl) (Nat.le_of_ble_eq_true rfl)))
set_option maxHeartbeats 100000 in
theorem kX12_mayBecome_45 {d : Nat} {F : am_FT} {L : am_LT} {Q : am_QT} {l0 l1 : Option Value} {s0 : Int32} (h1 : narrow .boolean (.int s0) = .int s0) : wt am_S0 d mX12_mayBecome 45 [l0, l1] [.int s0] F L Q = Q (some (.int s0)) F L := wt_ireturn dX12_mayBecome_45 rfl h1
set_option maxHeartbeats 100000 in
theorem kX12_mayBecome_46 {d : Nat} {F : am_FT} {L : am_LT} {Q : am_QT} {l0 : Option Value} {x1 : Int32} : wt am_S0 (d + 1) mX12_mayBecome 46 [l0, some (.int x1)] [] F L Q = wc am_S0 d mX12_within [.long (Int32.toInt64 x1), .long 1, .long 9] F L (fun r G K => wt am_S0 (d + 1) mX12_mayBecome 55 [l0, some (.int x1)] (r.toList ++ []) G K Q) := (wt_iload_n dX12_mayBecome_46 rfl).trans ((wt_i2l dX12_mayBecome_47).trans ((wt_lconst dX12_mayBecome_48 (v := 1) (by decide)).trans ((wt_ldc2_w dX12_mayBecome_49 (v := 9) rfl).trans (wt_callS dX12_mayBecome_52 rfl (as := [.long (Int32.toInt64 x1), .long 1, .long 9]) (rest := []) rfl rfl (Nat.le_of_ble_eq_true rfl) (Nat.le_of_ble_eq_true rfl)))))
set_option maxHeartbeats 100000 in
theorem kX12_mayBecome_55 {d : Nat} {F : am_FT} {L : am_LT} {Q : am_QT} {l0 l1 : Option Value} {s0 : Int32} (h1 : narrow .boolean (.int s0) = .int s0) : wt am_S0 d mX12_mayBecome 55 [l0, l1] [.int s0] F L Q = Q (some (.int s0)) F L := wt_ireturn dX12_mayBecome_55 rfl h1
set_option maxHeartbeats 100000 in
theorem kX12_mayBecome_56 {d : Nat} {F : am_FT} {L : am_LT} {Q : am_QT} {l0 : Option Value} {x1 : Int32} : wt am_S0 (d + 1) mX12_mayBecome 56 [l0, some (.int x1)] [] F L Q = wc am_S0 d mX12_within [.long (Int32.toInt64 x1), .long 0, .long 9] F L (fun r G K => wt am_S0 (d + 1) mX12_mayBecome 65 [l0, some (.int x1)] (r.toList ++ []) G K Q) := (wt_iload_n dX12_mayBecome_56 rfl).trans ((wt_i2l dX12_mayBecome_57).trans ((wt_lconst dX12_mayBecome_58 (v := 0) (by decide)).trans ((wt_ldc2_w dX12_mayBecome_59 (v := 9) rfl).trans (wt_callS dX12_mayBecome_62 rfl (as := [.long (Int32.toInt64 x1), .long 0, .long 9]) (rest := []) rfl rfl (Nat.le_of_ble_eq_true rfl) (Nat.le_of_ble_eq_true rfl)))))
set_option maxHeartbeats 100000 in
theorem kX12_mayBecome_65 {d : Nat} {F : am_FT} {L : am_LT} {Q : am_QT} {l0 l1 : Option Value} {s0 : Int32} (h1 : narrow .boolean (.int s0) = .int s0) : wt am_S0 d mX12_mayBecome 65 [l0, l1] [.int s0] F L Q = Q (some (.int s0)) F L := wt_ireturn dX12_mayBecome_65 rfl h1
set_option maxHeartbeats 100000 in
theorem kX12_mayBecome_66 {d : Nat} {F : am_FT} {L : am_LT} {Q : am_QT} {l0 : Option Value} {x1 : Int32} : wt am_S0 (d + 1) mX12_mayBecome 66 [l0, some (.int x1)] [] F L Q = wc am_S0 d mX12_within [.long (Int32.toInt64 x1), .long 0, .long 63] F L (fun r G K => wt am_S0 (d + 1) mX12_mayBecome 75 [l0, some (.int x1)] (r.toList ++ []) G K Q) := (wt_iload_n dX12_mayBecome_66 rfl).trans ((wt_i2l dX12_mayBecome_67).trans ((wt_lconst dX12_mayBecome_68 (v := 0) (by decide)).trans ((wt_ldc2_w dX12_mayBecome_69 (v := 63) rfl).trans (wt_callS dX12_mayBecome_72 rfl (as := [.long (Int32.toInt64 x1), .long 0, .long 63]) (rest := []) rfl rfl (Nat.le_of_ble_eq_true rfl) (Nat.le_of_ble_eq_true rfl)))))
set_option maxHeartbeats 100000 in
theorem kX12_mayBecome_75 {d : Nat} {F : am_FT} {L : am_LT} {Q : am_QT} {l0 l1 : Option Value} {s0 : Int32} (h1 : narrow .boolean (.int s0) = .int s0) : wt am_S0 d mX12_mayBecome 75 [l0, l1] [.int s0] F L Q = Q (some (.int s0)) F L := wt_ireturn dX12_mayBecome_75 rfl h1
set_option maxHeartbeats 100000 in
theorem kX12_mayBecome_76 {d : Nat} {F : am_FT} {L : am_LT} {Q : am_QT} {l0 : Option Value} {x1 : Int32} : wt am_S0 (d + 1) mX12_mayBecome 76 [l0, some (.int x1)] [] F L Q = wc am_S0 d mX12_within [.long (Int32.toInt64 x1), .long 0, .long 3] F L (fun r G K => wt am_S0 (d + 1) mX12_mayBecome 85 [l0, some (.int x1)] (r.toList ++ []) G K Q) := (wt_iload_n dX12_mayBecome_76 rfl).trans ((wt_i2l dX12_mayBecome_77).trans ((wt_lconst dX12_mayBecome_78 (v := 0) (by decide)).trans ((wt_ldc2_w dX12_mayBecome_79 (v := 3) rfl).trans (wt_callS dX12_mayBecome_82 rfl (as := [.long (Int32.toInt64 x1), .long 0, .long 3]) (rest := []) rfl rfl (Nat.le_of_ble_eq_true rfl) (Nat.le_of_ble_eq_true rfl)))))
set_option maxHeartbeats 100000 in
theorem kX12_mayBecome_85 {d : Nat} {F : am_FT} {L : am_LT} {Q : am_QT} {l0 l1 : Option Value} {s0 : Int32} (h1 : narrow .boolean (.int s0) = .int s0) : wt am_S0 d mX12_mayBecome 85 [l0, l1] [.int s0] F L Q = Q (some (.int s0)) F L := wt_ireturn dX12_mayBecome_85 rfl h1
theorem dX12_becomes_0 : decode mX12_becomes.2.2.1 0 = .ok (.aload_n 0, 1) := by decide +kernel
theorem dX12_becomes_1 : decode mX12_becomes.2.2.1 1 = .ok (.getfield 9, 3) := by decide +kernel
theorem dX12_becomes_4 : decode mX12_becomes.2.2.1 4 = .ok (.iload_n 1, 1) := by decide +kernel
theorem dX12_becomes_5 : decode mX12_becomes.2.2.1 5 = .ok (.iaload, 1) := by decide +kernel
theorem dX12_becomes_6 : decode mX12_becomes.2.2.1 6 = .ok (.istore_n 3, 1) := by decide +kernel
theorem dX12_becomes_7 : decode mX12_becomes.2.2.1 7 = .ok (.iload_n 3, 1) := by decide +kernel
theorem dX12_becomes_8 : decode mX12_becomes.2.2.1 8 = .ok (.iload_n 2, 1) := by decide +kernel
theorem dX12_becomes_9 : decode mX12_becomes.2.2.1 9 = .ok (.if_icmp .ne 5, 3) := by decide +kernel
theorem dX12_becomes_12 : decode mX12_becomes.2.2.1 12 = .ok (.iload_n 3, 1) := by decide +kernel
theorem dX12_becomes_13 : decode mX12_becomes.2.2.1 13 = .ok (.ireturn, 1) := by decide +kernel
theorem dX12_becomes_14 : decode mX12_becomes.2.2.1 14 = .ok (.aload_n 0, 1) := by decide +kernel
theorem dX12_becomes_15 : decode mX12_becomes.2.2.1 15 = .ok (.getfield 66, 3) := by decide +kernel
theorem dX12_becomes_18 : decode mX12_becomes.2.2.1 18 = .ok (.bipush 40, 2) := by decide +kernel
theorem dX12_becomes_20 : decode mX12_becomes.2.2.1 20 = .ok (.if_icmp .ne 77, 3) := by decide +kernel
theorem dX12_becomes_23 : decode mX12_becomes.2.2.1 23 = .ok (.iconst 1, 1) := by decide +kernel
theorem dX12_becomes_24 : decode mX12_becomes.2.2.1 24 = .ok (.istore 4, 2) := by decide +kernel
theorem dX12_becomes_26 : decode mX12_becomes.2.2.1 26 = .ok (.iload 4, 2) := by decide +kernel
theorem dX12_becomes_28 : decode mX12_becomes.2.2.1 28 = .ok (.bipush 40, 2) := by decide +kernel
theorem dX12_becomes_30 : decode mX12_becomes.2.2.1 30 = .ok (.if_icmp .ge 57, 3) := by decide +kernel
theorem dX12_becomes_33 : decode mX12_becomes.2.2.1 33 = .ok (.aload_n 0, 1) := by decide +kernel
theorem dX12_becomes_34 : decode mX12_becomes.2.2.1 34 = .ok (.getfield 13, 3) := by decide +kernel
theorem dX12_becomes_37 : decode mX12_becomes.2.2.1 37 = .ok (.iload 4, 2) := by decide +kernel
theorem dX12_becomes_39 : decode mX12_becomes.2.2.1 39 = .ok (.iconst 1, 1) := by decide +kernel
theorem dX12_becomes_40 : decode mX12_becomes.2.2.1 40 = .ok (.isub, 1) := by decide +kernel
theorem dX12_becomes_41 : decode mX12_becomes.2.2.1 41 = .ok (.aload_n 0, 1) := by decide +kernel
theorem dX12_becomes_42 : decode mX12_becomes.2.2.1 42 = .ok (.getfield 13, 3) := by decide +kernel
theorem dX12_becomes_45 : decode mX12_becomes.2.2.1 45 = .ok (.iload 4, 2) := by decide +kernel
theorem dX12_becomes_47 : decode mX12_becomes.2.2.1 47 = .ok (.iaload, 1) := by decide +kernel
theorem dX12_becomes_48 : decode mX12_becomes.2.2.1 48 = .ok (.iastore, 1) := by decide +kernel
theorem dX12_becomes_49 : decode mX12_becomes.2.2.1 49 = .ok (.aload_n 0, 1) := by decide +kernel
theorem dX12_becomes_50 : decode mX12_becomes.2.2.1 50 = .ok (.getfield 16, 3) := by decide +kernel
theorem dX12_becomes_53 : decode mX12_becomes.2.2.1 53 = .ok (.iload 4, 2) := by decide +kernel
theorem dX12_becomes_55 : decode mX12_becomes.2.2.1 55 = .ok (.iconst 1, 1) := by decide +kernel
theorem dX12_becomes_56 : decode mX12_becomes.2.2.1 56 = .ok (.isub, 1) := by decide +kernel
theorem dX12_becomes_57 : decode mX12_becomes.2.2.1 57 = .ok (.aload_n 0, 1) := by decide +kernel
theorem dX12_becomes_58 : decode mX12_becomes.2.2.1 58 = .ok (.getfield 16, 3) := by decide +kernel
theorem dX12_becomes_61 : decode mX12_becomes.2.2.1 61 = .ok (.iload 4, 2) := by decide +kernel
theorem dX12_becomes_63 : decode mX12_becomes.2.2.1 63 = .ok (.iaload, 1) := by decide +kernel
theorem dX12_becomes_64 : decode mX12_becomes.2.2.1 64 = .ok (.iastore, 1) := by decide +kernel
theorem dX12_becomes_65 : decode mX12_becomes.2.2.1 65 = .ok (.aload_n 0, 1) := by decide +kernel
theorem dX12_becomes_66 : decode mX12_becomes.2.2.1 66 = .ok (.getfield 19, 3) := by decide +kernel
theorem dX12_becomes_69 : decode mX12_becomes.2.2.1 69 = .ok (.iload 4, 2) := by decide +kernel
theorem dX12_becomes_71 : decode mX12_becomes.2.2.1 71 = .ok (.iconst 1, 1) := by decide +kernel
theorem dX12_becomes_72 : decode mX12_becomes.2.2.1 72 = .ok (.isub, 1) := by decide +kernel
theorem dX12_becomes_73 : decode mX12_becomes.2.2.1 73 = .ok (.aload_n 0, 1) := by decide +kernel
theorem dX12_becomes_74 : decode mX12_becomes.2.2.1 74 = .ok (.getfield 19, 3) := by decide +kernel
theorem dX12_becomes_77 : decode mX12_becomes.2.2.1 77 = .ok (.iload 4, 2) := by decide +kernel
theorem dX12_becomes_79 : decode mX12_becomes.2.2.1 79 = .ok (.iaload, 1) := by decide +kernel
theorem dX12_becomes_80 : decode mX12_becomes.2.2.1 80 = .ok (.iastore, 1) := by decide +kernel
theorem dX12_becomes_81 : decode mX12_becomes.2.2.1 81 = .ok (.iinc 4 1, 3) := by decide +kernel
theorem dX12_becomes_84 : decode mX12_becomes.2.2.1 84 = .ok (.goto (-58), 3) := by decide +kernel
theorem dX12_becomes_87 : decode mX12_becomes.2.2.1 87 = .ok (.aload_n 0, 1) := by decide +kernel
theorem dX12_becomes_88 : decode mX12_becomes.2.2.1 88 = .ok (.dup, 1) := by decide +kernel
theorem dX12_becomes_89 : decode mX12_becomes.2.2.1 89 = .ok (.getfield 66, 3) := by decide +kernel
theorem dX12_becomes_92 : decode mX12_becomes.2.2.1 92 = .ok (.iconst 1, 1) := by decide +kernel
theorem dX12_becomes_93 : decode mX12_becomes.2.2.1 93 = .ok (.isub, 1) := by decide +kernel
theorem dX12_becomes_94 : decode mX12_becomes.2.2.1 94 = .ok (.putfield 66, 3) := by decide +kernel
theorem dX12_becomes_97 : decode mX12_becomes.2.2.1 97 = .ok (.aload_n 0, 1) := by decide +kernel
theorem dX12_becomes_98 : decode mX12_becomes.2.2.1 98 = .ok (.getfield 13, 3) := by decide +kernel
theorem dX12_becomes_101 : decode mX12_becomes.2.2.1 101 = .ok (.aload_n 0, 1) := by decide +kernel
theorem dX12_becomes_102 : decode mX12_becomes.2.2.1 102 = .ok (.getfield 66, 3) := by decide +kernel
theorem dX12_becomes_105 : decode mX12_becomes.2.2.1 105 = .ok (.iload_n 1, 1) := by decide +kernel
theorem dX12_becomes_106 : decode mX12_becomes.2.2.1 106 = .ok (.iastore, 1) := by decide +kernel
theorem dX12_becomes_107 : decode mX12_becomes.2.2.1 107 = .ok (.aload_n 0, 1) := by decide +kernel
theorem dX12_becomes_108 : decode mX12_becomes.2.2.1 108 = .ok (.getfield 16, 3) := by decide +kernel
theorem dX12_becomes_111 : decode mX12_becomes.2.2.1 111 = .ok (.aload_n 0, 1) := by decide +kernel
theorem dX12_becomes_112 : decode mX12_becomes.2.2.1 112 = .ok (.getfield 66, 3) := by decide +kernel
theorem dX12_becomes_115 : decode mX12_becomes.2.2.1 115 = .ok (.iload_n 3, 1) := by decide +kernel
theorem dX12_becomes_116 : decode mX12_becomes.2.2.1 116 = .ok (.iastore, 1) := by decide +kernel
theorem dX12_becomes_117 : decode mX12_becomes.2.2.1 117 = .ok (.aload_n 0, 1) := by decide +kernel
theorem dX12_becomes_118 : decode mX12_becomes.2.2.1 118 = .ok (.getfield 19, 3) := by decide +kernel
theorem dX12_becomes_121 : decode mX12_becomes.2.2.1 121 = .ok (.aload_n 0, 1) := by decide +kernel
theorem dX12_becomes_122 : decode mX12_becomes.2.2.1 122 = .ok (.getfield 66, 3) := by decide +kernel
theorem dX12_becomes_125 : decode mX12_becomes.2.2.1 125 = .ok (.iload_n 2, 1) := by decide +kernel
theorem dX12_becomes_126 : decode mX12_becomes.2.2.1 126 = .ok (.iastore, 1) := by decide +kernel
theorem dX12_becomes_127 : decode mX12_becomes.2.2.1 127 = .ok (.aload_n 0, 1) := by decide +kernel
theorem dX12_becomes_128 : decode mX12_becomes.2.2.1 128 = .ok (.dup, 1) := by decide +kernel
theorem dX12_becomes_129 : decode mX12_becomes.2.2.1 129 = .ok (.getfield 66, 3) := by decide +kernel
theorem dX12_becomes_132 : decode mX12_becomes.2.2.1 132 = .ok (.iconst 1, 1) := by decide +kernel
theorem dX12_becomes_133 : decode mX12_becomes.2.2.1 133 = .ok (.iadd, 1) := by decide +kernel
theorem dX12_becomes_134 : decode mX12_becomes.2.2.1 134 = .ok (.putfield 66, 3) := by decide +kernel
theorem dX12_becomes_137 : decode mX12_becomes.2.2.1 137 = .ok (.aload_n 0, 1) := by decide +kernel
theorem dX12_becomes_138 : decode mX12_becomes.2.2.1 138 = .ok (.aload_n 0, 1) := by decide +kernel
theorem dX12_becomes_139 : decode mX12_becomes.2.2.1 139 = .ok (.getfield 66, 3) := by decide +kernel
theorem dX12_becomes_142 : decode mX12_becomes.2.2.1 142 = .ok (.putfield 69, 3) := by decide +kernel
theorem dX12_becomes_145 : decode mX12_becomes.2.2.1 145 = .ok (.aload_n 0, 1) := by decide +kernel
theorem dX12_becomes_146 : decode mX12_becomes.2.2.1 146 = .ok (.getfield 9, 3) := by decide +kernel
theorem dX12_becomes_149 : decode mX12_becomes.2.2.1 149 = .ok (.iload_n 1, 1) := by decide +kernel
theorem dX12_becomes_150 : decode mX12_becomes.2.2.1 150 = .ok (.iload_n 2, 1) := by decide +kernel
theorem dX12_becomes_151 : decode mX12_becomes.2.2.1 151 = .ok (.iastore, 1) := by decide +kernel
theorem dX12_becomes_152 : decode mX12_becomes.2.2.1 152 = .ok (.iload_n 3, 1) := by decide +kernel
theorem dX12_becomes_153 : decode mX12_becomes.2.2.1 153 = .ok (.ireturn, 1) := by decide +kernel
set_option maxHeartbeats 100000 in
theorem kX12_becomes_0 {d : Nat} {F : am_FT} {L : am_LT} {Q : am_QT} {l3 l4 : Option Value} {x1 x2 : Int32} (h1 : am_oob x1 60 = false) : wt am_S0 d mX12_becomes 0 [some (.ref 45), some (.int x1), some (.int x2), l3, l4] [] F L Q = if ¬ (F 46 (Int32.toNatClampNeg x1)) = x2 then wt am_S0 d mX12_becomes 14 [some (.ref 45), some (.int x1), some (.int x2), some (.int (F 46 (Int32.toNatClampNeg x1))), l4] [] F L Q else wt am_S0 d mX12_becomes 12 [some (.ref 45), some (.int x1), some (.int x2), some (.int (F 46 (Int32.toNatClampNeg x1))), l4] [] F L Q := (wt_aload_n dX12_becomes_0 rfl rfl).trans ((wt_getfield dX12_becomes_1 rfl rfl (v := .ref 46) rfl).trans ((wt_iload_n dX12_becomes_4 rfl).trans ((wt_iaload dX12_becomes_5 rfl (by decide) h1).trans ((wt_istore_n dX12_becomes_6 (lv1 := [some (.ref 45), some (.int x1), some (.int x2), some (.int (F 46 (Int32.toNatClampNeg x1))), l4]) (Nat.le_of_ble_eq_true rfl) rfl).trans ((wt_iload_n dX12_becomes_7 rfl).trans ((wt_iload_n dX12_becomes_8 rfl).trans (wt_if_icmp_ne dX12_becomes_9 (t := 14) rfl)))))))
set_option maxHeartbeats 100000 in
theorem kX12_becomes_12 {d : Nat} {F : am_FT} {L : am_LT} {Q : am_QT} {l0 l1 l2 l4 : Option Value} {x3 : Int32} : wt am_S0 d mX12_becomes 12 [l0, l1, l2, some (.int x3), l4] [] F L Q = Q (some (.int x3)) F L := (wt_iload_n dX12_becomes_12 rfl).trans (wt_ireturn dX12_becomes_13 rfl rfl)
set_option maxHeartbeats 100000 in
theorem kX12_becomes_14 {d : Nat} {F : am_FT} {L : am_LT} {Q : am_QT} {l1 l2 l3 l4 : Option Value} : wt am_S0 d mX12_becomes 14 [some (.ref 45), l1, l2, l3, l4] [] F L Q = if ¬ (F 45 5) = 40 then wt am_S0 d mX12_becomes 97 [some (.ref 45), l1, l2, l3, l4] [] F L Q else wt am_S0 d mX12_becomes 23 [some (.ref 45), l1, l2, l3, l4] [] F L Q := (wt_aload_n dX12_becomes_14 rfl rfl).trans ((wt_getfield dX12_becomes_15 rfl rfl (v := .int (F 45 5)) rfl).trans ((wt_bipush dX12_becomes_18 (v := 40) (by decide)).trans (wt_if_icmp_ne dX12_becomes_20 (t := 97) rfl)))
set_option maxHeartbeats 100000 in
theorem kX12_becomes_23 {d : Nat} {F : am_FT} {L : am_LT} {Q : am_QT} {l0 l1 l2 l4 : Option Value} {x3 : Int32} : wt am_S0 d mX12_becomes 23 [l0, l1, l2, some (.int x3), l4] [] F L Q = wt am_S0 d mX12_becomes 26 [l0, l1, l2, some (.int x3), some (.int 1)] [] F L Q := (wt_iconst dX12_becomes_23 (v := 1) (by decide)).trans (wt_istore dX12_becomes_24 (lv1 := [l0, l1, l2, some (.int x3), some (.int 1)]) (Nat.le_of_ble_eq_true rfl) rfl)
set_option maxHeartbeats 100000 in
theorem kX12_becomes_26 {d : Nat} {F : am_FT} {L : am_LT} {Q : am_QT} {l0 l1 l2 l3 : Option Value} {x4 : Int32} : wt am_S0 d mX12_becomes 26 [l0, l1, l2, l3, some (.int x4)] [] F L Q = if 40 ≤ x4 then wt am_S0 d mX12_becomes 87 [l0, l1, l2, l3, some (.int x4)] [] F L Q else wt am_S0 d mX12_becomes 33 [l0, l1, l2, l3, some (.int x4)] [] F L Q := (wt_iload dX12_becomes_26 rfl).trans ((wt_bipush dX12_becomes_28 (v := 40) (by decide)).trans (wt_if_icmp_ge dX12_becomes_30 (t := 87) rfl))
set_option maxHeartbeats 100000 in
theorem kX12_becomes_33 {d : Nat} {F : am_FT} {L : am_LT} {Q : am_QT} {l1 l2 l3 : Option Value} {x4 : Int32} (h1 : am_oob x4 40 = false) (h2 : am_oob (x4 - 1) 40 = false) : wt am_S0 d mX12_becomes 33 [some (.ref 45), l1, l2, l3, some (.int x4)] [] F L Q = wt am_S0 d mX12_becomes 58 [some (.ref 45), l1, l2, l3, some (.int x4)] [.ref 45, .int (x4 - 1), .ref 48] (am_upF F 47 (Int32.toNatClampNeg (x4 - 1)) (F 47 (Int32.toNatClampNeg x4))) L Q := (wt_aload_n dX12_becomes_33 rfl rfl).trans ((wt_getfield dX12_becomes_34 rfl rfl (v := .ref 47) rfl).trans ((wt_iload dX12_becomes_37 rfl).trans ((wt_iconst dX12_becomes_39 (v := 1) (by decide)).trans ((wt_isub dX12_becomes_40).trans ((wt_aload_n dX12_becomes_41 rfl rfl).trans ((wt_getfield dX12_becomes_42 rfl rfl (v := .ref 47) rfl).trans ((wt_iload dX12_becomes_45 rfl).trans ((wt_iaload dX12_becomes_47 rfl (by decide) h1).trans ((wt_iastore dX12_becomes_48 rfl h2).trans ((wt_aload_n dX12_becomes_49 rfl rfl).trans ((wt_getfield dX12_becomes_50 rfl rfl (v := .ref 48) rfl).trans ((wt_iload dX12_becomes_53 rfl).trans ((wt_iconst dX12_becomes_55 (v := 1) (by decide)).trans ((wt_isub dX12_becomes_56).trans (wt_aload_n dX12_becomes_57 rfl rfl)))))))))))))))
set_option maxHeartbeats 100000 in
theorem kX12_becomes_58 {d : Nat} {F : am_FT} {L : am_LT} {Q : am_QT} {l1 l2 : Option Value} {s1 x4 x3 : Int32} (h1 : am_oob x4 40 = false) (h2 : am_oob s1 40 = false) (h3 : am_oob (x4 - 1) 40 = false) : wt am_S0 d mX12_becomes 58 [some (.ref 45), l1, l2, some (.int x3), some (.int x4)] [.ref 45, .int s1, .ref 48] F L Q = wt am_S0 d mX12_becomes 26 [some (.ref 45), l1, l2, some (.int x3), some (.int (x4 + 1))] [] (am_upF (am_upF F 48 (Int32.toNatClampNeg s1) (F 48 (Int32.toNatClampNeg x4))) 49 (Int32.toNatClampNeg (x4 - 1)) (F 49 (Int32.toNatClampNeg x4))) L Q := (wt_getfield dX12_becomes_58 rfl rfl (v := .ref 48) rfl).trans ((wt_iload dX12_becomes_61 rfl).trans ((wt_iaload dX12_becomes_63 rfl (by decide) h1).trans ((wt_iastore dX12_becomes_64 rfl h2).trans ((wt_aload_n dX12_becomes_65 rfl rfl).trans ((wt_getfield dX12_becomes_66 rfl rfl (v := .ref 49) rfl).trans ((wt_iload dX12_becomes_69 rfl).trans ((wt_iconst dX12_becomes_71 (v := 1) (by decide)).trans ((wt_isub dX12_becomes_72).trans ((wt_aload_n dX12_becomes_73 rfl rfl).trans ((wt_getfield dX12_becomes_74 rfl rfl (v := .ref 49) rfl).trans ((wt_iload dX12_becomes_77 rfl).trans ((wt_iaload dX12_becomes_79 rfl (by decide) h1).trans ((wt_iastore dX12_becomes_80 rfl h3).trans ((wt_iinc dX12_becomes_81 (v := 1) (lv1 := [some (.ref 45), l1, l2, some (.int x3), some (.int (x4 + 1))]) rfl (Nat.le_of_ble_eq_true rfl) (by decide) rfl).trans (wt_goto dX12_becomes_84 (t := 26) rfl)))))))))))))))
set_option maxHeartbeats 100000 in
theorem kX12_becomes_87 {d : Nat} {F : am_FT} {L : am_LT} {Q : am_QT} {l1 l2 l3 l4 : Option Value} : wt am_S0 d mX12_becomes 87 [some (.ref 45), l1, l2, l3, l4] [] F L Q = wt am_S0 d mX12_becomes 97 [some (.ref 45), l1, l2, l3, l4] [] (am_upF F 45 5 ((F 45 5) - 1)) L Q := (wt_aload_n dX12_becomes_87 rfl rfl).trans ((wt_dup dX12_becomes_88 rfl).trans ((wt_getfield dX12_becomes_89 rfl rfl (v := .int (F 45 5)) rfl).trans ((wt_iconst dX12_becomes_92 (v := 1) (by decide)).trans ((wt_isub dX12_becomes_93).trans (wt_putfield dX12_becomes_94 rfl rfl ⟨rfl, rfl, rfl, rfl⟩)))))
set_option maxHeartbeats 100000 in
theorem kX12_becomes_97 {d : Nat} {F : am_FT} {L : am_LT} {Q : am_QT} {l2 l4 : Option Value} {x1 x3 : Int32} (h1 : am_oob (F 45 5) 40 = false) : wt am_S0 d mX12_becomes 97 [some (.ref 45), some (.int x1), l2, some (.int x3), l4] [] F L Q = wt am_S0 d mX12_becomes 125 [some (.ref 45), some (.int x1), l2, some (.int x3), l4] [.int (F 45 5), .ref 49] (am_upF (am_upF F 47 (Int32.toNatClampNeg (F 45 5)) x1) 48 (Int32.toNatClampNeg (F 45 5)) x3) L Q := (wt_aload_n dX12_becomes_97 rfl rfl).trans ((wt_getfield dX12_becomes_98 rfl rfl (v := .ref 47) rfl).trans ((wt_aload_n dX12_becomes_101 rfl rfl).trans ((wt_getfield dX12_becomes_102 rfl rfl (v := .int (F 45 5)) rfl).trans ((wt_iload_n dX12_becomes_105 rfl).trans ((wt_iastore dX12_becomes_106 rfl h1).trans ((wt_aload_n dX12_becomes_107 rfl rfl).trans ((wt_getfield dX12_becomes_108 rfl rfl (v := .ref 48) rfl).trans ((wt_aload_n dX12_becomes_111 rfl rfl).trans ((wt_getfield dX12_becomes_112 rfl rfl (v := .int (F 45 5)) (F := am_upF F 47 (Int32.toNatClampNeg (F 45 5)) x1) (p := 45) rfl).trans ((wt_iload_n dX12_becomes_115 rfl).trans ((wt_iastore dX12_becomes_116 rfl h1).trans ((wt_aload_n dX12_becomes_117 rfl rfl).trans ((wt_getfield dX12_becomes_118 rfl rfl (v := .ref 49) rfl).trans ((wt_aload_n dX12_becomes_121 rfl rfl).trans (wt_getfield dX12_becomes_122 rfl rfl (v := .int (F 45 5)) (F := am_upF (am_upF F 47 (Int32.toNatClampNeg (F 45 5)) x1) 48 (Int32.toNatClampNeg (F 45 5)) x3) (p := 45) rfl)))))))))))))))
set_option maxHeartbeats 100000 in
theorem kX12_becomes_125 {d : Nat} {F : am_FT} {L : am_LT} {Q : am_QT} {l3 l4 : Option Value} {s1 x2 x1 : Int32} (h1 : am_oob s1 40 = false) : wt am_S0 d mX12_becomes 125 [some (.ref 45), some (.int x1), some (.int x2), l3, l4] [.int s1, .ref 49] F L Q = wt am_S0 d mX12_becomes 151 [some (.ref 45), some (.int x1), some (.int x2), l3, l4] [.int x2, .int x1, .ref 46] (am_upF (am_upF (am_upF F 49 (Int32.toNatClampNeg s1) x2) 45 5 ((F 45 5) + 1)) 45 4 ((F 45 5) + 1)) L Q := (wt_iload_n dX12_becomes_125 rfl).trans ((wt_iastore dX12_becomes_126 rfl h1).trans ((wt_aload_n dX12_becomes_127 rfl rfl).trans ((wt_dup dX12_becomes_128 rfl).trans ((wt_getfield dX12_becomes_129 rfl rfl (v := .int (F 45 5)) (F := am_upF F 49 (Int32.toNatClampNeg s1) x2) (p := 45) rfl).trans ((wt_iconst dX12_becomes_132 (v := 1) (by decide)).trans ((wt_iadd dX12_becomes_133).trans ((wt_putfield dX12_becomes_134 rfl rfl ⟨rfl, rfl, rfl, rfl⟩).trans ((wt_aload_n dX12_becomes_137 rfl rfl).trans ((wt_aload_n dX12_becomes_138 rfl rfl).trans ((wt_getfield dX12_becomes_139 rfl rfl (v := .int ((F 45 5) + 1)) (F := am_upF (am_upF F 49 (Int32.toNatClampNeg s1) x2) 45 5 ((F 45 5) + 1)) (p := 45) rfl).trans ((wt_putfield dX12_becomes_142 rfl rfl ⟨rfl, rfl, rfl, rfl⟩).trans ((wt_aload_n dX12_becomes_145 rfl rfl).trans ((wt_getfield dX12_becomes_146 rfl rfl (v := .ref 46) rfl).trans ((wt_iload_n dX12_becomes_149 rfl).trans (wt_iload_n dX12_becomes_150 rfl)))))))))))))))
set_option maxHeartbeats 100000 in
theorem kX12_becomes_151 {d : Nat} {F : am_FT} {L : am_LT} {Q : am_QT} {l0 l1 l2 l4 : Option Value} {s1 s2 x3 : Int32} (h1 : am_oob s1 60 = false) : wt am_S0 d mX12_becomes 151 [l0, l1, l2, some (.int x3), l4] [.int s2, .int s1, .ref 46] F L Q = Q (some (.int x3)) (am_upF F 46 (Int32.toNatClampNeg s1) s2) L := (wt_iastore dX12_becomes_151 rfl h1).trans ((wt_iload_n dX12_becomes_152 rfl).trans (wt_ireturn dX12_becomes_153 rfl rfl))
theorem dX12_of_0 : decode mX12_of.2.2.1 0 = .ok (.aload_n 0, 1) := by decide +kernel
theorem dX12_of_1 : decode mX12_of.2.2.1 1 = .ok (.iload_n 1, 1) := by decide +kernel
theorem dX12_of_2 : decode mX12_of.2.2.1 2 = .ok (.iload_n 2, 1) := by decide +kernel
theorem dX12_of_3 : decode mX12_of.2.2.1 3 = .ok (.invokevirtual 118, 3) := by decide +kernel
theorem dX12_of_6 : decode mX12_of.2.2.1 6 = .ok (.istore_n 3, 1) := by decide +kernel
theorem dX12_of_7 : decode mX12_of.2.2.1 7 = .ok (.iload_n 3, 1) := by decide +kernel
theorem dX12_of_8 : decode mX12_of.2.2.1 8 = .ok (.ifCond .lt 12, 3) := by decide +kernel
theorem dX12_of_11 : decode mX12_of.2.2.1 11 = .ok (.aload_n 0, 1) := by decide +kernel
theorem dX12_of_12 : decode mX12_of.2.2.1 12 = .ok (.getfield 9, 3) := by decide +kernel
theorem dX12_of_15 : decode mX12_of.2.2.1 15 = .ok (.iload_n 3, 1) := by decide +kernel
theorem dX12_of_16 : decode mX12_of.2.2.1 16 = .ok (.iaload, 1) := by decide +kernel
theorem dX12_of_17 : decode mX12_of.2.2.1 17 = .ok (.goto 30, 3) := by decide +kernel
theorem dX12_of_20 : decode mX12_of.2.2.1 20 = .ok (.iload_n 2, 1) := by decide +kernel
theorem dX12_of_21 : decode mX12_of.2.2.1 21 = .ok (.bipush 7, 2) := by decide +kernel
theorem dX12_of_23 : decode mX12_of.2.2.1 23 = .ok (.if_icmp .ne 23, 3) := by decide +kernel
theorem dX12_of_26 : decode mX12_of.2.2.1 26 = .ok (.aload_n 0, 1) := by decide +kernel
theorem dX12_of_27 : decode mX12_of.2.2.1 27 = .ok (.iload_n 1, 1) := by decide +kernel
theorem dX12_of_28 : decode mX12_of.2.2.1 28 = .ok (.i2l, 1) := by decide +kernel
theorem dX12_of_29 : decode mX12_of.2.2.1 29 = .ok (.invokevirtual 86, 3) := by decide +kernel
theorem dX12_of_32 : decode mX12_of.2.2.1 32 = .ok (.ifCond .eq 14, 3) := by decide +kernel
theorem dX12_of_35 : decode mX12_of.2.2.1 35 = .ok (.aload_n 0, 1) := by decide +kernel
theorem dX12_of_36 : decode mX12_of.2.2.1 36 = .ok (.getfield 98, 3) := by decide +kernel
theorem dX12_of_39 : decode mX12_of.2.2.1 39 = .ok (.iload_n 1, 1) := by decide +kernel
theorem dX12_of_40 : decode mX12_of.2.2.1 40 = .ok (.ishr, 1) := by decide +kernel
theorem dX12_of_41 : decode mX12_of.2.2.1 41 = .ok (.iconst 1, 1) := by decide +kernel
theorem dX12_of_42 : decode mX12_of.2.2.1 42 = .ok (.iand, 1) := by decide +kernel
theorem dX12_of_43 : decode mX12_of.2.2.1 43 = .ok (.goto 4, 3) := by decide +kernel
theorem dX12_of_46 : decode mX12_of.2.2.1 46 = .ok (.iconst (-1), 1) := by decide +kernel
theorem dX12_of_47 : decode mX12_of.2.2.1 47 = .ok (.ireturn, 1) := by decide +kernel
set_option maxHeartbeats 100000 in
theorem kX12_of_0 {d : Nat} {F : am_FT} {L : am_LT} {Q : am_QT} {l3 : Option Value} {x1 x2 : Int32} : wt am_S0 (d + 1) mX12_of 0 [some (.ref 45), some (.int x1), some (.int x2), l3] [] F L Q = wc am_S0 d mX12_placeOf [.ref 45, .int x1, .int x2] F L (fun r G K => wt am_S0 (d + 1) mX12_of 6 [some (.ref 45), some (.int x1), some (.int x2), l3] (r.toList ++ []) G K Q) := (wt_aload_n dX12_of_0 rfl rfl).trans ((wt_iload_n dX12_of_1 rfl).trans ((wt_iload_n dX12_of_2 rfl).trans (wt_callV dX12_of_3 rfl (as := [.int x1, .int x2]) (rest := []) rfl rfl (Nat.le_of_ble_eq_true rfl) rfl (Nat.le_of_ble_eq_true rfl))))
set_option maxHeartbeats 100000 in
theorem kX12_of_6 {d : Nat} {F : am_FT} {L : am_LT} {Q : am_QT} {l0 l1 l3 : Option Value} {s0 x2 : Int32} : wt am_S0 d mX12_of 6 [l0, l1, some (.int x2), l3] [.int s0] F L Q = if s0 < 0 then wt am_S0 d mX12_of 20 [l0, l1, some (.int x2), some (.int s0)] [] F L Q else wt am_S0 d mX12_of 11 [l0, l1, some (.int x2), some (.int s0)] [] F L Q := (wt_istore_n dX12_of_6 (lv1 := [l0, l1, some (.int x2), some (.int s0)]) (Nat.le_of_ble_eq_true rfl) rfl).trans ((wt_iload_n dX12_of_7 rfl).trans (wt_ifCond_lt dX12_of_8 (t := 20) rfl))
set_option maxHeartbeats 100000 in
theorem kX12_of_11 {d : Nat} {F : am_FT} {L : am_LT} {Q : am_QT} {l1 l2 : Option Value} {x3 : Int32} (h1 : am_oob x3 60 = false) : wt am_S0 d mX12_of 11 [some (.ref 45), l1, l2, some (.int x3)] [] F L Q = wt am_S0 d mX12_of 47 [some (.ref 45), l1, l2, some (.int x3)] [.int (F 46 (Int32.toNatClampNeg x3))] F L Q := (wt_aload_n dX12_of_11 rfl rfl).trans ((wt_getfield dX12_of_12 rfl rfl (v := .ref 46) rfl).trans ((wt_iload_n dX12_of_15 rfl).trans ((wt_iaload dX12_of_16 rfl (by decide) h1).trans (wt_goto dX12_of_17 (t := 47) rfl))))
set_option maxHeartbeats 100000 in
theorem kX12_of_20 {d : Nat} {F : am_FT} {L : am_LT} {Q : am_QT} {l0 l1 l3 : Option Value} {x2 : Int32} : wt am_S0 d mX12_of 20 [l0, l1, some (.int x2), l3] [] F L Q = if ¬ x2 = 7 then wt am_S0 d mX12_of 46 [l0, l1, some (.int x2), l3] [] F L Q else wt am_S0 d mX12_of 26 [l0, l1, some (.int x2), l3] [] F L Q := (wt_iload_n dX12_of_20 rfl).trans ((wt_bipush dX12_of_21 (v := 7) (by decide)).trans (wt_if_icmp_ne dX12_of_23 (t := 46) rfl))
set_option maxHeartbeats 100000 in
theorem kX12_of_26 {d : Nat} {F : am_FT} {L : am_LT} {Q : am_QT} {l2 l3 : Option Value} {x1 : Int32} : wt am_S0 (d + 1) mX12_of 26 [some (.ref 45), some (.int x1), l2, l3] [] F L Q = wc am_S0 d mX12_isTree [.ref 45, .long (Int32.toInt64 x1)] F L (fun r G K => wt am_S0 (d + 1) mX12_of 32 [some (.ref 45), some (.int x1), l2, l3] (r.toList ++ []) G K Q) := (wt_aload_n dX12_of_26 rfl rfl).trans ((wt_iload_n dX12_of_27 rfl).trans ((wt_i2l dX12_of_28).trans (wt_callV dX12_of_29 rfl (as := [.long (Int32.toInt64 x1)]) (rest := []) rfl rfl (Nat.le_of_ble_eq_true rfl) rfl (Nat.le_of_ble_eq_true rfl))))
set_option maxHeartbeats 100000 in
theorem kX12_of_32 {d : Nat} {F : am_FT} {L : am_LT} {Q : am_QT} {l0 l1 l2 l3 : Option Value} {s0 : Int32} : wt am_S0 d mX12_of 32 [l0, l1, l2, l3] [.int s0] F L Q = if s0 = 0 then wt am_S0 d mX12_of 46 [l0, l1, l2, l3] [] F L Q else wt am_S0 d mX12_of 35 [l0, l1, l2, l3] [] F L Q := wt_ifCond_eq dX12_of_32 (t := 46) rfl
set_option maxHeartbeats 100000 in
theorem kX12_of_35 {d : Nat} {F : am_FT} {L : am_LT} {Q : am_QT} {l2 l3 : Option Value} {x1 : Int32} : wt am_S0 d mX12_of 35 [some (.ref 45), some (.int x1), l2, l3] [] F L Q = wt am_S0 d mX12_of 47 [some (.ref 45), some (.int x1), l2, l3] [.int (((F 45 8) >>> (x1 &&& 31)) &&& 1)] F L Q := (wt_aload_n dX12_of_35 rfl rfl).trans ((wt_getfield dX12_of_36 rfl rfl (v := .int (F 45 8)) rfl).trans ((wt_iload_n dX12_of_39 rfl).trans ((wt_ishr dX12_of_40).trans ((wt_iconst dX12_of_41 (v := 1) (by decide)).trans ((wt_iand dX12_of_42).trans (wt_goto dX12_of_43 (t := 47) rfl))))))
set_option maxHeartbeats 100000 in
theorem kX12_of_46 {d : Nat} {F : am_FT} {L : am_LT} {Q : am_QT} {l0 l1 l2 l3 : Option Value} : wt am_S0 d mX12_of 46 [l0, l1, l2, l3] [] F L Q = wt am_S0 d mX12_of 47 [l0, l1, l2, l3] [.int (-1)] F L Q := wt_iconst dX12_of_46 (v := (-1)) (by decide)
set_option maxHeartbeats 100000 in
theorem kX12_of_47 {d : Nat} {F : am_FT} {L : am_LT} {Q : am_QT} {l0 l1 l2 l3 : Option Value} {s0 : Int32} : wt am_S0 d mX12_of 47 [l0, l1, l2, l3] [.int s0] F L Q = Q (some (.int s0)) F L := wt_ireturn dX12_of_47 rfl rfl
