theorem dX12_noon_0 : decode mX12_noon.2.2.1 0 = .ok (.aload_n 0, 1) := by decide +kernel
theorem dX12_noon_1 : decode mX12_noon.2.2.1 1 = .ok (.aload_n 0, 1) := by decide +kernel
theorem dX12_noon_2 : decode mX12_noon.2.2.1 2 = .ok (.getfield 263, 3) := by decide +kernel
theorem dX12_noon_5 : decode mX12_noon.2.2.1 5 = .ok (.invokevirtual 226, 3) := by decide +kernel
theorem dX12_noon_8 : decode mX12_noon.2.2.1 8 = .ok (.istore_n 1, 1) := by decide +kernel
theorem dX12_noon_9 : decode mX12_noon.2.2.1 9 = .ok (.aload_n 0, 1) := by decide +kernel
theorem dX12_noon_10 : decode mX12_noon.2.2.1 10 = .ok (.dup, 1) := by decide +kernel
theorem dX12_noon_11 : decode mX12_noon.2.2.1 11 = .ok (.getfield 98, 3) := by decide +kernel
theorem dX12_noon_14 : decode mX12_noon.2.2.1 14 = .ok (.iload_n 1, 1) := by decide +kernel
theorem dX12_noon_15 : decode mX12_noon.2.2.1 15 = .ok (.iconst (-1), 1) := by decide +kernel
theorem dX12_noon_16 : decode mX12_noon.2.2.1 16 = .ok (.ixor, 1) := by decide +kernel
theorem dX12_noon_17 : decode mX12_noon.2.2.1 17 = .ok (.iand, 1) := by decide +kernel
theorem dX12_noon_18 : decode mX12_noon.2.2.1 18 = .ok (.putfield 98, 3) := by decide +kernel
theorem dX12_noon_21 : decode mX12_noon.2.2.1 21 = .ok (.aload_n 0, 1) := by decide +kernel
theorem dX12_noon_22 : decode mX12_noon.2.2.1 22 = .ok (.aload_n 0, 1) := by decide +kernel
theorem dX12_noon_23 : decode mX12_noon.2.2.1 23 = .ok (.getfield 263, 3) := by decide +kernel
theorem dX12_noon_26 : decode mX12_noon.2.2.1 26 = .ok (.iconst 1, 1) := by decide +kernel
theorem dX12_noon_27 : decode mX12_noon.2.2.1 27 = .ok (.iadd, 1) := by decide +kernel
theorem dX12_noon_28 : decode mX12_noon.2.2.1 28 = .ok (.bipush 12, 2) := by decide +kernel
theorem dX12_noon_30 : decode mX12_noon.2.2.1 30 = .ok (.irem, 1) := by decide +kernel
theorem dX12_noon_31 : decode mX12_noon.2.2.1 31 = .ok (.putfield 263, 3) := by decide +kernel
theorem dX12_noon_34 : decode mX12_noon.2.2.1 34 = .ok (.aload_n 0, 1) := by decide +kernel
theorem dX12_noon_35 : decode mX12_noon.2.2.1 35 = .ok (.getfield 31, 3) := by decide +kernel
theorem dX12_noon_38 : decode mX12_noon.2.2.1 38 = .ok (.iconst 0, 1) := by decide +kernel
theorem dX12_noon_39 : decode mX12_noon.2.2.1 39 = .ok (.dup2, 1) := by decide +kernel
theorem dX12_noon_40 : decode mX12_noon.2.2.1 40 = .ok (.iaload, 1) := by decide +kernel
theorem dX12_noon_41 : decode mX12_noon.2.2.1 41 = .ok (.iconst 1, 1) := by decide +kernel
theorem dX12_noon_42 : decode mX12_noon.2.2.1 42 = .ok (.iadd, 1) := by decide +kernel
theorem dX12_noon_43 : decode mX12_noon.2.2.1 43 = .ok (.iastore, 1) := by decide +kernel
theorem dX12_noon_44 : decode mX12_noon.2.2.1 44 = .ok (.aload_n 0, 1) := by decide +kernel
theorem dX12_noon_45 : decode mX12_noon.2.2.1 45 = .ok (.getfield 31, 3) := by decide +kernel
theorem dX12_noon_48 : decode mX12_noon.2.2.1 48 = .ok (.iconst 1, 1) := by decide +kernel
theorem dX12_noon_49 : decode mX12_noon.2.2.1 49 = .ok (.dup2, 1) := by decide +kernel
theorem dX12_noon_50 : decode mX12_noon.2.2.1 50 = .ok (.iaload, 1) := by decide +kernel
theorem dX12_noon_51 : decode mX12_noon.2.2.1 51 = .ok (.iload_n 1, 1) := by decide +kernel
theorem dX12_noon_52 : decode mX12_noon.2.2.1 52 = .ok (.invokestatic 195, 3) := by decide +kernel
theorem dX12_noon_55 : decode mX12_noon.2.2.1 55 = .ok (.iadd, 1) := by decide +kernel
theorem dX12_noon_56 : decode mX12_noon.2.2.1 56 = .ok (.iastore, 1) := by decide +kernel
theorem dX12_noon_57 : decode mX12_noon.2.2.1 57 = .ok (.iload_n 1, 1) := by decide +kernel
theorem dX12_noon_58 : decode mX12_noon.2.2.1 58 = .ok (.ireturn, 1) := by decide +kernel
set_option maxHeartbeats 100000 in
theorem kX12_noon_0 {d : Nat} {F : am_FT} {L : am_LT} {Q : am_QT} {l1 : Option Value} : wt am_S0 (d + 1) mX12_noon 0 [some (.ref 45), l1] [] F L Q = wc am_S0 d mX12_fallIn [.ref 45, .int (F 45 19)] F L (fun r G K => wt am_S0 (d + 1) mX12_noon 8 [some (.ref 45), l1] (r.toList ++ []) G K Q) := (wt_aload_n dX12_noon_0 rfl rfl).trans ((wt_aload_n dX12_noon_1 rfl rfl).trans ((wt_getfield dX12_noon_2 rfl rfl (v := .int (F 45 19)) rfl).trans (wt_callV dX12_noon_5 rfl (as := [.int (F 45 19)]) (rest := []) rfl rfl (Nat.le_of_ble_eq_true rfl) rfl (Nat.le_of_ble_eq_true rfl))))
set_option maxHeartbeats 100000 in
theorem kX12_noon_8 {d : Nat} {F : am_FT} {L : am_LT} {Q : am_QT} {l1 : Option Value} {s0 : Int32} : wt am_S0 d mX12_noon 8 [some (.ref 45), l1] [.int s0] F L Q = wt am_S0 d mX12_noon 31 [some (.ref 45), some (.int s0)] [.int (((F 45 19) + 1) - ((F 45 19) + 1) / 12 * 12), .ref 45] (am_upF F 45 8 ((F 45 8) &&& (s0 ^^^ (-1)))) L Q := (wt_istore_n dX12_noon_8 (lv1 := [some (.ref 45), some (.int s0)]) (Nat.le_of_ble_eq_true rfl) rfl).trans ((wt_aload_n dX12_noon_9 rfl rfl).trans ((wt_dup dX12_noon_10 rfl).trans ((wt_getfield dX12_noon_11 rfl rfl (v := .int (F 45 8)) rfl).trans ((wt_iload_n dX12_noon_14 rfl).trans ((wt_iconst dX12_noon_15 (v := (-1)) (by decide)).trans ((wt_ixor dX12_noon_16).trans ((wt_iand dX12_noon_17).trans ((wt_putfield dX12_noon_18 rfl rfl ⟨rfl, rfl, rfl, rfl⟩).trans ((wt_aload_n dX12_noon_21 rfl rfl).trans ((wt_aload_n dX12_noon_22 rfl rfl).trans ((wt_getfield dX12_noon_23 rfl rfl (v := .int (F 45 19)) (F := am_upF F 45 8 ((F 45 8) &&& (s0 ^^^ (-1)))) (p := 45) rfl).trans ((wt_iconst dX12_noon_26 (v := 1) (by decide)).trans ((wt_iadd dX12_noon_27).trans ((wt_bipush dX12_noon_28 (v := 12) (by decide)).trans (wt_irem dX12_noon_30 (by decide))))))))))))))))
set_option maxHeartbeats 100000 in
theorem kX12_noon_31 {d : Nat} {F : am_FT} {L : am_LT} {Q : am_QT} {s1 x1 : Int32} (h1 : am_oob 0 4 = false) (h2 : am_oob 1 4 = false) : wt am_S0 (d + 1) mX12_noon 31 [some (.ref 45), some (.int x1)] [.int s1, .ref 45] F L Q = wc am_S0 d mX12_bitsOf [.int x1] (am_upF (am_upF F 45 19 s1) 53 (Int32.toNatClampNeg 0) ((F 53 (Int32.toNatClampNeg 0)) + 1)) L (fun r G K => wt am_S0 (d + 1) mX12_noon 55 [some (.ref 45), some (.int x1)] (r.toList ++ [.int ((am_upF (am_upF F 45 19 s1) 53 (Int32.toNatClampNeg 0) ((F 53 (Int32.toNatClampNeg 0)) + 1)) 53 (Int32.toNatClampNeg 1)), .int 1, .ref 53]) G K Q) := (wt_putfield dX12_noon_31 rfl rfl ⟨rfl, rfl, rfl, rfl⟩).trans ((wt_aload_n dX12_noon_34 rfl rfl).trans ((wt_getfield dX12_noon_35 rfl rfl (v := .ref 53) rfl).trans ((wt_iconst dX12_noon_38 (v := 0) (by decide)).trans ((wt_dup2 dX12_noon_39 ⟨rfl, rfl⟩).trans ((wt_iaload dX12_noon_40 rfl (by decide) h1).trans ((wt_iconst dX12_noon_41 (v := 1) (by decide)).trans ((wt_iadd dX12_noon_42).trans ((wt_iastore dX12_noon_43 rfl h1).trans ((wt_aload_n dX12_noon_44 rfl rfl).trans ((wt_getfield dX12_noon_45 rfl rfl (v := .ref 53) rfl).trans ((wt_iconst dX12_noon_48 (v := 1) (by decide)).trans ((wt_dup2 dX12_noon_49 ⟨rfl, rfl⟩).trans ((wt_iaload dX12_noon_50 rfl (by decide) h2).trans ((wt_iload_n dX12_noon_51 rfl).trans (wt_callS dX12_noon_52 rfl (as := [.int x1]) (rest := [.int ((am_upF (am_upF F 45 19 s1) 53 (Int32.toNatClampNeg 0) ((F 53 (Int32.toNatClampNeg 0)) + 1)) 53 (Int32.toNatClampNeg 1)), .int 1, .ref 53]) rfl rfl (Nat.le_of_ble_eq_true rfl) (Nat.le_of_ble_eq_true rfl))))))))))))))))
set_option maxHeartbeats 100000 in
theorem kX12_noon_55 {d : Nat} {F : am_FT} {L : am_LT} {Q : am_QT} {l0 : Option Value} {s1 s2 s3 x1 : Int32} (h1 : am_oob s1 4 = false) : wt am_S0 d mX12_noon 55 [l0, some (.int x1)] [.int s3, .int s2, .int s1, .ref 53] F L Q = Q (some (.int x1)) (am_upF F 53 (Int32.toNatClampNeg s1) (s2 + s3)) L := (wt_iadd dX12_noon_55).trans ((wt_iastore dX12_noon_56 rfl h1).trans ((wt_iload_n dX12_noon_57 rfl).trans (wt_ireturn dX12_noon_58 rfl rfl)))
theorem dX12_sits_0 : decode mX12_sits.2.2.1 0 = .ok (.aload_n 0, 1) := by decide +kernel
theorem dX12_sits_1 : decode mX12_sits.2.2.1 1 = .ok (.iload_n 1, 1) := by decide +kernel
theorem dX12_sits_2 : decode mX12_sits.2.2.1 2 = .ok (.i2l, 1) := by decide +kernel
theorem dX12_sits_3 : decode mX12_sits.2.2.1 3 = .ok (.invokevirtual 115, 3) := by decide +kernel
theorem dX12_sits_6 : decode mX12_sits.2.2.1 6 = .ok (.ifCond .eq 11, 3) := by decide +kernel
theorem dX12_sits_9 : decode mX12_sits.2.2.1 9 = .ok (.iload_n 2, 1) := by decide +kernel
theorem dX12_sits_10 : decode mX12_sits.2.2.1 10 = .ok (.i2l, 1) := by decide +kernel
theorem dX12_sits_11 : decode mX12_sits.2.2.1 11 = .ok (.invokestatic 93, 3) := by decide +kernel
theorem dX12_sits_14 : decode mX12_sits.2.2.1 14 = .ok (.ifCond .ne 5, 3) := by decide +kernel
theorem dX12_sits_17 : decode mX12_sits.2.2.1 17 = .ok (.iconst (-1), 1) := by decide +kernel
theorem dX12_sits_18 : decode mX12_sits.2.2.1 18 = .ok (.ireturn, 1) := by decide +kernel
theorem dX12_sits_19 : decode mX12_sits.2.2.1 19 = .ok (.aload_n 0, 1) := by decide +kernel
theorem dX12_sits_20 : decode mX12_sits.2.2.1 20 = .ok (.getfield 9, 3) := by decide +kernel
theorem dX12_sits_23 : decode mX12_sits.2.2.1 23 = .ok (.bipush 30, 2) := by decide +kernel
theorem dX12_sits_25 : decode mX12_sits.2.2.1 25 = .ok (.iload_n 1, 1) := by decide +kernel
theorem dX12_sits_26 : decode mX12_sits.2.2.1 26 = .ok (.iadd, 1) := by decide +kernel
theorem dX12_sits_27 : decode mX12_sits.2.2.1 27 = .ok (.iaload, 1) := by decide +kernel
theorem dX12_sits_28 : decode mX12_sits.2.2.1 28 = .ok (.istore_n 3, 1) := by decide +kernel
theorem dX12_sits_29 : decode mX12_sits.2.2.1 29 = .ok (.aload_n 0, 1) := by decide +kernel
theorem dX12_sits_30 : decode mX12_sits.2.2.1 30 = .ok (.getfield 9, 3) := by decide +kernel
theorem dX12_sits_33 : decode mX12_sits.2.2.1 33 = .ok (.bipush 30, 2) := by decide +kernel
theorem dX12_sits_35 : decode mX12_sits.2.2.1 35 = .ok (.iload_n 1, 1) := by decide +kernel
theorem dX12_sits_36 : decode mX12_sits.2.2.1 36 = .ok (.iadd, 1) := by decide +kernel
theorem dX12_sits_37 : decode mX12_sits.2.2.1 37 = .ok (.iload_n 2, 1) := by decide +kernel
theorem dX12_sits_38 : decode mX12_sits.2.2.1 38 = .ok (.iastore, 1) := by decide +kernel
theorem dX12_sits_39 : decode mX12_sits.2.2.1 39 = .ok (.aload_n 0, 1) := by decide +kernel
theorem dX12_sits_40 : decode mX12_sits.2.2.1 40 = .ok (.getfield 31, 3) := by decide +kernel
theorem dX12_sits_43 : decode mX12_sits.2.2.1 43 = .ok (.iconst 2, 1) := by decide +kernel
theorem dX12_sits_44 : decode mX12_sits.2.2.1 44 = .ok (.dup2, 1) := by decide +kernel
theorem dX12_sits_45 : decode mX12_sits.2.2.1 45 = .ok (.iaload, 1) := by decide +kernel
theorem dX12_sits_46 : decode mX12_sits.2.2.1 46 = .ok (.iconst 1, 1) := by decide +kernel
theorem dX12_sits_47 : decode mX12_sits.2.2.1 47 = .ok (.iadd, 1) := by decide +kernel
theorem dX12_sits_48 : decode mX12_sits.2.2.1 48 = .ok (.iastore, 1) := by decide +kernel
theorem dX12_sits_49 : decode mX12_sits.2.2.1 49 = .ok (.iload_n 3, 1) := by decide +kernel
theorem dX12_sits_50 : decode mX12_sits.2.2.1 50 = .ok (.ireturn, 1) := by decide +kernel
set_option maxHeartbeats 100000 in
theorem kX12_sits_0 {d : Nat} {F : am_FT} {L : am_LT} {Q : am_QT} {l2 l3 : Option Value} {x1 : Int32} : wt am_S0 (d + 1) mX12_sits 0 [some (.ref 45), some (.int x1), l2, l3] [] F L Q = wc am_S0 d mX12_isOne [.ref 45, .long (Int32.toInt64 x1)] F L (fun r G K => wt am_S0 (d + 1) mX12_sits 6 [some (.ref 45), some (.int x1), l2, l3] (r.toList ++ []) G K Q) := (wt_aload_n dX12_sits_0 rfl rfl).trans ((wt_iload_n dX12_sits_1 rfl).trans ((wt_i2l dX12_sits_2).trans (wt_callV dX12_sits_3 rfl (as := [.long (Int32.toInt64 x1)]) (rest := []) rfl rfl (Nat.le_of_ble_eq_true rfl) rfl (Nat.le_of_ble_eq_true rfl))))
set_option maxHeartbeats 100000 in
theorem kX12_sits_6 {d : Nat} {F : am_FT} {L : am_LT} {Q : am_QT} {l0 l1 l2 l3 : Option Value} {s0 : Int32} : wt am_S0 d mX12_sits 6 [l0, l1, l2, l3] [.int s0] F L Q = if s0 = 0 then wt am_S0 d mX12_sits 17 [l0, l1, l2, l3] [] F L Q else wt am_S0 d mX12_sits 9 [l0, l1, l2, l3] [] F L Q := wt_ifCond_eq dX12_sits_6 (t := 17) rfl
set_option maxHeartbeats 100000 in
theorem kX12_sits_9 {d : Nat} {F : am_FT} {L : am_LT} {Q : am_QT} {l0 l1 l3 : Option Value} {x2 : Int32} : wt am_S0 (d + 1) mX12_sits 9 [l0, l1, some (.int x2), l3] [] F L Q = wc am_S0 d mX12_isCell [.long (Int32.toInt64 x2)] F L (fun r G K => wt am_S0 (d + 1) mX12_sits 14 [l0, l1, some (.int x2), l3] (r.toList ++ []) G K Q) := (wt_iload_n dX12_sits_9 rfl).trans ((wt_i2l dX12_sits_10).trans (wt_callS dX12_sits_11 rfl (as := [.long (Int32.toInt64 x2)]) (rest := []) rfl rfl (Nat.le_of_ble_eq_true rfl) (Nat.le_of_ble_eq_true rfl)))
set_option maxHeartbeats 100000 in
theorem kX12_sits_14 {d : Nat} {F : am_FT} {L : am_LT} {Q : am_QT} {l0 l1 l2 l3 : Option Value} {s0 : Int32} : wt am_S0 d mX12_sits 14 [l0, l1, l2, l3] [.int s0] F L Q = if ¬ s0 = 0 then wt am_S0 d mX12_sits 19 [l0, l1, l2, l3] [] F L Q else wt am_S0 d mX12_sits 17 [l0, l1, l2, l3] [] F L Q := wt_ifCond_ne dX12_sits_14 (t := 19) rfl
set_option maxHeartbeats 100000 in
theorem kX12_sits_17 {d : Nat} {F : am_FT} {L : am_LT} {Q : am_QT} {l0 l1 l2 l3 : Option Value} : wt am_S0 d mX12_sits 17 [l0, l1, l2, l3] [] F L Q = Q (some (.int (-1))) F L := (wt_iconst dX12_sits_17 (v := (-1)) (by decide)).trans (wt_ireturn dX12_sits_18 rfl rfl)
set_option maxHeartbeats 100000 in
theorem kX12_sits_19 {d : Nat} {F : am_FT} {L : am_LT} {Q : am_QT} {l3 : Option Value} {x1 x2 : Int32} (h1 : am_oob (30 + x1) 60 = false) : wt am_S0 d mX12_sits 19 [some (.ref 45), some (.int x1), some (.int x2), l3] [] F L Q = wt am_S0 d mX12_sits 43 [some (.ref 45), some (.int x1), some (.int x2), some (.int (F 46 (Int32.toNatClampNeg (30 + x1))))] [.ref 53] (am_upF F 46 (Int32.toNatClampNeg (30 + x1)) x2) L Q := (wt_aload_n dX12_sits_19 rfl rfl).trans ((wt_getfield dX12_sits_20 rfl rfl (v := .ref 46) rfl).trans ((wt_bipush dX12_sits_23 (v := 30) (by decide)).trans ((wt_iload_n dX12_sits_25 rfl).trans ((wt_iadd dX12_sits_26).trans ((wt_iaload dX12_sits_27 rfl (by decide) h1).trans ((wt_istore_n dX12_sits_28 (lv1 := [some (.ref 45), some (.int x1), some (.int x2), some (.int (F 46 (Int32.toNatClampNeg (30 + x1))))]) (Nat.le_of_ble_eq_true rfl) rfl).trans ((wt_aload_n dX12_sits_29 rfl rfl).trans ((wt_getfield dX12_sits_30 rfl rfl (v := .ref 46) rfl).trans ((wt_bipush dX12_sits_33 (v := 30) (by decide)).trans ((wt_iload_n dX12_sits_35 rfl).trans ((wt_iadd dX12_sits_36).trans ((wt_iload_n dX12_sits_37 rfl).trans ((wt_iastore dX12_sits_38 rfl h1).trans ((wt_aload_n dX12_sits_39 rfl rfl).trans (wt_getfield dX12_sits_40 rfl rfl (v := .ref 53) rfl)))))))))))))))
set_option maxHeartbeats 100000 in
theorem kX12_sits_43 {d : Nat} {F : am_FT} {L : am_LT} {Q : am_QT} {l0 l1 l2 : Option Value} {x3 : Int32} (h1 : am_oob 2 4 = false) : wt am_S0 d mX12_sits 43 [l0, l1, l2, some (.int x3)] [.ref 53] F L Q = Q (some (.int x3)) (am_upF F 53 (Int32.toNatClampNeg 2) ((F 53 (Int32.toNatClampNeg 2)) + 1)) L := (wt_iconst dX12_sits_43 (v := 2) (by decide)).trans ((wt_dup2 dX12_sits_44 ⟨rfl, rfl⟩).trans ((wt_iaload dX12_sits_45 rfl (by decide) h1).trans ((wt_iconst dX12_sits_46 (v := 1) (by decide)).trans ((wt_iadd dX12_sits_47).trans ((wt_iastore dX12_sits_48 rfl h1).trans ((wt_iload_n dX12_sits_49 rfl).trans (wt_ireturn dX12_sits_50 rfl rfl)))))))
theorem dX12_lopped_0 : decode mX12_lopped.2.2.1 0 = .ok (.aload_n 0, 1) := by decide +kernel
theorem dX12_lopped_1 : decode mX12_lopped.2.2.1 1 = .ok (.iload_n 1, 1) := by decide +kernel
theorem dX12_lopped_2 : decode mX12_lopped.2.2.1 2 = .ok (.i2l, 1) := by decide +kernel
theorem dX12_lopped_3 : decode mX12_lopped.2.2.1 3 = .ok (.invokevirtual 86, 3) := by decide +kernel
theorem dX12_lopped_6 : decode mX12_lopped.2.2.1 6 = .ok (.ifCond .ne 5, 3) := by decide +kernel
theorem dX12_lopped_9 : decode mX12_lopped.2.2.1 9 = .ok (.iconst (-1), 1) := by decide +kernel
theorem dX12_lopped_10 : decode mX12_lopped.2.2.1 10 = .ok (.ireturn, 1) := by decide +kernel
theorem dX12_lopped_11 : decode mX12_lopped.2.2.1 11 = .ok (.aload_n 0, 1) := by decide +kernel
theorem dX12_lopped_12 : decode mX12_lopped.2.2.1 12 = .ok (.getfield 98, 3) := by decide +kernel
theorem dX12_lopped_15 : decode mX12_lopped.2.2.1 15 = .ok (.iload_n 1, 1) := by decide +kernel
theorem dX12_lopped_16 : decode mX12_lopped.2.2.1 16 = .ok (.invokestatic 189, 3) := by decide +kernel
theorem dX12_lopped_19 : decode mX12_lopped.2.2.1 19 = .ok (.ifCond .eq 16, 3) := by decide +kernel
theorem dX12_lopped_22 : decode mX12_lopped.2.2.1 22 = .ok (.aload_n 0, 1) := by decide +kernel
theorem dX12_lopped_23 : decode mX12_lopped.2.2.1 23 = .ok (.getfield 9, 3) := by decide +kernel
theorem dX12_lopped_26 : decode mX12_lopped.2.2.1 26 = .ok (.bipush 6, 2) := by decide +kernel
theorem dX12_lopped_28 : decode mX12_lopped.2.2.1 28 = .ok (.iload_n 1, 1) := by decide +kernel
theorem dX12_lopped_29 : decode mX12_lopped.2.2.1 29 = .ok (.iadd, 1) := by decide +kernel
theorem dX12_lopped_30 : decode mX12_lopped.2.2.1 30 = .ok (.iaload, 1) := by decide +kernel
theorem dX12_lopped_31 : decode mX12_lopped.2.2.1 31 = .ok (.iconst 1, 1) := by decide +kernel
theorem dX12_lopped_32 : decode mX12_lopped.2.2.1 32 = .ok (.if_icmp .ne 6, 3) := by decide +kernel
theorem dX12_lopped_35 : decode mX12_lopped.2.2.1 35 = .ok (.bipush (-5), 2) := by decide +kernel
theorem dX12_lopped_37 : decode mX12_lopped.2.2.1 37 = .ok (.ireturn, 1) := by decide +kernel
theorem dX12_lopped_38 : decode mX12_lopped.2.2.1 38 = .ok (.aload_n 0, 1) := by decide +kernel
theorem dX12_lopped_39 : decode mX12_lopped.2.2.1 39 = .ok (.getfield 9, 3) := by decide +kernel
theorem dX12_lopped_42 : decode mX12_lopped.2.2.1 42 = .ok (.bipush 6, 2) := by decide +kernel
theorem dX12_lopped_44 : decode mX12_lopped.2.2.1 44 = .ok (.iload_n 1, 1) := by decide +kernel
theorem dX12_lopped_45 : decode mX12_lopped.2.2.1 45 = .ok (.iadd, 1) := by decide +kernel
theorem dX12_lopped_46 : decode mX12_lopped.2.2.1 46 = .ok (.dup2, 1) := by decide +kernel
theorem dX12_lopped_47 : decode mX12_lopped.2.2.1 47 = .ok (.iaload, 1) := by decide +kernel
theorem dX12_lopped_48 : decode mX12_lopped.2.2.1 48 = .ok (.iconst 1, 1) := by decide +kernel
theorem dX12_lopped_49 : decode mX12_lopped.2.2.1 49 = .ok (.isub, 1) := by decide +kernel
theorem dX12_lopped_50 : decode mX12_lopped.2.2.1 50 = .ok (.iastore, 1) := by decide +kernel
theorem dX12_lopped_51 : decode mX12_lopped.2.2.1 51 = .ok (.aload_n 0, 1) := by decide +kernel
theorem dX12_lopped_52 : decode mX12_lopped.2.2.1 52 = .ok (.getfield 31, 3) := by decide +kernel
theorem dX12_lopped_55 : decode mX12_lopped.2.2.1 55 = .ok (.iconst 3, 1) := by decide +kernel
theorem dX12_lopped_56 : decode mX12_lopped.2.2.1 56 = .ok (.dup2, 1) := by decide +kernel
theorem dX12_lopped_57 : decode mX12_lopped.2.2.1 57 = .ok (.iaload, 1) := by decide +kernel
theorem dX12_lopped_58 : decode mX12_lopped.2.2.1 58 = .ok (.iconst 1, 1) := by decide +kernel
theorem dX12_lopped_59 : decode mX12_lopped.2.2.1 59 = .ok (.iadd, 1) := by decide +kernel
theorem dX12_lopped_60 : decode mX12_lopped.2.2.1 60 = .ok (.iastore, 1) := by decide +kernel
theorem dX12_lopped_61 : decode mX12_lopped.2.2.1 61 = .ok (.aload_n 0, 1) := by decide +kernel
theorem dX12_lopped_62 : decode mX12_lopped.2.2.1 62 = .ok (.getfield 9, 3) := by decide +kernel
theorem dX12_lopped_65 : decode mX12_lopped.2.2.1 65 = .ok (.bipush 6, 2) := by decide +kernel
theorem dX12_lopped_67 : decode mX12_lopped.2.2.1 67 = .ok (.iload_n 1, 1) := by decide +kernel
theorem dX12_lopped_68 : decode mX12_lopped.2.2.1 68 = .ok (.iadd, 1) := by decide +kernel
theorem dX12_lopped_69 : decode mX12_lopped.2.2.1 69 = .ok (.iaload, 1) := by decide +kernel
theorem dX12_lopped_70 : decode mX12_lopped.2.2.1 70 = .ok (.ireturn, 1) := by decide +kernel
set_option maxHeartbeats 100000 in
theorem kX12_lopped_0 {d : Nat} {F : am_FT} {L : am_LT} {Q : am_QT} {x1 : Int32} : wt am_S0 (d + 1) mX12_lopped 0 [some (.ref 45), some (.int x1)] [] F L Q = wc am_S0 d mX12_isTree [.ref 45, .long (Int32.toInt64 x1)] F L (fun r G K => wt am_S0 (d + 1) mX12_lopped 6 [some (.ref 45), some (.int x1)] (r.toList ++ []) G K Q) := (wt_aload_n dX12_lopped_0 rfl rfl).trans ((wt_iload_n dX12_lopped_1 rfl).trans ((wt_i2l dX12_lopped_2).trans (wt_callV dX12_lopped_3 rfl (as := [.long (Int32.toInt64 x1)]) (rest := []) rfl rfl (Nat.le_of_ble_eq_true rfl) rfl (Nat.le_of_ble_eq_true rfl))))
set_option maxHeartbeats 100000 in
theorem kX12_lopped_6 {d : Nat} {F : am_FT} {L : am_LT} {Q : am_QT} {l0 l1 : Option Value} {s0 : Int32} : wt am_S0 d mX12_lopped 6 [l0, l1] [.int s0] F L Q = if ¬ s0 = 0 then wt am_S0 d mX12_lopped 11 [l0, l1] [] F L Q else wt am_S0 d mX12_lopped 9 [l0, l1] [] F L Q := wt_ifCond_ne dX12_lopped_6 (t := 11) rfl
set_option maxHeartbeats 100000 in
theorem kX12_lopped_9 {d : Nat} {F : am_FT} {L : am_LT} {Q : am_QT} {l0 l1 : Option Value} : wt am_S0 d mX12_lopped 9 [l0, l1] [] F L Q = Q (some (.int (-1))) F L := (wt_iconst dX12_lopped_9 (v := (-1)) (by decide)).trans (wt_ireturn dX12_lopped_10 rfl rfl)
set_option maxHeartbeats 100000 in
theorem kX12_lopped_11 {d : Nat} {F : am_FT} {L : am_LT} {Q : am_QT} {x1 : Int32} : wt am_S0 (d + 1) mX12_lopped 11 [some (.ref 45), some (.int x1)] [] F L Q = wc am_S0 d mX12_isIn [.int (F 45 8), .int x1] F L (fun r G K => wt am_S0 (d + 1) mX12_lopped 19 [some (.ref 45), some (.int x1)] (r.toList ++ []) G K Q) := (wt_aload_n dX12_lopped_11 rfl rfl).trans ((wt_getfield dX12_lopped_12 rfl rfl (v := .int (F 45 8)) rfl).trans ((wt_iload_n dX12_lopped_15 rfl).trans (wt_callS dX12_lopped_16 rfl (as := [.int (F 45 8), .int x1]) (rest := []) rfl rfl (Nat.le_of_ble_eq_true rfl) (Nat.le_of_ble_eq_true rfl))))
set_option maxHeartbeats 100000 in
theorem kX12_lopped_19 {d : Nat} {F : am_FT} {L : am_LT} {Q : am_QT} {l0 l1 : Option Value} {s0 : Int32} : wt am_S0 d mX12_lopped 19 [l0, l1] [.int s0] F L Q = if s0 = 0 then wt am_S0 d mX12_lopped 35 [l0, l1] [] F L Q else wt am_S0 d mX12_lopped 22 [l0, l1] [] F L Q := wt_ifCond_eq dX12_lopped_19 (t := 35) rfl
set_option maxHeartbeats 100000 in
theorem kX12_lopped_22 {d : Nat} {F : am_FT} {L : am_LT} {Q : am_QT} {x1 : Int32} (h1 : am_oob (6 + x1) 60 = false) : wt am_S0 d mX12_lopped 22 [some (.ref 45), some (.int x1)] [] F L Q = if ¬ (F 46 (Int32.toNatClampNeg (6 + x1))) = 1 then wt am_S0 d mX12_lopped 38 [some (.ref 45), some (.int x1)] [] F L Q else wt am_S0 d mX12_lopped 35 [some (.ref 45), some (.int x1)] [] F L Q := (wt_aload_n dX12_lopped_22 rfl rfl).trans ((wt_getfield dX12_lopped_23 rfl rfl (v := .ref 46) rfl).trans ((wt_bipush dX12_lopped_26 (v := 6) (by decide)).trans ((wt_iload_n dX12_lopped_28 rfl).trans ((wt_iadd dX12_lopped_29).trans ((wt_iaload dX12_lopped_30 rfl (by decide) h1).trans ((wt_iconst dX12_lopped_31 (v := 1) (by decide)).trans (wt_if_icmp_ne dX12_lopped_32 (t := 38) rfl)))))))
set_option maxHeartbeats 100000 in
theorem kX12_lopped_35 {d : Nat} {F : am_FT} {L : am_LT} {Q : am_QT} {l0 l1 : Option Value} : wt am_S0 d mX12_lopped 35 [l0, l1] [] F L Q = Q (some (.int (-5))) F L := (wt_bipush dX12_lopped_35 (v := (-5)) (by decide)).trans (wt_ireturn dX12_lopped_37 rfl rfl)
set_option maxHeartbeats 100000 in
theorem kX12_lopped_38 {d : Nat} {F : am_FT} {L : am_LT} {Q : am_QT} {x1 : Int32} (h1 : am_oob (6 + x1) 60 = false) (h2 : am_oob 3 4 = false) : wt am_S0 d mX12_lopped 38 [some (.ref 45), some (.int x1)] [] F L Q = wt am_S0 d mX12_lopped 59 [some (.ref 45), some (.int x1)] [.int 1, .int (F 53 (Int32.toNatClampNeg 3)), .int 3, .ref 53] (am_upF F 46 (Int32.toNatClampNeg (6 + x1)) ((F 46 (Int32.toNatClampNeg (6 + x1))) - 1)) L Q := (wt_aload_n dX12_lopped_38 rfl rfl).trans ((wt_getfield dX12_lopped_39 rfl rfl (v := .ref 46) rfl).trans ((wt_bipush dX12_lopped_42 (v := 6) (by decide)).trans ((wt_iload_n dX12_lopped_44 rfl).trans ((wt_iadd dX12_lopped_45).trans ((wt_dup2 dX12_lopped_46 ⟨rfl, rfl⟩).trans ((wt_iaload dX12_lopped_47 rfl (by decide) h1).trans ((wt_iconst dX12_lopped_48 (v := 1) (by decide)).trans ((wt_isub dX12_lopped_49).trans ((wt_iastore dX12_lopped_50 rfl h1).trans ((wt_aload_n dX12_lopped_51 rfl rfl).trans ((wt_getfield dX12_lopped_52 rfl rfl (v := .ref 53) rfl).trans ((wt_iconst dX12_lopped_55 (v := 3) (by decide)).trans ((wt_dup2 dX12_lopped_56 ⟨rfl, rfl⟩).trans ((wt_iaload dX12_lopped_57 rfl (by decide) h2).trans (wt_iconst dX12_lopped_58 (v := 1) (by decide))))))))))))))))
set_option maxHeartbeats 100000 in
theorem kX12_lopped_59 {d : Nat} {F : am_FT} {L : am_LT} {Q : am_QT} {s1 s2 s3 x1 : Int32} (h1 : am_oob s1 4 = false) (h2 : am_oob (6 + x1) 60 = false) : wt am_S0 d mX12_lopped 59 [some (.ref 45), some (.int x1)] [.int s3, .int s2, .int s1, .ref 53] F L Q = Q (some (.int (F 46 (Int32.toNatClampNeg (6 + x1))))) (am_upF F 53 (Int32.toNatClampNeg s1) (s2 + s3)) L := (wt_iadd dX12_lopped_59).trans ((wt_iastore dX12_lopped_60 rfl h1).trans ((wt_aload_n dX12_lopped_61 rfl rfl).trans ((wt_getfield dX12_lopped_62 rfl rfl (v := .ref 46) rfl).trans ((wt_bipush dX12_lopped_65 (v := 6) (by decide)).trans ((wt_iload_n dX12_lopped_67 rfl).trans ((wt_iadd dX12_lopped_68).trans ((wt_iaload dX12_lopped_69 rfl (by decide) h2).trans (wt_ireturn dX12_lopped_70 rfl rfl))))))))
theorem dX12_led_0 : decode mX12_led.2.2.1 0 = .ok (.iload_n 1, 1) := by decide +kernel
theorem dX12_led_1 : decode mX12_led.2.2.1 1 = .ok (.i2l, 1) := by decide +kernel
theorem dX12_led_2 : decode mX12_led.2.2.1 2 = .ok (.lconst 0, 1) := by decide +kernel
theorem dX12_led_3 : decode mX12_led.2.2.1 3 = .ok (.ldc2_w 113, 3) := by decide +kernel
theorem dX12_led_6 : decode mX12_led.2.2.1 6 = .ok (.invokestatic 75, 3) := by decide +kernel
theorem dX12_led_9 : decode mX12_led.2.2.1 9 = .ok (.ifCond .eq 12, 3) := by decide +kernel
theorem dX12_led_12 : decode mX12_led.2.2.1 12 = .ok (.aload_n 0, 1) := by decide +kernel
theorem dX12_led_13 : decode mX12_led.2.2.1 13 = .ok (.getfield 31, 3) := by decide +kernel
theorem dX12_led_16 : decode mX12_led.2.2.1 16 = .ok (.iload_n 1, 1) := by decide +kernel
theorem dX12_led_17 : decode mX12_led.2.2.1 17 = .ok (.iaload, 1) := by decide +kernel
theorem dX12_led_18 : decode mX12_led.2.2.1 18 = .ok (.goto 16, 3) := by decide +kernel
theorem dX12_led_21 : decode mX12_led.2.2.1 21 = .ok (.iload_n 1, 1) := by decide +kernel
theorem dX12_led_22 : decode mX12_led.2.2.1 22 = .ok (.iconst 4, 1) := by decide +kernel
theorem dX12_led_23 : decode mX12_led.2.2.1 23 = .ok (.if_icmp .ne 10, 3) := by decide +kernel
theorem dX12_led_26 : decode mX12_led.2.2.1 26 = .ok (.aload_n 0, 1) := by decide +kernel
theorem dX12_led_27 : decode mX12_led.2.2.1 27 = .ok (.getfield 263, 3) := by decide +kernel
theorem dX12_led_30 : decode mX12_led.2.2.1 30 = .ok (.goto 4, 3) := by decide +kernel
theorem dX12_led_33 : decode mX12_led.2.2.1 33 = .ok (.iconst (-1), 1) := by decide +kernel
theorem dX12_led_34 : decode mX12_led.2.2.1 34 = .ok (.ireturn, 1) := by decide +kernel
set_option maxHeartbeats 100000 in
theorem kX12_led_0 {d : Nat} {F : am_FT} {L : am_LT} {Q : am_QT} {l0 : Option Value} {x1 : Int32} : wt am_S0 (d + 1) mX12_led 0 [l0, some (.int x1)] [] F L Q = wc am_S0 d mX12_within [.long (Int32.toInt64 x1), .long 0, .long 3] F L (fun r G K => wt am_S0 (d + 1) mX12_led 9 [l0, some (.int x1)] (r.toList ++ []) G K Q) := (wt_iload_n dX12_led_0 rfl).trans ((wt_i2l dX12_led_1).trans ((wt_lconst dX12_led_2 (v := 0) (by decide)).trans ((wt_ldc2_w dX12_led_3 (v := 3) rfl).trans (wt_callS dX12_led_6 rfl (as := [.long (Int32.toInt64 x1), .long 0, .long 3]) (rest := []) rfl rfl (Nat.le_of_ble_eq_true rfl) (Nat.le_of_ble_eq_true rfl)))))
set_option maxHeartbeats 100000 in
theorem kX12_led_9 {d : Nat} {F : am_FT} {L : am_LT} {Q : am_QT} {l0 l1 : Option Value} {s0 : Int32} : wt am_S0 d mX12_led 9 [l0, l1] [.int s0] F L Q = if s0 = 0 then wt am_S0 d mX12_led 21 [l0, l1] [] F L Q else wt am_S0 d mX12_led 12 [l0, l1] [] F L Q := wt_ifCond_eq dX12_led_9 (t := 21) rfl
set_option maxHeartbeats 100000 in
theorem kX12_led_12 {d : Nat} {F : am_FT} {L : am_LT} {Q : am_QT} {x1 : Int32} (h1 : am_oob x1 4 = false) : wt am_S0 d mX12_led 12 [some (.ref 45), some (.int x1)] [] F L Q = wt am_S0 d mX12_led 34 [some (.ref 45), some (.int x1)] [.int (F 53 (Int32.toNatClampNeg x1))] F L Q := (wt_aload_n dX12_led_12 rfl rfl).trans ((wt_getfield dX12_led_13 rfl rfl (v := .ref 53) rfl).trans ((wt_iload_n dX12_led_16 rfl).trans ((wt_iaload dX12_led_17 rfl (by decide) h1).trans (wt_goto dX12_led_18 (t := 34) rfl))))
set_option maxHeartbeats 100000 in
theorem kX12_led_21 {d : Nat} {F : am_FT} {L : am_LT} {Q : am_QT} {l0 : Option Value} {x1 : Int32} : wt am_S0 d mX12_led 21 [l0, some (.int x1)] [] F L Q = if ¬ x1 = 4 then wt am_S0 d mX12_led 33 [l0, some (.int x1)] [] F L Q else wt am_S0 d mX12_led 26 [l0, some (.int x1)] [] F L Q := (wt_iload_n dX12_led_21 rfl).trans ((wt_iconst dX12_led_22 (v := 4) (by decide)).trans (wt_if_icmp_ne dX12_led_23 (t := 33) rfl))
set_option maxHeartbeats 100000 in
theorem kX12_led_26 {d : Nat} {F : am_FT} {L : am_LT} {Q : am_QT} {l1 : Option Value} : wt am_S0 d mX12_led 26 [some (.ref 45), l1] [] F L Q = wt am_S0 d mX12_led 34 [some (.ref 45), l1] [.int (F 45 19)] F L Q := (wt_aload_n dX12_led_26 rfl rfl).trans ((wt_getfield dX12_led_27 rfl rfl (v := .int (F 45 19)) rfl).trans (wt_goto dX12_led_30 (t := 34) rfl))
set_option maxHeartbeats 100000 in
theorem kX12_led_33 {d : Nat} {F : am_FT} {L : am_LT} {Q : am_QT} {l0 l1 : Option Value} : wt am_S0 d mX12_led 33 [l0, l1] [] F L Q = wt am_S0 d mX12_led 34 [l0, l1] [.int (-1)] F L Q := wt_iconst dX12_led_33 (v := (-1)) (by decide)
set_option maxHeartbeats 100000 in
theorem kX12_led_34 {d : Nat} {F : am_FT} {L : am_LT} {Q : am_QT} {l0 l1 : Option Value} {s0 : Int32} : wt am_S0 d mX12_led 34 [l0, l1] [.int s0] F L Q = Q (some (.int s0)) F L := wt_ireturn dX12_led_34 rfl rfl
theorem dX12_image_0 : decode mX12_image.2.2.1 0 = .ok (.aload_n 0, 1) := by decide +kernel
theorem dX12_image_1 : decode mX12_image.2.2.1 1 = .ok (.iconst 1, 1) := by decide +kernel
theorem dX12_image_2 : decode mX12_image.2.2.1 2 = .ok (.putfield 266, 3) := by decide +kernel
theorem dX12_image_5 : decode mX12_image.2.2.1 5 = .ok (.aload_n 0, 1) := by decide +kernel
theorem dX12_image_6 : decode mX12_image.2.2.1 6 = .ok (.aload_n 0, 1) := by decide +kernel
theorem dX12_image_7 : decode mX12_image.2.2.1 7 = .ok (.getfield 72, 3) := by decide +kernel
theorem dX12_image_10 : decode mX12_image.2.2.1 10 = .ok (.putfield 270, 3) := by decide +kernel
theorem dX12_image_13 : decode mX12_image.2.2.1 13 = .ok (.aload_n 0, 1) := by decide +kernel
theorem dX12_image_14 : decode mX12_image.2.2.1 14 = .ok (.aload_n 0, 1) := by decide +kernel
theorem dX12_image_15 : decode mX12_image.2.2.1 15 = .ok (.getfield 79, 3) := by decide +kernel
theorem dX12_image_18 : decode mX12_image.2.2.1 18 = .ok (.putfield 273, 3) := by decide +kernel
theorem dX12_image_21 : decode mX12_image.2.2.1 21 = .ok (.aload_n 0, 1) := by decide +kernel
theorem dX12_image_22 : decode mX12_image.2.2.1 22 = .ok (.aload_n 0, 1) := by decide +kernel
theorem dX12_image_23 : decode mX12_image.2.2.1 23 = .ok (.getfield 98, 3) := by decide +kernel
theorem dX12_image_26 : decode mX12_image.2.2.1 26 = .ok (.putfield 276, 3) := by decide +kernel
theorem dX12_image_29 : decode mX12_image.2.2.1 29 = .ok (.aload_n 0, 1) := by decide +kernel
theorem dX12_image_30 : decode mX12_image.2.2.1 30 = .ok (.aload_n 0, 1) := by decide +kernel
theorem dX12_image_31 : decode mX12_image.2.2.1 31 = .ok (.getfield 263, 3) := by decide +kernel
theorem dX12_image_34 : decode mX12_image.2.2.1 34 = .ok (.putfield 279, 3) := by decide +kernel
theorem dX12_image_37 : decode mX12_image.2.2.1 37 = .ok (.iconst 0, 1) := by decide +kernel
theorem dX12_image_38 : decode mX12_image.2.2.1 38 = .ok (.istore_n 1, 1) := by decide +kernel
theorem dX12_image_39 : decode mX12_image.2.2.1 39 = .ok (.iload_n 1, 1) := by decide +kernel
theorem dX12_image_40 : decode mX12_image.2.2.1 40 = .ok (.aload_n 0, 1) := by decide +kernel
theorem dX12_image_41 : decode mX12_image.2.2.1 41 = .ok (.getfield 72, 3) := by decide +kernel
theorem dX12_image_44 : decode mX12_image.2.2.1 44 = .ok (.if_icmp .ge 24, 3) := by decide +kernel
theorem dX12_image_47 : decode mX12_image.2.2.1 47 = .ok (.aload_n 0, 1) := by decide +kernel
theorem dX12_image_48 : decode mX12_image.2.2.1 48 = .ok (.getfield 34, 3) := by decide +kernel
theorem dX12_image_51 : decode mX12_image.2.2.1 51 = .ok (.iload_n 1, 1) := by decide +kernel
theorem dX12_image_52 : decode mX12_image.2.2.1 52 = .ok (.aload_n 0, 1) := by decide +kernel
theorem dX12_image_53 : decode mX12_image.2.2.1 53 = .ok (.getfield 9, 3) := by decide +kernel
theorem dX12_image_56 : decode mX12_image.2.2.1 56 = .ok (.bipush 6, 2) := by decide +kernel
theorem dX12_image_58 : decode mX12_image.2.2.1 58 = .ok (.iload_n 1, 1) := by decide +kernel
theorem dX12_image_59 : decode mX12_image.2.2.1 59 = .ok (.iadd, 1) := by decide +kernel
theorem dX12_image_60 : decode mX12_image.2.2.1 60 = .ok (.iaload, 1) := by decide +kernel
theorem dX12_image_61 : decode mX12_image.2.2.1 61 = .ok (.iastore, 1) := by decide +kernel
theorem dX12_image_62 : decode mX12_image.2.2.1 62 = .ok (.iinc 1 1, 3) := by decide +kernel
theorem dX12_image_65 : decode mX12_image.2.2.1 65 = .ok (.goto (-26), 3) := by decide +kernel
theorem dX12_image_68 : decode mX12_image.2.2.1 68 = .ok (.iconst 0, 1) := by decide +kernel
theorem dX12_image_69 : decode mX12_image.2.2.1 69 = .ok (.istore_n 1, 1) := by decide +kernel
theorem dX12_image_70 : decode mX12_image.2.2.1 70 = .ok (.iload_n 1, 1) := by decide +kernel
theorem dX12_image_71 : decode mX12_image.2.2.1 71 = .ok (.aload_n 0, 1) := by decide +kernel
theorem dX12_image_72 : decode mX12_image.2.2.1 72 = .ok (.getfield 79, 3) := by decide +kernel
theorem dX12_image_75 : decode mX12_image.2.2.1 75 = .ok (.if_icmp .ge 24, 3) := by decide +kernel
theorem dX12_image_78 : decode mX12_image.2.2.1 78 = .ok (.aload_n 0, 1) := by decide +kernel
theorem dX12_image_79 : decode mX12_image.2.2.1 79 = .ok (.getfield 37, 3) := by decide +kernel
theorem dX12_image_82 : decode mX12_image.2.2.1 82 = .ok (.iload_n 1, 1) := by decide +kernel
theorem dX12_image_83 : decode mX12_image.2.2.1 83 = .ok (.aload_n 0, 1) := by decide +kernel
theorem dX12_image_84 : decode mX12_image.2.2.1 84 = .ok (.getfield 9, 3) := by decide +kernel
theorem dX12_image_87 : decode mX12_image.2.2.1 87 = .ok (.bipush 30, 2) := by decide +kernel
theorem dX12_image_89 : decode mX12_image.2.2.1 89 = .ok (.iload_n 1, 1) := by decide +kernel
theorem dX12_image_90 : decode mX12_image.2.2.1 90 = .ok (.iadd, 1) := by decide +kernel
theorem dX12_image_91 : decode mX12_image.2.2.1 91 = .ok (.iaload, 1) := by decide +kernel
theorem dX12_image_92 : decode mX12_image.2.2.1 92 = .ok (.iastore, 1) := by decide +kernel
theorem dX12_image_93 : decode mX12_image.2.2.1 93 = .ok (.iinc 1 1, 3) := by decide +kernel
theorem dX12_image_96 : decode mX12_image.2.2.1 96 = .ok (.goto (-26), 3) := by decide +kernel
theorem dX12_image_99 : decode mX12_image.2.2.1 99 = .ok (.iconst 0, 1) := by decide +kernel
theorem dX12_image_100 : decode mX12_image.2.2.1 100 = .ok (.istore_n 1, 1) := by decide +kernel
theorem dX12_image_101 : decode mX12_image.2.2.1 101 = .ok (.iload_n 1, 1) := by decide +kernel
theorem dX12_image_102 : decode mX12_image.2.2.1 102 = .ok (.iconst 4, 1) := by decide +kernel
theorem dX12_image_103 : decode mX12_image.2.2.1 103 = .ok (.if_icmp .ge 21, 3) := by decide +kernel
theorem dX12_image_106 : decode mX12_image.2.2.1 106 = .ok (.aload_n 0, 1) := by decide +kernel
theorem dX12_image_107 : decode mX12_image.2.2.1 107 = .ok (.getfield 40, 3) := by decide +kernel
theorem dX12_image_110 : decode mX12_image.2.2.1 110 = .ok (.iload_n 1, 1) := by decide +kernel
theorem dX12_image_111 : decode mX12_image.2.2.1 111 = .ok (.aload_n 0, 1) := by decide +kernel
theorem dX12_image_112 : decode mX12_image.2.2.1 112 = .ok (.getfield 31, 3) := by decide +kernel
theorem dX12_image_115 : decode mX12_image.2.2.1 115 = .ok (.iload_n 1, 1) := by decide +kernel
theorem dX12_image_116 : decode mX12_image.2.2.1 116 = .ok (.iaload, 1) := by decide +kernel
theorem dX12_image_117 : decode mX12_image.2.2.1 117 = .ok (.iastore, 1) := by decide +kernel
theorem dX12_image_118 : decode mX12_image.2.2.1 118 = .ok (.iinc 1 1, 3) := by decide +kernel
theorem dX12_image_121 : decode mX12_image.2.2.1 121 = .ok (.goto (-20), 3) := by decide +kernel
theorem dX12_image_124 : decode mX12_image.2.2.1 124 = .ok (.aload_n 0, 1) := by decide +kernel
theorem dX12_image_125 : decode mX12_image.2.2.1 125 = .ok (.getfield 31, 3) := by decide +kernel
theorem dX12_image_128 : decode mX12_image.2.2.1 128 = .ok (.iconst 0, 1) := by decide +kernel
theorem dX12_image_129 : decode mX12_image.2.2.1 129 = .ok (.iaload, 1) := by decide +kernel
theorem dX12_image_130 : decode mX12_image.2.2.1 130 = .ok (.ireturn, 1) := by decide +kernel
set_option maxHeartbeats 100000 in
theorem kX12_image_0 {d : Nat} {F : am_FT} {L : am_LT} {Q : am_QT} {l1 : Option Value} : wt am_S0 d mX12_image 0 [some (.ref 45), l1] [] F L Q = wt am_S0 d mX12_image 30 [some (.ref 45), l1] [.ref 45] (am_upF (am_upF (am_upF (am_upF F 45 21 1) 45 22 (F 45 6)) 45 23 (F 45 7)) 45 24 (F 45 8)) L Q := (wt_aload_n dX12_image_0 rfl rfl).trans ((wt_iconst dX12_image_1 (v := 1) (by decide)).trans ((wt_putfield dX12_image_2 rfl rfl ⟨rfl, rfl, by decide, by decide⟩).trans ((wt_aload_n dX12_image_5 rfl rfl).trans ((wt_aload_n dX12_image_6 rfl rfl).trans ((wt_getfield dX12_image_7 rfl rfl (v := .int (F 45 6)) (F := am_upF F 45 21 1) (p := 45) rfl).trans ((wt_putfield dX12_image_10 rfl rfl ⟨rfl, rfl, rfl, rfl⟩).trans ((wt_aload_n dX12_image_13 rfl rfl).trans ((wt_aload_n dX12_image_14 rfl rfl).trans ((wt_getfield dX12_image_15 rfl rfl (v := .int (F 45 7)) (F := am_upF (am_upF F 45 21 1) 45 22 (F 45 6)) (p := 45) rfl).trans ((wt_putfield dX12_image_18 rfl rfl ⟨rfl, rfl, rfl, rfl⟩).trans ((wt_aload_n dX12_image_21 rfl rfl).trans ((wt_aload_n dX12_image_22 rfl rfl).trans ((wt_getfield dX12_image_23 rfl rfl (v := .int (F 45 8)) (F := am_upF (am_upF (am_upF F 45 21 1) 45 22 (F 45 6)) 45 23 (F 45 7)) (p := 45) rfl).trans ((wt_putfield dX12_image_26 rfl rfl ⟨rfl, rfl, rfl, rfl⟩).trans (wt_aload_n dX12_image_29 rfl rfl)))))))))))))))
set_option maxHeartbeats 100000 in
theorem kX12_image_30 {d : Nat} {F : am_FT} {L : am_LT} {Q : am_QT} {l1 : Option Value} : wt am_S0 d mX12_image 30 [some (.ref 45), l1] [.ref 45] F L Q = wt am_S0 d mX12_image 39 [some (.ref 45), some (.int 0)] [] (am_upF F 45 25 (F 45 19)) L Q := (wt_aload_n dX12_image_30 rfl rfl).trans ((wt_getfield dX12_image_31 rfl rfl (v := .int (F 45 19)) rfl).trans ((wt_putfield dX12_image_34 rfl rfl ⟨rfl, rfl, rfl, rfl⟩).trans ((wt_iconst dX12_image_37 (v := 0) (by decide)).trans (wt_istore_n dX12_image_38 (lv1 := [some (.ref 45), some (.int 0)]) (Nat.le_of_ble_eq_true rfl) rfl))))
set_option maxHeartbeats 100000 in
theorem kX12_image_39 {d : Nat} {F : am_FT} {L : am_LT} {Q : am_QT} {x1 : Int32} : wt am_S0 d mX12_image 39 [some (.ref 45), some (.int x1)] [] F L Q = if (F 45 6) ≤ x1 then wt am_S0 d mX12_image 68 [some (.ref 45), some (.int x1)] [] F L Q else wt am_S0 d mX12_image 47 [some (.ref 45), some (.int x1)] [] F L Q := (wt_iload_n dX12_image_39 rfl).trans ((wt_aload_n dX12_image_40 rfl rfl).trans ((wt_getfield dX12_image_41 rfl rfl (v := .int (F 45 6)) rfl).trans (wt_if_icmp_ge dX12_image_44 (t := 68) rfl)))
set_option maxHeartbeats 100000 in
theorem kX12_image_47 {d : Nat} {F : am_FT} {L : am_LT} {Q : am_QT} {x1 : Int32} (h1 : am_oob (6 + x1) 60 = false) (h2 : am_oob x1 6 = false) : wt am_S0 d mX12_image 47 [some (.ref 45), some (.int x1)] [] F L Q = wt am_S0 d mX12_image 39 [some (.ref 45), some (.int (x1 + 1))] [] (am_upF F 54 (Int32.toNatClampNeg x1) (F 46 (Int32.toNatClampNeg (6 + x1)))) L Q := (wt_aload_n dX12_image_47 rfl rfl).trans ((wt_getfield dX12_image_48 rfl rfl (v := .ref 54) rfl).trans ((wt_iload_n dX12_image_51 rfl).trans ((wt_aload_n dX12_image_52 rfl rfl).trans ((wt_getfield dX12_image_53 rfl rfl (v := .ref 46) rfl).trans ((wt_bipush dX12_image_56 (v := 6) (by decide)).trans ((wt_iload_n dX12_image_58 rfl).trans ((wt_iadd dX12_image_59).trans ((wt_iaload dX12_image_60 rfl (by decide) h1).trans ((wt_iastore dX12_image_61 rfl h2).trans ((wt_iinc dX12_image_62 (v := 1) (lv1 := [some (.ref 45), some (.int (x1 + 1))]) rfl (Nat.le_of_ble_eq_true rfl) (by decide) rfl).trans (wt_goto dX12_image_65 (t := 39) rfl)))))))))))
set_option maxHeartbeats 100000 in
theorem kX12_image_68 {d : Nat} {F : am_FT} {L : am_LT} {Q : am_QT} {l1 : Option Value} : wt am_S0 d mX12_image 68 [some (.ref 45), l1] [] F L Q = wt am_S0 d mX12_image 70 [some (.ref 45), some (.int 0)] [] F L Q := (wt_iconst dX12_image_68 (v := 0) (by decide)).trans (wt_istore_n dX12_image_69 (lv1 := [some (.ref 45), some (.int 0)]) (Nat.le_of_ble_eq_true rfl) rfl)
set_option maxHeartbeats 100000 in
theorem kX12_image_70 {d : Nat} {F : am_FT} {L : am_LT} {Q : am_QT} {x1 : Int32} : wt am_S0 d mX12_image 70 [some (.ref 45), some (.int x1)] [] F L Q = if (F 45 7) ≤ x1 then wt am_S0 d mX12_image 99 [some (.ref 45), some (.int x1)] [] F L Q else wt am_S0 d mX12_image 78 [some (.ref 45), some (.int x1)] [] F L Q := (wt_iload_n dX12_image_70 rfl).trans ((wt_aload_n dX12_image_71 rfl rfl).trans ((wt_getfield dX12_image_72 rfl rfl (v := .int (F 45 7)) rfl).trans (wt_if_icmp_ge dX12_image_75 (t := 99) rfl)))
set_option maxHeartbeats 100000 in
theorem kX12_image_78 {d : Nat} {F : am_FT} {L : am_LT} {Q : am_QT} {x1 : Int32} (h1 : am_oob (30 + x1) 60 = false) (h2 : am_oob x1 10 = false) : wt am_S0 d mX12_image 78 [some (.ref 45), some (.int x1)] [] F L Q = wt am_S0 d mX12_image 70 [some (.ref 45), some (.int (x1 + 1))] [] (am_upF F 55 (Int32.toNatClampNeg x1) (F 46 (Int32.toNatClampNeg (30 + x1)))) L Q := (wt_aload_n dX12_image_78 rfl rfl).trans ((wt_getfield dX12_image_79 rfl rfl (v := .ref 55) rfl).trans ((wt_iload_n dX12_image_82 rfl).trans ((wt_aload_n dX12_image_83 rfl rfl).trans ((wt_getfield dX12_image_84 rfl rfl (v := .ref 46) rfl).trans ((wt_bipush dX12_image_87 (v := 30) (by decide)).trans ((wt_iload_n dX12_image_89 rfl).trans ((wt_iadd dX12_image_90).trans ((wt_iaload dX12_image_91 rfl (by decide) h1).trans ((wt_iastore dX12_image_92 rfl h2).trans ((wt_iinc dX12_image_93 (v := 1) (lv1 := [some (.ref 45), some (.int (x1 + 1))]) rfl (Nat.le_of_ble_eq_true rfl) (by decide) rfl).trans (wt_goto dX12_image_96 (t := 70) rfl)))))))))))
set_option maxHeartbeats 100000 in
theorem kX12_image_99 {d : Nat} {F : am_FT} {L : am_LT} {Q : am_QT} {l1 : Option Value} : wt am_S0 d mX12_image 99 [some (.ref 45), l1] [] F L Q = wt am_S0 d mX12_image 101 [some (.ref 45), some (.int 0)] [] F L Q := (wt_iconst dX12_image_99 (v := 0) (by decide)).trans (wt_istore_n dX12_image_100 (lv1 := [some (.ref 45), some (.int 0)]) (Nat.le_of_ble_eq_true rfl) rfl)
set_option maxHeartbeats 100000 in
theorem kX12_image_101 {d : Nat} {F : am_FT} {L : am_LT} {Q : am_QT} {l0 : Option Value} {x1 : Int32} : wt am_S0 d mX12_image 101 [l0, some (.int x1)] [] F L Q = if 4 ≤ x1 then wt am_S0 d mX12_image 124 [l0, some (.int x1)] [] F L Q else wt am_S0 d mX12_image 106 [l0, some (.int x1)] [] F L Q := (wt_iload_n dX12_image_101 rfl).trans ((wt_iconst dX12_image_102 (v := 4) (by decide)).trans (wt_if_icmp_ge dX12_image_103 (t := 124) rfl))
set_option maxHeartbeats 100000 in
theorem kX12_image_106 {d : Nat} {F : am_FT} {L : am_LT} {Q : am_QT} {x1 : Int32} (h1 : am_oob x1 4 = false) : wt am_S0 d mX12_image 106 [some (.ref 45), some (.int x1)] [] F L Q = wt am_S0 d mX12_image 101 [some (.ref 45), some (.int (x1 + 1))] [] (am_upF F 56 (Int32.toNatClampNeg x1) (F 53 (Int32.toNatClampNeg x1))) L Q := (wt_aload_n dX12_image_106 rfl rfl).trans ((wt_getfield dX12_image_107 rfl rfl (v := .ref 56) rfl).trans ((wt_iload_n dX12_image_110 rfl).trans ((wt_aload_n dX12_image_111 rfl rfl).trans ((wt_getfield dX12_image_112 rfl rfl (v := .ref 53) rfl).trans ((wt_iload_n dX12_image_115 rfl).trans ((wt_iaload dX12_image_116 rfl (by decide) h1).trans ((wt_iastore dX12_image_117 rfl h1).trans ((wt_iinc dX12_image_118 (v := 1) (lv1 := [some (.ref 45), some (.int (x1 + 1))]) rfl (Nat.le_of_ble_eq_true rfl) (by decide) rfl).trans (wt_goto dX12_image_121 (t := 101) rfl)))))))))
set_option maxHeartbeats 100000 in
theorem kX12_image_124 {d : Nat} {F : am_FT} {L : am_LT} {Q : am_QT} {l1 : Option Value} (h1 : am_oob 0 4 = false) : wt am_S0 d mX12_image 124 [some (.ref 45), l1] [] F L Q = Q (some (.int (F 53 (Int32.toNatClampNeg 0)))) F L := (wt_aload_n dX12_image_124 rfl rfl).trans ((wt_getfield dX12_image_125 rfl rfl (v := .ref 53) rfl).trans ((wt_iconst dX12_image_128 (v := 0) (by decide)).trans ((wt_iaload dX12_image_129 rfl (by decide) h1).trans (wt_ireturn dX12_image_130 rfl rfl))))
theorem dX12_back_0 : decode mX12_back.2.2.1 0 = .ok (.aload_n 0, 1) := by decide +kernel
theorem dX12_back_1 : decode mX12_back.2.2.1 1 = .ok (.getfield 266, 3) := by decide +kernel
theorem dX12_back_4 : decode mX12_back.2.2.1 4 = .ok (.ifCond .ne 6, 3) := by decide +kernel
theorem dX12_back_7 : decode mX12_back.2.2.1 7 = .ok (.bipush (-5), 2) := by decide +kernel
theorem dX12_back_9 : decode mX12_back.2.2.1 9 = .ok (.ireturn, 1) := by decide +kernel
theorem dX12_back_10 : decode mX12_back.2.2.1 10 = .ok (.aload_n 0, 1) := by decide +kernel
theorem dX12_back_11 : decode mX12_back.2.2.1 11 = .ok (.aload_n 0, 1) := by decide +kernel
theorem dX12_back_12 : decode mX12_back.2.2.1 12 = .ok (.getfield 276, 3) := by decide +kernel
theorem dX12_back_15 : decode mX12_back.2.2.1 15 = .ok (.putfield 98, 3) := by decide +kernel
theorem dX12_back_18 : decode mX12_back.2.2.1 18 = .ok (.aload_n 0, 1) := by decide +kernel
theorem dX12_back_19 : decode mX12_back.2.2.1 19 = .ok (.getfield 270, 3) := by decide +kernel
theorem dX12_back_22 : decode mX12_back.2.2.1 22 = .ok (.istore_n 1, 1) := by decide +kernel
theorem dX12_back_23 : decode mX12_back.2.2.1 23 = .ok (.iload_n 1, 1) := by decide +kernel
theorem dX12_back_24 : decode mX12_back.2.2.1 24 = .ok (.aload_n 0, 1) := by decide +kernel
theorem dX12_back_25 : decode mX12_back.2.2.1 25 = .ok (.getfield 72, 3) := by decide +kernel
theorem dX12_back_28 : decode mX12_back.2.2.1 28 = .ok (.if_icmp .ge 21, 3) := by decide +kernel
theorem dX12_back_31 : decode mX12_back.2.2.1 31 = .ok (.aload_n 0, 1) := by decide +kernel
theorem dX12_back_32 : decode mX12_back.2.2.1 32 = .ok (.dup, 1) := by decide +kernel
theorem dX12_back_33 : decode mX12_back.2.2.1 33 = .ok (.getfield 98, 3) := by decide +kernel
theorem dX12_back_36 : decode mX12_back.2.2.1 36 = .ok (.iconst 1, 1) := by decide +kernel
theorem dX12_back_37 : decode mX12_back.2.2.1 37 = .ok (.iload_n 1, 1) := by decide +kernel
theorem dX12_back_38 : decode mX12_back.2.2.1 38 = .ok (.ishl, 1) := by decide +kernel
theorem dX12_back_39 : decode mX12_back.2.2.1 39 = .ok (.ior, 1) := by decide +kernel
theorem dX12_back_40 : decode mX12_back.2.2.1 40 = .ok (.putfield 98, 3) := by decide +kernel
theorem dX12_back_43 : decode mX12_back.2.2.1 43 = .ok (.iinc 1 1, 3) := by decide +kernel
theorem dX12_back_46 : decode mX12_back.2.2.1 46 = .ok (.goto (-23), 3) := by decide +kernel
theorem dX12_back_49 : decode mX12_back.2.2.1 49 = .ok (.aload_n 0, 1) := by decide +kernel
theorem dX12_back_50 : decode mX12_back.2.2.1 50 = .ok (.aload_n 0, 1) := by decide +kernel
theorem dX12_back_51 : decode mX12_back.2.2.1 51 = .ok (.getfield 279, 3) := by decide +kernel
theorem dX12_back_54 : decode mX12_back.2.2.1 54 = .ok (.putfield 263, 3) := by decide +kernel
theorem dX12_back_57 : decode mX12_back.2.2.1 57 = .ok (.iconst 0, 1) := by decide +kernel
theorem dX12_back_58 : decode mX12_back.2.2.1 58 = .ok (.istore_n 1, 1) := by decide +kernel
theorem dX12_back_59 : decode mX12_back.2.2.1 59 = .ok (.iload_n 1, 1) := by decide +kernel
theorem dX12_back_60 : decode mX12_back.2.2.1 60 = .ok (.aload_n 0, 1) := by decide +kernel
theorem dX12_back_61 : decode mX12_back.2.2.1 61 = .ok (.getfield 270, 3) := by decide +kernel
theorem dX12_back_64 : decode mX12_back.2.2.1 64 = .ok (.if_icmp .ge 24, 3) := by decide +kernel
theorem dX12_back_67 : decode mX12_back.2.2.1 67 = .ok (.aload_n 0, 1) := by decide +kernel
theorem dX12_back_68 : decode mX12_back.2.2.1 68 = .ok (.getfield 9, 3) := by decide +kernel
theorem dX12_back_71 : decode mX12_back.2.2.1 71 = .ok (.bipush 6, 2) := by decide +kernel
theorem dX12_back_73 : decode mX12_back.2.2.1 73 = .ok (.iload_n 1, 1) := by decide +kernel
theorem dX12_back_74 : decode mX12_back.2.2.1 74 = .ok (.iadd, 1) := by decide +kernel
theorem dX12_back_75 : decode mX12_back.2.2.1 75 = .ok (.aload_n 0, 1) := by decide +kernel
theorem dX12_back_76 : decode mX12_back.2.2.1 76 = .ok (.getfield 34, 3) := by decide +kernel
theorem dX12_back_79 : decode mX12_back.2.2.1 79 = .ok (.iload_n 1, 1) := by decide +kernel
theorem dX12_back_80 : decode mX12_back.2.2.1 80 = .ok (.iaload, 1) := by decide +kernel
theorem dX12_back_81 : decode mX12_back.2.2.1 81 = .ok (.iastore, 1) := by decide +kernel
theorem dX12_back_82 : decode mX12_back.2.2.1 82 = .ok (.iinc 1 1, 3) := by decide +kernel
theorem dX12_back_85 : decode mX12_back.2.2.1 85 = .ok (.goto (-26), 3) := by decide +kernel
theorem dX12_back_88 : decode mX12_back.2.2.1 88 = .ok (.iconst 0, 1) := by decide +kernel
theorem dX12_back_89 : decode mX12_back.2.2.1 89 = .ok (.istore_n 1, 1) := by decide +kernel
theorem dX12_back_90 : decode mX12_back.2.2.1 90 = .ok (.iload_n 1, 1) := by decide +kernel
theorem dX12_back_91 : decode mX12_back.2.2.1 91 = .ok (.aload_n 0, 1) := by decide +kernel
theorem dX12_back_92 : decode mX12_back.2.2.1 92 = .ok (.getfield 273, 3) := by decide +kernel
theorem dX12_back_95 : decode mX12_back.2.2.1 95 = .ok (.if_icmp .ge 24, 3) := by decide +kernel
theorem dX12_back_98 : decode mX12_back.2.2.1 98 = .ok (.aload_n 0, 1) := by decide +kernel
theorem dX12_back_99 : decode mX12_back.2.2.1 99 = .ok (.getfield 9, 3) := by decide +kernel
theorem dX12_back_102 : decode mX12_back.2.2.1 102 = .ok (.bipush 30, 2) := by decide +kernel
theorem dX12_back_104 : decode mX12_back.2.2.1 104 = .ok (.iload_n 1, 1) := by decide +kernel
theorem dX12_back_105 : decode mX12_back.2.2.1 105 = .ok (.iadd, 1) := by decide +kernel
theorem dX12_back_106 : decode mX12_back.2.2.1 106 = .ok (.aload_n 0, 1) := by decide +kernel
theorem dX12_back_107 : decode mX12_back.2.2.1 107 = .ok (.getfield 37, 3) := by decide +kernel
theorem dX12_back_110 : decode mX12_back.2.2.1 110 = .ok (.iload_n 1, 1) := by decide +kernel
theorem dX12_back_111 : decode mX12_back.2.2.1 111 = .ok (.iaload, 1) := by decide +kernel
theorem dX12_back_112 : decode mX12_back.2.2.1 112 = .ok (.iastore, 1) := by decide +kernel
theorem dX12_back_113 : decode mX12_back.2.2.1 113 = .ok (.iinc 1 1, 3) := by decide +kernel
theorem dX12_back_116 : decode mX12_back.2.2.1 116 = .ok (.goto (-26), 3) := by decide +kernel
theorem dX12_back_119 : decode mX12_back.2.2.1 119 = .ok (.iconst 0, 1) := by decide +kernel
theorem dX12_back_120 : decode mX12_back.2.2.1 120 = .ok (.istore_n 1, 1) := by decide +kernel
theorem dX12_back_121 : decode mX12_back.2.2.1 121 = .ok (.iload_n 1, 1) := by decide +kernel
theorem dX12_back_122 : decode mX12_back.2.2.1 122 = .ok (.iconst 4, 1) := by decide +kernel
theorem dX12_back_123 : decode mX12_back.2.2.1 123 = .ok (.if_icmp .ge 21, 3) := by decide +kernel
theorem dX12_back_126 : decode mX12_back.2.2.1 126 = .ok (.aload_n 0, 1) := by decide +kernel
theorem dX12_back_127 : decode mX12_back.2.2.1 127 = .ok (.getfield 31, 3) := by decide +kernel
theorem dX12_back_130 : decode mX12_back.2.2.1 130 = .ok (.iload_n 1, 1) := by decide +kernel
theorem dX12_back_131 : decode mX12_back.2.2.1 131 = .ok (.aload_n 0, 1) := by decide +kernel
theorem dX12_back_132 : decode mX12_back.2.2.1 132 = .ok (.getfield 40, 3) := by decide +kernel
theorem dX12_back_135 : decode mX12_back.2.2.1 135 = .ok (.iload_n 1, 1) := by decide +kernel
theorem dX12_back_136 : decode mX12_back.2.2.1 136 = .ok (.iaload, 1) := by decide +kernel
theorem dX12_back_137 : decode mX12_back.2.2.1 137 = .ok (.iastore, 1) := by decide +kernel
theorem dX12_back_138 : decode mX12_back.2.2.1 138 = .ok (.iinc 1 1, 3) := by decide +kernel
theorem dX12_back_141 : decode mX12_back.2.2.1 141 = .ok (.goto (-20), 3) := by decide +kernel
theorem dX12_back_144 : decode mX12_back.2.2.1 144 = .ok (.aload_n 0, 1) := by decide +kernel
theorem dX12_back_145 : decode mX12_back.2.2.1 145 = .ok (.getfield 31, 3) := by decide +kernel
theorem dX12_back_148 : decode mX12_back.2.2.1 148 = .ok (.iconst 0, 1) := by decide +kernel
theorem dX12_back_149 : decode mX12_back.2.2.1 149 = .ok (.iaload, 1) := by decide +kernel
theorem dX12_back_150 : decode mX12_back.2.2.1 150 = .ok (.ireturn, 1) := by decide +kernel
set_option maxHeartbeats 100000 in
theorem kX12_back_0 {d : Nat} {F : am_FT} {L : am_LT} {Q : am_QT} {l1 : Option Value} : wt am_S0 d mX12_back 0 [some (.ref 45), l1] [] F L Q = if ¬ (F 45 21) = 0 then wt am_S0 d mX12_back 10 [some (.ref 45), l1] [] F L Q else wt am_S0 d mX12_back 7 [some (.ref 45), l1] [] F L Q := (wt_aload_n dX12_back_0 rfl rfl).trans ((wt_getfield dX12_back_1 rfl rfl (v := .int (F 45 21)) rfl).trans (wt_ifCond_ne dX12_back_4 (t := 10) rfl))
set_option maxHeartbeats 100000 in
theorem kX12_back_7 {d : Nat} {F : am_FT} {L : am_LT} {Q : am_QT} {l0 l1 : Option Value} : wt am_S0 d mX12_back 7 [l0, l1] [] F L Q = Q (some (.int (-5))) F L := (wt_bipush dX12_back_7 (v := (-5)) (by decide)).trans (wt_ireturn dX12_back_9 rfl rfl)
set_option maxHeartbeats 100000 in
theorem kX12_back_10 {d : Nat} {F : am_FT} {L : am_LT} {Q : am_QT} {l1 : Option Value} : wt am_S0 d mX12_back 10 [some (.ref 45), l1] [] F L Q = wt am_S0 d mX12_back 23 [some (.ref 45), some (.int (F 45 22))] [] (am_upF F 45 8 (F 45 24)) L Q := (wt_aload_n dX12_back_10 rfl rfl).trans ((wt_aload_n dX12_back_11 rfl rfl).trans ((wt_getfield dX12_back_12 rfl rfl (v := .int (F 45 24)) rfl).trans ((wt_putfield dX12_back_15 rfl rfl ⟨rfl, rfl, rfl, rfl⟩).trans ((wt_aload_n dX12_back_18 rfl rfl).trans ((wt_getfield dX12_back_19 rfl rfl (v := .int (F 45 22)) (F := am_upF F 45 8 (F 45 24)) (p := 45) rfl).trans (wt_istore_n dX12_back_22 (lv1 := [some (.ref 45), some (.int (F 45 22))]) (Nat.le_of_ble_eq_true rfl) rfl))))))
set_option maxHeartbeats 100000 in
theorem kX12_back_23 {d : Nat} {F : am_FT} {L : am_LT} {Q : am_QT} {x1 : Int32} : wt am_S0 d mX12_back 23 [some (.ref 45), some (.int x1)] [] F L Q = if (F 45 6) ≤ x1 then wt am_S0 d mX12_back 49 [some (.ref 45), some (.int x1)] [] F L Q else wt am_S0 d mX12_back 31 [some (.ref 45), some (.int x1)] [] F L Q := (wt_iload_n dX12_back_23 rfl).trans ((wt_aload_n dX12_back_24 rfl rfl).trans ((wt_getfield dX12_back_25 rfl rfl (v := .int (F 45 6)) rfl).trans (wt_if_icmp_ge dX12_back_28 (t := 49) rfl)))
set_option maxHeartbeats 100000 in
theorem kX12_back_31 {d : Nat} {F : am_FT} {L : am_LT} {Q : am_QT} {x1 : Int32} : wt am_S0 d mX12_back 31 [some (.ref 45), some (.int x1)] [] F L Q = wt am_S0 d mX12_back 23 [some (.ref 45), some (.int (x1 + 1))] [] (am_upF F 45 8 ((F 45 8) ||| ((1 : Int32) <<< (x1 &&& 31)))) L Q := (wt_aload_n dX12_back_31 rfl rfl).trans ((wt_dup dX12_back_32 rfl).trans ((wt_getfield dX12_back_33 rfl rfl (v := .int (F 45 8)) rfl).trans ((wt_iconst dX12_back_36 (v := 1) (by decide)).trans ((wt_iload_n dX12_back_37 rfl).trans ((wt_ishl dX12_back_38).trans ((wt_ior dX12_back_39).trans ((wt_putfield dX12_back_40 rfl rfl ⟨rfl, rfl, rfl, rfl⟩).trans ((wt_iinc dX12_back_43 (v := 1) (lv1 := [some (.ref 45), some (.int (x1 + 1))]) rfl (Nat.le_of_ble_eq_true rfl) (by decide) rfl).trans (wt_goto dX12_back_46 (t := 23) rfl)))))))))
set_option maxHeartbeats 100000 in
theorem kX12_back_49 {d : Nat} {F : am_FT} {L : am_LT} {Q : am_QT} {l1 : Option Value} : wt am_S0 d mX12_back 49 [some (.ref 45), l1] [] F L Q = wt am_S0 d mX12_back 59 [some (.ref 45), some (.int 0)] [] (am_upF F 45 19 (F 45 25)) L Q := (wt_aload_n dX12_back_49 rfl rfl).trans ((wt_aload_n dX12_back_50 rfl rfl).trans ((wt_getfield dX12_back_51 rfl rfl (v := .int (F 45 25)) rfl).trans ((wt_putfield dX12_back_54 rfl rfl ⟨rfl, rfl, rfl, rfl⟩).trans ((wt_iconst dX12_back_57 (v := 0) (by decide)).trans (wt_istore_n dX12_back_58 (lv1 := [some (.ref 45), some (.int 0)]) (Nat.le_of_ble_eq_true rfl) rfl)))))
set_option maxHeartbeats 100000 in
theorem kX12_back_59 {d : Nat} {F : am_FT} {L : am_LT} {Q : am_QT} {x1 : Int32} : wt am_S0 d mX12_back 59 [some (.ref 45), some (.int x1)] [] F L Q = if (F 45 22) ≤ x1 then wt am_S0 d mX12_back 88 [some (.ref 45), some (.int x1)] [] F L Q else wt am_S0 d mX12_back 67 [some (.ref 45), some (.int x1)] [] F L Q := (wt_iload_n dX12_back_59 rfl).trans ((wt_aload_n dX12_back_60 rfl rfl).trans ((wt_getfield dX12_back_61 rfl rfl (v := .int (F 45 22)) rfl).trans (wt_if_icmp_ge dX12_back_64 (t := 88) rfl)))
set_option maxHeartbeats 100000 in
theorem kX12_back_67 {d : Nat} {F : am_FT} {L : am_LT} {Q : am_QT} {x1 : Int32} (h1 : am_oob x1 6 = false) (h2 : am_oob (6 + x1) 60 = false) : wt am_S0 d mX12_back 67 [some (.ref 45), some (.int x1)] [] F L Q = wt am_S0 d mX12_back 59 [some (.ref 45), some (.int (x1 + 1))] [] (am_upF F 46 (Int32.toNatClampNeg (6 + x1)) (F 54 (Int32.toNatClampNeg x1))) L Q := (wt_aload_n dX12_back_67 rfl rfl).trans ((wt_getfield dX12_back_68 rfl rfl (v := .ref 46) rfl).trans ((wt_bipush dX12_back_71 (v := 6) (by decide)).trans ((wt_iload_n dX12_back_73 rfl).trans ((wt_iadd dX12_back_74).trans ((wt_aload_n dX12_back_75 rfl rfl).trans ((wt_getfield dX12_back_76 rfl rfl (v := .ref 54) rfl).trans ((wt_iload_n dX12_back_79 rfl).trans ((wt_iaload dX12_back_80 rfl (by decide) h1).trans ((wt_iastore dX12_back_81 rfl h2).trans ((wt_iinc dX12_back_82 (v := 1) (lv1 := [some (.ref 45), some (.int (x1 + 1))]) rfl (Nat.le_of_ble_eq_true rfl) (by decide) rfl).trans (wt_goto dX12_back_85 (t := 59) rfl)))))))))))
set_option maxHeartbeats 100000 in
theorem kX12_back_88 {d : Nat} {F : am_FT} {L : am_LT} {Q : am_QT} {l1 : Option Value} : wt am_S0 d mX12_back 88 [some (.ref 45), l1] [] F L Q = wt am_S0 d mX12_back 90 [some (.ref 45), some (.int 0)] [] F L Q := (wt_iconst dX12_back_88 (v := 0) (by decide)).trans (wt_istore_n dX12_back_89 (lv1 := [some (.ref 45), some (.int 0)]) (Nat.le_of_ble_eq_true rfl) rfl)
set_option maxHeartbeats 100000 in
theorem kX12_back_90 {d : Nat} {F : am_FT} {L : am_LT} {Q : am_QT} {x1 : Int32} : wt am_S0 d mX12_back 90 [some (.ref 45), some (.int x1)] [] F L Q = if (F 45 23) ≤ x1 then wt am_S0 d mX12_back 119 [some (.ref 45), some (.int x1)] [] F L Q else wt am_S0 d mX12_back 98 [some (.ref 45), some (.int x1)] [] F L Q := (wt_iload_n dX12_back_90 rfl).trans ((wt_aload_n dX12_back_91 rfl rfl).trans ((wt_getfield dX12_back_92 rfl rfl (v := .int (F 45 23)) rfl).trans (wt_if_icmp_ge dX12_back_95 (t := 119) rfl)))
set_option maxHeartbeats 100000 in
theorem kX12_back_98 {d : Nat} {F : am_FT} {L : am_LT} {Q : am_QT} {x1 : Int32} (h1 : am_oob x1 10 = false) (h2 : am_oob (30 + x1) 60 = false) : wt am_S0 d mX12_back 98 [some (.ref 45), some (.int x1)] [] F L Q = wt am_S0 d mX12_back 90 [some (.ref 45), some (.int (x1 + 1))] [] (am_upF F 46 (Int32.toNatClampNeg (30 + x1)) (F 55 (Int32.toNatClampNeg x1))) L Q := (wt_aload_n dX12_back_98 rfl rfl).trans ((wt_getfield dX12_back_99 rfl rfl (v := .ref 46) rfl).trans ((wt_bipush dX12_back_102 (v := 30) (by decide)).trans ((wt_iload_n dX12_back_104 rfl).trans ((wt_iadd dX12_back_105).trans ((wt_aload_n dX12_back_106 rfl rfl).trans ((wt_getfield dX12_back_107 rfl rfl (v := .ref 55) rfl).trans ((wt_iload_n dX12_back_110 rfl).trans ((wt_iaload dX12_back_111 rfl (by decide) h1).trans ((wt_iastore dX12_back_112 rfl h2).trans ((wt_iinc dX12_back_113 (v := 1) (lv1 := [some (.ref 45), some (.int (x1 + 1))]) rfl (Nat.le_of_ble_eq_true rfl) (by decide) rfl).trans (wt_goto dX12_back_116 (t := 90) rfl)))))))))))
set_option maxHeartbeats 100000 in
theorem kX12_back_119 {d : Nat} {F : am_FT} {L : am_LT} {Q : am_QT} {l1 : Option Value} : wt am_S0 d mX12_back 119 [some (.ref 45), l1] [] F L Q = wt am_S0 d mX12_back 121 [some (.ref 45), some (.int 0)] [] F L Q := (wt_iconst dX12_back_119 (v := 0) (by decide)).trans (wt_istore_n dX12_back_120 (lv1 := [some (.ref 45), some (.int 0)]) (Nat.le_of_ble_eq_true rfl) rfl)
set_option maxHeartbeats 100000 in
theorem kX12_back_121 {d : Nat} {F : am_FT} {L : am_LT} {Q : am_QT} {l0 : Option Value} {x1 : Int32} : wt am_S0 d mX12_back 121 [l0, some (.int x1)] [] F L Q = if 4 ≤ x1 then wt am_S0 d mX12_back 144 [l0, some (.int x1)] [] F L Q else wt am_S0 d mX12_back 126 [l0, some (.int x1)] [] F L Q := (wt_iload_n dX12_back_121 rfl).trans ((wt_iconst dX12_back_122 (v := 4) (by decide)).trans (wt_if_icmp_ge dX12_back_123 (t := 144) rfl))
set_option maxHeartbeats 100000 in
theorem kX12_back_126 {d : Nat} {F : am_FT} {L : am_LT} {Q : am_QT} {x1 : Int32} (h1 : am_oob x1 4 = false) : wt am_S0 d mX12_back 126 [some (.ref 45), some (.int x1)] [] F L Q = wt am_S0 d mX12_back 121 [some (.ref 45), some (.int (x1 + 1))] [] (am_upF F 53 (Int32.toNatClampNeg x1) (F 56 (Int32.toNatClampNeg x1))) L Q := (wt_aload_n dX12_back_126 rfl rfl).trans ((wt_getfield dX12_back_127 rfl rfl (v := .ref 53) rfl).trans ((wt_iload_n dX12_back_130 rfl).trans ((wt_aload_n dX12_back_131 rfl rfl).trans ((wt_getfield dX12_back_132 rfl rfl (v := .ref 56) rfl).trans ((wt_iload_n dX12_back_135 rfl).trans ((wt_iaload dX12_back_136 rfl (by decide) h1).trans ((wt_iastore dX12_back_137 rfl h1).trans ((wt_iinc dX12_back_138 (v := 1) (lv1 := [some (.ref 45), some (.int (x1 + 1))]) rfl (Nat.le_of_ble_eq_true rfl) (by decide) rfl).trans (wt_goto dX12_back_141 (t := 121) rfl)))))))))
set_option maxHeartbeats 100000 in
theorem kX12_back_144 {d : Nat} {F : am_FT} {L : am_LT} {Q : am_QT} {l1 : Option Value} (h1 : am_oob 0 4 = false) : wt am_S0 d mX12_back 144 [some (.ref 45), l1] [] F L Q = Q (some (.int (F 53 (Int32.toNatClampNeg 0)))) F L := (wt_aload_n dX12_back_144 rfl rfl).trans ((wt_getfield dX12_back_145 rfl rfl (v := .ref 53) rfl).trans ((wt_iconst dX12_back_148 (v := 0) (by decide)).trans ((wt_iaload dX12_back_149 rfl (by decide) h1).trans (wt_ireturn dX12_back_150 rfl rfl))))
theorem dX12_body_0 : decode mX12_body.2.2.1 0 = .ok (.iload_n 1, 1) := by decide +kernel
theorem dX12_body_1 : decode mX12_body.2.2.1 1 = .ok (.i2l, 1) := by decide +kernel
theorem dX12_body_2 : decode mX12_body.2.2.1 2 = .ok (.lconst 0, 1) := by decide +kernel
theorem dX12_body_3 : decode mX12_body.2.2.1 3 = .ok (.ldc2_w 285, 3) := by decide +kernel
theorem dX12_body_6 : decode mX12_body.2.2.1 6 = .ok (.invokestatic 75, 3) := by decide +kernel
theorem dX12_body_9 : decode mX12_body.2.2.1 9 = .ok (.ifCond .ne 5, 3) := by decide +kernel
theorem dX12_body_12 : decode mX12_body.2.2.1 12 = .ok (.iconst (-1), 1) := by decide +kernel
theorem dX12_body_13 : decode mX12_body.2.2.1 13 = .ok (.ireturn, 1) := by decide +kernel
theorem dX12_body_14 : decode mX12_body.2.2.1 14 = .ok (.aload_n 0, 1) := by decide +kernel
theorem dX12_body_15 : decode mX12_body.2.2.1 15 = .ok (.getfield 282, 3) := by decide +kernel
theorem dX12_body_18 : decode mX12_body.2.2.1 18 = .ok (.bipush 50, 2) := by decide +kernel
theorem dX12_body_20 : decode mX12_body.2.2.1 20 = .ok (.if_icmp .ne 6, 3) := by decide +kernel
theorem dX12_body_23 : decode mX12_body.2.2.1 23 = .ok (.bipush (-3), 2) := by decide +kernel
theorem dX12_body_25 : decode mX12_body.2.2.1 25 = .ok (.ireturn, 1) := by decide +kernel
theorem dX12_body_26 : decode mX12_body.2.2.1 26 = .ok (.aload_n 0, 1) := by decide +kernel
theorem dX12_body_27 : decode mX12_body.2.2.1 27 = .ok (.getfield 43, 3) := by decide +kernel
theorem dX12_body_30 : decode mX12_body.2.2.1 30 = .ok (.aload_n 0, 1) := by decide +kernel
theorem dX12_body_31 : decode mX12_body.2.2.1 31 = .ok (.getfield 282, 3) := by decide +kernel
theorem dX12_body_34 : decode mX12_body.2.2.1 34 = .ok (.iload_n 1, 1) := by decide +kernel
theorem dX12_body_35 : decode mX12_body.2.2.1 35 = .ok (.iastore, 1) := by decide +kernel
theorem dX12_body_36 : decode mX12_body.2.2.1 36 = .ok (.aload_n 0, 1) := by decide +kernel
theorem dX12_body_37 : decode mX12_body.2.2.1 37 = .ok (.dup, 1) := by decide +kernel
theorem dX12_body_38 : decode mX12_body.2.2.1 38 = .ok (.getfield 282, 3) := by decide +kernel
theorem dX12_body_41 : decode mX12_body.2.2.1 41 = .ok (.iconst 1, 1) := by decide +kernel
theorem dX12_body_42 : decode mX12_body.2.2.1 42 = .ok (.iadd, 1) := by decide +kernel
theorem dX12_body_43 : decode mX12_body.2.2.1 43 = .ok (.putfield 282, 3) := by decide +kernel
theorem dX12_body_46 : decode mX12_body.2.2.1 46 = .ok (.aload_n 0, 1) := by decide +kernel
theorem dX12_body_47 : decode mX12_body.2.2.1 47 = .ok (.getfield 282, 3) := by decide +kernel
theorem dX12_body_50 : decode mX12_body.2.2.1 50 = .ok (.iconst 1, 1) := by decide +kernel
theorem dX12_body_51 : decode mX12_body.2.2.1 51 = .ok (.isub, 1) := by decide +kernel
theorem dX12_body_52 : decode mX12_body.2.2.1 52 = .ok (.ireturn, 1) := by decide +kernel
set_option maxHeartbeats 100000 in
theorem kX12_body_0 {d : Nat} {F : am_FT} {L : am_LT} {Q : am_QT} {l0 : Option Value} {x1 : Int32} : wt am_S0 (d + 1) mX12_body 0 [l0, some (.int x1)] [] F L Q = wc am_S0 d mX12_within [.long (Int32.toInt64 x1), .long 0, .long 7] F L (fun r G K => wt am_S0 (d + 1) mX12_body 9 [l0, some (.int x1)] (r.toList ++ []) G K Q) := (wt_iload_n dX12_body_0 rfl).trans ((wt_i2l dX12_body_1).trans ((wt_lconst dX12_body_2 (v := 0) (by decide)).trans ((wt_ldc2_w dX12_body_3 (v := 7) rfl).trans (wt_callS dX12_body_6 rfl (as := [.long (Int32.toInt64 x1), .long 0, .long 7]) (rest := []) rfl rfl (Nat.le_of_ble_eq_true rfl) (Nat.le_of_ble_eq_true rfl)))))
set_option maxHeartbeats 100000 in
theorem kX12_body_9 {d : Nat} {F : am_FT} {L : am_LT} {Q : am_QT} {l0 l1 : Option Value} {s0 : Int32} : wt am_S0 d mX12_body 9 [l0, l1] [.int s0] F L Q = if ¬ s0 = 0 then wt am_S0 d mX12_body 14 [l0, l1] [] F L Q else wt am_S0 d mX12_body 12 [l0, l1] [] F L Q := wt_ifCond_ne dX12_body_9 (t := 14) rfl
set_option maxHeartbeats 100000 in
theorem kX12_body_12 {d : Nat} {F : am_FT} {L : am_LT} {Q : am_QT} {l0 l1 : Option Value} : wt am_S0 d mX12_body 12 [l0, l1] [] F L Q = Q (some (.int (-1))) F L := (wt_iconst dX12_body_12 (v := (-1)) (by decide)).trans (wt_ireturn dX12_body_13 rfl rfl)
set_option maxHeartbeats 100000 in
theorem kX12_body_14 {d : Nat} {F : am_FT} {L : am_LT} {Q : am_QT} {l1 : Option Value} : wt am_S0 d mX12_body 14 [some (.ref 45), l1] [] F L Q = if ¬ (F 45 29) = 50 then wt am_S0 d mX12_body 26 [some (.ref 45), l1] [] F L Q else wt am_S0 d mX12_body 23 [some (.ref 45), l1] [] F L Q := (wt_aload_n dX12_body_14 rfl rfl).trans ((wt_getfield dX12_body_15 rfl rfl (v := .int (F 45 29)) rfl).trans ((wt_bipush dX12_body_18 (v := 50) (by decide)).trans (wt_if_icmp_ne dX12_body_20 (t := 26) rfl)))
set_option maxHeartbeats 100000 in
theorem kX12_body_23 {d : Nat} {F : am_FT} {L : am_LT} {Q : am_QT} {l0 l1 : Option Value} : wt am_S0 d mX12_body 23 [l0, l1] [] F L Q = Q (some (.int (-3))) F L := (wt_bipush dX12_body_23 (v := (-3)) (by decide)).trans (wt_ireturn dX12_body_25 rfl rfl)
set_option maxHeartbeats 100000 in
theorem kX12_body_26 {d : Nat} {F : am_FT} {L : am_LT} {Q : am_QT} {x1 : Int32} (h1 : am_oob (F 45 29) 50 = false) : wt am_S0 d mX12_body 26 [some (.ref 45), some (.int x1)] [] F L Q = wt am_S0 d mX12_body 52 [some (.ref 45), some (.int x1)] [.int (((F 45 29) + 1) - 1)] (am_upF (am_upF F 57 (Int32.toNatClampNeg (F 45 29)) x1) 45 29 ((F 45 29) + 1)) L Q := (wt_aload_n dX12_body_26 rfl rfl).trans ((wt_getfield dX12_body_27 rfl rfl (v := .ref 57) rfl).trans ((wt_aload_n dX12_body_30 rfl rfl).trans ((wt_getfield dX12_body_31 rfl rfl (v := .int (F 45 29)) rfl).trans ((wt_iload_n dX12_body_34 rfl).trans ((wt_iastore dX12_body_35 rfl h1).trans ((wt_aload_n dX12_body_36 rfl rfl).trans ((wt_dup dX12_body_37 rfl).trans ((wt_getfield dX12_body_38 rfl rfl (v := .int (F 45 29)) (F := am_upF F 57 (Int32.toNatClampNeg (F 45 29)) x1) (p := 45) rfl).trans ((wt_iconst dX12_body_41 (v := 1) (by decide)).trans ((wt_iadd dX12_body_42).trans ((wt_putfield dX12_body_43 rfl rfl ⟨rfl, rfl, rfl, rfl⟩).trans ((wt_aload_n dX12_body_46 rfl rfl).trans ((wt_getfield dX12_body_47 rfl rfl (v := .int ((F 45 29) + 1)) (F := am_upF (am_upF F 57 (Int32.toNatClampNeg (F 45 29)) x1) 45 29 ((F 45 29) + 1)) (p := 45) rfl).trans ((wt_iconst dX12_body_50 (v := 1) (by decide)).trans (wt_isub dX12_body_51)))))))))))))))
set_option maxHeartbeats 100000 in
theorem kX12_body_52 {d : Nat} {F : am_FT} {L : am_LT} {Q : am_QT} {l0 l1 : Option Value} {s0 : Int32} : wt am_S0 d mX12_body 52 [l0, l1] [.int s0] F L Q = Q (some (.int s0)) F L := wt_ireturn dX12_body_52 rfl rfl
theorem dX12_act_0 : decode mX12_act.2.2.1 0 = .ok (.aload_n 0, 1) := by decide +kernel
theorem dX12_act_1 : decode mX12_act.2.2.1 1 = .ok (.iconst 0, 1) := by decide +kernel
theorem dX12_act_2 : decode mX12_act.2.2.1 2 = .ok (.putfield 287, 3) := by decide +kernel
theorem dX12_act_5 : decode mX12_act.2.2.1 5 = .ok (.aload_n 0, 1) := by decide +kernel
theorem dX12_act_6 : decode mX12_act.2.2.1 6 = .ok (.iload_n 1, 1) := by decide +kernel
theorem dX12_act_7 : decode mX12_act.2.2.1 7 = .ok (.invokevirtual 312, 3) := by decide +kernel
theorem dX12_act_10 : decode mX12_act.2.2.1 10 = .ok (.ifCond .ne 5, 3) := by decide +kernel
theorem dX12_act_13 : decode mX12_act.2.2.1 13 = .ok (.iconst 0, 1) := by decide +kernel
theorem dX12_act_14 : decode mX12_act.2.2.1 14 = .ok (.ireturn, 1) := by decide +kernel
theorem dX12_act_15 : decode mX12_act.2.2.1 15 = .ok (.aload_n 0, 1) := by decide +kernel
theorem dX12_act_16 : decode mX12_act.2.2.1 16 = .ok (.aload_n 0, 1) := by decide +kernel
theorem dX12_act_17 : decode mX12_act.2.2.1 17 = .ok (.getfield 43, 3) := by decide +kernel
theorem dX12_act_20 : decode mX12_act.2.2.1 20 = .ok (.iload_n 1, 1) := by decide +kernel
theorem dX12_act_21 : decode mX12_act.2.2.1 21 = .ok (.iaload, 1) := by decide +kernel
theorem dX12_act_22 : decode mX12_act.2.2.1 22 = .ok (.putfield 303, 3) := by decide +kernel
theorem dX12_act_25 : decode mX12_act.2.2.1 25 = .ok (.aload_n 0, 1) := by decide +kernel
theorem dX12_act_26 : decode mX12_act.2.2.1 26 = .ok (.iload_n 1, 1) := by decide +kernel
theorem dX12_act_27 : decode mX12_act.2.2.1 27 = .ok (.putfield 297, 3) := by decide +kernel
theorem dX12_act_30 : decode mX12_act.2.2.1 30 = .ok (.iload_n 2, 1) := by decide +kernel
theorem dX12_act_31 : decode mX12_act.2.2.1 31 = .ok (.tableswitch 69 0 3 #[29, 39, 49, 59], 29) := by decide +kernel
theorem dX12_act_60 : decode mX12_act.2.2.1 60 = .ok (.aload_n 0, 1) := by decide +kernel
theorem dX12_act_61 : decode mX12_act.2.2.1 61 = .ok (.aload_n 0, 1) := by decide +kernel
theorem dX12_act_62 : decode mX12_act.2.2.1 62 = .ok (.getfield 303, 3) := by decide +kernel
theorem dX12_act_65 : decode mX12_act.2.2.1 65 = .ok (.iload_n 3, 1) := by decide +kernel
theorem dX12_act_66 : decode mX12_act.2.2.1 66 = .ok (.invokevirtual 294, 3) := by decide +kernel
theorem dX12_act_69 : decode mX12_act.2.2.1 69 = .ok (.ireturn, 1) := by decide +kernel
theorem dX12_act_70 : decode mX12_act.2.2.1 70 = .ok (.aload_n 0, 1) := by decide +kernel
theorem dX12_act_71 : decode mX12_act.2.2.1 71 = .ok (.aload_n 0, 1) := by decide +kernel
theorem dX12_act_72 : decode mX12_act.2.2.1 72 = .ok (.getfield 303, 3) := by decide +kernel
theorem dX12_act_75 : decode mX12_act.2.2.1 75 = .ok (.iload_n 3, 1) := by decide +kernel
theorem dX12_act_76 : decode mX12_act.2.2.1 76 = .ok (.invokevirtual 300, 3) := by decide +kernel
theorem dX12_act_79 : decode mX12_act.2.2.1 79 = .ok (.ireturn, 1) := by decide +kernel
theorem dX12_act_80 : decode mX12_act.2.2.1 80 = .ok (.aload_n 0, 1) := by decide +kernel
theorem dX12_act_81 : decode mX12_act.2.2.1 81 = .ok (.aload_n 0, 1) := by decide +kernel
theorem dX12_act_82 : decode mX12_act.2.2.1 82 = .ok (.getfield 303, 3) := by decide +kernel
theorem dX12_act_85 : decode mX12_act.2.2.1 85 = .ok (.iload_n 3, 1) := by decide +kernel
theorem dX12_act_86 : decode mX12_act.2.2.1 86 = .ok (.invokevirtual 306, 3) := by decide +kernel
theorem dX12_act_89 : decode mX12_act.2.2.1 89 = .ok (.ireturn, 1) := by decide +kernel
theorem dX12_act_90 : decode mX12_act.2.2.1 90 = .ok (.aload_n 0, 1) := by decide +kernel
theorem dX12_act_91 : decode mX12_act.2.2.1 91 = .ok (.aload_n 0, 1) := by decide +kernel
theorem dX12_act_92 : decode mX12_act.2.2.1 92 = .ok (.getfield 303, 3) := by decide +kernel
theorem dX12_act_95 : decode mX12_act.2.2.1 95 = .ok (.iload_n 3, 1) := by decide +kernel
theorem dX12_act_96 : decode mX12_act.2.2.1 96 = .ok (.invokevirtual 309, 3) := by decide +kernel
theorem dX12_act_99 : decode mX12_act.2.2.1 99 = .ok (.ireturn, 1) := by decide +kernel
theorem dX12_act_100 : decode mX12_act.2.2.1 100 = .ok (.iconst 0, 1) := by decide +kernel
theorem dX12_act_101 : decode mX12_act.2.2.1 101 = .ok (.ireturn, 1) := by decide +kernel
set_option maxHeartbeats 100000 in
theorem kX12_act_0 {d : Nat} {F : am_FT} {L : am_LT} {Q : am_QT} {l2 l3 : Option Value} {x1 : Int32} : wt am_S0 (d + 1) mX12_act 0 [some (.ref 45), some (.int x1), l2, l3] [] F L Q = wc am_S0 d mX12_isBody [.ref 45, .int x1] (am_upF F 45 32 0) L (fun r G K => wt am_S0 (d + 1) mX12_act 10 [some (.ref 45), some (.int x1), l2, l3] (r.toList ++ []) G K Q) := (wt_aload_n dX12_act_0 rfl rfl).trans ((wt_iconst dX12_act_1 (v := 0) (by decide)).trans ((wt_putfield dX12_act_2 rfl rfl ⟨rfl, rfl, rfl, rfl⟩).trans ((wt_aload_n dX12_act_5 rfl rfl).trans ((wt_iload_n dX12_act_6 rfl).trans (wt_callV dX12_act_7 rfl (as := [.int x1]) (rest := []) rfl rfl (Nat.le_of_ble_eq_true rfl) rfl (Nat.le_of_ble_eq_true rfl))))))
set_option maxHeartbeats 100000 in
theorem kX12_act_10 {d : Nat} {F : am_FT} {L : am_LT} {Q : am_QT} {l0 l1 l2 l3 : Option Value} {s0 : Int32} : wt am_S0 d mX12_act 10 [l0, l1, l2, l3] [.int s0] F L Q = if ¬ s0 = 0 then wt am_S0 d mX12_act 15 [l0, l1, l2, l3] [] F L Q else wt am_S0 d mX12_act 13 [l0, l1, l2, l3] [] F L Q := wt_ifCond_ne dX12_act_10 (t := 15) rfl
set_option maxHeartbeats 100000 in
theorem kX12_act_13 {d : Nat} {F : am_FT} {L : am_LT} {Q : am_QT} {l0 l1 l2 l3 : Option Value} : wt am_S0 d mX12_act 13 [l0, l1, l2, l3] [] F L Q = Q (some (.int 0)) F L := (wt_iconst dX12_act_13 (v := 0) (by decide)).trans (wt_ireturn dX12_act_14 rfl rfl)
set_option maxHeartbeats 100000 in
theorem kX12_act_15 {d : Nat} {F : am_FT} {L : am_LT} {Q : am_QT} {l3 : Option Value} {x1 x2 : Int32} (h1 : am_oob x1 50 = false) : wt am_S0 d mX12_act 15 [some (.ref 45), some (.int x1), some (.int x2), l3] [] F L Q = if x2 = 0 then wt am_S0 d mX12_act 60 [some (.ref 45), some (.int x1), some (.int x2), l3] [] (am_upF (am_upF F 45 33 (F 57 (Int32.toNatClampNeg x1))) 45 34 x1) L Q else if x2 = 1 then wt am_S0 d mX12_act 70 [some (.ref 45), some (.int x1), some (.int x2), l3] [] (am_upF (am_upF F 45 33 (F 57 (Int32.toNatClampNeg x1))) 45 34 x1) L Q else if x2 = 2 then wt am_S0 d mX12_act 80 [some (.ref 45), some (.int x1), some (.int x2), l3] [] (am_upF (am_upF F 45 33 (F 57 (Int32.toNatClampNeg x1))) 45 34 x1) L Q else if x2 = 3 then wt am_S0 d mX12_act 90 [some (.ref 45), some (.int x1), some (.int x2), l3] [] (am_upF (am_upF F 45 33 (F 57 (Int32.toNatClampNeg x1))) 45 34 x1) L Q else wt am_S0 d mX12_act 100 [some (.ref 45), some (.int x1), some (.int x2), l3] [] (am_upF (am_upF F 45 33 (F 57 (Int32.toNatClampNeg x1))) 45 34 x1) L Q := by
  rw [wt_aload_n dX12_act_15 rfl rfl]
  rw [wt_aload_n dX12_act_16 rfl rfl]
  rw [wt_getfield dX12_act_17 rfl rfl (v := .ref 57) rfl]
  rw [wt_iload_n dX12_act_20 rfl]
  rw [wt_iaload dX12_act_21 rfl (by decide) h1]
  rw [wt_putfield dX12_act_22 rfl rfl ⟨rfl, rfl, rfl, rfl⟩]
  rw [wt_aload_n dX12_act_25 rfl rfl]
  rw [wt_iload_n dX12_act_26 rfl]
  rw [wt_putfield dX12_act_27 rfl rfl ⟨rfl, rfl, rfl, rfl⟩]
  rw [wt_iload_n dX12_act_30 rfl]
  by_cases g0 : x2 = 0
  · rw [if_pos g0, g0]
    exact wt_tableI dX12_act_31 (by decide) (off := 29) rfl (t := 60) rfl
  rw [if_neg g0]
  by_cases g1 : x2 = 1
  · rw [if_pos g1, g1]
    exact wt_tableI dX12_act_31 (by decide) (off := 39) rfl (t := 70) rfl
  rw [if_neg g1]
  by_cases g2 : x2 = 2
  · rw [if_pos g2, g2]
    exact wt_tableI dX12_act_31 (by decide) (off := 49) rfl (t := 80) rfl
  rw [if_neg g2]
  by_cases g3 : x2 = 3
  · rw [if_pos g3, g3]
    exact wt_tableI dX12_act_31 (by decide) (off := 59) rfl (t := 90) rfl
  rw [if_neg g3]
  have i0 : ¬ ((x2 : Int32)).toInt = 0 := fun z => g0 (Int32.toInt_inj.mp (z.trans (by decide)))
  have i1 : ¬ ((x2 : Int32)).toInt = 1 := fun z => g1 (Int32.toInt_inj.mp (z.trans (by decide)))
  have i2 : ¬ ((x2 : Int32)).toInt = 2 := fun z => g2 (Int32.toInt_inj.mp (z.trans (by decide)))
  have i3 : ¬ ((x2 : Int32)).toInt = 3 := fun z => g3 (Int32.toInt_inj.mp (z.trans (by decide)))
  exact wt_tableO dX12_act_31 (by omega) (t := 100) rfl
set_option maxHeartbeats 100000 in
theorem kX12_act_60 {d : Nat} {F : am_FT} {L : am_LT} {Q : am_QT} {l1 l2 : Option Value} {x3 : Int32} : wt am_S0 (d + 1) mX12_act 60 [some (.ref 45), l1, l2, some (.int x3)] [] F L Q = wc am_S0 d mX12_sitsAs [.ref 45, .int (F 45 33), .int x3] F L (fun r G K => wt am_S0 (d + 1) mX12_act 69 [some (.ref 45), l1, l2, some (.int x3)] (r.toList ++ []) G K Q) := (wt_aload_n dX12_act_60 rfl rfl).trans ((wt_aload_n dX12_act_61 rfl rfl).trans ((wt_getfield dX12_act_62 rfl rfl (v := .int (F 45 33)) rfl).trans ((wt_iload_n dX12_act_65 rfl).trans (wt_callV dX12_act_66 rfl (as := [.int (F 45 33), .int x3]) (rest := []) rfl rfl (Nat.le_of_ble_eq_true rfl) rfl (Nat.le_of_ble_eq_true rfl)))))
set_option maxHeartbeats 100000 in
theorem kX12_act_69 {d : Nat} {F : am_FT} {L : am_LT} {Q : am_QT} {l0 l1 l2 l3 : Option Value} {s0 : Int32} : wt am_S0 d mX12_act 69 [l0, l1, l2, l3] [.int s0] F L Q = Q (some (.int s0)) F L := wt_ireturn dX12_act_69 rfl rfl
set_option maxHeartbeats 100000 in
theorem kX12_act_70 {d : Nat} {F : am_FT} {L : am_LT} {Q : am_QT} {l1 l2 : Option Value} {x3 : Int32} : wt am_S0 (d + 1) mX12_act 70 [some (.ref 45), l1, l2, some (.int x3)] [] F L Q = wc am_S0 d mX12_votesAs [.ref 45, .int (F 45 33), .int x3] F L (fun r G K => wt am_S0 (d + 1) mX12_act 79 [some (.ref 45), l1, l2, some (.int x3)] (r.toList ++ []) G K Q) := (wt_aload_n dX12_act_70 rfl rfl).trans ((wt_aload_n dX12_act_71 rfl rfl).trans ((wt_getfield dX12_act_72 rfl rfl (v := .int (F 45 33)) rfl).trans ((wt_iload_n dX12_act_75 rfl).trans (wt_callV dX12_act_76 rfl (as := [.int (F 45 33), .int x3]) (rest := []) rfl rfl (Nat.le_of_ble_eq_true rfl) rfl (Nat.le_of_ble_eq_true rfl)))))
set_option maxHeartbeats 100000 in
theorem kX12_act_79 {d : Nat} {F : am_FT} {L : am_LT} {Q : am_QT} {l0 l1 l2 l3 : Option Value} {s0 : Int32} : wt am_S0 d mX12_act 79 [l0, l1, l2, l3] [.int s0] F L Q = Q (some (.int s0)) F L := wt_ireturn dX12_act_79 rfl rfl
set_option maxHeartbeats 100000 in
theorem kX12_act_80 {d : Nat} {F : am_FT} {L : am_LT} {Q : am_QT} {l1 l2 : Option Value} {x3 : Int32} : wt am_S0 (d + 1) mX12_act 80 [some (.ref 45), l1, l2, some (.int x3)] [] F L Q = wc am_S0 d mX12_movesAs [.ref 45, .int (F 45 33), .int x3] F L (fun r G K => wt am_S0 (d + 1) mX12_act 89 [some (.ref 45), l1, l2, some (.int x3)] (r.toList ++ []) G K Q) := (wt_aload_n dX12_act_80 rfl rfl).trans ((wt_aload_n dX12_act_81 rfl rfl).trans ((wt_getfield dX12_act_82 rfl rfl (v := .int (F 45 33)) rfl).trans ((wt_iload_n dX12_act_85 rfl).trans (wt_callV dX12_act_86 rfl (as := [.int (F 45 33), .int x3]) (rest := []) rfl rfl (Nat.le_of_ble_eq_true rfl) rfl (Nat.le_of_ble_eq_true rfl)))))
set_option maxHeartbeats 100000 in
theorem kX12_act_89 {d : Nat} {F : am_FT} {L : am_LT} {Q : am_QT} {l0 l1 l2 l3 : Option Value} {s0 : Int32} : wt am_S0 d mX12_act 89 [l0, l1, l2, l3] [.int s0] F L Q = Q (some (.int s0)) F L := wt_ireturn dX12_act_89 rfl rfl
set_option maxHeartbeats 100000 in
theorem kX12_act_90 {d : Nat} {F : am_FT} {L : am_LT} {Q : am_QT} {l1 l2 : Option Value} {x3 : Int32} : wt am_S0 (d + 1) mX12_act 90 [some (.ref 45), l1, l2, some (.int x3)] [] F L Q = wc am_S0 d mX12_tellsAs [.ref 45, .int (F 45 33), .int x3] F L (fun r G K => wt am_S0 (d + 1) mX12_act 99 [some (.ref 45), l1, l2, some (.int x3)] (r.toList ++ []) G K Q) := (wt_aload_n dX12_act_90 rfl rfl).trans ((wt_aload_n dX12_act_91 rfl rfl).trans ((wt_getfield dX12_act_92 rfl rfl (v := .int (F 45 33)) rfl).trans ((wt_iload_n dX12_act_95 rfl).trans (wt_callV dX12_act_96 rfl (as := [.int (F 45 33), .int x3]) (rest := []) rfl rfl (Nat.le_of_ble_eq_true rfl) rfl (Nat.le_of_ble_eq_true rfl)))))
set_option maxHeartbeats 100000 in
theorem kX12_act_99 {d : Nat} {F : am_FT} {L : am_LT} {Q : am_QT} {l0 l1 l2 l3 : Option Value} {s0 : Int32} : wt am_S0 d mX12_act 99 [l0, l1, l2, l3] [.int s0] F L Q = Q (some (.int s0)) F L := wt_ireturn dX12_act_99 rfl rfl
set_option maxHeartbeats 100000 in
theorem kX12_act_100 {d : Nat} {F : am_FT} {L : am_LT} {Q : am_QT} {l0 l1 l2 l3 : Option Value} : wt am_S0 d mX12_act 100 [l0, l1, l2, l3] [] F L Q = Q (some (.int 0)) F L := (wt_iconst dX12_act_100 (v := 0) (by decide)).trans (wt_ireturn dX12_act_101 rfl rfl)
theorem dX12_isBody_0 : decode mX12_isBody.2.2.1 0 = .ok (.iload_n 1, 1) := by decide +kernel
theorem dX12_isBody_1 : decode mX12_isBody.2.2.1 1 = .ok (.i2l, 1) := by decide +kernel
theorem dX12_isBody_2 : decode mX12_isBody.2.2.1 2 = .ok (.lconst 0, 1) := by decide +kernel
theorem dX12_isBody_3 : decode mX12_isBody.2.2.1 3 = .ok (.aload_n 0, 1) := by decide +kernel
theorem dX12_isBody_4 : decode mX12_isBody.2.2.1 4 = .ok (.getfield 282, 3) := by decide +kernel
theorem dX12_isBody_7 : decode mX12_isBody.2.2.1 7 = .ok (.iconst 1, 1) := by decide +kernel
theorem dX12_isBody_8 : decode mX12_isBody.2.2.1 8 = .ok (.isub, 1) := by decide +kernel
theorem dX12_isBody_9 : decode mX12_isBody.2.2.1 9 = .ok (.i2l, 1) := by decide +kernel
theorem dX12_isBody_10 : decode mX12_isBody.2.2.1 10 = .ok (.invokestatic 75, 3) := by decide +kernel
theorem dX12_isBody_13 : decode mX12_isBody.2.2.1 13 = .ok (.ireturn, 1) := by decide +kernel
set_option maxHeartbeats 100000 in
theorem kX12_isBody_0 {d : Nat} {F : am_FT} {L : am_LT} {Q : am_QT} {x1 : Int32} : wt am_S0 (d + 1) mX12_isBody 0 [some (.ref 45), some (.int x1)] [] F L Q = wc am_S0 d mX12_within [.long (Int32.toInt64 x1), .long 0, .long (Int32.toInt64 ((F 45 29) - 1))] F L (fun r G K => wt am_S0 (d + 1) mX12_isBody 13 [some (.ref 45), some (.int x1)] (r.toList ++ []) G K Q) := (wt_iload_n dX12_isBody_0 rfl).trans ((wt_i2l dX12_isBody_1).trans ((wt_lconst dX12_isBody_2 (v := 0) (by decide)).trans ((wt_aload_n dX12_isBody_3 rfl rfl).trans ((wt_getfield dX12_isBody_4 rfl rfl (v := .int (F 45 29)) rfl).trans ((wt_iconst dX12_isBody_7 (v := 1) (by decide)).trans ((wt_isub dX12_isBody_8).trans ((wt_i2l dX12_isBody_9).trans (wt_callS dX12_isBody_10 rfl (as := [.long (Int32.toInt64 x1), .long 0, .long (Int32.toInt64 ((F 45 29) - 1))]) (rest := []) rfl rfl (Nat.le_of_ble_eq_true rfl) (Nat.le_of_ble_eq_true rfl)))))))))
set_option maxHeartbeats 100000 in
theorem kX12_isBody_13 {d : Nat} {F : am_FT} {L : am_LT} {Q : am_QT} {l0 l1 : Option Value} {s0 : Int32} (h1 : narrow .boolean (.int s0) = .int s0) : wt am_S0 d mX12_isBody 13 [l0, l1] [.int s0] F L Q = Q (some (.int s0)) F L := wt_ireturn dX12_isBody_13 rfl h1
theorem dX12_sitsAs_0 : decode mX12_sitsAs.2.2.1 0 = .ok (.iload_n 1, 1) := by decide +kernel
theorem dX12_sitsAs_1 : decode mX12_sitsAs.2.2.1 1 = .ok (.iconst 1, 1) := by decide +kernel
theorem dX12_sitsAs_2 : decode mX12_sitsAs.2.2.1 2 = .ok (.if_icmp .eq 14, 3) := by decide +kernel
theorem dX12_sitsAs_5 : decode mX12_sitsAs.2.2.1 5 = .ok (.iload_n 1, 1) := by decide +kernel
theorem dX12_sitsAs_6 : decode mX12_sitsAs.2.2.1 6 = .ok (.iconst 4, 1) := by decide +kernel
theorem dX12_sitsAs_7 : decode mX12_sitsAs.2.2.1 7 = .ok (.if_icmp .eq 9, 3) := by decide +kernel
theorem dX12_sitsAs_10 : decode mX12_sitsAs.2.2.1 10 = .ok (.iload_n 1, 1) := by decide +kernel
theorem dX12_sitsAs_11 : decode mX12_sitsAs.2.2.1 11 = .ok (.bipush 7, 2) := by decide +kernel
theorem dX12_sitsAs_13 : decode mX12_sitsAs.2.2.1 13 = .ok (.if_icmp .ne 18, 3) := by decide +kernel
theorem dX12_sitsAs_16 : decode mX12_sitsAs.2.2.1 16 = .ok (.aload_n 0, 1) := by decide +kernel
theorem dX12_sitsAs_17 : decode mX12_sitsAs.2.2.1 17 = .ok (.bipush 20, 2) := by decide +kernel
theorem dX12_sitsAs_19 : decode mX12_sitsAs.2.2.1 19 = .ok (.invokevirtual 290, 3) := by decide +kernel
theorem dX12_sitsAs_22 : decode mX12_sitsAs.2.2.1 22 = .ok (.aload_n 0, 1) := by decide +kernel
theorem dX12_sitsAs_23 : decode mX12_sitsAs.2.2.1 23 = .ok (.iconst 0, 1) := by decide +kernel
theorem dX12_sitsAs_24 : decode mX12_sitsAs.2.2.1 24 = .ok (.iload_n 2, 1) := by decide +kernel
theorem dX12_sitsAs_25 : decode mX12_sitsAs.2.2.1 25 = .ok (.invokevirtual 294, 3) := by decide +kernel
theorem dX12_sitsAs_28 : decode mX12_sitsAs.2.2.1 28 = .ok (.iconst 3, 1) := by decide +kernel
theorem dX12_sitsAs_29 : decode mX12_sitsAs.2.2.1 29 = .ok (.iadd, 1) := by decide +kernel
theorem dX12_sitsAs_30 : decode mX12_sitsAs.2.2.1 30 = .ok (.ireturn, 1) := by decide +kernel
theorem dX12_sitsAs_31 : decode mX12_sitsAs.2.2.1 31 = .ok (.iload_n 1, 1) := by decide +kernel
theorem dX12_sitsAs_32 : decode mX12_sitsAs.2.2.1 32 = .ok (.bipush 6, 2) := by decide +kernel
theorem dX12_sitsAs_34 : decode mX12_sitsAs.2.2.1 34 = .ok (.if_icmp .ne 18, 3) := by decide +kernel
theorem dX12_sitsAs_37 : decode mX12_sitsAs.2.2.1 37 = .ok (.aload_n 0, 1) := by decide +kernel
theorem dX12_sitsAs_38 : decode mX12_sitsAs.2.2.1 38 = .ok (.bipush 70, 2) := by decide +kernel
theorem dX12_sitsAs_40 : decode mX12_sitsAs.2.2.1 40 = .ok (.invokevirtual 290, 3) := by decide +kernel
theorem dX12_sitsAs_43 : decode mX12_sitsAs.2.2.1 43 = .ok (.aload_n 0, 1) := by decide +kernel
theorem dX12_sitsAs_44 : decode mX12_sitsAs.2.2.1 44 = .ok (.iconst 0, 1) := by decide +kernel
theorem dX12_sitsAs_45 : decode mX12_sitsAs.2.2.1 45 = .ok (.iload_n 2, 1) := by decide +kernel
theorem dX12_sitsAs_46 : decode mX12_sitsAs.2.2.1 46 = .ok (.invokevirtual 294, 3) := by decide +kernel
theorem dX12_sitsAs_49 : decode mX12_sitsAs.2.2.1 49 = .ok (.iconst 2, 1) := by decide +kernel
theorem dX12_sitsAs_50 : decode mX12_sitsAs.2.2.1 50 = .ok (.imul, 1) := by decide +kernel
theorem dX12_sitsAs_51 : decode mX12_sitsAs.2.2.1 51 = .ok (.ireturn, 1) := by decide +kernel
theorem dX12_sitsAs_52 : decode mX12_sitsAs.2.2.1 52 = .ok (.aload_n 0, 1) := by decide +kernel
theorem dX12_sitsAs_53 : decode mX12_sitsAs.2.2.1 53 = .ok (.iconst 1, 1) := by decide +kernel
theorem dX12_sitsAs_54 : decode mX12_sitsAs.2.2.1 54 = .ok (.invokevirtual 290, 3) := by decide +kernel
theorem dX12_sitsAs_57 : decode mX12_sitsAs.2.2.1 57 = .ok (.iload_n 2, 1) := by decide +kernel
theorem dX12_sitsAs_58 : decode mX12_sitsAs.2.2.1 58 = .ok (.aload_n 0, 1) := by decide +kernel
theorem dX12_sitsAs_59 : decode mX12_sitsAs.2.2.1 59 = .ok (.getfield 297, 3) := by decide +kernel
theorem dX12_sitsAs_62 : decode mX12_sitsAs.2.2.1 62 = .ok (.iadd, 1) := by decide +kernel
theorem dX12_sitsAs_63 : decode mX12_sitsAs.2.2.1 63 = .ok (.ireturn, 1) := by decide +kernel
set_option maxHeartbeats 100000 in
theorem kX12_sitsAs_0 {d : Nat} {F : am_FT} {L : am_LT} {Q : am_QT} {l0 l2 : Option Value} {x1 : Int32} : wt am_S0 d mX12_sitsAs 0 [l0, some (.int x1), l2] [] F L Q = if x1 = 1 then wt am_S0 d mX12_sitsAs 16 [l0, some (.int x1), l2] [] F L Q else wt am_S0 d mX12_sitsAs 5 [l0, some (.int x1), l2] [] F L Q := (wt_iload_n dX12_sitsAs_0 rfl).trans ((wt_iconst dX12_sitsAs_1 (v := 1) (by decide)).trans (wt_if_icmp_eq dX12_sitsAs_2 (t := 16) rfl))
set_option maxHeartbeats 100000 in
theorem kX12_sitsAs_5 {d : Nat} {F : am_FT} {L : am_LT} {Q : am_QT} {l0 l2 : Option Value} {x1 : Int32} : wt am_S0 d mX12_sitsAs 5 [l0, some (.int x1), l2] [] F L Q = if x1 = 4 then wt am_S0 d mX12_sitsAs 16 [l0, some (.int x1), l2] [] F L Q else wt am_S0 d mX12_sitsAs 10 [l0, some (.int x1), l2] [] F L Q := (wt_iload_n dX12_sitsAs_5 rfl).trans ((wt_iconst dX12_sitsAs_6 (v := 4) (by decide)).trans (wt_if_icmp_eq dX12_sitsAs_7 (t := 16) rfl))
set_option maxHeartbeats 100000 in
theorem kX12_sitsAs_10 {d : Nat} {F : am_FT} {L : am_LT} {Q : am_QT} {l0 l2 : Option Value} {x1 : Int32} : wt am_S0 d mX12_sitsAs 10 [l0, some (.int x1), l2] [] F L Q = if ¬ x1 = 7 then wt am_S0 d mX12_sitsAs 31 [l0, some (.int x1), l2] [] F L Q else wt am_S0 d mX12_sitsAs 16 [l0, some (.int x1), l2] [] F L Q := (wt_iload_n dX12_sitsAs_10 rfl).trans ((wt_bipush dX12_sitsAs_11 (v := 7) (by decide)).trans (wt_if_icmp_ne dX12_sitsAs_13 (t := 31) rfl))
set_option maxHeartbeats 100000 in
theorem kX12_sitsAs_16 {d : Nat} {F : am_FT} {L : am_LT} {Q : am_QT} {l1 l2 : Option Value} : wt am_S0 (d + 1) mX12_sitsAs 16 [some (.ref 45), l1, l2] [] F L Q = wc am_S0 d mX12_runs [.ref 45, .int 20] F L (fun r G K => wt am_S0 (d + 1) mX12_sitsAs 22 [some (.ref 45), l1, l2] (r.toList ++ []) G K Q) := (wt_aload_n dX12_sitsAs_16 rfl rfl).trans ((wt_bipush dX12_sitsAs_17 (v := 20) (by decide)).trans (wt_callV dX12_sitsAs_19 rfl (as := [.int 20]) (rest := []) rfl rfl (Nat.le_of_ble_eq_true rfl) rfl (Nat.le_of_ble_eq_true rfl)))
set_option maxHeartbeats 100000 in
theorem kX12_sitsAs_22 {d : Nat} {F : am_FT} {L : am_LT} {Q : am_QT} {l1 : Option Value} {x2 : Int32} : wt am_S0 (d + 1) mX12_sitsAs 22 [some (.ref 45), l1, some (.int x2)] [] F L Q = wc am_S0 d mX12_sitsAs [.ref 45, .int 0, .int x2] F L (fun r G K => wt am_S0 (d + 1) mX12_sitsAs 28 [some (.ref 45), l1, some (.int x2)] (r.toList ++ []) G K Q) := (wt_aload_n dX12_sitsAs_22 rfl rfl).trans ((wt_iconst dX12_sitsAs_23 (v := 0) (by decide)).trans ((wt_iload_n dX12_sitsAs_24 rfl).trans (wt_callV dX12_sitsAs_25 rfl (as := [.int 0, .int x2]) (rest := []) rfl rfl (Nat.le_of_ble_eq_true rfl) rfl (Nat.le_of_ble_eq_true rfl))))
set_option maxHeartbeats 100000 in
theorem kX12_sitsAs_28 {d : Nat} {F : am_FT} {L : am_LT} {Q : am_QT} {l0 l1 l2 : Option Value} {s0 : Int32} : wt am_S0 d mX12_sitsAs 28 [l0, l1, l2] [.int s0] F L Q = Q (some (.int (s0 + 3))) F L := (wt_iconst dX12_sitsAs_28 (v := 3) (by decide)).trans ((wt_iadd dX12_sitsAs_29).trans (wt_ireturn dX12_sitsAs_30 rfl rfl))
set_option maxHeartbeats 100000 in
theorem kX12_sitsAs_31 {d : Nat} {F : am_FT} {L : am_LT} {Q : am_QT} {l0 l2 : Option Value} {x1 : Int32} : wt am_S0 d mX12_sitsAs 31 [l0, some (.int x1), l2] [] F L Q = if ¬ x1 = 6 then wt am_S0 d mX12_sitsAs 52 [l0, some (.int x1), l2] [] F L Q else wt am_S0 d mX12_sitsAs 37 [l0, some (.int x1), l2] [] F L Q := (wt_iload_n dX12_sitsAs_31 rfl).trans ((wt_bipush dX12_sitsAs_32 (v := 6) (by decide)).trans (wt_if_icmp_ne dX12_sitsAs_34 (t := 52) rfl))
set_option maxHeartbeats 100000 in
theorem kX12_sitsAs_37 {d : Nat} {F : am_FT} {L : am_LT} {Q : am_QT} {l1 l2 : Option Value} : wt am_S0 (d + 1) mX12_sitsAs 37 [some (.ref 45), l1, l2] [] F L Q = wc am_S0 d mX12_runs [.ref 45, .int 70] F L (fun r G K => wt am_S0 (d + 1) mX12_sitsAs 43 [some (.ref 45), l1, l2] (r.toList ++ []) G K Q) := (wt_aload_n dX12_sitsAs_37 rfl rfl).trans ((wt_bipush dX12_sitsAs_38 (v := 70) (by decide)).trans (wt_callV dX12_sitsAs_40 rfl (as := [.int 70]) (rest := []) rfl rfl (Nat.le_of_ble_eq_true rfl) rfl (Nat.le_of_ble_eq_true rfl)))
set_option maxHeartbeats 100000 in
theorem kX12_sitsAs_43 {d : Nat} {F : am_FT} {L : am_LT} {Q : am_QT} {l1 : Option Value} {x2 : Int32} : wt am_S0 (d + 1) mX12_sitsAs 43 [some (.ref 45), l1, some (.int x2)] [] F L Q = wc am_S0 d mX12_sitsAs [.ref 45, .int 0, .int x2] F L (fun r G K => wt am_S0 (d + 1) mX12_sitsAs 49 [some (.ref 45), l1, some (.int x2)] (r.toList ++ []) G K Q) := (wt_aload_n dX12_sitsAs_43 rfl rfl).trans ((wt_iconst dX12_sitsAs_44 (v := 0) (by decide)).trans ((wt_iload_n dX12_sitsAs_45 rfl).trans (wt_callV dX12_sitsAs_46 rfl (as := [.int 0, .int x2]) (rest := []) rfl rfl (Nat.le_of_ble_eq_true rfl) rfl (Nat.le_of_ble_eq_true rfl))))
set_option maxHeartbeats 100000 in
theorem kX12_sitsAs_49 {d : Nat} {F : am_FT} {L : am_LT} {Q : am_QT} {l0 l1 l2 : Option Value} {s0 : Int32} : wt am_S0 d mX12_sitsAs 49 [l0, l1, l2] [.int s0] F L Q = Q (some (.int (s0 * 2))) F L := (wt_iconst dX12_sitsAs_49 (v := 2) (by decide)).trans ((wt_imul dX12_sitsAs_50).trans (wt_ireturn dX12_sitsAs_51 rfl rfl))
set_option maxHeartbeats 100000 in
theorem kX12_sitsAs_52 {d : Nat} {F : am_FT} {L : am_LT} {Q : am_QT} {l1 l2 : Option Value} : wt am_S0 (d + 1) mX12_sitsAs 52 [some (.ref 45), l1, l2] [] F L Q = wc am_S0 d mX12_runs [.ref 45, .int 1] F L (fun r G K => wt am_S0 (d + 1) mX12_sitsAs 57 [some (.ref 45), l1, l2] (r.toList ++ []) G K Q) := (wt_aload_n dX12_sitsAs_52 rfl rfl).trans ((wt_iconst dX12_sitsAs_53 (v := 1) (by decide)).trans (wt_callV dX12_sitsAs_54 rfl (as := [.int 1]) (rest := []) rfl rfl (Nat.le_of_ble_eq_true rfl) rfl (Nat.le_of_ble_eq_true rfl)))
set_option maxHeartbeats 100000 in
theorem kX12_sitsAs_57 {d : Nat} {F : am_FT} {L : am_LT} {Q : am_QT} {l1 : Option Value} {x2 : Int32} : wt am_S0 d mX12_sitsAs 57 [some (.ref 45), l1, some (.int x2)] [] F L Q = Q (some (.int (x2 + (F 45 34)))) F L := (wt_iload_n dX12_sitsAs_57 rfl).trans ((wt_aload_n dX12_sitsAs_58 rfl rfl).trans ((wt_getfield dX12_sitsAs_59 rfl rfl (v := .int (F 45 34)) rfl).trans ((wt_iadd dX12_sitsAs_62).trans (wt_ireturn dX12_sitsAs_63 rfl rfl))))
theorem dX12_runs_0 : decode mX12_runs.2.2.1 0 = .ok (.aload_n 0, 1) := by decide +kernel
theorem dX12_runs_1 : decode mX12_runs.2.2.1 1 = .ok (.getfield 287, 3) := by decide +kernel
theorem dX12_runs_4 : decode mX12_runs.2.2.1 4 = .ok (.bipush 24, 2) := by decide +kernel
theorem dX12_runs_6 : decode mX12_runs.2.2.1 6 = .ok (.if_icmp .ge 13, 3) := by decide +kernel
theorem dX12_runs_9 : decode mX12_runs.2.2.1 9 = .ok (.aload_n 0, 1) := by decide +kernel
theorem dX12_runs_10 : decode mX12_runs.2.2.1 10 = .ok (.getfield 46, 3) := by decide +kernel
theorem dX12_runs_13 : decode mX12_runs.2.2.1 13 = .ok (.aload_n 0, 1) := by decide +kernel
theorem dX12_runs_14 : decode mX12_runs.2.2.1 14 = .ok (.getfield 287, 3) := by decide +kernel
theorem dX12_runs_17 : decode mX12_runs.2.2.1 17 = .ok (.iload_n 1, 1) := by decide +kernel
theorem dX12_runs_18 : decode mX12_runs.2.2.1 18 = .ok (.iastore, 1) := by decide +kernel
theorem dX12_runs_19 : decode mX12_runs.2.2.1 19 = .ok (.aload_n 0, 1) := by decide +kernel
theorem dX12_runs_20 : decode mX12_runs.2.2.1 20 = .ok (.dup, 1) := by decide +kernel
theorem dX12_runs_21 : decode mX12_runs.2.2.1 21 = .ok (.getfield 287, 3) := by decide +kernel
theorem dX12_runs_24 : decode mX12_runs.2.2.1 24 = .ok (.iconst 1, 1) := by decide +kernel
theorem dX12_runs_25 : decode mX12_runs.2.2.1 25 = .ok (.iadd, 1) := by decide +kernel
theorem dX12_runs_26 : decode mX12_runs.2.2.1 26 = .ok (.putfield 287, 3) := by decide +kernel
theorem dX12_runs_29 : decode mX12_runs.2.2.1 29 = .ok (.return_, 1) := by decide +kernel
set_option maxHeartbeats 100000 in
theorem kX12_runs_0 {d : Nat} {F : am_FT} {L : am_LT} {Q : am_QT} {l1 : Option Value} : wt am_S0 d mX12_runs 0 [some (.ref 45), l1] [] F L Q = if 24 ≤ (F 45 32) then wt am_S0 d mX12_runs 19 [some (.ref 45), l1] [] F L Q else wt am_S0 d mX12_runs 9 [some (.ref 45), l1] [] F L Q := (wt_aload_n dX12_runs_0 rfl rfl).trans ((wt_getfield dX12_runs_1 rfl rfl (v := .int (F 45 32)) rfl).trans ((wt_bipush dX12_runs_4 (v := 24) (by decide)).trans (wt_if_icmp_ge dX12_runs_6 (t := 19) rfl)))
set_option maxHeartbeats 100000 in
theorem kX12_runs_9 {d : Nat} {F : am_FT} {L : am_LT} {Q : am_QT} {x1 : Int32} (h1 : am_oob (F 45 32) 24 = false) : wt am_S0 d mX12_runs 9 [some (.ref 45), some (.int x1)] [] F L Q = wt am_S0 d mX12_runs 19 [some (.ref 45), some (.int x1)] [] (am_upF F 58 (Int32.toNatClampNeg (F 45 32)) x1) L Q := (wt_aload_n dX12_runs_9 rfl rfl).trans ((wt_getfield dX12_runs_10 rfl rfl (v := .ref 58) rfl).trans ((wt_aload_n dX12_runs_13 rfl rfl).trans ((wt_getfield dX12_runs_14 rfl rfl (v := .int (F 45 32)) rfl).trans ((wt_iload_n dX12_runs_17 rfl).trans (wt_iastore dX12_runs_18 rfl h1)))))
set_option maxHeartbeats 100000 in
theorem kX12_runs_19 {d : Nat} {F : am_FT} {L : am_LT} {Q : am_QT} {l1 : Option Value} : wt am_S0 d mX12_runs 19 [some (.ref 45), l1] [] F L Q = Q none (am_upF F 45 32 ((F 45 32) + 1)) L := (wt_aload_n dX12_runs_19 rfl rfl).trans ((wt_dup dX12_runs_20 rfl).trans ((wt_getfield dX12_runs_21 rfl rfl (v := .int (F 45 32)) rfl).trans ((wt_iconst dX12_runs_24 (v := 1) (by decide)).trans ((wt_iadd dX12_runs_25).trans ((wt_putfield dX12_runs_26 rfl rfl ⟨rfl, rfl, rfl, rfl⟩).trans (wt_return dX12_runs_29 rfl))))))
theorem dX12_votesAs_0 : decode mX12_votesAs.2.2.1 0 = .ok (.iload_n 1, 1) := by decide +kernel
theorem dX12_votesAs_1 : decode mX12_votesAs.2.2.1 1 = .ok (.iconst 3, 1) := by decide +kernel
theorem dX12_votesAs_2 : decode mX12_votesAs.2.2.1 2 = .ok (.if_icmp .eq 8, 3) := by decide +kernel
theorem dX12_votesAs_5 : decode mX12_votesAs.2.2.1 5 = .ok (.iload_n 1, 1) := by decide +kernel
theorem dX12_votesAs_6 : decode mX12_votesAs.2.2.1 6 = .ok (.iconst 5, 1) := by decide +kernel
theorem dX12_votesAs_7 : decode mX12_votesAs.2.2.1 7 = .ok (.if_icmp .ne 18, 3) := by decide +kernel
theorem dX12_votesAs_10 : decode mX12_votesAs.2.2.1 10 = .ok (.aload_n 0, 1) := by decide +kernel
theorem dX12_votesAs_11 : decode mX12_votesAs.2.2.1 11 = .ok (.bipush 41, 2) := by decide +kernel
theorem dX12_votesAs_13 : decode mX12_votesAs.2.2.1 13 = .ok (.invokevirtual 290, 3) := by decide +kernel
theorem dX12_votesAs_16 : decode mX12_votesAs.2.2.1 16 = .ok (.aload_n 0, 1) := by decide +kernel
theorem dX12_votesAs_17 : decode mX12_votesAs.2.2.1 17 = .ok (.iconst 2, 1) := by decide +kernel
theorem dX12_votesAs_18 : decode mX12_votesAs.2.2.1 18 = .ok (.iload_n 2, 1) := by decide +kernel
theorem dX12_votesAs_19 : decode mX12_votesAs.2.2.1 19 = .ok (.iconst 1, 1) := by decide +kernel
theorem dX12_votesAs_20 : decode mX12_votesAs.2.2.1 20 = .ok (.iadd, 1) := by decide +kernel
theorem dX12_votesAs_21 : decode mX12_votesAs.2.2.1 21 = .ok (.invokevirtual 300, 3) := by decide +kernel
theorem dX12_votesAs_24 : decode mX12_votesAs.2.2.1 24 = .ok (.ireturn, 1) := by decide +kernel
theorem dX12_votesAs_25 : decode mX12_votesAs.2.2.1 25 = .ok (.iload_n 1, 1) := by decide +kernel
theorem dX12_votesAs_26 : decode mX12_votesAs.2.2.1 26 = .ok (.iconst 2, 1) := by decide +kernel
theorem dX12_votesAs_27 : decode mX12_votesAs.2.2.1 27 = .ok (.if_icmp .ne 17, 3) := by decide +kernel
theorem dX12_votesAs_30 : decode mX12_votesAs.2.2.1 30 = .ok (.aload_n 0, 1) := by decide +kernel
theorem dX12_votesAs_31 : decode mX12_votesAs.2.2.1 31 = .ok (.bipush 30, 2) := by decide +kernel
theorem dX12_votesAs_33 : decode mX12_votesAs.2.2.1 33 = .ok (.invokevirtual 290, 3) := by decide +kernel
theorem dX12_votesAs_36 : decode mX12_votesAs.2.2.1 36 = .ok (.aload_n 0, 1) := by decide +kernel
theorem dX12_votesAs_37 : decode mX12_votesAs.2.2.1 37 = .ok (.iconst 0, 1) := by decide +kernel
theorem dX12_votesAs_38 : decode mX12_votesAs.2.2.1 38 = .ok (.iload_n 2, 1) := by decide +kernel
theorem dX12_votesAs_39 : decode mX12_votesAs.2.2.1 39 = .ok (.invokevirtual 300, 3) := by decide +kernel
theorem dX12_votesAs_42 : decode mX12_votesAs.2.2.1 42 = .ok (.ineg, 1) := by decide +kernel
theorem dX12_votesAs_43 : decode mX12_votesAs.2.2.1 43 = .ok (.ireturn, 1) := by decide +kernel
theorem dX12_votesAs_44 : decode mX12_votesAs.2.2.1 44 = .ok (.iload_n 1, 1) := by decide +kernel
theorem dX12_votesAs_45 : decode mX12_votesAs.2.2.1 45 = .ok (.bipush 7, 2) := by decide +kernel
theorem dX12_votesAs_47 : decode mX12_votesAs.2.2.1 47 = .ok (.if_icmp .ne 28, 3) := by decide +kernel
theorem dX12_votesAs_50 : decode mX12_votesAs.2.2.1 50 = .ok (.aload_n 0, 1) := by decide +kernel
theorem dX12_votesAs_51 : decode mX12_votesAs.2.2.1 51 = .ok (.bipush 80, 2) := by decide +kernel
theorem dX12_votesAs_53 : decode mX12_votesAs.2.2.1 53 = .ok (.invokevirtual 290, 3) := by decide +kernel
theorem dX12_votesAs_56 : decode mX12_votesAs.2.2.1 56 = .ok (.aload_n 0, 1) := by decide +kernel
theorem dX12_votesAs_57 : decode mX12_votesAs.2.2.1 57 = .ok (.iconst 4, 1) := by decide +kernel
theorem dX12_votesAs_58 : decode mX12_votesAs.2.2.1 58 = .ok (.iload_n 2, 1) := by decide +kernel
theorem dX12_votesAs_59 : decode mX12_votesAs.2.2.1 59 = .ok (.invokevirtual 300, 3) := by decide +kernel
theorem dX12_votesAs_62 : decode mX12_votesAs.2.2.1 62 = .ok (.istore_n 3, 1) := by decide +kernel
theorem dX12_votesAs_63 : decode mX12_votesAs.2.2.1 63 = .ok (.iload_n 3, 1) := by decide +kernel
theorem dX12_votesAs_64 : decode mX12_votesAs.2.2.1 64 = .ok (.aload_n 0, 1) := by decide +kernel
theorem dX12_votesAs_65 : decode mX12_votesAs.2.2.1 65 = .ok (.aload_n 0, 1) := by decide +kernel
theorem dX12_votesAs_66 : decode mX12_votesAs.2.2.1 66 = .ok (.getfield 303, 3) := by decide +kernel
theorem dX12_votesAs_69 : decode mX12_votesAs.2.2.1 69 = .ok (.iconst 2, 1) := by decide +kernel
theorem dX12_votesAs_70 : decode mX12_votesAs.2.2.1 70 = .ok (.invokevirtual 306, 3) := by decide +kernel
theorem dX12_votesAs_73 : decode mX12_votesAs.2.2.1 73 = .ok (.iadd, 1) := by decide +kernel
theorem dX12_votesAs_74 : decode mX12_votesAs.2.2.1 74 = .ok (.ireturn, 1) := by decide +kernel
theorem dX12_votesAs_75 : decode mX12_votesAs.2.2.1 75 = .ok (.aload_n 0, 1) := by decide +kernel
theorem dX12_votesAs_76 : decode mX12_votesAs.2.2.1 76 = .ok (.bipush 10, 2) := by decide +kernel
theorem dX12_votesAs_78 : decode mX12_votesAs.2.2.1 78 = .ok (.invokevirtual 290, 3) := by decide +kernel
theorem dX12_votesAs_81 : decode mX12_votesAs.2.2.1 81 = .ok (.aload_n 0, 1) := by decide +kernel
theorem dX12_votesAs_82 : decode mX12_votesAs.2.2.1 82 = .ok (.aload_n 0, 1) := by decide +kernel
theorem dX12_votesAs_83 : decode mX12_votesAs.2.2.1 83 = .ok (.getfield 303, 3) := by decide +kernel
theorem dX12_votesAs_86 : decode mX12_votesAs.2.2.1 86 = .ok (.iload_n 2, 1) := by decide +kernel
theorem dX12_votesAs_87 : decode mX12_votesAs.2.2.1 87 = .ok (.invokevirtual 294, 3) := by decide +kernel
theorem dX12_votesAs_90 : decode mX12_votesAs.2.2.1 90 = .ok (.iconst 2, 1) := by decide +kernel
theorem dX12_votesAs_91 : decode mX12_votesAs.2.2.1 91 = .ok (.imul, 1) := by decide +kernel
theorem dX12_votesAs_92 : decode mX12_votesAs.2.2.1 92 = .ok (.ireturn, 1) := by decide +kernel
set_option maxHeartbeats 100000 in
theorem kX12_votesAs_0 {d : Nat} {F : am_FT} {L : am_LT} {Q : am_QT} {l0 l2 l3 : Option Value} {x1 : Int32} : wt am_S0 d mX12_votesAs 0 [l0, some (.int x1), l2, l3] [] F L Q = if x1 = 3 then wt am_S0 d mX12_votesAs 10 [l0, some (.int x1), l2, l3] [] F L Q else wt am_S0 d mX12_votesAs 5 [l0, some (.int x1), l2, l3] [] F L Q := (wt_iload_n dX12_votesAs_0 rfl).trans ((wt_iconst dX12_votesAs_1 (v := 3) (by decide)).trans (wt_if_icmp_eq dX12_votesAs_2 (t := 10) rfl))
set_option maxHeartbeats 100000 in
theorem kX12_votesAs_5 {d : Nat} {F : am_FT} {L : am_LT} {Q : am_QT} {l0 l2 l3 : Option Value} {x1 : Int32} : wt am_S0 d mX12_votesAs 5 [l0, some (.int x1), l2, l3] [] F L Q = if ¬ x1 = 5 then wt am_S0 d mX12_votesAs 25 [l0, some (.int x1), l2, l3] [] F L Q else wt am_S0 d mX12_votesAs 10 [l0, some (.int x1), l2, l3] [] F L Q := (wt_iload_n dX12_votesAs_5 rfl).trans ((wt_iconst dX12_votesAs_6 (v := 5) (by decide)).trans (wt_if_icmp_ne dX12_votesAs_7 (t := 25) rfl))
set_option maxHeartbeats 100000 in
theorem kX12_votesAs_10 {d : Nat} {F : am_FT} {L : am_LT} {Q : am_QT} {l1 l2 l3 : Option Value} : wt am_S0 (d + 1) mX12_votesAs 10 [some (.ref 45), l1, l2, l3] [] F L Q = wc am_S0 d mX12_runs [.ref 45, .int 41] F L (fun r G K => wt am_S0 (d + 1) mX12_votesAs 16 [some (.ref 45), l1, l2, l3] (r.toList ++ []) G K Q) := (wt_aload_n dX12_votesAs_10 rfl rfl).trans ((wt_bipush dX12_votesAs_11 (v := 41) (by decide)).trans (wt_callV dX12_votesAs_13 rfl (as := [.int 41]) (rest := []) rfl rfl (Nat.le_of_ble_eq_true rfl) rfl (Nat.le_of_ble_eq_true rfl)))
set_option maxHeartbeats 100000 in
theorem kX12_votesAs_16 {d : Nat} {F : am_FT} {L : am_LT} {Q : am_QT} {l1 l3 : Option Value} {x2 : Int32} : wt am_S0 (d + 1) mX12_votesAs 16 [some (.ref 45), l1, some (.int x2), l3] [] F L Q = wc am_S0 d mX12_votesAs [.ref 45, .int 2, .int (x2 + 1)] F L (fun r G K => wt am_S0 (d + 1) mX12_votesAs 24 [some (.ref 45), l1, some (.int x2), l3] (r.toList ++ []) G K Q) := (wt_aload_n dX12_votesAs_16 rfl rfl).trans ((wt_iconst dX12_votesAs_17 (v := 2) (by decide)).trans ((wt_iload_n dX12_votesAs_18 rfl).trans ((wt_iconst dX12_votesAs_19 (v := 1) (by decide)).trans ((wt_iadd dX12_votesAs_20).trans (wt_callV dX12_votesAs_21 rfl (as := [.int 2, .int (x2 + 1)]) (rest := []) rfl rfl (Nat.le_of_ble_eq_true rfl) rfl (Nat.le_of_ble_eq_true rfl))))))
set_option maxHeartbeats 100000 in
theorem kX12_votesAs_24 {d : Nat} {F : am_FT} {L : am_LT} {Q : am_QT} {l0 l1 l2 l3 : Option Value} {s0 : Int32} : wt am_S0 d mX12_votesAs 24 [l0, l1, l2, l3] [.int s0] F L Q = Q (some (.int s0)) F L := wt_ireturn dX12_votesAs_24 rfl rfl
set_option maxHeartbeats 100000 in
theorem kX12_votesAs_25 {d : Nat} {F : am_FT} {L : am_LT} {Q : am_QT} {l0 l2 l3 : Option Value} {x1 : Int32} : wt am_S0 d mX12_votesAs 25 [l0, some (.int x1), l2, l3] [] F L Q = if ¬ x1 = 2 then wt am_S0 d mX12_votesAs 44 [l0, some (.int x1), l2, l3] [] F L Q else wt am_S0 d mX12_votesAs 30 [l0, some (.int x1), l2, l3] [] F L Q := (wt_iload_n dX12_votesAs_25 rfl).trans ((wt_iconst dX12_votesAs_26 (v := 2) (by decide)).trans (wt_if_icmp_ne dX12_votesAs_27 (t := 44) rfl))
set_option maxHeartbeats 100000 in
theorem kX12_votesAs_30 {d : Nat} {F : am_FT} {L : am_LT} {Q : am_QT} {l1 l2 l3 : Option Value} : wt am_S0 (d + 1) mX12_votesAs 30 [some (.ref 45), l1, l2, l3] [] F L Q = wc am_S0 d mX12_runs [.ref 45, .int 30] F L (fun r G K => wt am_S0 (d + 1) mX12_votesAs 36 [some (.ref 45), l1, l2, l3] (r.toList ++ []) G K Q) := (wt_aload_n dX12_votesAs_30 rfl rfl).trans ((wt_bipush dX12_votesAs_31 (v := 30) (by decide)).trans (wt_callV dX12_votesAs_33 rfl (as := [.int 30]) (rest := []) rfl rfl (Nat.le_of_ble_eq_true rfl) rfl (Nat.le_of_ble_eq_true rfl)))
set_option maxHeartbeats 100000 in
theorem kX12_votesAs_36 {d : Nat} {F : am_FT} {L : am_LT} {Q : am_QT} {l1 l3 : Option Value} {x2 : Int32} : wt am_S0 (d + 1) mX12_votesAs 36 [some (.ref 45), l1, some (.int x2), l3] [] F L Q = wc am_S0 d mX12_votesAs [.ref 45, .int 0, .int x2] F L (fun r G K => wt am_S0 (d + 1) mX12_votesAs 42 [some (.ref 45), l1, some (.int x2), l3] (r.toList ++ []) G K Q) := (wt_aload_n dX12_votesAs_36 rfl rfl).trans ((wt_iconst dX12_votesAs_37 (v := 0) (by decide)).trans ((wt_iload_n dX12_votesAs_38 rfl).trans (wt_callV dX12_votesAs_39 rfl (as := [.int 0, .int x2]) (rest := []) rfl rfl (Nat.le_of_ble_eq_true rfl) rfl (Nat.le_of_ble_eq_true rfl))))
set_option maxHeartbeats 100000 in
theorem kX12_votesAs_42 {d : Nat} {F : am_FT} {L : am_LT} {Q : am_QT} {l0 l1 l2 l3 : Option Value} {s0 : Int32} : wt am_S0 d mX12_votesAs 42 [l0, l1, l2, l3] [.int s0] F L Q = Q (some (.int (-s0))) F L := (wt_ineg dX12_votesAs_42).trans (wt_ireturn dX12_votesAs_43 rfl rfl)
set_option maxHeartbeats 100000 in
theorem kX12_votesAs_44 {d : Nat} {F : am_FT} {L : am_LT} {Q : am_QT} {l0 l2 l3 : Option Value} {x1 : Int32} : wt am_S0 d mX12_votesAs 44 [l0, some (.int x1), l2, l3] [] F L Q = if ¬ x1 = 7 then wt am_S0 d mX12_votesAs 75 [l0, some (.int x1), l2, l3] [] F L Q else wt am_S0 d mX12_votesAs 50 [l0, some (.int x1), l2, l3] [] F L Q := (wt_iload_n dX12_votesAs_44 rfl).trans ((wt_bipush dX12_votesAs_45 (v := 7) (by decide)).trans (wt_if_icmp_ne dX12_votesAs_47 (t := 75) rfl))
set_option maxHeartbeats 100000 in
theorem kX12_votesAs_50 {d : Nat} {F : am_FT} {L : am_LT} {Q : am_QT} {l1 l2 l3 : Option Value} : wt am_S0 (d + 1) mX12_votesAs 50 [some (.ref 45), l1, l2, l3] [] F L Q = wc am_S0 d mX12_runs [.ref 45, .int 80] F L (fun r G K => wt am_S0 (d + 1) mX12_votesAs 56 [some (.ref 45), l1, l2, l3] (r.toList ++ []) G K Q) := (wt_aload_n dX12_votesAs_50 rfl rfl).trans ((wt_bipush dX12_votesAs_51 (v := 80) (by decide)).trans (wt_callV dX12_votesAs_53 rfl (as := [.int 80]) (rest := []) rfl rfl (Nat.le_of_ble_eq_true rfl) rfl (Nat.le_of_ble_eq_true rfl)))
set_option maxHeartbeats 100000 in
theorem kX12_votesAs_56 {d : Nat} {F : am_FT} {L : am_LT} {Q : am_QT} {l1 l3 : Option Value} {x2 : Int32} : wt am_S0 (d + 1) mX12_votesAs 56 [some (.ref 45), l1, some (.int x2), l3] [] F L Q = wc am_S0 d mX12_votesAs [.ref 45, .int 4, .int x2] F L (fun r G K => wt am_S0 (d + 1) mX12_votesAs 62 [some (.ref 45), l1, some (.int x2), l3] (r.toList ++ []) G K Q) := (wt_aload_n dX12_votesAs_56 rfl rfl).trans ((wt_iconst dX12_votesAs_57 (v := 4) (by decide)).trans ((wt_iload_n dX12_votesAs_58 rfl).trans (wt_callV dX12_votesAs_59 rfl (as := [.int 4, .int x2]) (rest := []) rfl rfl (Nat.le_of_ble_eq_true rfl) rfl (Nat.le_of_ble_eq_true rfl))))
set_option maxHeartbeats 100000 in
theorem kX12_votesAs_62 {d : Nat} {F : am_FT} {L : am_LT} {Q : am_QT} {l1 l3 : Option Value} {s0 x2 : Int32} : wt am_S0 (d + 1) mX12_votesAs 62 [some (.ref 45), l1, some (.int x2), l3] [.int s0] F L Q = wc am_S0 d mX12_movesAs [.ref 45, .int (F 45 33), .int 2] F L (fun r G K => wt am_S0 (d + 1) mX12_votesAs 73 [some (.ref 45), l1, some (.int x2), some (.int s0)] (r.toList ++ [.int s0]) G K Q) := (wt_istore_n dX12_votesAs_62 (lv1 := [some (.ref 45), l1, some (.int x2), some (.int s0)]) (Nat.le_of_ble_eq_true rfl) rfl).trans ((wt_iload_n dX12_votesAs_63 rfl).trans ((wt_aload_n dX12_votesAs_64 rfl rfl).trans ((wt_aload_n dX12_votesAs_65 rfl rfl).trans ((wt_getfield dX12_votesAs_66 rfl rfl (v := .int (F 45 33)) rfl).trans ((wt_iconst dX12_votesAs_69 (v := 2) (by decide)).trans (wt_callV dX12_votesAs_70 rfl (as := [.int (F 45 33), .int 2]) (rest := [.int s0]) rfl rfl (Nat.le_of_ble_eq_true rfl) rfl (Nat.le_of_ble_eq_true rfl)))))))
set_option maxHeartbeats 100000 in
theorem kX12_votesAs_73 {d : Nat} {F : am_FT} {L : am_LT} {Q : am_QT} {l0 l1 l2 l3 : Option Value} {s0 s1 : Int32} : wt am_S0 d mX12_votesAs 73 [l0, l1, l2, l3] [.int s1, .int s0] F L Q = Q (some (.int (s0 + s1))) F L := (wt_iadd dX12_votesAs_73).trans (wt_ireturn dX12_votesAs_74 rfl rfl)
set_option maxHeartbeats 100000 in
theorem kX12_votesAs_75 {d : Nat} {F : am_FT} {L : am_LT} {Q : am_QT} {l1 l2 l3 : Option Value} : wt am_S0 (d + 1) mX12_votesAs 75 [some (.ref 45), l1, l2, l3] [] F L Q = wc am_S0 d mX12_runs [.ref 45, .int 10] F L (fun r G K => wt am_S0 (d + 1) mX12_votesAs 81 [some (.ref 45), l1, l2, l3] (r.toList ++ []) G K Q) := (wt_aload_n dX12_votesAs_75 rfl rfl).trans ((wt_bipush dX12_votesAs_76 (v := 10) (by decide)).trans (wt_callV dX12_votesAs_78 rfl (as := [.int 10]) (rest := []) rfl rfl (Nat.le_of_ble_eq_true rfl) rfl (Nat.le_of_ble_eq_true rfl)))
set_option maxHeartbeats 100000 in
theorem kX12_votesAs_81 {d : Nat} {F : am_FT} {L : am_LT} {Q : am_QT} {l1 l3 : Option Value} {x2 : Int32} : wt am_S0 (d + 1) mX12_votesAs 81 [some (.ref 45), l1, some (.int x2), l3] [] F L Q = wc am_S0 d mX12_sitsAs [.ref 45, .int (F 45 33), .int x2] F L (fun r G K => wt am_S0 (d + 1) mX12_votesAs 90 [some (.ref 45), l1, some (.int x2), l3] (r.toList ++ []) G K Q) := (wt_aload_n dX12_votesAs_81 rfl rfl).trans ((wt_aload_n dX12_votesAs_82 rfl rfl).trans ((wt_getfield dX12_votesAs_83 rfl rfl (v := .int (F 45 33)) rfl).trans ((wt_iload_n dX12_votesAs_86 rfl).trans (wt_callV dX12_votesAs_87 rfl (as := [.int (F 45 33), .int x2]) (rest := []) rfl rfl (Nat.le_of_ble_eq_true rfl) rfl (Nat.le_of_ble_eq_true rfl)))))
set_option maxHeartbeats 100000 in
theorem kX12_votesAs_90 {d : Nat} {F : am_FT} {L : am_LT} {Q : am_QT} {l0 l1 l2 l3 : Option Value} {s0 : Int32} : wt am_S0 d mX12_votesAs 90 [l0, l1, l2, l3] [.int s0] F L Q = Q (some (.int (s0 * 2))) F L := (wt_iconst dX12_votesAs_90 (v := 2) (by decide)).trans ((wt_imul dX12_votesAs_91).trans (wt_ireturn dX12_votesAs_92 rfl rfl))
