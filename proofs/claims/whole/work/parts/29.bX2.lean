theorem dX2_add_0 : decode mX2_add.2.2.1 0 = .ok (.aload_n 0, 1) := by decide +kernel
theorem dX2_add_1 : decode mX2_add.2.2.1 1 = .ok (.iconst 0, 1) := by decide +kernel
theorem dX2_add_2 : decode mX2_add.2.2.1 2 = .ok (.putfield 30, 3) := by decide +kernel
theorem dX2_add_5 : decode mX2_add.2.2.1 5 = .ok (.aload_n 0, 1) := by decide +kernel
theorem dX2_add_6 : decode mX2_add.2.2.1 6 = .ok (.getfield 33, 3) := by decide +kernel
theorem dX2_add_9 : decode mX2_add.2.2.1 9 = .ok (.bipush 40, 2) := by decide +kernel
theorem dX2_add_11 : decode mX2_add.2.2.1 11 = .ok (.if_icmp .ne 22, 3) := by decide +kernel
theorem dX2_add_14 : decode mX2_add.2.2.1 14 = .ok (.aload_n 0, 1) := by decide +kernel
theorem dX2_add_15 : decode mX2_add.2.2.1 15 = .ok (.aload_n 0, 1) := by decide +kernel
theorem dX2_add_16 : decode mX2_add.2.2.1 16 = .ok (.iconst 1, 1) := by decide +kernel
theorem dX2_add_17 : decode mX2_add.2.2.1 17 = .ok (.invokevirtual 36, 3) := by decide +kernel
theorem dX2_add_20 : decode mX2_add.2.2.1 20 = .ok (.putfield 26, 3) := by decide +kernel
theorem dX2_add_23 : decode mX2_add.2.2.1 23 = .ok (.aload_n 0, 1) := by decide +kernel
theorem dX2_add_24 : decode mX2_add.2.2.1 24 = .ok (.dup, 1) := by decide +kernel
theorem dX2_add_25 : decode mX2_add.2.2.1 25 = .ok (.getfield 33, 3) := by decide +kernel
theorem dX2_add_28 : decode mX2_add.2.2.1 28 = .ok (.iconst 1, 1) := by decide +kernel
theorem dX2_add_29 : decode mX2_add.2.2.1 29 = .ok (.isub, 1) := by decide +kernel
theorem dX2_add_30 : decode mX2_add.2.2.1 30 = .ok (.putfield 33, 3) := by decide +kernel
theorem dX2_add_33 : decode mX2_add.2.2.1 33 = .ok (.aload_n 0, 1) := by decide +kernel
theorem dX2_add_34 : decode mX2_add.2.2.1 34 = .ok (.aload_n 0, 1) := by decide +kernel
theorem dX2_add_35 : decode mX2_add.2.2.1 35 = .ok (.getfield 33, 3) := by decide +kernel
theorem dX2_add_38 : decode mX2_add.2.2.1 38 = .ok (.invokevirtual 36, 3) := by decide +kernel
theorem dX2_add_41 : decode mX2_add.2.2.1 41 = .ok (.istore 5, 2) := by decide +kernel
theorem dX2_add_43 : decode mX2_add.2.2.1 43 = .ok (.aload_n 0, 1) := by decide +kernel
theorem dX2_add_44 : decode mX2_add.2.2.1 44 = .ok (.getfield 9, 3) := by decide +kernel
theorem dX2_add_47 : decode mX2_add.2.2.1 47 = .ok (.iload 5, 2) := by decide +kernel
theorem dX2_add_49 : decode mX2_add.2.2.1 49 = .ok (.iload_n 1, 1) := by decide +kernel
theorem dX2_add_50 : decode mX2_add.2.2.1 50 = .ok (.invokestatic 40, 3) := by decide +kernel
theorem dX2_add_53 : decode mX2_add.2.2.1 53 = .ok (.aload_n 0, 1) := by decide +kernel
theorem dX2_add_54 : decode mX2_add.2.2.1 54 = .ok (.getfield 13, 3) := by decide +kernel
theorem dX2_add_57 : decode mX2_add.2.2.1 57 = .ok (.iload 5, 2) := by decide +kernel
theorem dX2_add_59 : decode mX2_add.2.2.1 59 = .ok (.iload_n 2, 1) := by decide +kernel
theorem dX2_add_60 : decode mX2_add.2.2.1 60 = .ok (.invokestatic 40, 3) := by decide +kernel
theorem dX2_add_63 : decode mX2_add.2.2.1 63 = .ok (.aload_n 0, 1) := by decide +kernel
theorem dX2_add_64 : decode mX2_add.2.2.1 64 = .ok (.getfield 16, 3) := by decide +kernel
theorem dX2_add_67 : decode mX2_add.2.2.1 67 = .ok (.iload 5, 2) := by decide +kernel
theorem dX2_add_69 : decode mX2_add.2.2.1 69 = .ok (.iload_n 3, 1) := by decide +kernel
theorem dX2_add_70 : decode mX2_add.2.2.1 70 = .ok (.invokestatic 40, 3) := by decide +kernel
theorem dX2_add_73 : decode mX2_add.2.2.1 73 = .ok (.aload_n 0, 1) := by decide +kernel
theorem dX2_add_74 : decode mX2_add.2.2.1 74 = .ok (.getfield 19, 3) := by decide +kernel
theorem dX2_add_77 : decode mX2_add.2.2.1 77 = .ok (.iload 5, 2) := by decide +kernel
theorem dX2_add_79 : decode mX2_add.2.2.1 79 = .ok (.iload 4, 2) := by decide +kernel
theorem dX2_add_81 : decode mX2_add.2.2.1 81 = .ok (.invokestatic 40, 3) := by decide +kernel
theorem dX2_add_84 : decode mX2_add.2.2.1 84 = .ok (.aload_n 0, 1) := by decide +kernel
theorem dX2_add_85 : decode mX2_add.2.2.1 85 = .ok (.dup, 1) := by decide +kernel
theorem dX2_add_86 : decode mX2_add.2.2.1 86 = .ok (.getfield 33, 3) := by decide +kernel
theorem dX2_add_89 : decode mX2_add.2.2.1 89 = .ok (.iconst 1, 1) := by decide +kernel
theorem dX2_add_90 : decode mX2_add.2.2.1 90 = .ok (.iadd, 1) := by decide +kernel
theorem dX2_add_91 : decode mX2_add.2.2.1 91 = .ok (.putfield 33, 3) := by decide +kernel
theorem dX2_add_94 : decode mX2_add.2.2.1 94 = .ok (.return_, 1) := by decide +kernel
set_option maxHeartbeats 100000 in
theorem kX2_add_0 {d : Nat} {F : am_FT} {L : am_LT} {Q : am_QT} {l1 l2 l3 l4 l5 : Option Value} : wt am_S0 d mX2_add 0 [some (.ref 24), l1, l2, l3, l4, l5] [] F L Q = if ¬ (F 24 6) = 40 then wt am_S0 d mX2_add 33 [some (.ref 24), l1, l2, l3, l4, l5] [] (am_upF F 24 7 0) L Q else wt am_S0 d mX2_add 14 [some (.ref 24), l1, l2, l3, l4, l5] [] (am_upF F 24 7 0) L Q := (wt_aload_n dX2_add_0 rfl rfl).trans ((wt_iconst dX2_add_1 (v := 0) (by decide)).trans ((wt_putfield dX2_add_2 rfl rfl ⟨rfl, rfl, rfl, rfl⟩).trans ((wt_aload_n dX2_add_5 rfl rfl).trans ((wt_getfield dX2_add_6 rfl rfl (v := .int (F 24 6)) (F := am_upF F 24 7 0) (p := 24) rfl).trans ((wt_bipush dX2_add_9 (v := 40) (by decide)).trans (wt_if_icmp_ne dX2_add_11 (t := 33) rfl))))))
set_option maxHeartbeats 100000 in
theorem kX2_add_14 {d : Nat} {F : am_FT} {L : am_LT} {Q : am_QT} {l1 l2 l3 l4 l5 : Option Value} : wt am_S0 (d + 1) mX2_add 14 [some (.ref 24), l1, l2, l3, l4, l5] [] F L Q = wc am_S0 d mX2_placeOf [.ref 24, .int 1] F L (fun r G K => wt am_S0 (d + 1) mX2_add 20 [some (.ref 24), l1, l2, l3, l4, l5] (r.toList ++ [.ref 24]) G K Q) := (wt_aload_n dX2_add_14 rfl rfl).trans ((wt_aload_n dX2_add_15 rfl rfl).trans ((wt_iconst dX2_add_16 (v := 1) (by decide)).trans (wt_callV dX2_add_17 rfl (as := [.int 1]) (rest := [.ref 24]) rfl rfl (Nat.le_of_ble_eq_true rfl) rfl (Nat.le_of_ble_eq_true rfl))))
set_option maxHeartbeats 100000 in
theorem kX2_add_20 {d : Nat} {F : am_FT} {L : am_LT} {Q : am_QT} {l1 l2 l3 l4 l5 : Option Value} {s1 : Int32} : wt am_S0 d mX2_add 20 [some (.ref 24), l1, l2, l3, l4, l5] [.int s1, .ref 24] F L Q = wt am_S0 d mX2_add 33 [some (.ref 24), l1, l2, l3, l4, l5] [] (am_upF (am_upF F 24 5 s1) 24 6 ((F 24 6) - 1)) L Q := (wt_putfield dX2_add_20 rfl rfl ⟨rfl, rfl, rfl, rfl⟩).trans ((wt_aload_n dX2_add_23 rfl rfl).trans ((wt_dup dX2_add_24 rfl).trans ((wt_getfield dX2_add_25 rfl rfl (v := .int (F 24 6)) (F := am_upF F 24 5 s1) (p := 24) rfl).trans ((wt_iconst dX2_add_28 (v := 1) (by decide)).trans ((wt_isub dX2_add_29).trans (wt_putfield dX2_add_30 rfl rfl ⟨rfl, rfl, rfl, rfl⟩))))))
set_option maxHeartbeats 100000 in
theorem kX2_add_33 {d : Nat} {F : am_FT} {L : am_LT} {Q : am_QT} {l1 l2 l3 l4 l5 : Option Value} : wt am_S0 (d + 1) mX2_add 33 [some (.ref 24), l1, l2, l3, l4, l5] [] F L Q = wc am_S0 d mX2_placeOf [.ref 24, .int (F 24 6)] F L (fun r G K => wt am_S0 (d + 1) mX2_add 41 [some (.ref 24), l1, l2, l3, l4, l5] (r.toList ++ []) G K Q) := (wt_aload_n dX2_add_33 rfl rfl).trans ((wt_aload_n dX2_add_34 rfl rfl).trans ((wt_getfield dX2_add_35 rfl rfl (v := .int (F 24 6)) rfl).trans (wt_callV dX2_add_38 rfl (as := [.int (F 24 6)]) (rest := []) rfl rfl (Nat.le_of_ble_eq_true rfl) rfl (Nat.le_of_ble_eq_true rfl))))
set_option maxHeartbeats 100000 in
theorem kX2_add_41 {d : Nat} {F : am_FT} {L : am_LT} {Q : am_QT} {l2 l3 l5 : Option Value} {s0 x4 x1 : Int32} : wt am_S0 (d + 1) mX2_add 41 [some (.ref 24), some (.int x1), l2, l3, some (.int x4), l5] [.int s0] F L Q = wc am_S0 d mX11_lay [.ref 25, .int s0, .int x1] F L (fun r G K => wt am_S0 (d + 1) mX2_add 53 [some (.ref 24), some (.int x1), l2, l3, some (.int x4), some (.int s0)] (r.toList ++ []) G K Q) := (wt_istore dX2_add_41 (lv1 := [some (.ref 24), some (.int x1), l2, l3, some (.int x4), some (.int s0)]) (Nat.le_of_ble_eq_true rfl) rfl).trans ((wt_aload_n dX2_add_43 rfl rfl).trans ((wt_getfield dX2_add_44 rfl rfl (v := .ref 25) rfl).trans ((wt_iload dX2_add_47 rfl).trans ((wt_iload_n dX2_add_49 rfl).trans (wt_callS dX2_add_50 rfl (as := [.ref 25, .int s0, .int x1]) (rest := []) rfl rfl (Nat.le_of_ble_eq_true rfl) (Nat.le_of_ble_eq_true rfl))))))
set_option maxHeartbeats 100000 in
theorem kX2_add_53 {d : Nat} {F : am_FT} {L : am_LT} {Q : am_QT} {l1 l3 l4 : Option Value} {x5 x2 : Int32} : wt am_S0 (d + 1) mX2_add 53 [some (.ref 24), l1, some (.int x2), l3, l4, some (.int x5)] [] F L Q = wc am_S0 d mX11_lay [.ref 26, .int x5, .int x2] F L (fun r G K => wt am_S0 (d + 1) mX2_add 63 [some (.ref 24), l1, some (.int x2), l3, l4, some (.int x5)] (r.toList ++ []) G K Q) := (wt_aload_n dX2_add_53 rfl rfl).trans ((wt_getfield dX2_add_54 rfl rfl (v := .ref 26) rfl).trans ((wt_iload dX2_add_57 rfl).trans ((wt_iload_n dX2_add_59 rfl).trans (wt_callS dX2_add_60 rfl (as := [.ref 26, .int x5, .int x2]) (rest := []) rfl rfl (Nat.le_of_ble_eq_true rfl) (Nat.le_of_ble_eq_true rfl)))))
set_option maxHeartbeats 100000 in
theorem kX2_add_63 {d : Nat} {F : am_FT} {L : am_LT} {Q : am_QT} {l1 l2 l4 : Option Value} {x5 x3 : Int32} : wt am_S0 (d + 1) mX2_add 63 [some (.ref 24), l1, l2, some (.int x3), l4, some (.int x5)] [] F L Q = wc am_S0 d mX11_lay [.ref 27, .int x5, .int x3] F L (fun r G K => wt am_S0 (d + 1) mX2_add 73 [some (.ref 24), l1, l2, some (.int x3), l4, some (.int x5)] (r.toList ++ []) G K Q) := (wt_aload_n dX2_add_63 rfl rfl).trans ((wt_getfield dX2_add_64 rfl rfl (v := .ref 27) rfl).trans ((wt_iload dX2_add_67 rfl).trans ((wt_iload_n dX2_add_69 rfl).trans (wt_callS dX2_add_70 rfl (as := [.ref 27, .int x5, .int x3]) (rest := []) rfl rfl (Nat.le_of_ble_eq_true rfl) (Nat.le_of_ble_eq_true rfl)))))
set_option maxHeartbeats 100000 in
theorem kX2_add_73 {d : Nat} {F : am_FT} {L : am_LT} {Q : am_QT} {l1 l2 l3 : Option Value} {x5 x4 : Int32} : wt am_S0 (d + 1) mX2_add 73 [some (.ref 24), l1, l2, l3, some (.int x4), some (.int x5)] [] F L Q = wc am_S0 d mX11_lay [.ref 28, .int x5, .int x4] F L (fun r G K => wt am_S0 (d + 1) mX2_add 84 [some (.ref 24), l1, l2, l3, some (.int x4), some (.int x5)] (r.toList ++ []) G K Q) := (wt_aload_n dX2_add_73 rfl rfl).trans ((wt_getfield dX2_add_74 rfl rfl (v := .ref 28) rfl).trans ((wt_iload dX2_add_77 rfl).trans ((wt_iload dX2_add_79 rfl).trans (wt_callS dX2_add_81 rfl (as := [.ref 28, .int x5, .int x4]) (rest := []) rfl rfl (Nat.le_of_ble_eq_true rfl) (Nat.le_of_ble_eq_true rfl)))))
set_option maxHeartbeats 100000 in
theorem kX2_add_84 {d : Nat} {F : am_FT} {L : am_LT} {Q : am_QT} {l1 l2 l3 l4 l5 : Option Value} : wt am_S0 d mX2_add 84 [some (.ref 24), l1, l2, l3, l4, l5] [] F L Q = Q none (am_upF F 24 6 ((F 24 6) + 1)) L := (wt_aload_n dX2_add_84 rfl rfl).trans ((wt_dup dX2_add_85 rfl).trans ((wt_getfield dX2_add_86 rfl rfl (v := .int (F 24 6)) rfl).trans ((wt_iconst dX2_add_89 (v := 1) (by decide)).trans ((wt_iadd dX2_add_90).trans ((wt_putfield dX2_add_91 rfl rfl ⟨rfl, rfl, rfl, rfl⟩).trans (wt_return dX2_add_94 rfl))))))
theorem dX2_placeOf_0 : decode mX2_placeOf.2.2.1 0 = .ok (.aload_n 0, 1) := by decide +kernel
theorem dX2_placeOf_1 : decode mX2_placeOf.2.2.1 1 = .ok (.getfield 26, 3) := by decide +kernel
theorem dX2_placeOf_4 : decode mX2_placeOf.2.2.1 4 = .ok (.iload_n 1, 1) := by decide +kernel
theorem dX2_placeOf_5 : decode mX2_placeOf.2.2.1 5 = .ok (.iadd, 1) := by decide +kernel
theorem dX2_placeOf_6 : decode mX2_placeOf.2.2.1 6 = .ok (.bipush 40, 2) := by decide +kernel
theorem dX2_placeOf_8 : decode mX2_placeOf.2.2.1 8 = .ok (.irem, 1) := by decide +kernel
theorem dX2_placeOf_9 : decode mX2_placeOf.2.2.1 9 = .ok (.ireturn, 1) := by decide +kernel
set_option maxHeartbeats 100000 in
theorem kX2_placeOf_0 {d : Nat} {F : am_FT} {L : am_LT} {Q : am_QT} {x1 : Int32} : wt am_S0 d mX2_placeOf 0 [some (.ref 24), some (.int x1)] [] F L Q = Q (some (.int (((F 24 5) + x1) - ((F 24 5) + x1) / 40 * 40))) F L := (wt_aload_n dX2_placeOf_0 rfl rfl).trans ((wt_getfield dX2_placeOf_1 rfl rfl (v := .int (F 24 5)) rfl).trans ((wt_iload_n dX2_placeOf_4 rfl).trans ((wt_iadd dX2_placeOf_5).trans ((wt_bipush dX2_placeOf_6 (v := 40) (by decide)).trans ((wt_irem dX2_placeOf_8 (by decide)).trans (wt_ireturn dX2_placeOf_9 rfl rfl))))))
theorem dX2_takeBack_0 : decode mX2_takeBack.2.2.1 0 = .ok (.aload_n 0, 1) := by decide +kernel
theorem dX2_takeBack_1 : decode mX2_takeBack.2.2.1 1 = .ok (.getfield 33, 3) := by decide +kernel
theorem dX2_takeBack_4 : decode mX2_takeBack.2.2.1 4 = .ok (.ifCond .ne 5, 3) := by decide +kernel
theorem dX2_takeBack_7 : decode mX2_takeBack.2.2.1 7 = .ok (.iconst 0, 1) := by decide +kernel
theorem dX2_takeBack_8 : decode mX2_takeBack.2.2.1 8 = .ok (.ireturn, 1) := by decide +kernel
theorem dX2_takeBack_9 : decode mX2_takeBack.2.2.1 9 = .ok (.aload_n 0, 1) := by decide +kernel
theorem dX2_takeBack_10 : decode mX2_takeBack.2.2.1 10 = .ok (.dup, 1) := by decide +kernel
theorem dX2_takeBack_11 : decode mX2_takeBack.2.2.1 11 = .ok (.getfield 33, 3) := by decide +kernel
theorem dX2_takeBack_14 : decode mX2_takeBack.2.2.1 14 = .ok (.iconst 1, 1) := by decide +kernel
theorem dX2_takeBack_15 : decode mX2_takeBack.2.2.1 15 = .ok (.isub, 1) := by decide +kernel
theorem dX2_takeBack_16 : decode mX2_takeBack.2.2.1 16 = .ok (.putfield 33, 3) := by decide +kernel
theorem dX2_takeBack_19 : decode mX2_takeBack.2.2.1 19 = .ok (.aload_n 0, 1) := by decide +kernel
theorem dX2_takeBack_20 : decode mX2_takeBack.2.2.1 20 = .ok (.dup, 1) := by decide +kernel
theorem dX2_takeBack_21 : decode mX2_takeBack.2.2.1 21 = .ok (.getfield 30, 3) := by decide +kernel
theorem dX2_takeBack_24 : decode mX2_takeBack.2.2.1 24 = .ok (.iconst 1, 1) := by decide +kernel
theorem dX2_takeBack_25 : decode mX2_takeBack.2.2.1 25 = .ok (.iadd, 1) := by decide +kernel
theorem dX2_takeBack_26 : decode mX2_takeBack.2.2.1 26 = .ok (.putfield 30, 3) := by decide +kernel
theorem dX2_takeBack_29 : decode mX2_takeBack.2.2.1 29 = .ok (.aload_n 0, 1) := by decide +kernel
theorem dX2_takeBack_30 : decode mX2_takeBack.2.2.1 30 = .ok (.aload_n 0, 1) := by decide +kernel
theorem dX2_takeBack_31 : decode mX2_takeBack.2.2.1 31 = .ok (.getfield 33, 3) := by decide +kernel
theorem dX2_takeBack_34 : decode mX2_takeBack.2.2.1 34 = .ok (.invokevirtual 36, 3) := by decide +kernel
theorem dX2_takeBack_37 : decode mX2_takeBack.2.2.1 37 = .ok (.istore_n 1, 1) := by decide +kernel
theorem dX2_takeBack_38 : decode mX2_takeBack.2.2.1 38 = .ok (.aload_n 0, 1) := by decide +kernel
theorem dX2_takeBack_39 : decode mX2_takeBack.2.2.1 39 = .ok (.getfield 22, 3) := by decide +kernel
theorem dX2_takeBack_42 : decode mX2_takeBack.2.2.1 42 = .ok (.aload_n 0, 1) := by decide +kernel
theorem dX2_takeBack_43 : decode mX2_takeBack.2.2.1 43 = .ok (.getfield 9, 3) := by decide +kernel
theorem dX2_takeBack_46 : decode mX2_takeBack.2.2.1 46 = .ok (.iload_n 1, 1) := by decide +kernel
theorem dX2_takeBack_47 : decode mX2_takeBack.2.2.1 47 = .ok (.invokestatic 46, 3) := by decide +kernel
theorem dX2_takeBack_50 : decode mX2_takeBack.2.2.1 50 = .ok (.aload_n 0, 1) := by decide +kernel
theorem dX2_takeBack_51 : decode mX2_takeBack.2.2.1 51 = .ok (.getfield 13, 3) := by decide +kernel
theorem dX2_takeBack_54 : decode mX2_takeBack.2.2.1 54 = .ok (.iload_n 1, 1) := by decide +kernel
theorem dX2_takeBack_55 : decode mX2_takeBack.2.2.1 55 = .ok (.invokestatic 46, 3) := by decide +kernel
theorem dX2_takeBack_58 : decode mX2_takeBack.2.2.1 58 = .ok (.aload_n 0, 1) := by decide +kernel
theorem dX2_takeBack_59 : decode mX2_takeBack.2.2.1 59 = .ok (.getfield 16, 3) := by decide +kernel
theorem dX2_takeBack_62 : decode mX2_takeBack.2.2.1 62 = .ok (.iload_n 1, 1) := by decide +kernel
theorem dX2_takeBack_63 : decode mX2_takeBack.2.2.1 63 = .ok (.invokestatic 46, 3) := by decide +kernel
theorem dX2_takeBack_66 : decode mX2_takeBack.2.2.1 66 = .ok (.invokevirtual 50, 3) := by decide +kernel
theorem dX2_takeBack_69 : decode mX2_takeBack.2.2.1 69 = .ok (.iconst 1, 1) := by decide +kernel
theorem dX2_takeBack_70 : decode mX2_takeBack.2.2.1 70 = .ok (.ireturn, 1) := by decide +kernel
set_option maxHeartbeats 100000 in
theorem kX2_takeBack_0 {d : Nat} {F : am_FT} {L : am_LT} {Q : am_QT} {l1 : Option Value} : wt am_S0 d mX2_takeBack 0 [some (.ref 24), l1] [] F L Q = if ¬ (F 24 6) = 0 then wt am_S0 d mX2_takeBack 9 [some (.ref 24), l1] [] F L Q else wt am_S0 d mX2_takeBack 7 [some (.ref 24), l1] [] F L Q := (wt_aload_n dX2_takeBack_0 rfl rfl).trans ((wt_getfield dX2_takeBack_1 rfl rfl (v := .int (F 24 6)) rfl).trans (wt_ifCond_ne dX2_takeBack_4 (t := 9) rfl))
set_option maxHeartbeats 100000 in
theorem kX2_takeBack_7 {d : Nat} {F : am_FT} {L : am_LT} {Q : am_QT} {l0 l1 : Option Value} : wt am_S0 d mX2_takeBack 7 [l0, l1] [] F L Q = Q (some (.int 0)) F L := (wt_iconst dX2_takeBack_7 (v := 0) (by decide)).trans (wt_ireturn dX2_takeBack_8 rfl (by decide))
set_option maxHeartbeats 100000 in
theorem kX2_takeBack_9 {d : Nat} {F : am_FT} {L : am_LT} {Q : am_QT} {l1 : Option Value} : wt am_S0 (d + 1) mX2_takeBack 9 [some (.ref 24), l1] [] F L Q = wc am_S0 d mX2_placeOf [.ref 24, .int ((F 24 6) - 1)] (am_upF (am_upF F 24 6 ((F 24 6) - 1)) 24 7 ((F 24 7) + 1)) L (fun r G K => wt am_S0 (d + 1) mX2_takeBack 37 [some (.ref 24), l1] (r.toList ++ []) G K Q) := (wt_aload_n dX2_takeBack_9 rfl rfl).trans ((wt_dup dX2_takeBack_10 rfl).trans ((wt_getfield dX2_takeBack_11 rfl rfl (v := .int (F 24 6)) rfl).trans ((wt_iconst dX2_takeBack_14 (v := 1) (by decide)).trans ((wt_isub dX2_takeBack_15).trans ((wt_putfield dX2_takeBack_16 rfl rfl ⟨rfl, rfl, rfl, rfl⟩).trans ((wt_aload_n dX2_takeBack_19 rfl rfl).trans ((wt_dup dX2_takeBack_20 rfl).trans ((wt_getfield dX2_takeBack_21 rfl rfl (v := .int (F 24 7)) (F := am_upF F 24 6 ((F 24 6) - 1)) (p := 24) rfl).trans ((wt_iconst dX2_takeBack_24 (v := 1) (by decide)).trans ((wt_iadd dX2_takeBack_25).trans ((wt_putfield dX2_takeBack_26 rfl rfl ⟨rfl, rfl, rfl, rfl⟩).trans ((wt_aload_n dX2_takeBack_29 rfl rfl).trans ((wt_aload_n dX2_takeBack_30 rfl rfl).trans ((wt_getfield dX2_takeBack_31 rfl rfl (v := .int ((F 24 6) - 1)) (F := am_upF (am_upF F 24 6 ((F 24 6) - 1)) 24 7 ((F 24 7) + 1)) (p := 24) rfl).trans (wt_callV dX2_takeBack_34 rfl (as := [.int ((F 24 6) - 1)]) (rest := []) rfl rfl (Nat.le_of_ble_eq_true rfl) rfl (Nat.le_of_ble_eq_true rfl))))))))))))))))
set_option maxHeartbeats 100000 in
theorem kX2_takeBack_37 {d : Nat} {F : am_FT} {L : am_LT} {Q : am_QT} {l1 : Option Value} {s0 : Int32} : wt am_S0 (d + 1) mX2_takeBack 37 [some (.ref 24), l1] [.int s0] F L Q = wc am_S0 d mX11_at [.ref 25, .int s0] F L (fun r G K => wt am_S0 (d + 1) mX2_takeBack 50 [some (.ref 24), some (.int s0)] (r.toList ++ [.ref 1]) G K Q) := (wt_istore_n dX2_takeBack_37 (lv1 := [some (.ref 24), some (.int s0)]) (Nat.le_of_ble_eq_true rfl) rfl).trans ((wt_aload_n dX2_takeBack_38 rfl rfl).trans ((wt_getfield dX2_takeBack_39 rfl rfl (v := .ref 1) rfl).trans ((wt_aload_n dX2_takeBack_42 rfl rfl).trans ((wt_getfield dX2_takeBack_43 rfl rfl (v := .ref 25) rfl).trans ((wt_iload_n dX2_takeBack_46 rfl).trans (wt_callS dX2_takeBack_47 rfl (as := [.ref 25, .int s0]) (rest := [.ref 1]) rfl rfl (Nat.le_of_ble_eq_true rfl) (Nat.le_of_ble_eq_true rfl)))))))
set_option maxHeartbeats 100000 in
theorem kX2_takeBack_50 {d : Nat} {F : am_FT} {L : am_LT} {Q : am_QT} {s1 x1 : Int32} : wt am_S0 (d + 1) mX2_takeBack 50 [some (.ref 24), some (.int x1)] [.int s1, .ref 1] F L Q = wc am_S0 d mX11_at [.ref 26, .int x1] F L (fun r G K => wt am_S0 (d + 1) mX2_takeBack 58 [some (.ref 24), some (.int x1)] (r.toList ++ [.int s1, .ref 1]) G K Q) := (wt_aload_n dX2_takeBack_50 rfl rfl).trans ((wt_getfield dX2_takeBack_51 rfl rfl (v := .ref 26) rfl).trans ((wt_iload_n dX2_takeBack_54 rfl).trans (wt_callS dX2_takeBack_55 rfl (as := [.ref 26, .int x1]) (rest := [.int s1, .ref 1]) rfl rfl (Nat.le_of_ble_eq_true rfl) (Nat.le_of_ble_eq_true rfl))))
set_option maxHeartbeats 100000 in
theorem kX2_takeBack_58 {d : Nat} {F : am_FT} {L : am_LT} {Q : am_QT} {s1 s2 x1 : Int32} : wt am_S0 (d + 1) mX2_takeBack 58 [some (.ref 24), some (.int x1)] [.int s2, .int s1, .ref 1] F L Q = wc am_S0 d mX11_at [.ref 27, .int x1] F L (fun r G K => wt am_S0 (d + 1) mX2_takeBack 66 [some (.ref 24), some (.int x1)] (r.toList ++ [.int s2, .int s1, .ref 1]) G K Q) := (wt_aload_n dX2_takeBack_58 rfl rfl).trans ((wt_getfield dX2_takeBack_59 rfl rfl (v := .ref 27) rfl).trans ((wt_iload_n dX2_takeBack_62 rfl).trans (wt_callS dX2_takeBack_63 rfl (as := [.ref 27, .int x1]) (rest := [.int s2, .int s1, .ref 1]) rfl rfl (Nat.le_of_ble_eq_true rfl) (Nat.le_of_ble_eq_true rfl))))
set_option maxHeartbeats 100000 in
theorem kX2_takeBack_66 {d : Nat} {F : am_FT} {L : am_LT} {Q : am_QT} {l0 l1 : Option Value} {s1 s2 s3 : Int32} : wt am_S0 (d + 1) mX2_takeBack 66 [l0, l1] [.int s3, .int s2, .int s1, .ref 1] F L Q = wc am_S0 d mX5_write [.ref 1, .int s1, .int s2, .int s3] F L (fun r G K => wt am_S0 (d + 1) mX2_takeBack 69 [l0, l1] (r.toList ++ []) G K Q) := wt_callV dX2_takeBack_66 rfl (as := [.int s1, .int s2, .int s3]) (rest := []) rfl rfl (Nat.le_of_ble_eq_true rfl) rfl (Nat.le_of_ble_eq_true rfl)
set_option maxHeartbeats 100000 in
theorem kX2_takeBack_69 {d : Nat} {F : am_FT} {L : am_LT} {Q : am_QT} {l0 l1 : Option Value} : wt am_S0 d mX2_takeBack 69 [l0, l1] [] F L Q = Q (some (.int 1)) F L := (wt_iconst dX2_takeBack_69 (v := 1) (by decide)).trans (wt_ireturn dX2_takeBack_70 rfl (by decide))
theorem dX2_doAgain_0 : decode mX2_doAgain.2.2.1 0 = .ok (.aload_n 0, 1) := by decide +kernel
theorem dX2_doAgain_1 : decode mX2_doAgain.2.2.1 1 = .ok (.getfield 30, 3) := by decide +kernel
theorem dX2_doAgain_4 : decode mX2_doAgain.2.2.1 4 = .ok (.ifCond .ne 5, 3) := by decide +kernel
theorem dX2_doAgain_7 : decode mX2_doAgain.2.2.1 7 = .ok (.iconst 0, 1) := by decide +kernel
theorem dX2_doAgain_8 : decode mX2_doAgain.2.2.1 8 = .ok (.ireturn, 1) := by decide +kernel
theorem dX2_doAgain_9 : decode mX2_doAgain.2.2.1 9 = .ok (.aload_n 0, 1) := by decide +kernel
theorem dX2_doAgain_10 : decode mX2_doAgain.2.2.1 10 = .ok (.aload_n 0, 1) := by decide +kernel
theorem dX2_doAgain_11 : decode mX2_doAgain.2.2.1 11 = .ok (.getfield 33, 3) := by decide +kernel
theorem dX2_doAgain_14 : decode mX2_doAgain.2.2.1 14 = .ok (.invokevirtual 36, 3) := by decide +kernel
theorem dX2_doAgain_17 : decode mX2_doAgain.2.2.1 17 = .ok (.istore_n 1, 1) := by decide +kernel
theorem dX2_doAgain_18 : decode mX2_doAgain.2.2.1 18 = .ok (.aload_n 0, 1) := by decide +kernel
theorem dX2_doAgain_19 : decode mX2_doAgain.2.2.1 19 = .ok (.dup, 1) := by decide +kernel
theorem dX2_doAgain_20 : decode mX2_doAgain.2.2.1 20 = .ok (.getfield 33, 3) := by decide +kernel
theorem dX2_doAgain_23 : decode mX2_doAgain.2.2.1 23 = .ok (.iconst 1, 1) := by decide +kernel
theorem dX2_doAgain_24 : decode mX2_doAgain.2.2.1 24 = .ok (.iadd, 1) := by decide +kernel
theorem dX2_doAgain_25 : decode mX2_doAgain.2.2.1 25 = .ok (.putfield 33, 3) := by decide +kernel
theorem dX2_doAgain_28 : decode mX2_doAgain.2.2.1 28 = .ok (.aload_n 0, 1) := by decide +kernel
theorem dX2_doAgain_29 : decode mX2_doAgain.2.2.1 29 = .ok (.dup, 1) := by decide +kernel
theorem dX2_doAgain_30 : decode mX2_doAgain.2.2.1 30 = .ok (.getfield 30, 3) := by decide +kernel
theorem dX2_doAgain_33 : decode mX2_doAgain.2.2.1 33 = .ok (.iconst 1, 1) := by decide +kernel
theorem dX2_doAgain_34 : decode mX2_doAgain.2.2.1 34 = .ok (.isub, 1) := by decide +kernel
theorem dX2_doAgain_35 : decode mX2_doAgain.2.2.1 35 = .ok (.putfield 30, 3) := by decide +kernel
theorem dX2_doAgain_38 : decode mX2_doAgain.2.2.1 38 = .ok (.aload_n 0, 1) := by decide +kernel
theorem dX2_doAgain_39 : decode mX2_doAgain.2.2.1 39 = .ok (.getfield 22, 3) := by decide +kernel
theorem dX2_doAgain_42 : decode mX2_doAgain.2.2.1 42 = .ok (.aload_n 0, 1) := by decide +kernel
theorem dX2_doAgain_43 : decode mX2_doAgain.2.2.1 43 = .ok (.getfield 9, 3) := by decide +kernel
theorem dX2_doAgain_46 : decode mX2_doAgain.2.2.1 46 = .ok (.iload_n 1, 1) := by decide +kernel
theorem dX2_doAgain_47 : decode mX2_doAgain.2.2.1 47 = .ok (.invokestatic 46, 3) := by decide +kernel
theorem dX2_doAgain_50 : decode mX2_doAgain.2.2.1 50 = .ok (.aload_n 0, 1) := by decide +kernel
theorem dX2_doAgain_51 : decode mX2_doAgain.2.2.1 51 = .ok (.getfield 13, 3) := by decide +kernel
theorem dX2_doAgain_54 : decode mX2_doAgain.2.2.1 54 = .ok (.iload_n 1, 1) := by decide +kernel
theorem dX2_doAgain_55 : decode mX2_doAgain.2.2.1 55 = .ok (.invokestatic 46, 3) := by decide +kernel
theorem dX2_doAgain_58 : decode mX2_doAgain.2.2.1 58 = .ok (.aload_n 0, 1) := by decide +kernel
theorem dX2_doAgain_59 : decode mX2_doAgain.2.2.1 59 = .ok (.getfield 19, 3) := by decide +kernel
theorem dX2_doAgain_62 : decode mX2_doAgain.2.2.1 62 = .ok (.iload_n 1, 1) := by decide +kernel
theorem dX2_doAgain_63 : decode mX2_doAgain.2.2.1 63 = .ok (.invokestatic 46, 3) := by decide +kernel
theorem dX2_doAgain_66 : decode mX2_doAgain.2.2.1 66 = .ok (.invokevirtual 50, 3) := by decide +kernel
theorem dX2_doAgain_69 : decode mX2_doAgain.2.2.1 69 = .ok (.iconst 1, 1) := by decide +kernel
theorem dX2_doAgain_70 : decode mX2_doAgain.2.2.1 70 = .ok (.ireturn, 1) := by decide +kernel
set_option maxHeartbeats 100000 in
theorem kX2_doAgain_0 {d : Nat} {F : am_FT} {L : am_LT} {Q : am_QT} {l1 : Option Value} : wt am_S0 d mX2_doAgain 0 [some (.ref 24), l1] [] F L Q = if ¬ (F 24 7) = 0 then wt am_S0 d mX2_doAgain 9 [some (.ref 24), l1] [] F L Q else wt am_S0 d mX2_doAgain 7 [some (.ref 24), l1] [] F L Q := (wt_aload_n dX2_doAgain_0 rfl rfl).trans ((wt_getfield dX2_doAgain_1 rfl rfl (v := .int (F 24 7)) rfl).trans (wt_ifCond_ne dX2_doAgain_4 (t := 9) rfl))
set_option maxHeartbeats 100000 in
theorem kX2_doAgain_7 {d : Nat} {F : am_FT} {L : am_LT} {Q : am_QT} {l0 l1 : Option Value} : wt am_S0 d mX2_doAgain 7 [l0, l1] [] F L Q = Q (some (.int 0)) F L := (wt_iconst dX2_doAgain_7 (v := 0) (by decide)).trans (wt_ireturn dX2_doAgain_8 rfl (by decide))
set_option maxHeartbeats 100000 in
theorem kX2_doAgain_9 {d : Nat} {F : am_FT} {L : am_LT} {Q : am_QT} {l1 : Option Value} : wt am_S0 (d + 1) mX2_doAgain 9 [some (.ref 24), l1] [] F L Q = wc am_S0 d mX2_placeOf [.ref 24, .int (F 24 6)] F L (fun r G K => wt am_S0 (d + 1) mX2_doAgain 17 [some (.ref 24), l1] (r.toList ++ []) G K Q) := (wt_aload_n dX2_doAgain_9 rfl rfl).trans ((wt_aload_n dX2_doAgain_10 rfl rfl).trans ((wt_getfield dX2_doAgain_11 rfl rfl (v := .int (F 24 6)) rfl).trans (wt_callV dX2_doAgain_14 rfl (as := [.int (F 24 6)]) (rest := []) rfl rfl (Nat.le_of_ble_eq_true rfl) rfl (Nat.le_of_ble_eq_true rfl))))
set_option maxHeartbeats 100000 in
theorem kX2_doAgain_17 {d : Nat} {F : am_FT} {L : am_LT} {Q : am_QT} {l1 : Option Value} {s0 : Int32} : wt am_S0 d mX2_doAgain 17 [some (.ref 24), l1] [.int s0] F L Q = wt am_S0 d mX2_doAgain 43 [some (.ref 24), some (.int s0)] [.ref 24, .ref 1] (am_upF (am_upF F 24 6 ((F 24 6) + 1)) 24 7 ((F 24 7) - 1)) L Q := (wt_istore_n dX2_doAgain_17 (lv1 := [some (.ref 24), some (.int s0)]) (Nat.le_of_ble_eq_true rfl) rfl).trans ((wt_aload_n dX2_doAgain_18 rfl rfl).trans ((wt_dup dX2_doAgain_19 rfl).trans ((wt_getfield dX2_doAgain_20 rfl rfl (v := .int (F 24 6)) rfl).trans ((wt_iconst dX2_doAgain_23 (v := 1) (by decide)).trans ((wt_iadd dX2_doAgain_24).trans ((wt_putfield dX2_doAgain_25 rfl rfl ⟨rfl, rfl, rfl, rfl⟩).trans ((wt_aload_n dX2_doAgain_28 rfl rfl).trans ((wt_dup dX2_doAgain_29 rfl).trans ((wt_getfield dX2_doAgain_30 rfl rfl (v := .int (F 24 7)) (F := am_upF F 24 6 ((F 24 6) + 1)) (p := 24) rfl).trans ((wt_iconst dX2_doAgain_33 (v := 1) (by decide)).trans ((wt_isub dX2_doAgain_34).trans ((wt_putfield dX2_doAgain_35 rfl rfl ⟨rfl, rfl, rfl, rfl⟩).trans ((wt_aload_n dX2_doAgain_38 rfl rfl).trans ((wt_getfield dX2_doAgain_39 rfl rfl (v := .ref 1) rfl).trans (wt_aload_n dX2_doAgain_42 rfl rfl)))))))))))))))
set_option maxHeartbeats 100000 in
theorem kX2_doAgain_43 {d : Nat} {F : am_FT} {L : am_LT} {Q : am_QT} {l0 : Option Value} {x1 : Int32} : wt am_S0 (d + 1) mX2_doAgain 43 [l0, some (.int x1)] [.ref 24, .ref 1] F L Q = wc am_S0 d mX11_at [.ref 25, .int x1] F L (fun r G K => wt am_S0 (d + 1) mX2_doAgain 50 [l0, some (.int x1)] (r.toList ++ [.ref 1]) G K Q) := (wt_getfield dX2_doAgain_43 rfl rfl (v := .ref 25) rfl).trans ((wt_iload_n dX2_doAgain_46 rfl).trans (wt_callS dX2_doAgain_47 rfl (as := [.ref 25, .int x1]) (rest := [.ref 1]) rfl rfl (Nat.le_of_ble_eq_true rfl) (Nat.le_of_ble_eq_true rfl)))
set_option maxHeartbeats 100000 in
theorem kX2_doAgain_50 {d : Nat} {F : am_FT} {L : am_LT} {Q : am_QT} {s1 x1 : Int32} : wt am_S0 (d + 1) mX2_doAgain 50 [some (.ref 24), some (.int x1)] [.int s1, .ref 1] F L Q = wc am_S0 d mX11_at [.ref 26, .int x1] F L (fun r G K => wt am_S0 (d + 1) mX2_doAgain 58 [some (.ref 24), some (.int x1)] (r.toList ++ [.int s1, .ref 1]) G K Q) := (wt_aload_n dX2_doAgain_50 rfl rfl).trans ((wt_getfield dX2_doAgain_51 rfl rfl (v := .ref 26) rfl).trans ((wt_iload_n dX2_doAgain_54 rfl).trans (wt_callS dX2_doAgain_55 rfl (as := [.ref 26, .int x1]) (rest := [.int s1, .ref 1]) rfl rfl (Nat.le_of_ble_eq_true rfl) (Nat.le_of_ble_eq_true rfl))))
set_option maxHeartbeats 100000 in
theorem kX2_doAgain_58 {d : Nat} {F : am_FT} {L : am_LT} {Q : am_QT} {s1 s2 x1 : Int32} : wt am_S0 (d + 1) mX2_doAgain 58 [some (.ref 24), some (.int x1)] [.int s2, .int s1, .ref 1] F L Q = wc am_S0 d mX11_at [.ref 28, .int x1] F L (fun r G K => wt am_S0 (d + 1) mX2_doAgain 66 [some (.ref 24), some (.int x1)] (r.toList ++ [.int s2, .int s1, .ref 1]) G K Q) := (wt_aload_n dX2_doAgain_58 rfl rfl).trans ((wt_getfield dX2_doAgain_59 rfl rfl (v := .ref 28) rfl).trans ((wt_iload_n dX2_doAgain_62 rfl).trans (wt_callS dX2_doAgain_63 rfl (as := [.ref 28, .int x1]) (rest := [.int s2, .int s1, .ref 1]) rfl rfl (Nat.le_of_ble_eq_true rfl) (Nat.le_of_ble_eq_true rfl))))
set_option maxHeartbeats 100000 in
theorem kX2_doAgain_66 {d : Nat} {F : am_FT} {L : am_LT} {Q : am_QT} {l0 l1 : Option Value} {s1 s2 s3 : Int32} : wt am_S0 (d + 1) mX2_doAgain 66 [l0, l1] [.int s3, .int s2, .int s1, .ref 1] F L Q = wc am_S0 d mX5_write [.ref 1, .int s1, .int s2, .int s3] F L (fun r G K => wt am_S0 (d + 1) mX2_doAgain 69 [l0, l1] (r.toList ++ []) G K Q) := wt_callV dX2_doAgain_66 rfl (as := [.int s1, .int s2, .int s3]) (rest := []) rfl rfl (Nat.le_of_ble_eq_true rfl) rfl (Nat.le_of_ble_eq_true rfl)
set_option maxHeartbeats 100000 in
theorem kX2_doAgain_69 {d : Nat} {F : am_FT} {L : am_LT} {Q : am_QT} {l0 l1 : Option Value} : wt am_S0 d mX2_doAgain 69 [l0, l1] [] F L Q = Q (some (.int 1)) F L := (wt_iconst dX2_doAgain_69 (v := 1) (by decide)).trans (wt_ireturn dX2_doAgain_70 rfl (by decide))
