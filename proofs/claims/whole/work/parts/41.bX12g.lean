theorem dX12_movesAs_0 : decode mX12_movesAs.2.2.1 0 = .ok (.iload_n 1, 1) := by decide +kernel
theorem dX12_movesAs_1 : decode mX12_movesAs.2.2.1 1 = .ok (.iconst 3, 1) := by decide +kernel
theorem dX12_movesAs_2 : decode mX12_movesAs.2.2.1 2 = .ok (.if_icmp .eq 8, 3) := by decide +kernel
theorem dX12_movesAs_5 : decode mX12_movesAs.2.2.1 5 = .ok (.iload_n 1, 1) := by decide +kernel
theorem dX12_movesAs_6 : decode mX12_movesAs.2.2.1 6 = .ok (.iconst 5, 1) := by decide +kernel
theorem dX12_movesAs_7 : decode mX12_movesAs.2.2.1 7 = .ok (.if_icmp .ne 18, 3) := by decide +kernel
theorem dX12_movesAs_10 : decode mX12_movesAs.2.2.1 10 = .ok (.aload_n 0, 1) := by decide +kernel
theorem dX12_movesAs_11 : decode mX12_movesAs.2.2.1 11 = .ok (.bipush 40, 2) := by decide +kernel
theorem dX12_movesAs_13 : decode mX12_movesAs.2.2.1 13 = .ok (.invokevirtual 290, 3) := by decide +kernel
theorem dX12_movesAs_16 : decode mX12_movesAs.2.2.1 16 = .ok (.aload_n 0, 1) := by decide +kernel
theorem dX12_movesAs_17 : decode mX12_movesAs.2.2.1 17 = .ok (.iconst 2, 1) := by decide +kernel
theorem dX12_movesAs_18 : decode mX12_movesAs.2.2.1 18 = .ok (.iload_n 2, 1) := by decide +kernel
theorem dX12_movesAs_19 : decode mX12_movesAs.2.2.1 19 = .ok (.invokevirtual 306, 3) := by decide +kernel
theorem dX12_movesAs_22 : decode mX12_movesAs.2.2.1 22 = .ok (.iconst 3, 1) := by decide +kernel
theorem dX12_movesAs_23 : decode mX12_movesAs.2.2.1 23 = .ok (.imul, 1) := by decide +kernel
theorem dX12_movesAs_24 : decode mX12_movesAs.2.2.1 24 = .ok (.ireturn, 1) := by decide +kernel
theorem dX12_movesAs_25 : decode mX12_movesAs.2.2.1 25 = .ok (.iload_n 1, 1) := by decide +kernel
theorem dX12_movesAs_26 : decode mX12_movesAs.2.2.1 26 = .ok (.iconst 4, 1) := by decide +kernel
theorem dX12_movesAs_27 : decode mX12_movesAs.2.2.1 27 = .ok (.if_icmp .eq 9, 3) := by decide +kernel
theorem dX12_movesAs_30 : decode mX12_movesAs.2.2.1 30 = .ok (.iload_n 1, 1) := by decide +kernel
theorem dX12_movesAs_31 : decode mX12_movesAs.2.2.1 31 = .ok (.bipush 7, 2) := by decide +kernel
theorem dX12_movesAs_33 : decode mX12_movesAs.2.2.1 33 = .ok (.if_icmp .ne 28, 3) := by decide +kernel
theorem dX12_movesAs_36 : decode mX12_movesAs.2.2.1 36 = .ok (.aload_n 0, 1) := by decide +kernel
theorem dX12_movesAs_37 : decode mX12_movesAs.2.2.1 37 = .ok (.bipush 50, 2) := by decide +kernel
theorem dX12_movesAs_39 : decode mX12_movesAs.2.2.1 39 = .ok (.invokevirtual 290, 3) := by decide +kernel
theorem dX12_movesAs_42 : decode mX12_movesAs.2.2.1 42 = .ok (.aload_n 0, 1) := by decide +kernel
theorem dX12_movesAs_43 : decode mX12_movesAs.2.2.1 43 = .ok (.iconst 1, 1) := by decide +kernel
theorem dX12_movesAs_44 : decode mX12_movesAs.2.2.1 44 = .ok (.iload_n 2, 1) := by decide +kernel
theorem dX12_movesAs_45 : decode mX12_movesAs.2.2.1 45 = .ok (.invokevirtual 306, 3) := by decide +kernel
theorem dX12_movesAs_48 : decode mX12_movesAs.2.2.1 48 = .ok (.istore_n 3, 1) := by decide +kernel
theorem dX12_movesAs_49 : decode mX12_movesAs.2.2.1 49 = .ok (.iload_n 3, 1) := by decide +kernel
theorem dX12_movesAs_50 : decode mX12_movesAs.2.2.1 50 = .ok (.aload_n 0, 1) := by decide +kernel
theorem dX12_movesAs_51 : decode mX12_movesAs.2.2.1 51 = .ok (.aload_n 0, 1) := by decide +kernel
theorem dX12_movesAs_52 : decode mX12_movesAs.2.2.1 52 = .ok (.getfield 303, 3) := by decide +kernel
theorem dX12_movesAs_55 : decode mX12_movesAs.2.2.1 55 = .ok (.iconst 2, 1) := by decide +kernel
theorem dX12_movesAs_56 : decode mX12_movesAs.2.2.1 56 = .ok (.invokevirtual 294, 3) := by decide +kernel
theorem dX12_movesAs_59 : decode mX12_movesAs.2.2.1 59 = .ok (.isub, 1) := by decide +kernel
theorem dX12_movesAs_60 : decode mX12_movesAs.2.2.1 60 = .ok (.ireturn, 1) := by decide +kernel
theorem dX12_movesAs_61 : decode mX12_movesAs.2.2.1 61 = .ok (.aload_n 0, 1) := by decide +kernel
theorem dX12_movesAs_62 : decode mX12_movesAs.2.2.1 62 = .ok (.bipush 11, 2) := by decide +kernel
theorem dX12_movesAs_64 : decode mX12_movesAs.2.2.1 64 = .ok (.invokevirtual 290, 3) := by decide +kernel
theorem dX12_movesAs_67 : decode mX12_movesAs.2.2.1 67 = .ok (.iload_n 2, 1) := by decide +kernel
theorem dX12_movesAs_68 : decode mX12_movesAs.2.2.1 68 = .ok (.aload_n 0, 1) := by decide +kernel
theorem dX12_movesAs_69 : decode mX12_movesAs.2.2.1 69 = .ok (.getfield 297, 3) := by decide +kernel
theorem dX12_movesAs_72 : decode mX12_movesAs.2.2.1 72 = .ok (.ixor, 1) := by decide +kernel
theorem dX12_movesAs_73 : decode mX12_movesAs.2.2.1 73 = .ok (.ireturn, 1) := by decide +kernel
set_option maxHeartbeats 100000 in
theorem kX12_movesAs_0 {d : Nat} {F : am_FT} {L : am_LT} {Q : am_QT} {l0 l2 l3 : Option Value} {x1 : Int32} : wt am_S0 d mX12_movesAs 0 [l0, some (.int x1), l2, l3] [] F L Q = if x1 = 3 then wt am_S0 d mX12_movesAs 10 [l0, some (.int x1), l2, l3] [] F L Q else wt am_S0 d mX12_movesAs 5 [l0, some (.int x1), l2, l3] [] F L Q := (wt_iload_n dX12_movesAs_0 rfl).trans ((wt_iconst dX12_movesAs_1 (v := 3) (by decide)).trans (wt_if_icmp_eq dX12_movesAs_2 (t := 10) rfl))
set_option maxHeartbeats 100000 in
theorem kX12_movesAs_5 {d : Nat} {F : am_FT} {L : am_LT} {Q : am_QT} {l0 l2 l3 : Option Value} {x1 : Int32} : wt am_S0 d mX12_movesAs 5 [l0, some (.int x1), l2, l3] [] F L Q = if ¬ x1 = 5 then wt am_S0 d mX12_movesAs 25 [l0, some (.int x1), l2, l3] [] F L Q else wt am_S0 d mX12_movesAs 10 [l0, some (.int x1), l2, l3] [] F L Q := (wt_iload_n dX12_movesAs_5 rfl).trans ((wt_iconst dX12_movesAs_6 (v := 5) (by decide)).trans (wt_if_icmp_ne dX12_movesAs_7 (t := 25) rfl))
set_option maxHeartbeats 100000 in
theorem kX12_movesAs_10 {d : Nat} {F : am_FT} {L : am_LT} {Q : am_QT} {l1 l2 l3 : Option Value} : wt am_S0 (d + 1) mX12_movesAs 10 [some (.ref 45), l1, l2, l3] [] F L Q = wc am_S0 d mX12_runs [.ref 45, .int 40] F L (fun r G K => wt am_S0 (d + 1) mX12_movesAs 16 [some (.ref 45), l1, l2, l3] (r.toList ++ []) G K Q) := (wt_aload_n dX12_movesAs_10 rfl rfl).trans ((wt_bipush dX12_movesAs_11 (v := 40) (by decide)).trans (wt_callV dX12_movesAs_13 rfl (as := [.int 40]) (rest := []) rfl rfl (Nat.le_of_ble_eq_true rfl) rfl (Nat.le_of_ble_eq_true rfl)))
set_option maxHeartbeats 100000 in
theorem kX12_movesAs_16 {d : Nat} {F : am_FT} {L : am_LT} {Q : am_QT} {l1 l3 : Option Value} {x2 : Int32} : wt am_S0 (d + 1) mX12_movesAs 16 [some (.ref 45), l1, some (.int x2), l3] [] F L Q = wc am_S0 d mX12_movesAs [.ref 45, .int 2, .int x2] F L (fun r G K => wt am_S0 (d + 1) mX12_movesAs 22 [some (.ref 45), l1, some (.int x2), l3] (r.toList ++ []) G K Q) := (wt_aload_n dX12_movesAs_16 rfl rfl).trans ((wt_iconst dX12_movesAs_17 (v := 2) (by decide)).trans ((wt_iload_n dX12_movesAs_18 rfl).trans (wt_callV dX12_movesAs_19 rfl (as := [.int 2, .int x2]) (rest := []) rfl rfl (Nat.le_of_ble_eq_true rfl) rfl (Nat.le_of_ble_eq_true rfl))))
set_option maxHeartbeats 100000 in
theorem kX12_movesAs_22 {d : Nat} {F : am_FT} {L : am_LT} {Q : am_QT} {l0 l1 l2 l3 : Option Value} {s0 : Int32} : wt am_S0 d mX12_movesAs 22 [l0, l1, l2, l3] [.int s0] F L Q = Q (some (.int (s0 * 3))) F L := (wt_iconst dX12_movesAs_22 (v := 3) (by decide)).trans ((wt_imul dX12_movesAs_23).trans (wt_ireturn dX12_movesAs_24 rfl rfl))
set_option maxHeartbeats 100000 in
theorem kX12_movesAs_25 {d : Nat} {F : am_FT} {L : am_LT} {Q : am_QT} {l0 l2 l3 : Option Value} {x1 : Int32} : wt am_S0 d mX12_movesAs 25 [l0, some (.int x1), l2, l3] [] F L Q = if x1 = 4 then wt am_S0 d mX12_movesAs 36 [l0, some (.int x1), l2, l3] [] F L Q else wt am_S0 d mX12_movesAs 30 [l0, some (.int x1), l2, l3] [] F L Q := (wt_iload_n dX12_movesAs_25 rfl).trans ((wt_iconst dX12_movesAs_26 (v := 4) (by decide)).trans (wt_if_icmp_eq dX12_movesAs_27 (t := 36) rfl))
set_option maxHeartbeats 100000 in
theorem kX12_movesAs_30 {d : Nat} {F : am_FT} {L : am_LT} {Q : am_QT} {l0 l2 l3 : Option Value} {x1 : Int32} : wt am_S0 d mX12_movesAs 30 [l0, some (.int x1), l2, l3] [] F L Q = if ¬ x1 = 7 then wt am_S0 d mX12_movesAs 61 [l0, some (.int x1), l2, l3] [] F L Q else wt am_S0 d mX12_movesAs 36 [l0, some (.int x1), l2, l3] [] F L Q := (wt_iload_n dX12_movesAs_30 rfl).trans ((wt_bipush dX12_movesAs_31 (v := 7) (by decide)).trans (wt_if_icmp_ne dX12_movesAs_33 (t := 61) rfl))
set_option maxHeartbeats 100000 in
theorem kX12_movesAs_36 {d : Nat} {F : am_FT} {L : am_LT} {Q : am_QT} {l1 l2 l3 : Option Value} : wt am_S0 (d + 1) mX12_movesAs 36 [some (.ref 45), l1, l2, l3] [] F L Q = wc am_S0 d mX12_runs [.ref 45, .int 50] F L (fun r G K => wt am_S0 (d + 1) mX12_movesAs 42 [some (.ref 45), l1, l2, l3] (r.toList ++ []) G K Q) := (wt_aload_n dX12_movesAs_36 rfl rfl).trans ((wt_bipush dX12_movesAs_37 (v := 50) (by decide)).trans (wt_callV dX12_movesAs_39 rfl (as := [.int 50]) (rest := []) rfl rfl (Nat.le_of_ble_eq_true rfl) rfl (Nat.le_of_ble_eq_true rfl)))
set_option maxHeartbeats 100000 in
theorem kX12_movesAs_42 {d : Nat} {F : am_FT} {L : am_LT} {Q : am_QT} {l1 l3 : Option Value} {x2 : Int32} : wt am_S0 (d + 1) mX12_movesAs 42 [some (.ref 45), l1, some (.int x2), l3] [] F L Q = wc am_S0 d mX12_movesAs [.ref 45, .int 1, .int x2] F L (fun r G K => wt am_S0 (d + 1) mX12_movesAs 48 [some (.ref 45), l1, some (.int x2), l3] (r.toList ++ []) G K Q) := (wt_aload_n dX12_movesAs_42 rfl rfl).trans ((wt_iconst dX12_movesAs_43 (v := 1) (by decide)).trans ((wt_iload_n dX12_movesAs_44 rfl).trans (wt_callV dX12_movesAs_45 rfl (as := [.int 1, .int x2]) (rest := []) rfl rfl (Nat.le_of_ble_eq_true rfl) rfl (Nat.le_of_ble_eq_true rfl))))
set_option maxHeartbeats 100000 in
theorem kX12_movesAs_48 {d : Nat} {F : am_FT} {L : am_LT} {Q : am_QT} {l1 l3 : Option Value} {s0 x2 : Int32} : wt am_S0 (d + 1) mX12_movesAs 48 [some (.ref 45), l1, some (.int x2), l3] [.int s0] F L Q = wc am_S0 d mX12_sitsAs [.ref 45, .int (F 45 33), .int 2] F L (fun r G K => wt am_S0 (d + 1) mX12_movesAs 59 [some (.ref 45), l1, some (.int x2), some (.int s0)] (r.toList ++ [.int s0]) G K Q) := (wt_istore_n dX12_movesAs_48 (lv1 := [some (.ref 45), l1, some (.int x2), some (.int s0)]) (Nat.le_of_ble_eq_true rfl) rfl).trans ((wt_iload_n dX12_movesAs_49 rfl).trans ((wt_aload_n dX12_movesAs_50 rfl rfl).trans ((wt_aload_n dX12_movesAs_51 rfl rfl).trans ((wt_getfield dX12_movesAs_52 rfl rfl (v := .int (F 45 33)) rfl).trans ((wt_iconst dX12_movesAs_55 (v := 2) (by decide)).trans (wt_callV dX12_movesAs_56 rfl (as := [.int (F 45 33), .int 2]) (rest := [.int s0]) rfl rfl (Nat.le_of_ble_eq_true rfl) rfl (Nat.le_of_ble_eq_true rfl)))))))
set_option maxHeartbeats 100000 in
theorem kX12_movesAs_59 {d : Nat} {F : am_FT} {L : am_LT} {Q : am_QT} {l0 l1 l2 l3 : Option Value} {s0 s1 : Int32} : wt am_S0 d mX12_movesAs 59 [l0, l1, l2, l3] [.int s1, .int s0] F L Q = Q (some (.int (s0 - s1))) F L := (wt_isub dX12_movesAs_59).trans (wt_ireturn dX12_movesAs_60 rfl rfl)
set_option maxHeartbeats 100000 in
theorem kX12_movesAs_61 {d : Nat} {F : am_FT} {L : am_LT} {Q : am_QT} {l1 l2 l3 : Option Value} : wt am_S0 (d + 1) mX12_movesAs 61 [some (.ref 45), l1, l2, l3] [] F L Q = wc am_S0 d mX12_runs [.ref 45, .int 11] F L (fun r G K => wt am_S0 (d + 1) mX12_movesAs 67 [some (.ref 45), l1, l2, l3] (r.toList ++ []) G K Q) := (wt_aload_n dX12_movesAs_61 rfl rfl).trans ((wt_bipush dX12_movesAs_62 (v := 11) (by decide)).trans (wt_callV dX12_movesAs_64 rfl (as := [.int 11]) (rest := []) rfl rfl (Nat.le_of_ble_eq_true rfl) rfl (Nat.le_of_ble_eq_true rfl)))
set_option maxHeartbeats 100000 in
theorem kX12_movesAs_67 {d : Nat} {F : am_FT} {L : am_LT} {Q : am_QT} {l1 l3 : Option Value} {x2 : Int32} : wt am_S0 d mX12_movesAs 67 [some (.ref 45), l1, some (.int x2), l3] [] F L Q = Q (some (.int (x2 ^^^ (F 45 34)))) F L := (wt_iload_n dX12_movesAs_67 rfl).trans ((wt_aload_n dX12_movesAs_68 rfl rfl).trans ((wt_getfield dX12_movesAs_69 rfl rfl (v := .int (F 45 34)) rfl).trans ((wt_ixor dX12_movesAs_72).trans (wt_ireturn dX12_movesAs_73 rfl rfl))))
theorem dX12_tellsAs_0 : decode mX12_tellsAs.2.2.1 0 = .ok (.iload_n 1, 1) := by decide +kernel
theorem dX12_tellsAs_1 : decode mX12_tellsAs.2.2.1 1 = .ok (.iconst 5, 1) := by decide +kernel
theorem dX12_tellsAs_2 : decode mX12_tellsAs.2.2.1 2 = .ok (.if_icmp .ne 18, 3) := by decide +kernel
theorem dX12_tellsAs_5 : decode mX12_tellsAs.2.2.1 5 = .ok (.aload_n 0, 1) := by decide +kernel
theorem dX12_tellsAs_6 : decode mX12_tellsAs.2.2.1 6 = .ok (.bipush 60, 2) := by decide +kernel
theorem dX12_tellsAs_8 : decode mX12_tellsAs.2.2.1 8 = .ok (.invokevirtual 290, 3) := by decide +kernel
theorem dX12_tellsAs_11 : decode mX12_tellsAs.2.2.1 11 = .ok (.aload_n 0, 1) := by decide +kernel
theorem dX12_tellsAs_12 : decode mX12_tellsAs.2.2.1 12 = .ok (.iconst 3, 1) := by decide +kernel
theorem dX12_tellsAs_13 : decode mX12_tellsAs.2.2.1 13 = .ok (.iload_n 2, 1) := by decide +kernel
theorem dX12_tellsAs_14 : decode mX12_tellsAs.2.2.1 14 = .ok (.invokevirtual 309, 3) := by decide +kernel
theorem dX12_tellsAs_17 : decode mX12_tellsAs.2.2.1 17 = .ok (.iconst 5, 1) := by decide +kernel
theorem dX12_tellsAs_18 : decode mX12_tellsAs.2.2.1 18 = .ok (.ixor, 1) := by decide +kernel
theorem dX12_tellsAs_19 : decode mX12_tellsAs.2.2.1 19 = .ok (.ireturn, 1) := by decide +kernel
theorem dX12_tellsAs_20 : decode mX12_tellsAs.2.2.1 20 = .ok (.iload_n 1, 1) := by decide +kernel
theorem dX12_tellsAs_21 : decode mX12_tellsAs.2.2.1 21 = .ok (.bipush 7, 2) := by decide +kernel
theorem dX12_tellsAs_23 : decode mX12_tellsAs.2.2.1 23 = .ok (.if_icmp .ne 18, 3) := by decide +kernel
theorem dX12_tellsAs_26 : decode mX12_tellsAs.2.2.1 26 = .ok (.aload_n 0, 1) := by decide +kernel
theorem dX12_tellsAs_27 : decode mX12_tellsAs.2.2.1 27 = .ok (.bipush 81, 2) := by decide +kernel
theorem dX12_tellsAs_29 : decode mX12_tellsAs.2.2.1 29 = .ok (.invokevirtual 290, 3) := by decide +kernel
theorem dX12_tellsAs_32 : decode mX12_tellsAs.2.2.1 32 = .ok (.aload_n 0, 1) := by decide +kernel
theorem dX12_tellsAs_33 : decode mX12_tellsAs.2.2.1 33 = .ok (.iconst 4, 1) := by decide +kernel
theorem dX12_tellsAs_34 : decode mX12_tellsAs.2.2.1 34 = .ok (.iload_n 2, 1) := by decide +kernel
theorem dX12_tellsAs_35 : decode mX12_tellsAs.2.2.1 35 = .ok (.invokevirtual 309, 3) := by decide +kernel
theorem dX12_tellsAs_38 : decode mX12_tellsAs.2.2.1 38 = .ok (.iconst 1, 1) := by decide +kernel
theorem dX12_tellsAs_39 : decode mX12_tellsAs.2.2.1 39 = .ok (.isub, 1) := by decide +kernel
theorem dX12_tellsAs_40 : decode mX12_tellsAs.2.2.1 40 = .ok (.ireturn, 1) := by decide +kernel
theorem dX12_tellsAs_41 : decode mX12_tellsAs.2.2.1 41 = .ok (.aload_n 0, 1) := by decide +kernel
theorem dX12_tellsAs_42 : decode mX12_tellsAs.2.2.1 42 = .ok (.iconst 2, 1) := by decide +kernel
theorem dX12_tellsAs_43 : decode mX12_tellsAs.2.2.1 43 = .ok (.invokevirtual 290, 3) := by decide +kernel
theorem dX12_tellsAs_46 : decode mX12_tellsAs.2.2.1 46 = .ok (.aload_n 0, 1) := by decide +kernel
theorem dX12_tellsAs_47 : decode mX12_tellsAs.2.2.1 47 = .ok (.aload_n 0, 1) := by decide +kernel
theorem dX12_tellsAs_48 : decode mX12_tellsAs.2.2.1 48 = .ok (.getfield 303, 3) := by decide +kernel
theorem dX12_tellsAs_51 : decode mX12_tellsAs.2.2.1 51 = .ok (.iload_n 2, 1) := by decide +kernel
theorem dX12_tellsAs_52 : decode mX12_tellsAs.2.2.1 52 = .ok (.invokevirtual 300, 3) := by decide +kernel
theorem dX12_tellsAs_55 : decode mX12_tellsAs.2.2.1 55 = .ok (.istore_n 3, 1) := by decide +kernel
theorem dX12_tellsAs_56 : decode mX12_tellsAs.2.2.1 56 = .ok (.iload_n 3, 1) := by decide +kernel
theorem dX12_tellsAs_57 : decode mX12_tellsAs.2.2.1 57 = .ok (.aload_n 0, 1) := by decide +kernel
theorem dX12_tellsAs_58 : decode mX12_tellsAs.2.2.1 58 = .ok (.aload_n 0, 1) := by decide +kernel
theorem dX12_tellsAs_59 : decode mX12_tellsAs.2.2.1 59 = .ok (.getfield 303, 3) := by decide +kernel
theorem dX12_tellsAs_62 : decode mX12_tellsAs.2.2.1 62 = .ok (.iconst 1, 1) := by decide +kernel
theorem dX12_tellsAs_63 : decode mX12_tellsAs.2.2.1 63 = .ok (.invokevirtual 306, 3) := by decide +kernel
theorem dX12_tellsAs_66 : decode mX12_tellsAs.2.2.1 66 = .ok (.isub, 1) := by decide +kernel
theorem dX12_tellsAs_67 : decode mX12_tellsAs.2.2.1 67 = .ok (.ireturn, 1) := by decide +kernel
set_option maxHeartbeats 100000 in
theorem kX12_tellsAs_0 {d : Nat} {F : am_FT} {L : am_LT} {Q : am_QT} {l0 l2 l3 : Option Value} {x1 : Int32} : wt am_S0 d mX12_tellsAs 0 [l0, some (.int x1), l2, l3] [] F L Q = if ¬ x1 = 5 then wt am_S0 d mX12_tellsAs 20 [l0, some (.int x1), l2, l3] [] F L Q else wt am_S0 d mX12_tellsAs 5 [l0, some (.int x1), l2, l3] [] F L Q := (wt_iload_n dX12_tellsAs_0 rfl).trans ((wt_iconst dX12_tellsAs_1 (v := 5) (by decide)).trans (wt_if_icmp_ne dX12_tellsAs_2 (t := 20) rfl))
set_option maxHeartbeats 100000 in
theorem kX12_tellsAs_5 {d : Nat} {F : am_FT} {L : am_LT} {Q : am_QT} {l1 l2 l3 : Option Value} : wt am_S0 (d + 1) mX12_tellsAs 5 [some (.ref 45), l1, l2, l3] [] F L Q = wc am_S0 d mX12_runs [.ref 45, .int 60] F L (fun r G K => wt am_S0 (d + 1) mX12_tellsAs 11 [some (.ref 45), l1, l2, l3] (r.toList ++ []) G K Q) := (wt_aload_n dX12_tellsAs_5 rfl rfl).trans ((wt_bipush dX12_tellsAs_6 (v := 60) (by decide)).trans (wt_callV dX12_tellsAs_8 rfl (as := [.int 60]) (rest := []) rfl rfl (Nat.le_of_ble_eq_true rfl) rfl (Nat.le_of_ble_eq_true rfl)))
set_option maxHeartbeats 100000 in
theorem kX12_tellsAs_11 {d : Nat} {F : am_FT} {L : am_LT} {Q : am_QT} {l1 l3 : Option Value} {x2 : Int32} : wt am_S0 (d + 1) mX12_tellsAs 11 [some (.ref 45), l1, some (.int x2), l3] [] F L Q = wc am_S0 d mX12_tellsAs [.ref 45, .int 3, .int x2] F L (fun r G K => wt am_S0 (d + 1) mX12_tellsAs 17 [some (.ref 45), l1, some (.int x2), l3] (r.toList ++ []) G K Q) := (wt_aload_n dX12_tellsAs_11 rfl rfl).trans ((wt_iconst dX12_tellsAs_12 (v := 3) (by decide)).trans ((wt_iload_n dX12_tellsAs_13 rfl).trans (wt_callV dX12_tellsAs_14 rfl (as := [.int 3, .int x2]) (rest := []) rfl rfl (Nat.le_of_ble_eq_true rfl) rfl (Nat.le_of_ble_eq_true rfl))))
set_option maxHeartbeats 100000 in
theorem kX12_tellsAs_17 {d : Nat} {F : am_FT} {L : am_LT} {Q : am_QT} {l0 l1 l2 l3 : Option Value} {s0 : Int32} : wt am_S0 d mX12_tellsAs 17 [l0, l1, l2, l3] [.int s0] F L Q = Q (some (.int (s0 ^^^ 5))) F L := (wt_iconst dX12_tellsAs_17 (v := 5) (by decide)).trans ((wt_ixor dX12_tellsAs_18).trans (wt_ireturn dX12_tellsAs_19 rfl rfl))
set_option maxHeartbeats 100000 in
theorem kX12_tellsAs_20 {d : Nat} {F : am_FT} {L : am_LT} {Q : am_QT} {l0 l2 l3 : Option Value} {x1 : Int32} : wt am_S0 d mX12_tellsAs 20 [l0, some (.int x1), l2, l3] [] F L Q = if ¬ x1 = 7 then wt am_S0 d mX12_tellsAs 41 [l0, some (.int x1), l2, l3] [] F L Q else wt am_S0 d mX12_tellsAs 26 [l0, some (.int x1), l2, l3] [] F L Q := (wt_iload_n dX12_tellsAs_20 rfl).trans ((wt_bipush dX12_tellsAs_21 (v := 7) (by decide)).trans (wt_if_icmp_ne dX12_tellsAs_23 (t := 41) rfl))
set_option maxHeartbeats 100000 in
theorem kX12_tellsAs_26 {d : Nat} {F : am_FT} {L : am_LT} {Q : am_QT} {l1 l2 l3 : Option Value} : wt am_S0 (d + 1) mX12_tellsAs 26 [some (.ref 45), l1, l2, l3] [] F L Q = wc am_S0 d mX12_runs [.ref 45, .int 81] F L (fun r G K => wt am_S0 (d + 1) mX12_tellsAs 32 [some (.ref 45), l1, l2, l3] (r.toList ++ []) G K Q) := (wt_aload_n dX12_tellsAs_26 rfl rfl).trans ((wt_bipush dX12_tellsAs_27 (v := 81) (by decide)).trans (wt_callV dX12_tellsAs_29 rfl (as := [.int 81]) (rest := []) rfl rfl (Nat.le_of_ble_eq_true rfl) rfl (Nat.le_of_ble_eq_true rfl)))
set_option maxHeartbeats 100000 in
theorem kX12_tellsAs_32 {d : Nat} {F : am_FT} {L : am_LT} {Q : am_QT} {l1 l3 : Option Value} {x2 : Int32} : wt am_S0 (d + 1) mX12_tellsAs 32 [some (.ref 45), l1, some (.int x2), l3] [] F L Q = wc am_S0 d mX12_tellsAs [.ref 45, .int 4, .int x2] F L (fun r G K => wt am_S0 (d + 1) mX12_tellsAs 38 [some (.ref 45), l1, some (.int x2), l3] (r.toList ++ []) G K Q) := (wt_aload_n dX12_tellsAs_32 rfl rfl).trans ((wt_iconst dX12_tellsAs_33 (v := 4) (by decide)).trans ((wt_iload_n dX12_tellsAs_34 rfl).trans (wt_callV dX12_tellsAs_35 rfl (as := [.int 4, .int x2]) (rest := []) rfl rfl (Nat.le_of_ble_eq_true rfl) rfl (Nat.le_of_ble_eq_true rfl))))
set_option maxHeartbeats 100000 in
theorem kX12_tellsAs_38 {d : Nat} {F : am_FT} {L : am_LT} {Q : am_QT} {l0 l1 l2 l3 : Option Value} {s0 : Int32} : wt am_S0 d mX12_tellsAs 38 [l0, l1, l2, l3] [.int s0] F L Q = Q (some (.int (s0 - 1))) F L := (wt_iconst dX12_tellsAs_38 (v := 1) (by decide)).trans ((wt_isub dX12_tellsAs_39).trans (wt_ireturn dX12_tellsAs_40 rfl rfl))
set_option maxHeartbeats 100000 in
theorem kX12_tellsAs_41 {d : Nat} {F : am_FT} {L : am_LT} {Q : am_QT} {l1 l2 l3 : Option Value} : wt am_S0 (d + 1) mX12_tellsAs 41 [some (.ref 45), l1, l2, l3] [] F L Q = wc am_S0 d mX12_runs [.ref 45, .int 2] F L (fun r G K => wt am_S0 (d + 1) mX12_tellsAs 46 [some (.ref 45), l1, l2, l3] (r.toList ++ []) G K Q) := (wt_aload_n dX12_tellsAs_41 rfl rfl).trans ((wt_iconst dX12_tellsAs_42 (v := 2) (by decide)).trans (wt_callV dX12_tellsAs_43 rfl (as := [.int 2]) (rest := []) rfl rfl (Nat.le_of_ble_eq_true rfl) rfl (Nat.le_of_ble_eq_true rfl)))
set_option maxHeartbeats 100000 in
theorem kX12_tellsAs_46 {d : Nat} {F : am_FT} {L : am_LT} {Q : am_QT} {l1 l3 : Option Value} {x2 : Int32} : wt am_S0 (d + 1) mX12_tellsAs 46 [some (.ref 45), l1, some (.int x2), l3] [] F L Q = wc am_S0 d mX12_votesAs [.ref 45, .int (F 45 33), .int x2] F L (fun r G K => wt am_S0 (d + 1) mX12_tellsAs 55 [some (.ref 45), l1, some (.int x2), l3] (r.toList ++ []) G K Q) := (wt_aload_n dX12_tellsAs_46 rfl rfl).trans ((wt_aload_n dX12_tellsAs_47 rfl rfl).trans ((wt_getfield dX12_tellsAs_48 rfl rfl (v := .int (F 45 33)) rfl).trans ((wt_iload_n dX12_tellsAs_51 rfl).trans (wt_callV dX12_tellsAs_52 rfl (as := [.int (F 45 33), .int x2]) (rest := []) rfl rfl (Nat.le_of_ble_eq_true rfl) rfl (Nat.le_of_ble_eq_true rfl)))))
set_option maxHeartbeats 100000 in
theorem kX12_tellsAs_55 {d : Nat} {F : am_FT} {L : am_LT} {Q : am_QT} {l1 l3 : Option Value} {s0 x2 : Int32} : wt am_S0 (d + 1) mX12_tellsAs 55 [some (.ref 45), l1, some (.int x2), l3] [.int s0] F L Q = wc am_S0 d mX12_movesAs [.ref 45, .int (F 45 33), .int 1] F L (fun r G K => wt am_S0 (d + 1) mX12_tellsAs 66 [some (.ref 45), l1, some (.int x2), some (.int s0)] (r.toList ++ [.int s0]) G K Q) := (wt_istore_n dX12_tellsAs_55 (lv1 := [some (.ref 45), l1, some (.int x2), some (.int s0)]) (Nat.le_of_ble_eq_true rfl) rfl).trans ((wt_iload_n dX12_tellsAs_56 rfl).trans ((wt_aload_n dX12_tellsAs_57 rfl rfl).trans ((wt_aload_n dX12_tellsAs_58 rfl rfl).trans ((wt_getfield dX12_tellsAs_59 rfl rfl (v := .int (F 45 33)) rfl).trans ((wt_iconst dX12_tellsAs_62 (v := 1) (by decide)).trans (wt_callV dX12_tellsAs_63 rfl (as := [.int (F 45 33), .int 1]) (rest := [.int s0]) rfl rfl (Nat.le_of_ble_eq_true rfl) rfl (Nat.le_of_ble_eq_true rfl)))))))
set_option maxHeartbeats 100000 in
theorem kX12_tellsAs_66 {d : Nat} {F : am_FT} {L : am_LT} {Q : am_QT} {l0 l1 l2 l3 : Option Value} {s0 s1 : Int32} : wt am_S0 d mX12_tellsAs 66 [l0, l1, l2, l3] [.int s1, .int s0] F L Q = Q (some (.int (s0 - s1))) F L := (wt_isub dX12_tellsAs_66).trans (wt_ireturn dX12_tellsAs_67 rfl rfl)
theorem dX12_trace_0 : decode mX12_trace.2.2.1 0 = .ok (.iload_n 1, 1) := by decide +kernel
theorem dX12_trace_1 : decode mX12_trace.2.2.1 1 = .ok (.ifCond .lt 26, 3) := by decide +kernel
theorem dX12_trace_4 : decode mX12_trace.2.2.1 4 = .ok (.iload_n 1, 1) := by decide +kernel
theorem dX12_trace_5 : decode mX12_trace.2.2.1 5 = .ok (.aload_n 0, 1) := by decide +kernel
theorem dX12_trace_6 : decode mX12_trace.2.2.1 6 = .ok (.getfield 287, 3) := by decide +kernel
theorem dX12_trace_9 : decode mX12_trace.2.2.1 9 = .ok (.if_icmp .ge 18, 3) := by decide +kernel
theorem dX12_trace_12 : decode mX12_trace.2.2.1 12 = .ok (.iload_n 1, 1) := by decide +kernel
theorem dX12_trace_13 : decode mX12_trace.2.2.1 13 = .ok (.bipush 24, 2) := by decide +kernel
theorem dX12_trace_15 : decode mX12_trace.2.2.1 15 = .ok (.if_icmp .ge 12, 3) := by decide +kernel
theorem dX12_trace_18 : decode mX12_trace.2.2.1 18 = .ok (.aload_n 0, 1) := by decide +kernel
theorem dX12_trace_19 : decode mX12_trace.2.2.1 19 = .ok (.getfield 46, 3) := by decide +kernel
theorem dX12_trace_22 : decode mX12_trace.2.2.1 22 = .ok (.iload_n 1, 1) := by decide +kernel
theorem dX12_trace_23 : decode mX12_trace.2.2.1 23 = .ok (.iaload, 1) := by decide +kernel
theorem dX12_trace_24 : decode mX12_trace.2.2.1 24 = .ok (.goto 4, 3) := by decide +kernel
theorem dX12_trace_27 : decode mX12_trace.2.2.1 27 = .ok (.iconst (-1), 1) := by decide +kernel
theorem dX12_trace_28 : decode mX12_trace.2.2.1 28 = .ok (.ireturn, 1) := by decide +kernel
set_option maxHeartbeats 100000 in
theorem kX12_trace_0 {d : Nat} {F : am_FT} {L : am_LT} {Q : am_QT} {l0 : Option Value} {x1 : Int32} : wt am_S0 d mX12_trace 0 [l0, some (.int x1)] [] F L Q = if x1 < 0 then wt am_S0 d mX12_trace 27 [l0, some (.int x1)] [] F L Q else wt am_S0 d mX12_trace 4 [l0, some (.int x1)] [] F L Q := (wt_iload_n dX12_trace_0 rfl).trans (wt_ifCond_lt dX12_trace_1 (t := 27) rfl)
set_option maxHeartbeats 100000 in
theorem kX12_trace_4 {d : Nat} {F : am_FT} {L : am_LT} {Q : am_QT} {x1 : Int32} : wt am_S0 d mX12_trace 4 [some (.ref 45), some (.int x1)] [] F L Q = if (F 45 32) ≤ x1 then wt am_S0 d mX12_trace 27 [some (.ref 45), some (.int x1)] [] F L Q else wt am_S0 d mX12_trace 12 [some (.ref 45), some (.int x1)] [] F L Q := (wt_iload_n dX12_trace_4 rfl).trans ((wt_aload_n dX12_trace_5 rfl rfl).trans ((wt_getfield dX12_trace_6 rfl rfl (v := .int (F 45 32)) rfl).trans (wt_if_icmp_ge dX12_trace_9 (t := 27) rfl)))
set_option maxHeartbeats 100000 in
theorem kX12_trace_12 {d : Nat} {F : am_FT} {L : am_LT} {Q : am_QT} {l0 : Option Value} {x1 : Int32} : wt am_S0 d mX12_trace 12 [l0, some (.int x1)] [] F L Q = if 24 ≤ x1 then wt am_S0 d mX12_trace 27 [l0, some (.int x1)] [] F L Q else wt am_S0 d mX12_trace 18 [l0, some (.int x1)] [] F L Q := (wt_iload_n dX12_trace_12 rfl).trans ((wt_bipush dX12_trace_13 (v := 24) (by decide)).trans (wt_if_icmp_ge dX12_trace_15 (t := 27) rfl))
set_option maxHeartbeats 100000 in
theorem kX12_trace_18 {d : Nat} {F : am_FT} {L : am_LT} {Q : am_QT} {x1 : Int32} (h1 : am_oob x1 24 = false) : wt am_S0 d mX12_trace 18 [some (.ref 45), some (.int x1)] [] F L Q = wt am_S0 d mX12_trace 28 [some (.ref 45), some (.int x1)] [.int (F 58 (Int32.toNatClampNeg x1))] F L Q := (wt_aload_n dX12_trace_18 rfl rfl).trans ((wt_getfield dX12_trace_19 rfl rfl (v := .ref 58) rfl).trans ((wt_iload_n dX12_trace_22 rfl).trans ((wt_iaload dX12_trace_23 rfl (by decide) h1).trans (wt_goto dX12_trace_24 (t := 28) rfl))))
set_option maxHeartbeats 100000 in
theorem kX12_trace_27 {d : Nat} {F : am_FT} {L : am_LT} {Q : am_QT} {l0 l1 : Option Value} : wt am_S0 d mX12_trace 27 [l0, l1] [] F L Q = wt am_S0 d mX12_trace 28 [l0, l1] [.int (-1)] F L Q := wt_iconst dX12_trace_27 (v := (-1)) (by decide)
set_option maxHeartbeats 100000 in
theorem kX12_trace_28 {d : Nat} {F : am_FT} {L : am_LT} {Q : am_QT} {l0 l1 : Option Value} {s0 : Int32} : wt am_S0 d mX12_trace 28 [l0, l1] [.int s0] F L Q = Q (some (.int s0)) F L := wt_ireturn dX12_trace_28 rfl rfl
theorem dX12_keep_0 : decode mX12_keep.2.2.1 0 = .ok (.iload_n 1, 1) := by decide +kernel
theorem dX12_keep_1 : decode mX12_keep.2.2.1 1 = .ok (.invokestatic 107, 3) := by decide +kernel
theorem dX12_keep_4 : decode mX12_keep.2.2.1 4 = .ok (.ifCond .eq 16, 3) := by decide +kernel
theorem dX12_keep_7 : decode mX12_keep.2.2.1 7 = .ok (.iload_n 2, 1) := by decide +kernel
theorem dX12_keep_8 : decode mX12_keep.2.2.1 8 = .ok (.iconst (-1), 1) := by decide +kernel
theorem dX12_keep_9 : decode mX12_keep.2.2.1 9 = .ok (.if_icmp .eq 13, 3) := by decide +kernel
theorem dX12_keep_12 : decode mX12_keep.2.2.1 12 = .ok (.aload_n 0, 1) := by decide +kernel
theorem dX12_keep_13 : decode mX12_keep.2.2.1 13 = .ok (.iload_n 2, 1) := by decide +kernel
theorem dX12_keep_14 : decode mX12_keep.2.2.1 14 = .ok (.invokevirtual 312, 3) := by decide +kernel
theorem dX12_keep_17 : decode mX12_keep.2.2.1 17 = .ok (.ifCond .ne 5, 3) := by decide +kernel
theorem dX12_keep_20 : decode mX12_keep.2.2.1 20 = .ok (.iconst (-1), 1) := by decide +kernel
theorem dX12_keep_21 : decode mX12_keep.2.2.1 21 = .ok (.ireturn, 1) := by decide +kernel
theorem dX12_keep_22 : decode mX12_keep.2.2.1 22 = .ok (.aload_n 0, 1) := by decide +kernel
theorem dX12_keep_23 : decode mX12_keep.2.2.1 23 = .ok (.getfield 49, 3) := by decide +kernel
theorem dX12_keep_26 : decode mX12_keep.2.2.1 26 = .ok (.iload_n 1, 1) := by decide +kernel
theorem dX12_keep_27 : decode mX12_keep.2.2.1 27 = .ok (.iload_n 2, 1) := by decide +kernel
theorem dX12_keep_28 : decode mX12_keep.2.2.1 28 = .ok (.iastore, 1) := by decide +kernel
theorem dX12_keep_29 : decode mX12_keep.2.2.1 29 = .ok (.aload_n 0, 1) := by decide +kernel
theorem dX12_keep_30 : decode mX12_keep.2.2.1 30 = .ok (.getfield 52, 3) := by decide +kernel
theorem dX12_keep_33 : decode mX12_keep.2.2.1 33 = .ok (.iload_n 1, 1) := by decide +kernel
theorem dX12_keep_34 : decode mX12_keep.2.2.1 34 = .ok (.iconst 0, 1) := by decide +kernel
theorem dX12_keep_35 : decode mX12_keep.2.2.1 35 = .ok (.iastore, 1) := by decide +kernel
theorem dX12_keep_36 : decode mX12_keep.2.2.1 36 = .ok (.iconst 1, 1) := by decide +kernel
theorem dX12_keep_37 : decode mX12_keep.2.2.1 37 = .ok (.ireturn, 1) := by decide +kernel
set_option maxHeartbeats 100000 in
theorem kX12_keep_0 {d : Nat} {F : am_FT} {L : am_LT} {Q : am_QT} {l0 l2 : Option Value} {x1 : Int32} : wt am_S0 (d + 1) mX12_keep 0 [l0, some (.int x1), l2] [] F L Q = wc am_S0 d mX12_isShelf [.int x1] F L (fun r G K => wt am_S0 (d + 1) mX12_keep 4 [l0, some (.int x1), l2] (r.toList ++ []) G K Q) := (wt_iload_n dX12_keep_0 rfl).trans (wt_callS dX12_keep_1 rfl (as := [.int x1]) (rest := []) rfl rfl (Nat.le_of_ble_eq_true rfl) (Nat.le_of_ble_eq_true rfl))
set_option maxHeartbeats 100000 in
theorem kX12_keep_4 {d : Nat} {F : am_FT} {L : am_LT} {Q : am_QT} {l0 l1 l2 : Option Value} {s0 : Int32} : wt am_S0 d mX12_keep 4 [l0, l1, l2] [.int s0] F L Q = if s0 = 0 then wt am_S0 d mX12_keep 20 [l0, l1, l2] [] F L Q else wt am_S0 d mX12_keep 7 [l0, l1, l2] [] F L Q := wt_ifCond_eq dX12_keep_4 (t := 20) rfl
set_option maxHeartbeats 100000 in
theorem kX12_keep_7 {d : Nat} {F : am_FT} {L : am_LT} {Q : am_QT} {l0 l1 : Option Value} {x2 : Int32} : wt am_S0 d mX12_keep 7 [l0, l1, some (.int x2)] [] F L Q = if x2 = (-1) then wt am_S0 d mX12_keep 22 [l0, l1, some (.int x2)] [] F L Q else wt am_S0 d mX12_keep 12 [l0, l1, some (.int x2)] [] F L Q := (wt_iload_n dX12_keep_7 rfl).trans ((wt_iconst dX12_keep_8 (v := (-1)) (by decide)).trans (wt_if_icmp_eq dX12_keep_9 (t := 22) rfl))
set_option maxHeartbeats 100000 in
theorem kX12_keep_12 {d : Nat} {F : am_FT} {L : am_LT} {Q : am_QT} {l1 : Option Value} {x2 : Int32} : wt am_S0 (d + 1) mX12_keep 12 [some (.ref 45), l1, some (.int x2)] [] F L Q = wc am_S0 d mX12_isBody [.ref 45, .int x2] F L (fun r G K => wt am_S0 (d + 1) mX12_keep 17 [some (.ref 45), l1, some (.int x2)] (r.toList ++ []) G K Q) := (wt_aload_n dX12_keep_12 rfl rfl).trans ((wt_iload_n dX12_keep_13 rfl).trans (wt_callV dX12_keep_14 rfl (as := [.int x2]) (rest := []) rfl rfl (Nat.le_of_ble_eq_true rfl) rfl (Nat.le_of_ble_eq_true rfl)))
set_option maxHeartbeats 100000 in
theorem kX12_keep_17 {d : Nat} {F : am_FT} {L : am_LT} {Q : am_QT} {l0 l1 l2 : Option Value} {s0 : Int32} : wt am_S0 d mX12_keep 17 [l0, l1, l2] [.int s0] F L Q = if ¬ s0 = 0 then wt am_S0 d mX12_keep 22 [l0, l1, l2] [] F L Q else wt am_S0 d mX12_keep 20 [l0, l1, l2] [] F L Q := wt_ifCond_ne dX12_keep_17 (t := 22) rfl
set_option maxHeartbeats 100000 in
theorem kX12_keep_20 {d : Nat} {F : am_FT} {L : am_LT} {Q : am_QT} {l0 l1 l2 : Option Value} : wt am_S0 d mX12_keep 20 [l0, l1, l2] [] F L Q = Q (some (.int (-1))) F L := (wt_iconst dX12_keep_20 (v := (-1)) (by decide)).trans (wt_ireturn dX12_keep_21 rfl rfl)
set_option maxHeartbeats 100000 in
theorem kX12_keep_22 {d : Nat} {F : am_FT} {L : am_LT} {Q : am_QT} {x1 x2 : Int32} (h1 : am_oob x1 6 = false) : wt am_S0 d mX12_keep 22 [some (.ref 45), some (.int x1), some (.int x2)] [] F L Q = Q (some (.int 1)) (am_upF (am_upF F 59 (Int32.toNatClampNeg x1) x2) 60 (Int32.toNatClampNeg x1) 0) L := (wt_aload_n dX12_keep_22 rfl rfl).trans ((wt_getfield dX12_keep_23 rfl rfl (v := .ref 59) rfl).trans ((wt_iload_n dX12_keep_26 rfl).trans ((wt_iload_n dX12_keep_27 rfl).trans ((wt_iastore dX12_keep_28 rfl h1).trans ((wt_aload_n dX12_keep_29 rfl rfl).trans ((wt_getfield dX12_keep_30 rfl rfl (v := .ref 60) rfl).trans ((wt_iload_n dX12_keep_33 rfl).trans ((wt_iconst dX12_keep_34 (v := 0) (by decide)).trans ((wt_iastore dX12_keep_35 rfl h1).trans ((wt_iconst dX12_keep_36 (v := 1) (by decide)).trans (wt_ireturn dX12_keep_37 rfl rfl)))))))))))
theorem dX12_row_0 : decode mX12_row.2.2.1 0 = .ok (.iload_n 1, 1) := by decide +kernel
theorem dX12_row_1 : decode mX12_row.2.2.1 1 = .ok (.invokestatic 107, 3) := by decide +kernel
theorem dX12_row_4 : decode mX12_row.2.2.1 4 = .ok (.ifCond .eq 21, 3) := by decide +kernel
theorem dX12_row_7 : decode mX12_row.2.2.1 7 = .ok (.iload_n 2, 1) := by decide +kernel
theorem dX12_row_8 : decode mX12_row.2.2.1 8 = .ok (.i2l, 1) := by decide +kernel
theorem dX12_row_9 : decode mX12_row.2.2.1 9 = .ok (.lconst 0, 1) := by decide +kernel
theorem dX12_row_10 : decode mX12_row.2.2.1 10 = .ok (.ldc2_w 246, 3) := by decide +kernel
theorem dX12_row_13 : decode mX12_row.2.2.1 13 = .ok (.invokestatic 75, 3) := by decide +kernel
theorem dX12_row_16 : decode mX12_row.2.2.1 16 = .ok (.ifCond .eq 9, 3) := by decide +kernel
theorem dX12_row_19 : decode mX12_row.2.2.1 19 = .ok (.iload_n 3, 1) := by decide +kernel
theorem dX12_row_20 : decode mX12_row.2.2.1 20 = .ok (.bipush 60, 2) := by decide +kernel
theorem dX12_row_22 : decode mX12_row.2.2.1 22 = .ok (.if_icmp .le 5, 3) := by decide +kernel
theorem dX12_row_25 : decode mX12_row.2.2.1 25 = .ok (.iconst (-1), 1) := by decide +kernel
theorem dX12_row_26 : decode mX12_row.2.2.1 26 = .ok (.ireturn, 1) := by decide +kernel
theorem dX12_row_27 : decode mX12_row.2.2.1 27 = .ok (.iload_n 3, 1) := by decide +kernel
theorem dX12_row_28 : decode mX12_row.2.2.1 28 = .ok (.ifCond .ge 6, 3) := by decide +kernel
theorem dX12_row_31 : decode mX12_row.2.2.1 31 = .ok (.bipush (-14), 2) := by decide +kernel
theorem dX12_row_33 : decode mX12_row.2.2.1 33 = .ok (.ireturn, 1) := by decide +kernel
theorem dX12_row_34 : decode mX12_row.2.2.1 34 = .ok (.aload_n 0, 1) := by decide +kernel
theorem dX12_row_35 : decode mX12_row.2.2.1 35 = .ok (.getfield 49, 3) := by decide +kernel
theorem dX12_row_38 : decode mX12_row.2.2.1 38 = .ok (.iload_n 1, 1) := by decide +kernel
theorem dX12_row_39 : decode mX12_row.2.2.1 39 = .ok (.bipush 50, 2) := by decide +kernel
theorem dX12_row_41 : decode mX12_row.2.2.1 41 = .ok (.iload_n 2, 1) := by decide +kernel
theorem dX12_row_42 : decode mX12_row.2.2.1 42 = .ok (.iadd, 1) := by decide +kernel
theorem dX12_row_43 : decode mX12_row.2.2.1 43 = .ok (.iastore, 1) := by decide +kernel
theorem dX12_row_44 : decode mX12_row.2.2.1 44 = .ok (.aload_n 0, 1) := by decide +kernel
theorem dX12_row_45 : decode mX12_row.2.2.1 45 = .ok (.getfield 52, 3) := by decide +kernel
theorem dX12_row_48 : decode mX12_row.2.2.1 48 = .ok (.iload_n 1, 1) := by decide +kernel
theorem dX12_row_49 : decode mX12_row.2.2.1 49 = .ok (.iload_n 3, 1) := by decide +kernel
theorem dX12_row_50 : decode mX12_row.2.2.1 50 = .ok (.iastore, 1) := by decide +kernel
theorem dX12_row_51 : decode mX12_row.2.2.1 51 = .ok (.bipush 60, 2) := by decide +kernel
theorem dX12_row_53 : decode mX12_row.2.2.1 53 = .ok (.iload_n 1, 1) := by decide +kernel
theorem dX12_row_54 : decode mX12_row.2.2.1 54 = .ok (.imul, 1) := by decide +kernel
theorem dX12_row_55 : decode mX12_row.2.2.1 55 = .ok (.istore 4, 2) := by decide +kernel
theorem dX12_row_57 : decode mX12_row.2.2.1 57 = .ok (.iload 4, 2) := by decide +kernel
theorem dX12_row_59 : decode mX12_row.2.2.1 59 = .ok (.bipush 60, 2) := by decide +kernel
theorem dX12_row_61 : decode mX12_row.2.2.1 61 = .ok (.iload_n 1, 1) := by decide +kernel
theorem dX12_row_62 : decode mX12_row.2.2.1 62 = .ok (.imul, 1) := by decide +kernel
theorem dX12_row_63 : decode mX12_row.2.2.1 63 = .ok (.bipush 60, 2) := by decide +kernel
theorem dX12_row_65 : decode mX12_row.2.2.1 65 = .ok (.iadd, 1) := by decide +kernel
theorem dX12_row_66 : decode mX12_row.2.2.1 66 = .ok (.if_icmp .ge 17, 3) := by decide +kernel
theorem dX12_row_69 : decode mX12_row.2.2.1 69 = .ok (.aload_n 0, 1) := by decide +kernel
theorem dX12_row_70 : decode mX12_row.2.2.1 70 = .ok (.getfield 55, 3) := by decide +kernel
theorem dX12_row_73 : decode mX12_row.2.2.1 73 = .ok (.iload 4, 2) := by decide +kernel
theorem dX12_row_75 : decode mX12_row.2.2.1 75 = .ok (.lconst 0, 1) := by decide +kernel
theorem dX12_row_76 : decode mX12_row.2.2.1 76 = .ok (.lastore, 1) := by decide +kernel
theorem dX12_row_77 : decode mX12_row.2.2.1 77 = .ok (.iinc 4 1, 3) := by decide +kernel
theorem dX12_row_80 : decode mX12_row.2.2.1 80 = .ok (.goto (-23), 3) := by decide +kernel
theorem dX12_row_83 : decode mX12_row.2.2.1 83 = .ok (.iconst 1, 1) := by decide +kernel
theorem dX12_row_84 : decode mX12_row.2.2.1 84 = .ok (.ireturn, 1) := by decide +kernel
set_option maxHeartbeats 100000 in
theorem kX12_row_0 {d : Nat} {F : am_FT} {L : am_LT} {Q : am_QT} {l0 l2 l3 l4 : Option Value} {x1 : Int32} : wt am_S0 (d + 1) mX12_row 0 [l0, some (.int x1), l2, l3, l4] [] F L Q = wc am_S0 d mX12_isShelf [.int x1] F L (fun r G K => wt am_S0 (d + 1) mX12_row 4 [l0, some (.int x1), l2, l3, l4] (r.toList ++ []) G K Q) := (wt_iload_n dX12_row_0 rfl).trans (wt_callS dX12_row_1 rfl (as := [.int x1]) (rest := []) rfl rfl (Nat.le_of_ble_eq_true rfl) (Nat.le_of_ble_eq_true rfl))
set_option maxHeartbeats 100000 in
theorem kX12_row_4 {d : Nat} {F : am_FT} {L : am_LT} {Q : am_QT} {l0 l1 l2 l3 l4 : Option Value} {s0 : Int32} : wt am_S0 d mX12_row 4 [l0, l1, l2, l3, l4] [.int s0] F L Q = if s0 = 0 then wt am_S0 d mX12_row 25 [l0, l1, l2, l3, l4] [] F L Q else wt am_S0 d mX12_row 7 [l0, l1, l2, l3, l4] [] F L Q := wt_ifCond_eq dX12_row_4 (t := 25) rfl
set_option maxHeartbeats 100000 in
theorem kX12_row_7 {d : Nat} {F : am_FT} {L : am_LT} {Q : am_QT} {l0 l1 l3 l4 : Option Value} {x2 : Int32} : wt am_S0 (d + 1) mX12_row 7 [l0, l1, some (.int x2), l3, l4] [] F L Q = wc am_S0 d mX12_within [.long (Int32.toInt64 x2), .long 0, .long 4] F L (fun r G K => wt am_S0 (d + 1) mX12_row 16 [l0, l1, some (.int x2), l3, l4] (r.toList ++ []) G K Q) := (wt_iload_n dX12_row_7 rfl).trans ((wt_i2l dX12_row_8).trans ((wt_lconst dX12_row_9 (v := 0) (by decide)).trans ((wt_ldc2_w dX12_row_10 (v := 4) rfl).trans (wt_callS dX12_row_13 rfl (as := [.long (Int32.toInt64 x2), .long 0, .long 4]) (rest := []) rfl rfl (Nat.le_of_ble_eq_true rfl) (Nat.le_of_ble_eq_true rfl)))))
set_option maxHeartbeats 100000 in
theorem kX12_row_16 {d : Nat} {F : am_FT} {L : am_LT} {Q : am_QT} {l0 l1 l2 l3 l4 : Option Value} {s0 : Int32} : wt am_S0 d mX12_row 16 [l0, l1, l2, l3, l4] [.int s0] F L Q = if s0 = 0 then wt am_S0 d mX12_row 25 [l0, l1, l2, l3, l4] [] F L Q else wt am_S0 d mX12_row 19 [l0, l1, l2, l3, l4] [] F L Q := wt_ifCond_eq dX12_row_16 (t := 25) rfl
set_option maxHeartbeats 100000 in
theorem kX12_row_19 {d : Nat} {F : am_FT} {L : am_LT} {Q : am_QT} {l0 l1 l2 l4 : Option Value} {x3 : Int32} : wt am_S0 d mX12_row 19 [l0, l1, l2, some (.int x3), l4] [] F L Q = if x3 ≤ 60 then wt am_S0 d mX12_row 27 [l0, l1, l2, some (.int x3), l4] [] F L Q else wt am_S0 d mX12_row 25 [l0, l1, l2, some (.int x3), l4] [] F L Q := (wt_iload_n dX12_row_19 rfl).trans ((wt_bipush dX12_row_20 (v := 60) (by decide)).trans (wt_if_icmp_le dX12_row_22 (t := 27) rfl))
set_option maxHeartbeats 100000 in
theorem kX12_row_25 {d : Nat} {F : am_FT} {L : am_LT} {Q : am_QT} {l0 l1 l2 l3 l4 : Option Value} : wt am_S0 d mX12_row 25 [l0, l1, l2, l3, l4] [] F L Q = Q (some (.int (-1))) F L := (wt_iconst dX12_row_25 (v := (-1)) (by decide)).trans (wt_ireturn dX12_row_26 rfl rfl)
set_option maxHeartbeats 100000 in
theorem kX12_row_27 {d : Nat} {F : am_FT} {L : am_LT} {Q : am_QT} {l0 l1 l2 l4 : Option Value} {x3 : Int32} : wt am_S0 d mX12_row 27 [l0, l1, l2, some (.int x3), l4] [] F L Q = if 0 ≤ x3 then wt am_S0 d mX12_row 34 [l0, l1, l2, some (.int x3), l4] [] F L Q else wt am_S0 d mX12_row 31 [l0, l1, l2, some (.int x3), l4] [] F L Q := (wt_iload_n dX12_row_27 rfl).trans (wt_ifCond_ge dX12_row_28 (t := 34) rfl)
set_option maxHeartbeats 100000 in
theorem kX12_row_31 {d : Nat} {F : am_FT} {L : am_LT} {Q : am_QT} {l0 l1 l2 l3 l4 : Option Value} : wt am_S0 d mX12_row 31 [l0, l1, l2, l3, l4] [] F L Q = Q (some (.int (-14))) F L := (wt_bipush dX12_row_31 (v := (-14)) (by decide)).trans (wt_ireturn dX12_row_33 rfl rfl)
set_option maxHeartbeats 100000 in
theorem kX12_row_34 {d : Nat} {F : am_FT} {L : am_LT} {Q : am_QT} {l4 : Option Value} {x1 x2 x3 : Int32} (h1 : am_oob x1 6 = false) : wt am_S0 d mX12_row 34 [some (.ref 45), some (.int x1), some (.int x2), some (.int x3), l4] [] F L Q = wt am_S0 d mX12_row 57 [some (.ref 45), some (.int x1), some (.int x2), some (.int x3), some (.int (60 * x1))] [] (am_upF (am_upF F 59 (Int32.toNatClampNeg x1) (50 + x2)) 60 (Int32.toNatClampNeg x1) x3) L Q := (wt_aload_n dX12_row_34 rfl rfl).trans ((wt_getfield dX12_row_35 rfl rfl (v := .ref 59) rfl).trans ((wt_iload_n dX12_row_38 rfl).trans ((wt_bipush dX12_row_39 (v := 50) (by decide)).trans ((wt_iload_n dX12_row_41 rfl).trans ((wt_iadd dX12_row_42).trans ((wt_iastore dX12_row_43 rfl h1).trans ((wt_aload_n dX12_row_44 rfl rfl).trans ((wt_getfield dX12_row_45 rfl rfl (v := .ref 60) rfl).trans ((wt_iload_n dX12_row_48 rfl).trans ((wt_iload_n dX12_row_49 rfl).trans ((wt_iastore dX12_row_50 rfl h1).trans ((wt_bipush dX12_row_51 (v := 60) (by decide)).trans ((wt_iload_n dX12_row_53 rfl).trans ((wt_imul dX12_row_54).trans (wt_istore dX12_row_55 (lv1 := [some (.ref 45), some (.int x1), some (.int x2), some (.int x3), some (.int (60 * x1))]) (Nat.le_of_ble_eq_true rfl) rfl)))))))))))))))
set_option maxHeartbeats 100000 in
theorem kX12_row_57 {d : Nat} {F : am_FT} {L : am_LT} {Q : am_QT} {l0 l2 l3 : Option Value} {x4 x1 : Int32} : wt am_S0 d mX12_row 57 [l0, some (.int x1), l2, l3, some (.int x4)] [] F L Q = if ((60 * x1) + 60) ≤ x4 then wt am_S0 d mX12_row 83 [l0, some (.int x1), l2, l3, some (.int x4)] [] F L Q else wt am_S0 d mX12_row 69 [l0, some (.int x1), l2, l3, some (.int x4)] [] F L Q := (wt_iload dX12_row_57 rfl).trans ((wt_bipush dX12_row_59 (v := 60) (by decide)).trans ((wt_iload_n dX12_row_61 rfl).trans ((wt_imul dX12_row_62).trans ((wt_bipush dX12_row_63 (v := 60) (by decide)).trans ((wt_iadd dX12_row_65).trans (wt_if_icmp_ge dX12_row_66 (t := 83) rfl))))))
set_option maxHeartbeats 100000 in
theorem kX12_row_69 {d : Nat} {F : am_FT} {L : am_LT} {Q : am_QT} {l1 l2 : Option Value} {x4 x3 : Int32} (h1 : am_oob x4 360 = false) : wt am_S0 d mX12_row 69 [some (.ref 45), l1, l2, some (.int x3), some (.int x4)] [] F L Q = wt am_S0 d mX12_row 57 [some (.ref 45), l1, l2, some (.int x3), some (.int (x4 + 1))] [] F (am_upL L 61 (Int32.toNatClampNeg x4) 0) Q := (wt_aload_n dX12_row_69 rfl rfl).trans ((wt_getfield dX12_row_70 rfl rfl (v := .ref 61) rfl).trans ((wt_iload dX12_row_73 rfl).trans ((wt_lconst dX12_row_75 (v := 0) (by decide)).trans ((wt_lastore dX12_row_76 rfl h1).trans ((wt_iinc dX12_row_77 (v := 1) (lv1 := [some (.ref 45), l1, l2, some (.int x3), some (.int (x4 + 1))]) rfl (Nat.le_of_ble_eq_true rfl) (by decide) rfl).trans (wt_goto dX12_row_80 (t := 57) rfl))))))
set_option maxHeartbeats 100000 in
theorem kX12_row_83 {d : Nat} {F : am_FT} {L : am_LT} {Q : am_QT} {l0 l1 l2 l3 l4 : Option Value} : wt am_S0 d mX12_row 83 [l0, l1, l2, l3, l4] [] F L Q = Q (some (.int 1)) F L := (wt_iconst dX12_row_83 (v := 1) (by decide)).trans (wt_ireturn dX12_row_84 rfl rfl)
theorem dX12_put_0 : decode mX12_put.2.2.1 0 = .ok (.aload_n 0, 1) := by decide +kernel
theorem dX12_put_1 : decode mX12_put.2.2.1 1 = .ok (.iload_n 1, 1) := by decide +kernel
theorem dX12_put_2 : decode mX12_put.2.2.1 2 = .ok (.iload_n 2, 1) := by decide +kernel
theorem dX12_put_3 : decode mX12_put.2.2.1 3 = .ok (.invokevirtual 317, 3) := by decide +kernel
theorem dX12_put_6 : decode mX12_put.2.2.1 6 = .ok (.istore 5, 2) := by decide +kernel
theorem dX12_put_8 : decode mX12_put.2.2.1 8 = .ok (.iload 5, 2) := by decide +kernel
theorem dX12_put_10 : decode mX12_put.2.2.1 10 = .ok (.ifCond .ne 27, 3) := by decide +kernel
theorem dX12_put_13 : decode mX12_put.2.2.1 13 = .ok (.aload_n 0, 1) := by decide +kernel
theorem dX12_put_14 : decode mX12_put.2.2.1 14 = .ok (.getfield 55, 3) := by decide +kernel
theorem dX12_put_17 : decode mX12_put.2.2.1 17 = .ok (.bipush 60, 2) := by decide +kernel
theorem dX12_put_19 : decode mX12_put.2.2.1 19 = .ok (.iload_n 1, 1) := by decide +kernel
theorem dX12_put_20 : decode mX12_put.2.2.1 20 = .ok (.imul, 1) := by decide +kernel
theorem dX12_put_21 : decode mX12_put.2.2.1 21 = .ok (.iload_n 2, 1) := by decide +kernel
theorem dX12_put_22 : decode mX12_put.2.2.1 22 = .ok (.iadd, 1) := by decide +kernel
theorem dX12_put_23 : decode mX12_put.2.2.1 23 = .ok (.aload_n 0, 1) := by decide +kernel
theorem dX12_put_24 : decode mX12_put.2.2.1 24 = .ok (.getfield 49, 3) := by decide +kernel
theorem dX12_put_27 : decode mX12_put.2.2.1 27 = .ok (.iload_n 1, 1) := by decide +kernel
theorem dX12_put_28 : decode mX12_put.2.2.1 28 = .ok (.iaload, 1) := by decide +kernel
theorem dX12_put_29 : decode mX12_put.2.2.1 29 = .ok (.bipush 50, 2) := by decide +kernel
theorem dX12_put_31 : decode mX12_put.2.2.1 31 = .ok (.isub, 1) := by decide +kernel
theorem dX12_put_32 : decode mX12_put.2.2.1 32 = .ok (.lload_n 3, 1) := by decide +kernel
theorem dX12_put_33 : decode mX12_put.2.2.1 33 = .ok (.invokestatic 320, 3) := by decide +kernel
theorem dX12_put_36 : decode mX12_put.2.2.1 36 = .ok (.lastore, 1) := by decide +kernel
theorem dX12_put_37 : decode mX12_put.2.2.1 37 = .ok (.iload 5, 2) := by decide +kernel
theorem dX12_put_39 : decode mX12_put.2.2.1 39 = .ok (.ifCond .ne 7, 3) := by decide +kernel
theorem dX12_put_42 : decode mX12_put.2.2.1 42 = .ok (.iconst 1, 1) := by decide +kernel
theorem dX12_put_43 : decode mX12_put.2.2.1 43 = .ok (.goto 5, 3) := by decide +kernel
theorem dX12_put_46 : decode mX12_put.2.2.1 46 = .ok (.iload 5, 2) := by decide +kernel
theorem dX12_put_48 : decode mX12_put.2.2.1 48 = .ok (.ireturn, 1) := by decide +kernel
set_option maxHeartbeats 100000 in
theorem kX12_put_0 {d : Nat} {F : am_FT} {L : am_LT} {Q : am_QT} {l3 l4 l5 : Option Value} {x1 x2 : Int32} : wt am_S0 (d + 1) mX12_put 0 [some (.ref 45), some (.int x1), some (.int x2), l3, l4, l5] [] F L Q = wc am_S0 d mX12_refusal [.ref 45, .int x1, .int x2] F L (fun r G K => wt am_S0 (d + 1) mX12_put 6 [some (.ref 45), some (.int x1), some (.int x2), l3, l4, l5] (r.toList ++ []) G K Q) := (wt_aload_n dX12_put_0 rfl rfl).trans ((wt_iload_n dX12_put_1 rfl).trans ((wt_iload_n dX12_put_2 rfl).trans (wt_callV dX12_put_3 rfl (as := [.int x1, .int x2]) (rest := []) rfl rfl (Nat.le_of_ble_eq_true rfl) rfl (Nat.le_of_ble_eq_true rfl))))
set_option maxHeartbeats 100000 in
theorem kX12_put_6 {d : Nat} {F : am_FT} {L : am_LT} {Q : am_QT} {l0 l1 l2 l3 l5 : Option Value} {s0 : Int32} : wt am_S0 d mX12_put 6 [l0, l1, l2, l3, none, l5] [.int s0] F L Q = if ¬ s0 = 0 then wt am_S0 d mX12_put 37 [l0, l1, l2, l3, none, some (.int s0)] [] F L Q else wt am_S0 d mX12_put 13 [l0, l1, l2, l3, none, some (.int s0)] [] F L Q := (wt_istore dX12_put_6 (lv1 := [l0, l1, l2, l3, none, some (.int s0)]) (Nat.le_of_ble_eq_true rfl) rfl).trans ((wt_iload dX12_put_8 rfl).trans (wt_ifCond_ne dX12_put_10 (t := 37) rfl))
set_option maxHeartbeats 100000 in
theorem kX12_put_13 {d : Nat} {F : am_FT} {L : am_LT} {Q : am_QT} {l4 l5 : Option Value} {x1 x2 : Int32} {x3 : Int64} (h1 : am_oob x1 6 = false) : wt am_S0 (d + 1) mX12_put 13 [some (.ref 45), some (.int x1), some (.int x2), some (.long x3), l4, l5] [] F L Q = wc am_S0 d mX12_asSort [.int ((F 59 (Int32.toNatClampNeg x1)) - 50), .long x3] F L (fun r G K => wt am_S0 (d + 1) mX12_put 36 [some (.ref 45), some (.int x1), some (.int x2), some (.long x3), l4, l5] (r.toList ++ [.int ((60 * x1) + x2), .ref 61]) G K Q) := (wt_aload_n dX12_put_13 rfl rfl).trans ((wt_getfield dX12_put_14 rfl rfl (v := .ref 61) rfl).trans ((wt_bipush dX12_put_17 (v := 60) (by decide)).trans ((wt_iload_n dX12_put_19 rfl).trans ((wt_imul dX12_put_20).trans ((wt_iload_n dX12_put_21 rfl).trans ((wt_iadd dX12_put_22).trans ((wt_aload_n dX12_put_23 rfl rfl).trans ((wt_getfield dX12_put_24 rfl rfl (v := .ref 59) rfl).trans ((wt_iload_n dX12_put_27 rfl).trans ((wt_iaload dX12_put_28 rfl (by decide) h1).trans ((wt_bipush dX12_put_29 (v := 50) (by decide)).trans ((wt_isub dX12_put_31).trans ((wt_lload_n dX12_put_32 rfl).trans (wt_callS dX12_put_33 rfl (as := [.int ((F 59 (Int32.toNatClampNeg x1)) - 50), .long x3]) (rest := [.int ((60 * x1) + x2), .ref 61]) rfl rfl (Nat.le_of_ble_eq_true rfl) (Nat.le_of_ble_eq_true rfl)))))))))))))))
set_option maxHeartbeats 100000 in
theorem kX12_put_36 {d : Nat} {F : am_FT} {L : am_LT} {Q : am_QT} {l0 l1 l2 l3 l4 l5 : Option Value} {s1 : Int32} {s2 : Int64} (h1 : am_oob s1 360 = false) : wt am_S0 d mX12_put 36 [l0, l1, l2, l3, l4, l5] [.long s2, .int s1, .ref 61] F L Q = wt am_S0 d mX12_put 37 [l0, l1, l2, l3, l4, l5] [] F (am_upL L 61 (Int32.toNatClampNeg s1) s2) Q := wt_lastore dX12_put_36 rfl h1
set_option maxHeartbeats 100000 in
theorem kX12_put_37 {d : Nat} {F : am_FT} {L : am_LT} {Q : am_QT} {l0 l1 l2 l3 l4 : Option Value} {x5 : Int32} : wt am_S0 d mX12_put 37 [l0, l1, l2, l3, l4, some (.int x5)] [] F L Q = if ¬ x5 = 0 then wt am_S0 d mX12_put 46 [l0, l1, l2, l3, l4, some (.int x5)] [] F L Q else wt am_S0 d mX12_put 42 [l0, l1, l2, l3, l4, some (.int x5)] [] F L Q := (wt_iload dX12_put_37 rfl).trans (wt_ifCond_ne dX12_put_39 (t := 46) rfl)
set_option maxHeartbeats 100000 in
theorem kX12_put_42 {d : Nat} {F : am_FT} {L : am_LT} {Q : am_QT} {l0 l1 l2 l3 l4 l5 : Option Value} : wt am_S0 d mX12_put 42 [l0, l1, l2, l3, l4, l5] [] F L Q = wt am_S0 d mX12_put 48 [l0, l1, l2, l3, l4, l5] [.int 1] F L Q := (wt_iconst dX12_put_42 (v := 1) (by decide)).trans (wt_goto dX12_put_43 (t := 48) rfl)
set_option maxHeartbeats 100000 in
theorem kX12_put_46 {d : Nat} {F : am_FT} {L : am_LT} {Q : am_QT} {l0 l1 l2 l3 l4 : Option Value} {x5 : Int32} : wt am_S0 d mX12_put 46 [l0, l1, l2, l3, l4, some (.int x5)] [] F L Q = wt am_S0 d mX12_put 48 [l0, l1, l2, l3, l4, some (.int x5)] [.int x5] F L Q := wt_iload dX12_put_46 rfl
set_option maxHeartbeats 100000 in
theorem kX12_put_48 {d : Nat} {F : am_FT} {L : am_LT} {Q : am_QT} {l0 l1 l2 l3 l4 l5 : Option Value} {s0 : Int32} : wt am_S0 d mX12_put 48 [l0, l1, l2, l3, l4, l5] [.int s0] F L Q = Q (some (.int s0)) F L := wt_ireturn dX12_put_48 rfl rfl
theorem dX12_refusal_0 : decode mX12_refusal.2.2.1 0 = .ok (.iload_n 1, 1) := by decide +kernel
theorem dX12_refusal_1 : decode mX12_refusal.2.2.1 1 = .ok (.invokestatic 107, 3) := by decide +kernel
theorem dX12_refusal_4 : decode mX12_refusal.2.2.1 4 = .ok (.ifCond .ne 5, 3) := by decide +kernel
theorem dX12_refusal_7 : decode mX12_refusal.2.2.1 7 = .ok (.iconst (-1), 1) := by decide +kernel
theorem dX12_refusal_8 : decode mX12_refusal.2.2.1 8 = .ok (.ireturn, 1) := by decide +kernel
theorem dX12_refusal_9 : decode mX12_refusal.2.2.1 9 = .ok (.aload_n 0, 1) := by decide +kernel
theorem dX12_refusal_10 : decode mX12_refusal.2.2.1 10 = .ok (.getfield 49, 3) := by decide +kernel
theorem dX12_refusal_13 : decode mX12_refusal.2.2.1 13 = .ok (.iload_n 1, 1) := by decide +kernel
theorem dX12_refusal_14 : decode mX12_refusal.2.2.1 14 = .ok (.iaload, 1) := by decide +kernel
theorem dX12_refusal_15 : decode mX12_refusal.2.2.1 15 = .ok (.ifCond .ge 6, 3) := by decide +kernel
theorem dX12_refusal_18 : decode mX12_refusal.2.2.1 18 = .ok (.bipush (-11), 2) := by decide +kernel
theorem dX12_refusal_20 : decode mX12_refusal.2.2.1 20 = .ok (.ireturn, 1) := by decide +kernel
theorem dX12_refusal_21 : decode mX12_refusal.2.2.1 21 = .ok (.aload_n 0, 1) := by decide +kernel
theorem dX12_refusal_22 : decode mX12_refusal.2.2.1 22 = .ok (.getfield 49, 3) := by decide +kernel
theorem dX12_refusal_25 : decode mX12_refusal.2.2.1 25 = .ok (.iload_n 1, 1) := by decide +kernel
theorem dX12_refusal_26 : decode mX12_refusal.2.2.1 26 = .ok (.iaload, 1) := by decide +kernel
theorem dX12_refusal_27 : decode mX12_refusal.2.2.1 27 = .ok (.bipush 50, 2) := by decide +kernel
theorem dX12_refusal_29 : decode mX12_refusal.2.2.1 29 = .ok (.if_icmp .ge 6, 3) := by decide +kernel
theorem dX12_refusal_32 : decode mX12_refusal.2.2.1 32 = .ok (.bipush (-12), 2) := by decide +kernel
theorem dX12_refusal_34 : decode mX12_refusal.2.2.1 34 = .ok (.ireturn, 1) := by decide +kernel
theorem dX12_refusal_35 : decode mX12_refusal.2.2.1 35 = .ok (.iload_n 2, 1) := by decide +kernel
theorem dX12_refusal_36 : decode mX12_refusal.2.2.1 36 = .ok (.ifCond .lt 17, 3) := by decide +kernel
theorem dX12_refusal_39 : decode mX12_refusal.2.2.1 39 = .ok (.iload_n 2, 1) := by decide +kernel
theorem dX12_refusal_40 : decode mX12_refusal.2.2.1 40 = .ok (.aload_n 0, 1) := by decide +kernel
theorem dX12_refusal_41 : decode mX12_refusal.2.2.1 41 = .ok (.getfield 52, 3) := by decide +kernel
theorem dX12_refusal_44 : decode mX12_refusal.2.2.1 44 = .ok (.iload_n 1, 1) := by decide +kernel
theorem dX12_refusal_45 : decode mX12_refusal.2.2.1 45 = .ok (.iaload, 1) := by decide +kernel
theorem dX12_refusal_46 : decode mX12_refusal.2.2.1 46 = .ok (.if_icmp .ge 7, 3) := by decide +kernel
theorem dX12_refusal_49 : decode mX12_refusal.2.2.1 49 = .ok (.iconst 0, 1) := by decide +kernel
theorem dX12_refusal_50 : decode mX12_refusal.2.2.1 50 = .ok (.goto 5, 3) := by decide +kernel
theorem dX12_refusal_53 : decode mX12_refusal.2.2.1 53 = .ok (.bipush (-13), 2) := by decide +kernel
theorem dX12_refusal_55 : decode mX12_refusal.2.2.1 55 = .ok (.ireturn, 1) := by decide +kernel
set_option maxHeartbeats 100000 in
theorem kX12_refusal_0 {d : Nat} {F : am_FT} {L : am_LT} {Q : am_QT} {l0 l2 : Option Value} {x1 : Int32} : wt am_S0 (d + 1) mX12_refusal 0 [l0, some (.int x1), l2] [] F L Q = wc am_S0 d mX12_isShelf [.int x1] F L (fun r G K => wt am_S0 (d + 1) mX12_refusal 4 [l0, some (.int x1), l2] (r.toList ++ []) G K Q) := (wt_iload_n dX12_refusal_0 rfl).trans (wt_callS dX12_refusal_1 rfl (as := [.int x1]) (rest := []) rfl rfl (Nat.le_of_ble_eq_true rfl) (Nat.le_of_ble_eq_true rfl))
set_option maxHeartbeats 100000 in
theorem kX12_refusal_4 {d : Nat} {F : am_FT} {L : am_LT} {Q : am_QT} {l0 l1 l2 : Option Value} {s0 : Int32} : wt am_S0 d mX12_refusal 4 [l0, l1, l2] [.int s0] F L Q = if ¬ s0 = 0 then wt am_S0 d mX12_refusal 9 [l0, l1, l2] [] F L Q else wt am_S0 d mX12_refusal 7 [l0, l1, l2] [] F L Q := wt_ifCond_ne dX12_refusal_4 (t := 9) rfl
set_option maxHeartbeats 100000 in
theorem kX12_refusal_7 {d : Nat} {F : am_FT} {L : am_LT} {Q : am_QT} {l0 l1 l2 : Option Value} : wt am_S0 d mX12_refusal 7 [l0, l1, l2] [] F L Q = Q (some (.int (-1))) F L := (wt_iconst dX12_refusal_7 (v := (-1)) (by decide)).trans (wt_ireturn dX12_refusal_8 rfl rfl)
set_option maxHeartbeats 100000 in
theorem kX12_refusal_9 {d : Nat} {F : am_FT} {L : am_LT} {Q : am_QT} {l2 : Option Value} {x1 : Int32} (h1 : am_oob x1 6 = false) : wt am_S0 d mX12_refusal 9 [some (.ref 45), some (.int x1), l2] [] F L Q = if 0 ≤ (F 59 (Int32.toNatClampNeg x1)) then wt am_S0 d mX12_refusal 21 [some (.ref 45), some (.int x1), l2] [] F L Q else wt am_S0 d mX12_refusal 18 [some (.ref 45), some (.int x1), l2] [] F L Q := (wt_aload_n dX12_refusal_9 rfl rfl).trans ((wt_getfield dX12_refusal_10 rfl rfl (v := .ref 59) rfl).trans ((wt_iload_n dX12_refusal_13 rfl).trans ((wt_iaload dX12_refusal_14 rfl (by decide) h1).trans (wt_ifCond_ge dX12_refusal_15 (t := 21) rfl))))
set_option maxHeartbeats 100000 in
theorem kX12_refusal_18 {d : Nat} {F : am_FT} {L : am_LT} {Q : am_QT} {l0 l1 l2 : Option Value} : wt am_S0 d mX12_refusal 18 [l0, l1, l2] [] F L Q = Q (some (.int (-11))) F L := (wt_bipush dX12_refusal_18 (v := (-11)) (by decide)).trans (wt_ireturn dX12_refusal_20 rfl rfl)
set_option maxHeartbeats 100000 in
theorem kX12_refusal_21 {d : Nat} {F : am_FT} {L : am_LT} {Q : am_QT} {l2 : Option Value} {x1 : Int32} (h1 : am_oob x1 6 = false) : wt am_S0 d mX12_refusal 21 [some (.ref 45), some (.int x1), l2] [] F L Q = if 50 ≤ (F 59 (Int32.toNatClampNeg x1)) then wt am_S0 d mX12_refusal 35 [some (.ref 45), some (.int x1), l2] [] F L Q else wt am_S0 d mX12_refusal 32 [some (.ref 45), some (.int x1), l2] [] F L Q := (wt_aload_n dX12_refusal_21 rfl rfl).trans ((wt_getfield dX12_refusal_22 rfl rfl (v := .ref 59) rfl).trans ((wt_iload_n dX12_refusal_25 rfl).trans ((wt_iaload dX12_refusal_26 rfl (by decide) h1).trans ((wt_bipush dX12_refusal_27 (v := 50) (by decide)).trans (wt_if_icmp_ge dX12_refusal_29 (t := 35) rfl)))))
set_option maxHeartbeats 100000 in
theorem kX12_refusal_32 {d : Nat} {F : am_FT} {L : am_LT} {Q : am_QT} {l0 l1 l2 : Option Value} : wt am_S0 d mX12_refusal 32 [l0, l1, l2] [] F L Q = Q (some (.int (-12))) F L := (wt_bipush dX12_refusal_32 (v := (-12)) (by decide)).trans (wt_ireturn dX12_refusal_34 rfl rfl)
set_option maxHeartbeats 100000 in
theorem kX12_refusal_35 {d : Nat} {F : am_FT} {L : am_LT} {Q : am_QT} {l0 l1 : Option Value} {x2 : Int32} : wt am_S0 d mX12_refusal 35 [l0, l1, some (.int x2)] [] F L Q = if x2 < 0 then wt am_S0 d mX12_refusal 53 [l0, l1, some (.int x2)] [] F L Q else wt am_S0 d mX12_refusal 39 [l0, l1, some (.int x2)] [] F L Q := (wt_iload_n dX12_refusal_35 rfl).trans (wt_ifCond_lt dX12_refusal_36 (t := 53) rfl)
set_option maxHeartbeats 100000 in
theorem kX12_refusal_39 {d : Nat} {F : am_FT} {L : am_LT} {Q : am_QT} {x2 x1 : Int32} (h1 : am_oob x1 6 = false) : wt am_S0 d mX12_refusal 39 [some (.ref 45), some (.int x1), some (.int x2)] [] F L Q = if (F 60 (Int32.toNatClampNeg x1)) ≤ x2 then wt am_S0 d mX12_refusal 53 [some (.ref 45), some (.int x1), some (.int x2)] [] F L Q else wt am_S0 d mX12_refusal 49 [some (.ref 45), some (.int x1), some (.int x2)] [] F L Q := (wt_iload_n dX12_refusal_39 rfl).trans ((wt_aload_n dX12_refusal_40 rfl rfl).trans ((wt_getfield dX12_refusal_41 rfl rfl (v := .ref 60) rfl).trans ((wt_iload_n dX12_refusal_44 rfl).trans ((wt_iaload dX12_refusal_45 rfl (by decide) h1).trans (wt_if_icmp_ge dX12_refusal_46 (t := 53) rfl)))))
set_option maxHeartbeats 100000 in
theorem kX12_refusal_49 {d : Nat} {F : am_FT} {L : am_LT} {Q : am_QT} {l0 l1 l2 : Option Value} : wt am_S0 d mX12_refusal 49 [l0, l1, l2] [] F L Q = wt am_S0 d mX12_refusal 55 [l0, l1, l2] [.int 0] F L Q := (wt_iconst dX12_refusal_49 (v := 0) (by decide)).trans (wt_goto dX12_refusal_50 (t := 55) rfl)
set_option maxHeartbeats 100000 in
theorem kX12_refusal_53 {d : Nat} {F : am_FT} {L : am_LT} {Q : am_QT} {l0 l1 l2 : Option Value} : wt am_S0 d mX12_refusal 53 [l0, l1, l2] [] F L Q = wt am_S0 d mX12_refusal 55 [l0, l1, l2] [.int (-13)] F L Q := wt_bipush dX12_refusal_53 (v := (-13)) (by decide)
set_option maxHeartbeats 100000 in
theorem kX12_refusal_55 {d : Nat} {F : am_FT} {L : am_LT} {Q : am_QT} {l0 l1 l2 : Option Value} {s0 : Int32} : wt am_S0 d mX12_refusal 55 [l0, l1, l2] [.int s0] F L Q = Q (some (.int s0)) F L := wt_ireturn dX12_refusal_55 rfl rfl
theorem dX12_asSort_0 : decode mX12_asSort.2.2.1 0 = .ok (.iload_n 0, 1) := by decide +kernel
theorem dX12_asSort_1 : decode mX12_asSort.2.2.1 1 = .ok (.ifCond .ne 10, 3) := by decide +kernel
theorem dX12_asSort_4 : decode mX12_asSort.2.2.1 4 = .ok (.lload_n 1, 1) := by decide +kernel
theorem dX12_asSort_5 : decode mX12_asSort.2.2.1 5 = .ok (.l2i, 1) := by decide +kernel
theorem dX12_asSort_6 : decode mX12_asSort.2.2.1 6 = .ok (.i2b, 1) := by decide +kernel
theorem dX12_asSort_7 : decode mX12_asSort.2.2.1 7 = .ok (.i2l, 1) := by decide +kernel
theorem dX12_asSort_8 : decode mX12_asSort.2.2.1 8 = .ok (.goto 46, 3) := by decide +kernel
theorem dX12_asSort_11 : decode mX12_asSort.2.2.1 11 = .ok (.iload_n 0, 1) := by decide +kernel
theorem dX12_asSort_12 : decode mX12_asSort.2.2.1 12 = .ok (.iconst 1, 1) := by decide +kernel
theorem dX12_asSort_13 : decode mX12_asSort.2.2.1 13 = .ok (.if_icmp .ne 10, 3) := by decide +kernel
theorem dX12_asSort_16 : decode mX12_asSort.2.2.1 16 = .ok (.lload_n 1, 1) := by decide +kernel
theorem dX12_asSort_17 : decode mX12_asSort.2.2.1 17 = .ok (.l2i, 1) := by decide +kernel
theorem dX12_asSort_18 : decode mX12_asSort.2.2.1 18 = .ok (.i2s, 1) := by decide +kernel
theorem dX12_asSort_19 : decode mX12_asSort.2.2.1 19 = .ok (.i2l, 1) := by decide +kernel
theorem dX12_asSort_20 : decode mX12_asSort.2.2.1 20 = .ok (.goto 34, 3) := by decide +kernel
theorem dX12_asSort_23 : decode mX12_asSort.2.2.1 23 = .ok (.iload_n 0, 1) := by decide +kernel
theorem dX12_asSort_24 : decode mX12_asSort.2.2.1 24 = .ok (.iconst 2, 1) := by decide +kernel
theorem dX12_asSort_25 : decode mX12_asSort.2.2.1 25 = .ok (.if_icmp .ne 9, 3) := by decide +kernel
theorem dX12_asSort_28 : decode mX12_asSort.2.2.1 28 = .ok (.lload_n 1, 1) := by decide +kernel
theorem dX12_asSort_29 : decode mX12_asSort.2.2.1 29 = .ok (.l2i, 1) := by decide +kernel
theorem dX12_asSort_30 : decode mX12_asSort.2.2.1 30 = .ok (.i2l, 1) := by decide +kernel
theorem dX12_asSort_31 : decode mX12_asSort.2.2.1 31 = .ok (.goto 23, 3) := by decide +kernel
theorem dX12_asSort_34 : decode mX12_asSort.2.2.1 34 = .ok (.iload_n 0, 1) := by decide +kernel
theorem dX12_asSort_35 : decode mX12_asSort.2.2.1 35 = .ok (.iconst 4, 1) := by decide +kernel
theorem dX12_asSort_36 : decode mX12_asSort.2.2.1 36 = .ok (.if_icmp .ne 17, 3) := by decide +kernel
theorem dX12_asSort_39 : decode mX12_asSort.2.2.1 39 = .ok (.lload_n 1, 1) := by decide +kernel
theorem dX12_asSort_40 : decode mX12_asSort.2.2.1 40 = .ok (.lconst 0, 1) := by decide +kernel
theorem dX12_asSort_41 : decode mX12_asSort.2.2.1 41 = .ok (.lcmp, 1) := by decide +kernel
theorem dX12_asSort_42 : decode mX12_asSort.2.2.1 42 = .ok (.ifCond .eq 7, 3) := by decide +kernel
theorem dX12_asSort_45 : decode mX12_asSort.2.2.1 45 = .ok (.lconst 1, 1) := by decide +kernel
theorem dX12_asSort_46 : decode mX12_asSort.2.2.1 46 = .ok (.goto 8, 3) := by decide +kernel
theorem dX12_asSort_49 : decode mX12_asSort.2.2.1 49 = .ok (.lconst 0, 1) := by decide +kernel
theorem dX12_asSort_50 : decode mX12_asSort.2.2.1 50 = .ok (.goto 4, 3) := by decide +kernel
theorem dX12_asSort_53 : decode mX12_asSort.2.2.1 53 = .ok (.lload_n 1, 1) := by decide +kernel
theorem dX12_asSort_54 : decode mX12_asSort.2.2.1 54 = .ok (.lreturn, 1) := by decide +kernel
set_option maxHeartbeats 100000 in
theorem kX12_asSort_0 {d : Nat} {F : am_FT} {L : am_LT} {Q : am_QT} {l1 l2 : Option Value} {x0 : Int32} : wt am_S0 d mX12_asSort 0 [some (.int x0), l1, l2] [] F L Q = if ¬ x0 = 0 then wt am_S0 d mX12_asSort 11 [some (.int x0), l1, l2] [] F L Q else wt am_S0 d mX12_asSort 4 [some (.int x0), l1, l2] [] F L Q := (wt_iload_n dX12_asSort_0 rfl).trans (wt_ifCond_ne dX12_asSort_1 (t := 11) rfl)
set_option maxHeartbeats 100000 in
theorem kX12_asSort_4 {d : Nat} {F : am_FT} {L : am_LT} {Q : am_QT} {l0 l2 : Option Value} {x1 : Int64} : wt am_S0 d mX12_asSort 4 [l0, some (.long x1), l2] [] F L Q = wt am_S0 d mX12_asSort 54 [l0, some (.long x1), l2] [.long (Int32.toInt64 ((Int32.toInt8 (Int64.toInt32 x1)).toInt32))] F L Q := (wt_lload_n dX12_asSort_4 rfl).trans ((wt_l2i dX12_asSort_5).trans ((wt_i2b dX12_asSort_6).trans ((wt_i2l dX12_asSort_7).trans (wt_goto dX12_asSort_8 (t := 54) rfl))))
set_option maxHeartbeats 100000 in
theorem kX12_asSort_11 {d : Nat} {F : am_FT} {L : am_LT} {Q : am_QT} {l1 l2 : Option Value} {x0 : Int32} : wt am_S0 d mX12_asSort 11 [some (.int x0), l1, l2] [] F L Q = if ¬ x0 = 1 then wt am_S0 d mX12_asSort 23 [some (.int x0), l1, l2] [] F L Q else wt am_S0 d mX12_asSort 16 [some (.int x0), l1, l2] [] F L Q := (wt_iload_n dX12_asSort_11 rfl).trans ((wt_iconst dX12_asSort_12 (v := 1) (by decide)).trans (wt_if_icmp_ne dX12_asSort_13 (t := 23) rfl))
set_option maxHeartbeats 100000 in
theorem kX12_asSort_16 {d : Nat} {F : am_FT} {L : am_LT} {Q : am_QT} {l0 l2 : Option Value} {x1 : Int64} : wt am_S0 d mX12_asSort 16 [l0, some (.long x1), l2] [] F L Q = wt am_S0 d mX12_asSort 54 [l0, some (.long x1), l2] [.long (Int32.toInt64 ((Int32.toInt16 (Int64.toInt32 x1)).toInt32))] F L Q := (wt_lload_n dX12_asSort_16 rfl).trans ((wt_l2i dX12_asSort_17).trans ((wt_i2s dX12_asSort_18).trans ((wt_i2l dX12_asSort_19).trans (wt_goto dX12_asSort_20 (t := 54) rfl))))
set_option maxHeartbeats 100000 in
theorem kX12_asSort_23 {d : Nat} {F : am_FT} {L : am_LT} {Q : am_QT} {l1 l2 : Option Value} {x0 : Int32} : wt am_S0 d mX12_asSort 23 [some (.int x0), l1, l2] [] F L Q = if ¬ x0 = 2 then wt am_S0 d mX12_asSort 34 [some (.int x0), l1, l2] [] F L Q else wt am_S0 d mX12_asSort 28 [some (.int x0), l1, l2] [] F L Q := (wt_iload_n dX12_asSort_23 rfl).trans ((wt_iconst dX12_asSort_24 (v := 2) (by decide)).trans (wt_if_icmp_ne dX12_asSort_25 (t := 34) rfl))
set_option maxHeartbeats 100000 in
theorem kX12_asSort_28 {d : Nat} {F : am_FT} {L : am_LT} {Q : am_QT} {l0 l2 : Option Value} {x1 : Int64} : wt am_S0 d mX12_asSort 28 [l0, some (.long x1), l2] [] F L Q = wt am_S0 d mX12_asSort 54 [l0, some (.long x1), l2] [.long (Int32.toInt64 (Int64.toInt32 x1))] F L Q := (wt_lload_n dX12_asSort_28 rfl).trans ((wt_l2i dX12_asSort_29).trans ((wt_i2l dX12_asSort_30).trans (wt_goto dX12_asSort_31 (t := 54) rfl)))
set_option maxHeartbeats 100000 in
theorem kX12_asSort_34 {d : Nat} {F : am_FT} {L : am_LT} {Q : am_QT} {l1 l2 : Option Value} {x0 : Int32} : wt am_S0 d mX12_asSort 34 [some (.int x0), l1, l2] [] F L Q = if ¬ x0 = 4 then wt am_S0 d mX12_asSort 53 [some (.int x0), l1, l2] [] F L Q else wt am_S0 d mX12_asSort 39 [some (.int x0), l1, l2] [] F L Q := (wt_iload_n dX12_asSort_34 rfl).trans ((wt_iconst dX12_asSort_35 (v := 4) (by decide)).trans (wt_if_icmp_ne dX12_asSort_36 (t := 53) rfl))
set_option maxHeartbeats 100000 in
theorem kX12_asSort_39 {d : Nat} {F : am_FT} {L : am_LT} {Q : am_QT} {l0 l2 : Option Value} {x1 : Int64} : wt am_S0 d mX12_asSort 39 [l0, some (.long x1), l2] [] F L Q = if (lg_cmp x1 0) = 0 then wt am_S0 d mX12_asSort 49 [l0, some (.long x1), l2] [] F L Q else wt am_S0 d mX12_asSort 45 [l0, some (.long x1), l2] [] F L Q := (wt_lload_n dX12_asSort_39 rfl).trans ((wt_lconst dX12_asSort_40 (v := 0) (by decide)).trans ((wt_lcmp dX12_asSort_41).trans (wt_ifCond_eq dX12_asSort_42 (t := 49) rfl)))
set_option maxHeartbeats 100000 in
theorem kX12_asSort_45 {d : Nat} {F : am_FT} {L : am_LT} {Q : am_QT} {l0 l1 l2 : Option Value} : wt am_S0 d mX12_asSort 45 [l0, l1, l2] [] F L Q = wt am_S0 d mX12_asSort 54 [l0, l1, l2] [.long 1] F L Q := (wt_lconst dX12_asSort_45 (v := 1) (by decide)).trans (wt_goto dX12_asSort_46 (t := 54) rfl)
set_option maxHeartbeats 100000 in
theorem kX12_asSort_49 {d : Nat} {F : am_FT} {L : am_LT} {Q : am_QT} {l0 l1 l2 : Option Value} : wt am_S0 d mX12_asSort 49 [l0, l1, l2] [] F L Q = wt am_S0 d mX12_asSort 54 [l0, l1, l2] [.long 0] F L Q := (wt_lconst dX12_asSort_49 (v := 0) (by decide)).trans (wt_goto dX12_asSort_50 (t := 54) rfl)
set_option maxHeartbeats 100000 in
theorem kX12_asSort_53 {d : Nat} {F : am_FT} {L : am_LT} {Q : am_QT} {l0 l2 : Option Value} {x1 : Int64} : wt am_S0 d mX12_asSort 53 [l0, some (.long x1), l2] [] F L Q = wt am_S0 d mX12_asSort 54 [l0, some (.long x1), l2] [.long x1] F L Q := wt_lload_n dX12_asSort_53 rfl
set_option maxHeartbeats 100000 in
theorem kX12_asSort_54 {d : Nat} {F : am_FT} {L : am_LT} {Q : am_QT} {l0 l1 l2 : Option Value} {s0 : Int64} : wt am_S0 d mX12_asSort 54 [l0, l1, l2] [.long s0] F L Q = Q (some (.long s0)) F L := wt_lreturn dX12_asSort_54 rfl
theorem dX12_element_0 : decode mX12_element.2.2.1 0 = .ok (.aload_n 0, 1) := by decide +kernel
theorem dX12_element_1 : decode mX12_element.2.2.1 1 = .ok (.iload_n 1, 1) := by decide +kernel
theorem dX12_element_2 : decode mX12_element.2.2.1 2 = .ok (.iload_n 2, 1) := by decide +kernel
theorem dX12_element_3 : decode mX12_element.2.2.1 3 = .ok (.invokevirtual 317, 3) := by decide +kernel
theorem dX12_element_6 : decode mX12_element.2.2.1 6 = .ok (.ifCond .eq 9, 3) := by decide +kernel
theorem dX12_element_9 : decode mX12_element.2.2.1 9 = .ok (.ldc2_w 236, 3) := by decide +kernel
theorem dX12_element_12 : decode mX12_element.2.2.1 12 = .ok (.goto 14, 3) := by decide +kernel
theorem dX12_element_15 : decode mX12_element.2.2.1 15 = .ok (.aload_n 0, 1) := by decide +kernel
theorem dX12_element_16 : decode mX12_element.2.2.1 16 = .ok (.getfield 55, 3) := by decide +kernel
theorem dX12_element_19 : decode mX12_element.2.2.1 19 = .ok (.bipush 60, 2) := by decide +kernel
theorem dX12_element_21 : decode mX12_element.2.2.1 21 = .ok (.iload_n 1, 1) := by decide +kernel
theorem dX12_element_22 : decode mX12_element.2.2.1 22 = .ok (.imul, 1) := by decide +kernel
theorem dX12_element_23 : decode mX12_element.2.2.1 23 = .ok (.iload_n 2, 1) := by decide +kernel
theorem dX12_element_24 : decode mX12_element.2.2.1 24 = .ok (.iadd, 1) := by decide +kernel
theorem dX12_element_25 : decode mX12_element.2.2.1 25 = .ok (.laload, 1) := by decide +kernel
theorem dX12_element_26 : decode mX12_element.2.2.1 26 = .ok (.lreturn, 1) := by decide +kernel
set_option maxHeartbeats 100000 in
theorem kX12_element_0 {d : Nat} {F : am_FT} {L : am_LT} {Q : am_QT} {x1 x2 : Int32} : wt am_S0 (d + 1) mX12_element 0 [some (.ref 45), some (.int x1), some (.int x2)] [] F L Q = wc am_S0 d mX12_refusal [.ref 45, .int x1, .int x2] F L (fun r G K => wt am_S0 (d + 1) mX12_element 6 [some (.ref 45), some (.int x1), some (.int x2)] (r.toList ++ []) G K Q) := (wt_aload_n dX12_element_0 rfl rfl).trans ((wt_iload_n dX12_element_1 rfl).trans ((wt_iload_n dX12_element_2 rfl).trans (wt_callV dX12_element_3 rfl (as := [.int x1, .int x2]) (rest := []) rfl rfl (Nat.le_of_ble_eq_true rfl) rfl (Nat.le_of_ble_eq_true rfl))))
set_option maxHeartbeats 100000 in
theorem kX12_element_6 {d : Nat} {F : am_FT} {L : am_LT} {Q : am_QT} {l0 l1 l2 : Option Value} {s0 : Int32} : wt am_S0 d mX12_element 6 [l0, l1, l2] [.int s0] F L Q = if s0 = 0 then wt am_S0 d mX12_element 15 [l0, l1, l2] [] F L Q else wt am_S0 d mX12_element 9 [l0, l1, l2] [] F L Q := wt_ifCond_eq dX12_element_6 (t := 15) rfl
set_option maxHeartbeats 100000 in
theorem kX12_element_9 {d : Nat} {F : am_FT} {L : am_LT} {Q : am_QT} {l0 l1 l2 : Option Value} : wt am_S0 d mX12_element 9 [l0, l1, l2] [] F L Q = wt am_S0 d mX12_element 26 [l0, l1, l2] [.long (-9223372036854775808)] F L Q := (wt_ldc2_w dX12_element_9 (v := -9223372036854775808) rfl).trans (wt_goto dX12_element_12 (t := 26) rfl)
set_option maxHeartbeats 100000 in
theorem kX12_element_15 {d : Nat} {F : am_FT} {L : am_LT} {Q : am_QT} {x1 x2 : Int32} (h1 : am_oob ((60 * x1) + x2) 360 = false) : wt am_S0 d mX12_element 15 [some (.ref 45), some (.int x1), some (.int x2)] [] F L Q = wt am_S0 d mX12_element 26 [some (.ref 45), some (.int x1), some (.int x2)] [.long (L 61 (Int32.toNatClampNeg ((60 * x1) + x2)))] F L Q := (wt_aload_n dX12_element_15 rfl rfl).trans ((wt_getfield dX12_element_16 rfl rfl (v := .ref 61) rfl).trans ((wt_bipush dX12_element_19 (v := 60) (by decide)).trans ((wt_iload_n dX12_element_21 rfl).trans ((wt_imul dX12_element_22).trans ((wt_iload_n dX12_element_23 rfl).trans ((wt_iadd dX12_element_24).trans (wt_laload dX12_element_25 rfl h1)))))))
set_option maxHeartbeats 100000 in
theorem kX12_element_26 {d : Nat} {F : am_FT} {L : am_LT} {Q : am_QT} {l0 l1 l2 : Option Value} {s0 : Int64} : wt am_S0 d mX12_element 26 [l0, l1, l2] [.long s0] F L Q = Q (some (.long s0)) F L := wt_lreturn dX12_element_26 rfl
theorem dX12_shift_0 : decode mX12_shift.2.2.1 0 = .ok (.iload_n 1, 1) := by decide +kernel
theorem dX12_shift_1 : decode mX12_shift.2.2.1 1 = .ok (.invokestatic 107, 3) := by decide +kernel
theorem dX12_shift_4 : decode mX12_shift.2.2.1 4 = .ok (.ifCond .eq 10, 3) := by decide +kernel
theorem dX12_shift_7 : decode mX12_shift.2.2.1 7 = .ok (.iload_n 3, 1) := by decide +kernel
theorem dX12_shift_8 : decode mX12_shift.2.2.1 8 = .ok (.invokestatic 107, 3) := by decide +kernel
theorem dX12_shift_11 : decode mX12_shift.2.2.1 11 = .ok (.ifCond .ne 5, 3) := by decide +kernel
theorem dX12_shift_14 : decode mX12_shift.2.2.1 14 = .ok (.iconst (-1), 1) := by decide +kernel
theorem dX12_shift_15 : decode mX12_shift.2.2.1 15 = .ok (.ireturn, 1) := by decide +kernel
theorem dX12_shift_16 : decode mX12_shift.2.2.1 16 = .ok (.aload_n 0, 1) := by decide +kernel
theorem dX12_shift_17 : decode mX12_shift.2.2.1 17 = .ok (.getfield 49, 3) := by decide +kernel
theorem dX12_shift_20 : decode mX12_shift.2.2.1 20 = .ok (.iload_n 1, 1) := by decide +kernel
theorem dX12_shift_21 : decode mX12_shift.2.2.1 21 = .ok (.iaload, 1) := by decide +kernel
theorem dX12_shift_22 : decode mX12_shift.2.2.1 22 = .ok (.ifCond .lt 12, 3) := by decide +kernel
theorem dX12_shift_25 : decode mX12_shift.2.2.1 25 = .ok (.aload_n 0, 1) := by decide +kernel
theorem dX12_shift_26 : decode mX12_shift.2.2.1 26 = .ok (.getfield 49, 3) := by decide +kernel
theorem dX12_shift_29 : decode mX12_shift.2.2.1 29 = .ok (.iload_n 3, 1) := by decide +kernel
theorem dX12_shift_30 : decode mX12_shift.2.2.1 30 = .ok (.iaload, 1) := by decide +kernel
theorem dX12_shift_31 : decode mX12_shift.2.2.1 31 = .ok (.ifCond .ge 6, 3) := by decide +kernel
theorem dX12_shift_34 : decode mX12_shift.2.2.1 34 = .ok (.bipush (-11), 2) := by decide +kernel
theorem dX12_shift_36 : decode mX12_shift.2.2.1 36 = .ok (.ireturn, 1) := by decide +kernel
theorem dX12_shift_37 : decode mX12_shift.2.2.1 37 = .ok (.aload_n 0, 1) := by decide +kernel
theorem dX12_shift_38 : decode mX12_shift.2.2.1 38 = .ok (.getfield 49, 3) := by decide +kernel
theorem dX12_shift_41 : decode mX12_shift.2.2.1 41 = .ok (.iload_n 1, 1) := by decide +kernel
theorem dX12_shift_42 : decode mX12_shift.2.2.1 42 = .ok (.iaload, 1) := by decide +kernel
theorem dX12_shift_43 : decode mX12_shift.2.2.1 43 = .ok (.bipush 50, 2) := by decide +kernel
theorem dX12_shift_45 : decode mX12_shift.2.2.1 45 = .ok (.if_icmp .lt 18, 3) := by decide +kernel
theorem dX12_shift_48 : decode mX12_shift.2.2.1 48 = .ok (.aload_n 0, 1) := by decide +kernel
theorem dX12_shift_49 : decode mX12_shift.2.2.1 49 = .ok (.getfield 49, 3) := by decide +kernel
theorem dX12_shift_52 : decode mX12_shift.2.2.1 52 = .ok (.iload_n 1, 1) := by decide +kernel
theorem dX12_shift_53 : decode mX12_shift.2.2.1 53 = .ok (.iaload, 1) := by decide +kernel
theorem dX12_shift_54 : decode mX12_shift.2.2.1 54 = .ok (.aload_n 0, 1) := by decide +kernel
theorem dX12_shift_55 : decode mX12_shift.2.2.1 55 = .ok (.getfield 49, 3) := by decide +kernel
theorem dX12_shift_58 : decode mX12_shift.2.2.1 58 = .ok (.iload_n 3, 1) := by decide +kernel
theorem dX12_shift_59 : decode mX12_shift.2.2.1 59 = .ok (.iaload, 1) := by decide +kernel
theorem dX12_shift_60 : decode mX12_shift.2.2.1 60 = .ok (.if_icmp .eq 6, 3) := by decide +kernel
theorem dX12_shift_63 : decode mX12_shift.2.2.1 63 = .ok (.bipush (-12), 2) := by decide +kernel
theorem dX12_shift_65 : decode mX12_shift.2.2.1 65 = .ok (.ireturn, 1) := by decide +kernel
theorem dX12_shift_66 : decode mX12_shift.2.2.1 66 = .ok (.iload 5, 2) := by decide +kernel
theorem dX12_shift_68 : decode mX12_shift.2.2.1 68 = .ok (.ifCond .lt 39, 3) := by decide +kernel
theorem dX12_shift_71 : decode mX12_shift.2.2.1 71 = .ok (.iload_n 2, 1) := by decide +kernel
theorem dX12_shift_72 : decode mX12_shift.2.2.1 72 = .ok (.ifCond .lt 35, 3) := by decide +kernel
theorem dX12_shift_75 : decode mX12_shift.2.2.1 75 = .ok (.iload 4, 2) := by decide +kernel
theorem dX12_shift_77 : decode mX12_shift.2.2.1 77 = .ok (.ifCond .lt 30, 3) := by decide +kernel
theorem dX12_shift_80 : decode mX12_shift.2.2.1 80 = .ok (.iload_n 2, 1) := by decide +kernel
theorem dX12_shift_81 : decode mX12_shift.2.2.1 81 = .ok (.aload_n 0, 1) := by decide +kernel
theorem dX12_shift_82 : decode mX12_shift.2.2.1 82 = .ok (.getfield 52, 3) := by decide +kernel
theorem dX12_shift_85 : decode mX12_shift.2.2.1 85 = .ok (.iload_n 1, 1) := by decide +kernel
theorem dX12_shift_86 : decode mX12_shift.2.2.1 86 = .ok (.iaload, 1) := by decide +kernel
theorem dX12_shift_87 : decode mX12_shift.2.2.1 87 = .ok (.iload 5, 2) := by decide +kernel
theorem dX12_shift_89 : decode mX12_shift.2.2.1 89 = .ok (.isub, 1) := by decide +kernel
theorem dX12_shift_90 : decode mX12_shift.2.2.1 90 = .ok (.if_icmp .gt 17, 3) := by decide +kernel
theorem dX12_shift_93 : decode mX12_shift.2.2.1 93 = .ok (.iload 4, 2) := by decide +kernel
theorem dX12_shift_95 : decode mX12_shift.2.2.1 95 = .ok (.aload_n 0, 1) := by decide +kernel
theorem dX12_shift_96 : decode mX12_shift.2.2.1 96 = .ok (.getfield 52, 3) := by decide +kernel
theorem dX12_shift_99 : decode mX12_shift.2.2.1 99 = .ok (.iload_n 3, 1) := by decide +kernel
theorem dX12_shift_100 : decode mX12_shift.2.2.1 100 = .ok (.iaload, 1) := by decide +kernel
theorem dX12_shift_101 : decode mX12_shift.2.2.1 101 = .ok (.iload 5, 2) := by decide +kernel
theorem dX12_shift_103 : decode mX12_shift.2.2.1 103 = .ok (.isub, 1) := by decide +kernel
theorem dX12_shift_104 : decode mX12_shift.2.2.1 104 = .ok (.if_icmp .le 6, 3) := by decide +kernel
theorem dX12_shift_107 : decode mX12_shift.2.2.1 107 = .ok (.bipush (-13), 2) := by decide +kernel
theorem dX12_shift_109 : decode mX12_shift.2.2.1 109 = .ok (.ireturn, 1) := by decide +kernel
theorem dX12_shift_110 : decode mX12_shift.2.2.1 110 = .ok (.iconst 0, 1) := by decide +kernel
theorem dX12_shift_111 : decode mX12_shift.2.2.1 111 = .ok (.istore 6, 2) := by decide +kernel
theorem dX12_shift_113 : decode mX12_shift.2.2.1 113 = .ok (.iload 6, 2) := by decide +kernel
theorem dX12_shift_115 : decode mX12_shift.2.2.1 115 = .ok (.iload 5, 2) := by decide +kernel
theorem dX12_shift_117 : decode mX12_shift.2.2.1 117 = .ok (.if_icmp .ge 30, 3) := by decide +kernel
theorem dX12_shift_120 : decode mX12_shift.2.2.1 120 = .ok (.aload_n 0, 1) := by decide +kernel
theorem dX12_shift_121 : decode mX12_shift.2.2.1 121 = .ok (.getfield 59, 3) := by decide +kernel
theorem dX12_shift_124 : decode mX12_shift.2.2.1 124 = .ok (.iload 6, 2) := by decide +kernel
theorem dX12_shift_126 : decode mX12_shift.2.2.1 126 = .ok (.aload_n 0, 1) := by decide +kernel
theorem dX12_shift_127 : decode mX12_shift.2.2.1 127 = .ok (.getfield 55, 3) := by decide +kernel
theorem dX12_shift_130 : decode mX12_shift.2.2.1 130 = .ok (.bipush 60, 2) := by decide +kernel
theorem dX12_shift_132 : decode mX12_shift.2.2.1 132 = .ok (.iload_n 1, 1) := by decide +kernel
theorem dX12_shift_133 : decode mX12_shift.2.2.1 133 = .ok (.imul, 1) := by decide +kernel
theorem dX12_shift_134 : decode mX12_shift.2.2.1 134 = .ok (.iload_n 2, 1) := by decide +kernel
theorem dX12_shift_135 : decode mX12_shift.2.2.1 135 = .ok (.iadd, 1) := by decide +kernel
theorem dX12_shift_136 : decode mX12_shift.2.2.1 136 = .ok (.iload 6, 2) := by decide +kernel
theorem dX12_shift_138 : decode mX12_shift.2.2.1 138 = .ok (.iadd, 1) := by decide +kernel
theorem dX12_shift_139 : decode mX12_shift.2.2.1 139 = .ok (.laload, 1) := by decide +kernel
theorem dX12_shift_140 : decode mX12_shift.2.2.1 140 = .ok (.lastore, 1) := by decide +kernel
theorem dX12_shift_141 : decode mX12_shift.2.2.1 141 = .ok (.iinc 6 1, 3) := by decide +kernel
theorem dX12_shift_144 : decode mX12_shift.2.2.1 144 = .ok (.goto (-31), 3) := by decide +kernel
theorem dX12_shift_147 : decode mX12_shift.2.2.1 147 = .ok (.iconst 0, 1) := by decide +kernel
theorem dX12_shift_148 : decode mX12_shift.2.2.1 148 = .ok (.istore 6, 2) := by decide +kernel
theorem dX12_shift_150 : decode mX12_shift.2.2.1 150 = .ok (.iload 6, 2) := by decide +kernel
theorem dX12_shift_152 : decode mX12_shift.2.2.1 152 = .ok (.iload 5, 2) := by decide +kernel
theorem dX12_shift_154 : decode mX12_shift.2.2.1 154 = .ok (.if_icmp .ge 31, 3) := by decide +kernel
theorem dX12_shift_157 : decode mX12_shift.2.2.1 157 = .ok (.aload_n 0, 1) := by decide +kernel
theorem dX12_shift_158 : decode mX12_shift.2.2.1 158 = .ok (.getfield 55, 3) := by decide +kernel
theorem dX12_shift_161 : decode mX12_shift.2.2.1 161 = .ok (.bipush 60, 2) := by decide +kernel
theorem dX12_shift_163 : decode mX12_shift.2.2.1 163 = .ok (.iload_n 3, 1) := by decide +kernel
theorem dX12_shift_164 : decode mX12_shift.2.2.1 164 = .ok (.imul, 1) := by decide +kernel
theorem dX12_shift_165 : decode mX12_shift.2.2.1 165 = .ok (.iload 4, 2) := by decide +kernel
theorem dX12_shift_167 : decode mX12_shift.2.2.1 167 = .ok (.iadd, 1) := by decide +kernel
theorem dX12_shift_168 : decode mX12_shift.2.2.1 168 = .ok (.iload 6, 2) := by decide +kernel
theorem dX12_shift_170 : decode mX12_shift.2.2.1 170 = .ok (.iadd, 1) := by decide +kernel
theorem dX12_shift_171 : decode mX12_shift.2.2.1 171 = .ok (.aload_n 0, 1) := by decide +kernel
theorem dX12_shift_172 : decode mX12_shift.2.2.1 172 = .ok (.getfield 59, 3) := by decide +kernel
theorem dX12_shift_175 : decode mX12_shift.2.2.1 175 = .ok (.iload 6, 2) := by decide +kernel
theorem dX12_shift_177 : decode mX12_shift.2.2.1 177 = .ok (.laload, 1) := by decide +kernel
theorem dX12_shift_178 : decode mX12_shift.2.2.1 178 = .ok (.lastore, 1) := by decide +kernel
theorem dX12_shift_179 : decode mX12_shift.2.2.1 179 = .ok (.iinc 6 1, 3) := by decide +kernel
theorem dX12_shift_182 : decode mX12_shift.2.2.1 182 = .ok (.goto (-32), 3) := by decide +kernel
theorem dX12_shift_185 : decode mX12_shift.2.2.1 185 = .ok (.iload 5, 2) := by decide +kernel
theorem dX12_shift_187 : decode mX12_shift.2.2.1 187 = .ok (.ireturn, 1) := by decide +kernel
set_option maxHeartbeats 100000 in
theorem kX12_shift_0 {d : Nat} {F : am_FT} {L : am_LT} {Q : am_QT} {l0 l2 l3 l4 l5 l6 : Option Value} {x1 : Int32} : wt am_S0 (d + 1) mX12_shift 0 [l0, some (.int x1), l2, l3, l4, l5, l6] [] F L Q = wc am_S0 d mX12_isShelf [.int x1] F L (fun r G K => wt am_S0 (d + 1) mX12_shift 4 [l0, some (.int x1), l2, l3, l4, l5, l6] (r.toList ++ []) G K Q) := (wt_iload_n dX12_shift_0 rfl).trans (wt_callS dX12_shift_1 rfl (as := [.int x1]) (rest := []) rfl rfl (Nat.le_of_ble_eq_true rfl) (Nat.le_of_ble_eq_true rfl))
set_option maxHeartbeats 100000 in
theorem kX12_shift_4 {d : Nat} {F : am_FT} {L : am_LT} {Q : am_QT} {l0 l1 l2 l3 l4 l5 l6 : Option Value} {s0 : Int32} : wt am_S0 d mX12_shift 4 [l0, l1, l2, l3, l4, l5, l6] [.int s0] F L Q = if s0 = 0 then wt am_S0 d mX12_shift 14 [l0, l1, l2, l3, l4, l5, l6] [] F L Q else wt am_S0 d mX12_shift 7 [l0, l1, l2, l3, l4, l5, l6] [] F L Q := wt_ifCond_eq dX12_shift_4 (t := 14) rfl
set_option maxHeartbeats 100000 in
theorem kX12_shift_7 {d : Nat} {F : am_FT} {L : am_LT} {Q : am_QT} {l0 l1 l2 l4 l5 l6 : Option Value} {x3 : Int32} : wt am_S0 (d + 1) mX12_shift 7 [l0, l1, l2, some (.int x3), l4, l5, l6] [] F L Q = wc am_S0 d mX12_isShelf [.int x3] F L (fun r G K => wt am_S0 (d + 1) mX12_shift 11 [l0, l1, l2, some (.int x3), l4, l5, l6] (r.toList ++ []) G K Q) := (wt_iload_n dX12_shift_7 rfl).trans (wt_callS dX12_shift_8 rfl (as := [.int x3]) (rest := []) rfl rfl (Nat.le_of_ble_eq_true rfl) (Nat.le_of_ble_eq_true rfl))
set_option maxHeartbeats 100000 in
theorem kX12_shift_11 {d : Nat} {F : am_FT} {L : am_LT} {Q : am_QT} {l0 l1 l2 l3 l4 l5 l6 : Option Value} {s0 : Int32} : wt am_S0 d mX12_shift 11 [l0, l1, l2, l3, l4, l5, l6] [.int s0] F L Q = if ¬ s0 = 0 then wt am_S0 d mX12_shift 16 [l0, l1, l2, l3, l4, l5, l6] [] F L Q else wt am_S0 d mX12_shift 14 [l0, l1, l2, l3, l4, l5, l6] [] F L Q := wt_ifCond_ne dX12_shift_11 (t := 16) rfl
set_option maxHeartbeats 100000 in
theorem kX12_shift_14 {d : Nat} {F : am_FT} {L : am_LT} {Q : am_QT} {l0 l1 l2 l3 l4 l5 l6 : Option Value} : wt am_S0 d mX12_shift 14 [l0, l1, l2, l3, l4, l5, l6] [] F L Q = Q (some (.int (-1))) F L := (wt_iconst dX12_shift_14 (v := (-1)) (by decide)).trans (wt_ireturn dX12_shift_15 rfl rfl)
set_option maxHeartbeats 100000 in
theorem kX12_shift_16 {d : Nat} {F : am_FT} {L : am_LT} {Q : am_QT} {l2 l3 l4 l5 l6 : Option Value} {x1 : Int32} (h1 : am_oob x1 6 = false) : wt am_S0 d mX12_shift 16 [some (.ref 45), some (.int x1), l2, l3, l4, l5, l6] [] F L Q = if (F 59 (Int32.toNatClampNeg x1)) < 0 then wt am_S0 d mX12_shift 34 [some (.ref 45), some (.int x1), l2, l3, l4, l5, l6] [] F L Q else wt am_S0 d mX12_shift 25 [some (.ref 45), some (.int x1), l2, l3, l4, l5, l6] [] F L Q := (wt_aload_n dX12_shift_16 rfl rfl).trans ((wt_getfield dX12_shift_17 rfl rfl (v := .ref 59) rfl).trans ((wt_iload_n dX12_shift_20 rfl).trans ((wt_iaload dX12_shift_21 rfl (by decide) h1).trans (wt_ifCond_lt dX12_shift_22 (t := 34) rfl))))
set_option maxHeartbeats 100000 in
theorem kX12_shift_25 {d : Nat} {F : am_FT} {L : am_LT} {Q : am_QT} {l1 l2 l4 l5 l6 : Option Value} {x3 : Int32} (h1 : am_oob x3 6 = false) : wt am_S0 d mX12_shift 25 [some (.ref 45), l1, l2, some (.int x3), l4, l5, l6] [] F L Q = if 0 ≤ (F 59 (Int32.toNatClampNeg x3)) then wt am_S0 d mX12_shift 37 [some (.ref 45), l1, l2, some (.int x3), l4, l5, l6] [] F L Q else wt am_S0 d mX12_shift 34 [some (.ref 45), l1, l2, some (.int x3), l4, l5, l6] [] F L Q := (wt_aload_n dX12_shift_25 rfl rfl).trans ((wt_getfield dX12_shift_26 rfl rfl (v := .ref 59) rfl).trans ((wt_iload_n dX12_shift_29 rfl).trans ((wt_iaload dX12_shift_30 rfl (by decide) h1).trans (wt_ifCond_ge dX12_shift_31 (t := 37) rfl))))
set_option maxHeartbeats 100000 in
theorem kX12_shift_34 {d : Nat} {F : am_FT} {L : am_LT} {Q : am_QT} {l0 l1 l2 l3 l4 l5 l6 : Option Value} : wt am_S0 d mX12_shift 34 [l0, l1, l2, l3, l4, l5, l6] [] F L Q = Q (some (.int (-11))) F L := (wt_bipush dX12_shift_34 (v := (-11)) (by decide)).trans (wt_ireturn dX12_shift_36 rfl rfl)
set_option maxHeartbeats 100000 in
theorem kX12_shift_37 {d : Nat} {F : am_FT} {L : am_LT} {Q : am_QT} {l2 l3 l4 l5 l6 : Option Value} {x1 : Int32} (h1 : am_oob x1 6 = false) : wt am_S0 d mX12_shift 37 [some (.ref 45), some (.int x1), l2, l3, l4, l5, l6] [] F L Q = if (F 59 (Int32.toNatClampNeg x1)) < 50 then wt am_S0 d mX12_shift 63 [some (.ref 45), some (.int x1), l2, l3, l4, l5, l6] [] F L Q else wt am_S0 d mX12_shift 48 [some (.ref 45), some (.int x1), l2, l3, l4, l5, l6] [] F L Q := (wt_aload_n dX12_shift_37 rfl rfl).trans ((wt_getfield dX12_shift_38 rfl rfl (v := .ref 59) rfl).trans ((wt_iload_n dX12_shift_41 rfl).trans ((wt_iaload dX12_shift_42 rfl (by decide) h1).trans ((wt_bipush dX12_shift_43 (v := 50) (by decide)).trans (wt_if_icmp_lt dX12_shift_45 (t := 63) rfl)))))
set_option maxHeartbeats 100000 in
theorem kX12_shift_48 {d : Nat} {F : am_FT} {L : am_LT} {Q : am_QT} {l2 l4 l5 l6 : Option Value} {x1 x3 : Int32} (h1 : am_oob x1 6 = false) (h2 : am_oob x3 6 = false) : wt am_S0 d mX12_shift 48 [some (.ref 45), some (.int x1), l2, some (.int x3), l4, l5, l6] [] F L Q = if (F 59 (Int32.toNatClampNeg x1)) = (F 59 (Int32.toNatClampNeg x3)) then wt am_S0 d mX12_shift 66 [some (.ref 45), some (.int x1), l2, some (.int x3), l4, l5, l6] [] F L Q else wt am_S0 d mX12_shift 63 [some (.ref 45), some (.int x1), l2, some (.int x3), l4, l5, l6] [] F L Q := (wt_aload_n dX12_shift_48 rfl rfl).trans ((wt_getfield dX12_shift_49 rfl rfl (v := .ref 59) rfl).trans ((wt_iload_n dX12_shift_52 rfl).trans ((wt_iaload dX12_shift_53 rfl (by decide) h1).trans ((wt_aload_n dX12_shift_54 rfl rfl).trans ((wt_getfield dX12_shift_55 rfl rfl (v := .ref 59) rfl).trans ((wt_iload_n dX12_shift_58 rfl).trans ((wt_iaload dX12_shift_59 rfl (by decide) h2).trans (wt_if_icmp_eq dX12_shift_60 (t := 66) rfl))))))))
set_option maxHeartbeats 100000 in
theorem kX12_shift_63 {d : Nat} {F : am_FT} {L : am_LT} {Q : am_QT} {l0 l1 l2 l3 l4 l5 l6 : Option Value} : wt am_S0 d mX12_shift 63 [l0, l1, l2, l3, l4, l5, l6] [] F L Q = Q (some (.int (-12))) F L := (wt_bipush dX12_shift_63 (v := (-12)) (by decide)).trans (wt_ireturn dX12_shift_65 rfl rfl)
set_option maxHeartbeats 100000 in
theorem kX12_shift_66 {d : Nat} {F : am_FT} {L : am_LT} {Q : am_QT} {l0 l1 l2 l3 l4 l6 : Option Value} {x5 : Int32} : wt am_S0 d mX12_shift 66 [l0, l1, l2, l3, l4, some (.int x5), l6] [] F L Q = if x5 < 0 then wt am_S0 d mX12_shift 107 [l0, l1, l2, l3, l4, some (.int x5), l6] [] F L Q else wt am_S0 d mX12_shift 71 [l0, l1, l2, l3, l4, some (.int x5), l6] [] F L Q := (wt_iload dX12_shift_66 rfl).trans (wt_ifCond_lt dX12_shift_68 (t := 107) rfl)
set_option maxHeartbeats 100000 in
theorem kX12_shift_71 {d : Nat} {F : am_FT} {L : am_LT} {Q : am_QT} {l0 l1 l3 l4 l5 l6 : Option Value} {x2 : Int32} : wt am_S0 d mX12_shift 71 [l0, l1, some (.int x2), l3, l4, l5, l6] [] F L Q = if x2 < 0 then wt am_S0 d mX12_shift 107 [l0, l1, some (.int x2), l3, l4, l5, l6] [] F L Q else wt am_S0 d mX12_shift 75 [l0, l1, some (.int x2), l3, l4, l5, l6] [] F L Q := (wt_iload_n dX12_shift_71 rfl).trans (wt_ifCond_lt dX12_shift_72 (t := 107) rfl)
set_option maxHeartbeats 100000 in
theorem kX12_shift_75 {d : Nat} {F : am_FT} {L : am_LT} {Q : am_QT} {l0 l1 l2 l3 l5 l6 : Option Value} {x4 : Int32} : wt am_S0 d mX12_shift 75 [l0, l1, l2, l3, some (.int x4), l5, l6] [] F L Q = if x4 < 0 then wt am_S0 d mX12_shift 107 [l0, l1, l2, l3, some (.int x4), l5, l6] [] F L Q else wt am_S0 d mX12_shift 80 [l0, l1, l2, l3, some (.int x4), l5, l6] [] F L Q := (wt_iload dX12_shift_75 rfl).trans (wt_ifCond_lt dX12_shift_77 (t := 107) rfl)
set_option maxHeartbeats 100000 in
theorem kX12_shift_80 {d : Nat} {F : am_FT} {L : am_LT} {Q : am_QT} {l3 l4 l6 : Option Value} {x2 x1 x5 : Int32} (h1 : am_oob x1 6 = false) : wt am_S0 d mX12_shift 80 [some (.ref 45), some (.int x1), some (.int x2), l3, l4, some (.int x5), l6] [] F L Q = if ((F 60 (Int32.toNatClampNeg x1)) - x5) < x2 then wt am_S0 d mX12_shift 107 [some (.ref 45), some (.int x1), some (.int x2), l3, l4, some (.int x5), l6] [] F L Q else wt am_S0 d mX12_shift 93 [some (.ref 45), some (.int x1), some (.int x2), l3, l4, some (.int x5), l6] [] F L Q := (wt_iload_n dX12_shift_80 rfl).trans ((wt_aload_n dX12_shift_81 rfl rfl).trans ((wt_getfield dX12_shift_82 rfl rfl (v := .ref 60) rfl).trans ((wt_iload_n dX12_shift_85 rfl).trans ((wt_iaload dX12_shift_86 rfl (by decide) h1).trans ((wt_iload dX12_shift_87 rfl).trans ((wt_isub dX12_shift_89).trans (wt_if_icmp_gt dX12_shift_90 (t := 107) rfl)))))))
set_option maxHeartbeats 100000 in
theorem kX12_shift_93 {d : Nat} {F : am_FT} {L : am_LT} {Q : am_QT} {l1 l2 l6 : Option Value} {x4 x3 x5 : Int32} (h1 : am_oob x3 6 = false) : wt am_S0 d mX12_shift 93 [some (.ref 45), l1, l2, some (.int x3), some (.int x4), some (.int x5), l6] [] F L Q = if x4 ≤ ((F 60 (Int32.toNatClampNeg x3)) - x5) then wt am_S0 d mX12_shift 110 [some (.ref 45), l1, l2, some (.int x3), some (.int x4), some (.int x5), l6] [] F L Q else wt am_S0 d mX12_shift 107 [some (.ref 45), l1, l2, some (.int x3), some (.int x4), some (.int x5), l6] [] F L Q := (wt_iload dX12_shift_93 rfl).trans ((wt_aload_n dX12_shift_95 rfl rfl).trans ((wt_getfield dX12_shift_96 rfl rfl (v := .ref 60) rfl).trans ((wt_iload_n dX12_shift_99 rfl).trans ((wt_iaload dX12_shift_100 rfl (by decide) h1).trans ((wt_iload dX12_shift_101 rfl).trans ((wt_isub dX12_shift_103).trans (wt_if_icmp_le dX12_shift_104 (t := 110) rfl)))))))
set_option maxHeartbeats 100000 in
theorem kX12_shift_107 {d : Nat} {F : am_FT} {L : am_LT} {Q : am_QT} {l0 l1 l2 l3 l4 l5 l6 : Option Value} : wt am_S0 d mX12_shift 107 [l0, l1, l2, l3, l4, l5, l6] [] F L Q = Q (some (.int (-13))) F L := (wt_bipush dX12_shift_107 (v := (-13)) (by decide)).trans (wt_ireturn dX12_shift_109 rfl rfl)
set_option maxHeartbeats 100000 in
theorem kX12_shift_110 {d : Nat} {F : am_FT} {L : am_LT} {Q : am_QT} {l0 l1 l2 l3 l4 l6 : Option Value} {x5 : Int32} : wt am_S0 d mX12_shift 110 [l0, l1, l2, l3, l4, some (.int x5), l6] [] F L Q = wt am_S0 d mX12_shift 113 [l0, l1, l2, l3, l4, some (.int x5), some (.int 0)] [] F L Q := (wt_iconst dX12_shift_110 (v := 0) (by decide)).trans (wt_istore dX12_shift_111 (lv1 := [l0, l1, l2, l3, l4, some (.int x5), some (.int 0)]) (Nat.le_of_ble_eq_true rfl) rfl)
set_option maxHeartbeats 100000 in
theorem kX12_shift_113 {d : Nat} {F : am_FT} {L : am_LT} {Q : am_QT} {l0 l1 l2 l3 l4 : Option Value} {x6 x5 : Int32} : wt am_S0 d mX12_shift 113 [l0, l1, l2, l3, l4, some (.int x5), some (.int x6)] [] F L Q = if x5 ≤ x6 then wt am_S0 d mX12_shift 147 [l0, l1, l2, l3, l4, some (.int x5), some (.int x6)] [] F L Q else wt am_S0 d mX12_shift 120 [l0, l1, l2, l3, l4, some (.int x5), some (.int x6)] [] F L Q := (wt_iload dX12_shift_113 rfl).trans ((wt_iload dX12_shift_115 rfl).trans (wt_if_icmp_ge dX12_shift_117 (t := 147) rfl))
set_option maxHeartbeats 100000 in
theorem kX12_shift_120 {d : Nat} {F : am_FT} {L : am_LT} {Q : am_QT} {l3 l4 : Option Value} {x6 x1 x2 x5 : Int32} (h1 : am_oob (((60 * x1) + x2) + x6) 360 = false) (h2 : am_oob x6 60 = false) : wt am_S0 d mX12_shift 120 [some (.ref 45), some (.int x1), some (.int x2), l3, l4, some (.int x5), some (.int x6)] [] F L Q = wt am_S0 d mX12_shift 113 [some (.ref 45), some (.int x1), some (.int x2), l3, l4, some (.int x5), some (.int (x6 + 1))] [] F (am_upL L 62 (Int32.toNatClampNeg x6) (L 61 (Int32.toNatClampNeg (((60 * x1) + x2) + x6)))) Q := (wt_aload_n dX12_shift_120 rfl rfl).trans ((wt_getfield dX12_shift_121 rfl rfl (v := .ref 62) rfl).trans ((wt_iload dX12_shift_124 rfl).trans ((wt_aload_n dX12_shift_126 rfl rfl).trans ((wt_getfield dX12_shift_127 rfl rfl (v := .ref 61) rfl).trans ((wt_bipush dX12_shift_130 (v := 60) (by decide)).trans ((wt_iload_n dX12_shift_132 rfl).trans ((wt_imul dX12_shift_133).trans ((wt_iload_n dX12_shift_134 rfl).trans ((wt_iadd dX12_shift_135).trans ((wt_iload dX12_shift_136 rfl).trans ((wt_iadd dX12_shift_138).trans ((wt_laload dX12_shift_139 rfl h1).trans ((wt_lastore dX12_shift_140 rfl h2).trans ((wt_iinc dX12_shift_141 (v := 1) (lv1 := [some (.ref 45), some (.int x1), some (.int x2), l3, l4, some (.int x5), some (.int (x6 + 1))]) rfl (Nat.le_of_ble_eq_true rfl) (by decide) rfl).trans (wt_goto dX12_shift_144 (t := 113) rfl)))))))))))))))
set_option maxHeartbeats 100000 in
theorem kX12_shift_147 {d : Nat} {F : am_FT} {L : am_LT} {Q : am_QT} {l0 l1 l2 l3 l4 l6 : Option Value} {x5 : Int32} : wt am_S0 d mX12_shift 147 [l0, l1, l2, l3, l4, some (.int x5), l6] [] F L Q = wt am_S0 d mX12_shift 150 [l0, l1, l2, l3, l4, some (.int x5), some (.int 0)] [] F L Q := (wt_iconst dX12_shift_147 (v := 0) (by decide)).trans (wt_istore dX12_shift_148 (lv1 := [l0, l1, l2, l3, l4, some (.int x5), some (.int 0)]) (Nat.le_of_ble_eq_true rfl) rfl)
set_option maxHeartbeats 100000 in
theorem kX12_shift_150 {d : Nat} {F : am_FT} {L : am_LT} {Q : am_QT} {l0 l1 l2 l3 l4 : Option Value} {x6 x5 : Int32} : wt am_S0 d mX12_shift 150 [l0, l1, l2, l3, l4, some (.int x5), some (.int x6)] [] F L Q = if x5 ≤ x6 then wt am_S0 d mX12_shift 185 [l0, l1, l2, l3, l4, some (.int x5), some (.int x6)] [] F L Q else wt am_S0 d mX12_shift 157 [l0, l1, l2, l3, l4, some (.int x5), some (.int x6)] [] F L Q := (wt_iload dX12_shift_150 rfl).trans ((wt_iload dX12_shift_152 rfl).trans (wt_if_icmp_ge dX12_shift_154 (t := 185) rfl))
set_option maxHeartbeats 100000 in
theorem kX12_shift_157 {d : Nat} {F : am_FT} {L : am_LT} {Q : am_QT} {l1 l2 : Option Value} {x3 x4 x6 x5 : Int32} (h1 : am_oob x6 60 = false) (h2 : am_oob (((60 * x3) + x4) + x6) 360 = false) : wt am_S0 d mX12_shift 157 [some (.ref 45), l1, l2, some (.int x3), some (.int x4), some (.int x5), some (.int x6)] [] F L Q = wt am_S0 d mX12_shift 150 [some (.ref 45), l1, l2, some (.int x3), some (.int x4), some (.int x5), some (.int (x6 + 1))] [] F (am_upL L 61 (Int32.toNatClampNeg (((60 * x3) + x4) + x6)) (L 62 (Int32.toNatClampNeg x6))) Q := (wt_aload_n dX12_shift_157 rfl rfl).trans ((wt_getfield dX12_shift_158 rfl rfl (v := .ref 61) rfl).trans ((wt_bipush dX12_shift_161 (v := 60) (by decide)).trans ((wt_iload_n dX12_shift_163 rfl).trans ((wt_imul dX12_shift_164).trans ((wt_iload dX12_shift_165 rfl).trans ((wt_iadd dX12_shift_167).trans ((wt_iload dX12_shift_168 rfl).trans ((wt_iadd dX12_shift_170).trans ((wt_aload_n dX12_shift_171 rfl rfl).trans ((wt_getfield dX12_shift_172 rfl rfl (v := .ref 62) rfl).trans ((wt_iload dX12_shift_175 rfl).trans ((wt_laload dX12_shift_177 rfl h1).trans ((wt_lastore dX12_shift_178 rfl h2).trans ((wt_iinc dX12_shift_179 (v := 1) (lv1 := [some (.ref 45), l1, l2, some (.int x3), some (.int x4), some (.int x5), some (.int (x6 + 1))]) rfl (Nat.le_of_ble_eq_true rfl) (by decide) rfl).trans (wt_goto dX12_shift_182 (t := 150) rfl)))))))))))))))
set_option maxHeartbeats 100000 in
theorem kX12_shift_185 {d : Nat} {F : am_FT} {L : am_LT} {Q : am_QT} {l0 l1 l2 l3 l4 l6 : Option Value} {x5 : Int32} : wt am_S0 d mX12_shift 185 [l0, l1, l2, l3, l4, some (.int x5), l6] [] F L Q = Q (some (.int x5)) F L := (wt_iload dX12_shift_185 rfl).trans (wt_ireturn dX12_shift_187 rfl rfl)
theorem dX12_taken_0 : decode mX12_taken.2.2.1 0 = .ok (.iload_n 1, 1) := by decide +kernel
theorem dX12_taken_1 : decode mX12_taken.2.2.1 1 = .ok (.invokestatic 107, 3) := by decide +kernel
theorem dX12_taken_4 : decode mX12_taken.2.2.1 4 = .ok (.ifCond .eq 15, 3) := by decide +kernel
theorem dX12_taken_7 : decode mX12_taken.2.2.1 7 = .ok (.iload_n 2, 1) := by decide +kernel
theorem dX12_taken_8 : decode mX12_taken.2.2.1 8 = .ok (.i2l, 1) := by decide +kernel
theorem dX12_taken_9 : decode mX12_taken.2.2.1 9 = .ok (.lconst 0, 1) := by decide +kernel
theorem dX12_taken_10 : decode mX12_taken.2.2.1 10 = .ok (.ldc2_w 285, 3) := by decide +kernel
theorem dX12_taken_13 : decode mX12_taken.2.2.1 13 = .ok (.invokestatic 75, 3) := by decide +kernel
theorem dX12_taken_16 : decode mX12_taken.2.2.1 16 = .ok (.ifCond .ne 5, 3) := by decide +kernel
theorem dX12_taken_19 : decode mX12_taken.2.2.1 19 = .ok (.iconst (-1), 1) := by decide +kernel
theorem dX12_taken_20 : decode mX12_taken.2.2.1 20 = .ok (.ireturn, 1) := by decide +kernel
theorem dX12_taken_21 : decode mX12_taken.2.2.1 21 = .ok (.aload_n 0, 1) := by decide +kernel
theorem dX12_taken_22 : decode mX12_taken.2.2.1 22 = .ok (.getfield 49, 3) := by decide +kernel
theorem dX12_taken_25 : decode mX12_taken.2.2.1 25 = .ok (.iload_n 1, 1) := by decide +kernel
theorem dX12_taken_26 : decode mX12_taken.2.2.1 26 = .ok (.iaload, 1) := by decide +kernel
theorem dX12_taken_27 : decode mX12_taken.2.2.1 27 = .ok (.ifCond .ge 6, 3) := by decide +kernel
theorem dX12_taken_30 : decode mX12_taken.2.2.1 30 = .ok (.bipush (-11), 2) := by decide +kernel
theorem dX12_taken_32 : decode mX12_taken.2.2.1 32 = .ok (.ireturn, 1) := by decide +kernel
theorem dX12_taken_33 : decode mX12_taken.2.2.1 33 = .ok (.aload_n 0, 1) := by decide +kernel
theorem dX12_taken_34 : decode mX12_taken.2.2.1 34 = .ok (.getfield 49, 3) := by decide +kernel
theorem dX12_taken_37 : decode mX12_taken.2.2.1 37 = .ok (.iload_n 1, 1) := by decide +kernel
theorem dX12_taken_38 : decode mX12_taken.2.2.1 38 = .ok (.iaload, 1) := by decide +kernel
theorem dX12_taken_39 : decode mX12_taken.2.2.1 39 = .ok (.bipush 50, 2) := by decide +kernel
theorem dX12_taken_41 : decode mX12_taken.2.2.1 41 = .ok (.if_icmp .lt 6, 3) := by decide +kernel
theorem dX12_taken_44 : decode mX12_taken.2.2.1 44 = .ok (.bipush (-12), 2) := by decide +kernel
theorem dX12_taken_46 : decode mX12_taken.2.2.1 46 = .ok (.ireturn, 1) := by decide +kernel
theorem dX12_taken_47 : decode mX12_taken.2.2.1 47 = .ok (.aload_n 0, 1) := by decide +kernel
theorem dX12_taken_48 : decode mX12_taken.2.2.1 48 = .ok (.aload_n 0, 1) := by decide +kernel
theorem dX12_taken_49 : decode mX12_taken.2.2.1 49 = .ok (.getfield 49, 3) := by decide +kernel
theorem dX12_taken_52 : decode mX12_taken.2.2.1 52 = .ok (.iload_n 1, 1) := by decide +kernel
theorem dX12_taken_53 : decode mX12_taken.2.2.1 53 = .ok (.iaload, 1) := by decide +kernel
theorem dX12_taken_54 : decode mX12_taken.2.2.1 54 = .ok (.invokevirtual 324, 3) := by decide +kernel
theorem dX12_taken_57 : decode mX12_taken.2.2.1 57 = .ok (.istore_n 3, 1) := by decide +kernel
theorem dX12_taken_58 : decode mX12_taken.2.2.1 58 = .ok (.iload_n 3, 1) := by decide +kernel
theorem dX12_taken_59 : decode mX12_taken.2.2.1 59 = .ok (.iload_n 2, 1) := by decide +kernel
theorem dX12_taken_60 : decode mX12_taken.2.2.1 60 = .ok (.if_icmp .eq 15, 3) := by decide +kernel
theorem dX12_taken_63 : decode mX12_taken.2.2.1 63 = .ok (.iload_n 3, 1) := by decide +kernel
theorem dX12_taken_64 : decode mX12_taken.2.2.1 64 = .ok (.ifCond .le 11, 3) := by decide +kernel
theorem dX12_taken_67 : decode mX12_taken.2.2.1 67 = .ok (.iload_n 3, 1) := by decide +kernel
theorem dX12_taken_68 : decode mX12_taken.2.2.1 68 = .ok (.invokestatic 327, 3) := by decide +kernel
theorem dX12_taken_71 : decode mX12_taken.2.2.1 71 = .ok (.istore_n 3, 1) := by decide +kernel
theorem dX12_taken_72 : decode mX12_taken.2.2.1 72 = .ok (.goto (-14), 3) := by decide +kernel
theorem dX12_taken_75 : decode mX12_taken.2.2.1 75 = .ok (.iload_n 3, 1) := by decide +kernel
theorem dX12_taken_76 : decode mX12_taken.2.2.1 76 = .ok (.iload_n 2, 1) := by decide +kernel
theorem dX12_taken_77 : decode mX12_taken.2.2.1 77 = .ok (.if_icmp .ne 16, 3) := by decide +kernel
theorem dX12_taken_80 : decode mX12_taken.2.2.1 80 = .ok (.aload_n 0, 1) := by decide +kernel
theorem dX12_taken_81 : decode mX12_taken.2.2.1 81 = .ok (.aload_n 0, 1) := by decide +kernel
theorem dX12_taken_82 : decode mX12_taken.2.2.1 82 = .ok (.getfield 49, 3) := by decide +kernel
theorem dX12_taken_85 : decode mX12_taken.2.2.1 85 = .ok (.iload_n 1, 1) := by decide +kernel
theorem dX12_taken_86 : decode mX12_taken.2.2.1 86 = .ok (.iaload, 1) := by decide +kernel
theorem dX12_taken_87 : decode mX12_taken.2.2.1 87 = .ok (.invokevirtual 324, 3) := by decide +kernel
theorem dX12_taken_90 : decode mX12_taken.2.2.1 90 = .ok (.goto 5, 3) := by decide +kernel
theorem dX12_taken_93 : decode mX12_taken.2.2.1 93 = .ok (.bipush (-12), 2) := by decide +kernel
theorem dX12_taken_95 : decode mX12_taken.2.2.1 95 = .ok (.ireturn, 1) := by decide +kernel
set_option maxHeartbeats 100000 in
theorem kX12_taken_0 {d : Nat} {F : am_FT} {L : am_LT} {Q : am_QT} {l0 l2 l3 : Option Value} {x1 : Int32} : wt am_S0 (d + 1) mX12_taken 0 [l0, some (.int x1), l2, l3] [] F L Q = wc am_S0 d mX12_isShelf [.int x1] F L (fun r G K => wt am_S0 (d + 1) mX12_taken 4 [l0, some (.int x1), l2, l3] (r.toList ++ []) G K Q) := (wt_iload_n dX12_taken_0 rfl).trans (wt_callS dX12_taken_1 rfl (as := [.int x1]) (rest := []) rfl rfl (Nat.le_of_ble_eq_true rfl) (Nat.le_of_ble_eq_true rfl))
set_option maxHeartbeats 100000 in
theorem kX12_taken_4 {d : Nat} {F : am_FT} {L : am_LT} {Q : am_QT} {l0 l1 l2 l3 : Option Value} {s0 : Int32} : wt am_S0 d mX12_taken 4 [l0, l1, l2, l3] [.int s0] F L Q = if s0 = 0 then wt am_S0 d mX12_taken 19 [l0, l1, l2, l3] [] F L Q else wt am_S0 d mX12_taken 7 [l0, l1, l2, l3] [] F L Q := wt_ifCond_eq dX12_taken_4 (t := 19) rfl
set_option maxHeartbeats 100000 in
theorem kX12_taken_7 {d : Nat} {F : am_FT} {L : am_LT} {Q : am_QT} {l0 l1 l3 : Option Value} {x2 : Int32} : wt am_S0 (d + 1) mX12_taken 7 [l0, l1, some (.int x2), l3] [] F L Q = wc am_S0 d mX12_within [.long (Int32.toInt64 x2), .long 0, .long 7] F L (fun r G K => wt am_S0 (d + 1) mX12_taken 16 [l0, l1, some (.int x2), l3] (r.toList ++ []) G K Q) := (wt_iload_n dX12_taken_7 rfl).trans ((wt_i2l dX12_taken_8).trans ((wt_lconst dX12_taken_9 (v := 0) (by decide)).trans ((wt_ldc2_w dX12_taken_10 (v := 7) rfl).trans (wt_callS dX12_taken_13 rfl (as := [.long (Int32.toInt64 x2), .long 0, .long 7]) (rest := []) rfl rfl (Nat.le_of_ble_eq_true rfl) (Nat.le_of_ble_eq_true rfl)))))
set_option maxHeartbeats 100000 in
theorem kX12_taken_16 {d : Nat} {F : am_FT} {L : am_LT} {Q : am_QT} {l0 l1 l2 l3 : Option Value} {s0 : Int32} : wt am_S0 d mX12_taken 16 [l0, l1, l2, l3] [.int s0] F L Q = if ¬ s0 = 0 then wt am_S0 d mX12_taken 21 [l0, l1, l2, l3] [] F L Q else wt am_S0 d mX12_taken 19 [l0, l1, l2, l3] [] F L Q := wt_ifCond_ne dX12_taken_16 (t := 21) rfl
set_option maxHeartbeats 100000 in
theorem kX12_taken_19 {d : Nat} {F : am_FT} {L : am_LT} {Q : am_QT} {l0 l1 l2 l3 : Option Value} : wt am_S0 d mX12_taken 19 [l0, l1, l2, l3] [] F L Q = Q (some (.int (-1))) F L := (wt_iconst dX12_taken_19 (v := (-1)) (by decide)).trans (wt_ireturn dX12_taken_20 rfl rfl)
set_option maxHeartbeats 100000 in
theorem kX12_taken_21 {d : Nat} {F : am_FT} {L : am_LT} {Q : am_QT} {l2 l3 : Option Value} {x1 : Int32} (h1 : am_oob x1 6 = false) : wt am_S0 d mX12_taken 21 [some (.ref 45), some (.int x1), l2, l3] [] F L Q = if 0 ≤ (F 59 (Int32.toNatClampNeg x1)) then wt am_S0 d mX12_taken 33 [some (.ref 45), some (.int x1), l2, l3] [] F L Q else wt am_S0 d mX12_taken 30 [some (.ref 45), some (.int x1), l2, l3] [] F L Q := (wt_aload_n dX12_taken_21 rfl rfl).trans ((wt_getfield dX12_taken_22 rfl rfl (v := .ref 59) rfl).trans ((wt_iload_n dX12_taken_25 rfl).trans ((wt_iaload dX12_taken_26 rfl (by decide) h1).trans (wt_ifCond_ge dX12_taken_27 (t := 33) rfl))))
set_option maxHeartbeats 100000 in
theorem kX12_taken_30 {d : Nat} {F : am_FT} {L : am_LT} {Q : am_QT} {l0 l1 l2 l3 : Option Value} : wt am_S0 d mX12_taken 30 [l0, l1, l2, l3] [] F L Q = Q (some (.int (-11))) F L := (wt_bipush dX12_taken_30 (v := (-11)) (by decide)).trans (wt_ireturn dX12_taken_32 rfl rfl)
set_option maxHeartbeats 100000 in
theorem kX12_taken_33 {d : Nat} {F : am_FT} {L : am_LT} {Q : am_QT} {l2 l3 : Option Value} {x1 : Int32} (h1 : am_oob x1 6 = false) : wt am_S0 d mX12_taken 33 [some (.ref 45), some (.int x1), l2, l3] [] F L Q = if (F 59 (Int32.toNatClampNeg x1)) < 50 then wt am_S0 d mX12_taken 47 [some (.ref 45), some (.int x1), l2, l3] [] F L Q else wt am_S0 d mX12_taken 44 [some (.ref 45), some (.int x1), l2, l3] [] F L Q := (wt_aload_n dX12_taken_33 rfl rfl).trans ((wt_getfield dX12_taken_34 rfl rfl (v := .ref 59) rfl).trans ((wt_iload_n dX12_taken_37 rfl).trans ((wt_iaload dX12_taken_38 rfl (by decide) h1).trans ((wt_bipush dX12_taken_39 (v := 50) (by decide)).trans (wt_if_icmp_lt dX12_taken_41 (t := 47) rfl)))))
set_option maxHeartbeats 100000 in
theorem kX12_taken_44 {d : Nat} {F : am_FT} {L : am_LT} {Q : am_QT} {l0 l1 l2 l3 : Option Value} : wt am_S0 d mX12_taken 44 [l0, l1, l2, l3] [] F L Q = Q (some (.int (-12))) F L := (wt_bipush dX12_taken_44 (v := (-12)) (by decide)).trans (wt_ireturn dX12_taken_46 rfl rfl)
set_option maxHeartbeats 100000 in
theorem kX12_taken_47 {d : Nat} {F : am_FT} {L : am_LT} {Q : am_QT} {l2 l3 : Option Value} {x1 : Int32} (h1 : am_oob x1 6 = false) : wt am_S0 (d + 1) mX12_taken 47 [some (.ref 45), some (.int x1), l2, l3] [] F L Q = wc am_S0 d mX12_kindOf [.ref 45, .int (F 59 (Int32.toNatClampNeg x1))] F L (fun r G K => wt am_S0 (d + 1) mX12_taken 57 [some (.ref 45), some (.int x1), l2, l3] (r.toList ++ []) G K Q) := (wt_aload_n dX12_taken_47 rfl rfl).trans ((wt_aload_n dX12_taken_48 rfl rfl).trans ((wt_getfield dX12_taken_49 rfl rfl (v := .ref 59) rfl).trans ((wt_iload_n dX12_taken_52 rfl).trans ((wt_iaload dX12_taken_53 rfl (by decide) h1).trans (wt_callV dX12_taken_54 rfl (as := [.int (F 59 (Int32.toNatClampNeg x1))]) (rest := []) rfl rfl (Nat.le_of_ble_eq_true rfl) rfl (Nat.le_of_ble_eq_true rfl))))))
set_option maxHeartbeats 100000 in
theorem kX12_taken_57 {d : Nat} {F : am_FT} {L : am_LT} {Q : am_QT} {l0 l1 l3 : Option Value} {s0 x2 : Int32} : wt am_S0 d mX12_taken 57 [l0, l1, some (.int x2), l3] [.int s0] F L Q = wt am_S0 d mX12_taken 58 [l0, l1, some (.int x2), some (.int s0)] [] F L Q := wt_istore_n dX12_taken_57 (lv1 := [l0, l1, some (.int x2), some (.int s0)]) (Nat.le_of_ble_eq_true rfl) rfl
set_option maxHeartbeats 100000 in
theorem kX12_taken_58 {d : Nat} {F : am_FT} {L : am_LT} {Q : am_QT} {l0 l1 : Option Value} {x3 x2 : Int32} : wt am_S0 d mX12_taken 58 [l0, l1, some (.int x2), some (.int x3)] [] F L Q = if x3 = x2 then wt am_S0 d mX12_taken 75 [l0, l1, some (.int x2), some (.int x3)] [] F L Q else wt am_S0 d mX12_taken 63 [l0, l1, some (.int x2), some (.int x3)] [] F L Q := (wt_iload_n dX12_taken_58 rfl).trans ((wt_iload_n dX12_taken_59 rfl).trans (wt_if_icmp_eq dX12_taken_60 (t := 75) rfl))
set_option maxHeartbeats 100000 in
theorem kX12_taken_63 {d : Nat} {F : am_FT} {L : am_LT} {Q : am_QT} {l0 l1 l2 : Option Value} {x3 : Int32} : wt am_S0 d mX12_taken 63 [l0, l1, l2, some (.int x3)] [] F L Q = if x3 ≤ 0 then wt am_S0 d mX12_taken 75 [l0, l1, l2, some (.int x3)] [] F L Q else wt am_S0 d mX12_taken 67 [l0, l1, l2, some (.int x3)] [] F L Q := (wt_iload_n dX12_taken_63 rfl).trans (wt_ifCond_le dX12_taken_64 (t := 75) rfl)
set_option maxHeartbeats 100000 in
theorem kX12_taken_67 {d : Nat} {F : am_FT} {L : am_LT} {Q : am_QT} {l0 l1 l2 : Option Value} {x3 : Int32} : wt am_S0 (d + 1) mX12_taken 67 [l0, l1, l2, some (.int x3)] [] F L Q = wc am_S0 d mX12_above [.int x3] F L (fun r G K => wt am_S0 (d + 1) mX12_taken 71 [l0, l1, l2, some (.int x3)] (r.toList ++ []) G K Q) := (wt_iload_n dX12_taken_67 rfl).trans (wt_callS dX12_taken_68 rfl (as := [.int x3]) (rest := []) rfl rfl (Nat.le_of_ble_eq_true rfl) (Nat.le_of_ble_eq_true rfl))
set_option maxHeartbeats 100000 in
theorem kX12_taken_71 {d : Nat} {F : am_FT} {L : am_LT} {Q : am_QT} {l0 l1 l3 : Option Value} {s0 x2 : Int32} : wt am_S0 d mX12_taken 71 [l0, l1, some (.int x2), l3] [.int s0] F L Q = wt am_S0 d mX12_taken 58 [l0, l1, some (.int x2), some (.int s0)] [] F L Q := (wt_istore_n dX12_taken_71 (lv1 := [l0, l1, some (.int x2), some (.int s0)]) (Nat.le_of_ble_eq_true rfl) rfl).trans (wt_goto dX12_taken_72 (t := 58) rfl)
set_option maxHeartbeats 100000 in
theorem kX12_taken_75 {d : Nat} {F : am_FT} {L : am_LT} {Q : am_QT} {l0 l1 : Option Value} {x3 x2 : Int32} : wt am_S0 d mX12_taken 75 [l0, l1, some (.int x2), some (.int x3)] [] F L Q = if ¬ x3 = x2 then wt am_S0 d mX12_taken 93 [l0, l1, some (.int x2), some (.int x3)] [] F L Q else wt am_S0 d mX12_taken 80 [l0, l1, some (.int x2), some (.int x3)] [] F L Q := (wt_iload_n dX12_taken_75 rfl).trans ((wt_iload_n dX12_taken_76 rfl).trans (wt_if_icmp_ne dX12_taken_77 (t := 93) rfl))
set_option maxHeartbeats 100000 in
theorem kX12_taken_80 {d : Nat} {F : am_FT} {L : am_LT} {Q : am_QT} {l2 l3 : Option Value} {x1 : Int32} (h1 : am_oob x1 6 = false) : wt am_S0 (d + 1) mX12_taken 80 [some (.ref 45), some (.int x1), l2, l3] [] F L Q = wc am_S0 d mX12_kindOf [.ref 45, .int (F 59 (Int32.toNatClampNeg x1))] F L (fun r G K => wt am_S0 (d + 1) mX12_taken 90 [some (.ref 45), some (.int x1), l2, l3] (r.toList ++ []) G K Q) := (wt_aload_n dX12_taken_80 rfl rfl).trans ((wt_aload_n dX12_taken_81 rfl rfl).trans ((wt_getfield dX12_taken_82 rfl rfl (v := .ref 59) rfl).trans ((wt_iload_n dX12_taken_85 rfl).trans ((wt_iaload dX12_taken_86 rfl (by decide) h1).trans (wt_callV dX12_taken_87 rfl (as := [.int (F 59 (Int32.toNatClampNeg x1))]) (rest := []) rfl rfl (Nat.le_of_ble_eq_true rfl) rfl (Nat.le_of_ble_eq_true rfl))))))
set_option maxHeartbeats 100000 in
theorem kX12_taken_90 {d : Nat} {F : am_FT} {L : am_LT} {Q : am_QT} {l0 l1 l2 l3 : Option Value} {s0 : Int32} : wt am_S0 d mX12_taken 90 [l0, l1, l2, l3] [.int s0] F L Q = wt am_S0 d mX12_taken 95 [l0, l1, l2, l3] [.int s0] F L Q := wt_goto dX12_taken_90 (t := 95) rfl
set_option maxHeartbeats 100000 in
theorem kX12_taken_93 {d : Nat} {F : am_FT} {L : am_LT} {Q : am_QT} {l0 l1 l2 l3 : Option Value} : wt am_S0 d mX12_taken 93 [l0, l1, l2, l3] [] F L Q = wt am_S0 d mX12_taken 95 [l0, l1, l2, l3] [.int (-12)] F L Q := wt_bipush dX12_taken_93 (v := (-12)) (by decide)
set_option maxHeartbeats 100000 in
theorem kX12_taken_95 {d : Nat} {F : am_FT} {L : am_LT} {Q : am_QT} {l0 l1 l2 l3 : Option Value} {s0 : Int32} : wt am_S0 d mX12_taken 95 [l0, l1, l2, l3] [.int s0] F L Q = Q (some (.int s0)) F L := wt_ireturn dX12_taken_95 rfl rfl
theorem dX12_kindOf_0 : decode mX12_kindOf.2.2.1 0 = .ok (.aload_n 0, 1) := by decide +kernel
theorem dX12_kindOf_1 : decode mX12_kindOf.2.2.1 1 = .ok (.getfield 43, 3) := by decide +kernel
theorem dX12_kindOf_4 : decode mX12_kindOf.2.2.1 4 = .ok (.iload_n 1, 1) := by decide +kernel
theorem dX12_kindOf_5 : decode mX12_kindOf.2.2.1 5 = .ok (.iaload, 1) := by decide +kernel
theorem dX12_kindOf_6 : decode mX12_kindOf.2.2.1 6 = .ok (.ireturn, 1) := by decide +kernel
set_option maxHeartbeats 100000 in
theorem kX12_kindOf_0 {d : Nat} {F : am_FT} {L : am_LT} {Q : am_QT} {x1 : Int32} (h1 : am_oob x1 50 = false) : wt am_S0 d mX12_kindOf 0 [some (.ref 45), some (.int x1)] [] F L Q = Q (some (.int (F 57 (Int32.toNatClampNeg x1)))) F L := (wt_aload_n dX12_kindOf_0 rfl rfl).trans ((wt_getfield dX12_kindOf_1 rfl rfl (v := .ref 57) rfl).trans ((wt_iload_n dX12_kindOf_4 rfl).trans ((wt_iaload dX12_kindOf_5 rfl (by decide) h1).trans (wt_ireturn dX12_kindOf_6 rfl rfl))))
theorem dX12_above_0 : decode mX12_above.2.2.1 0 = .ok (.iload_n 0, 1) := by decide +kernel
theorem dX12_above_1 : decode mX12_above.2.2.1 1 = .ok (.iconst 3, 1) := by decide +kernel
theorem dX12_above_2 : decode mX12_above.2.2.1 2 = .ok (.if_icmp .ne 7, 3) := by decide +kernel
theorem dX12_above_5 : decode mX12_above.2.2.1 5 = .ok (.iconst 2, 1) := by decide +kernel
theorem dX12_above_6 : decode mX12_above.2.2.1 6 = .ok (.goto 32, 3) := by decide +kernel
theorem dX12_above_9 : decode mX12_above.2.2.1 9 = .ok (.iload_n 0, 1) := by decide +kernel
theorem dX12_above_10 : decode mX12_above.2.2.1 10 = .ok (.iconst 4, 1) := by decide +kernel
theorem dX12_above_11 : decode mX12_above.2.2.1 11 = .ok (.if_icmp .ne 7, 3) := by decide +kernel
theorem dX12_above_14 : decode mX12_above.2.2.1 14 = .ok (.iconst 1, 1) := by decide +kernel
theorem dX12_above_15 : decode mX12_above.2.2.1 15 = .ok (.goto 23, 3) := by decide +kernel
theorem dX12_above_18 : decode mX12_above.2.2.1 18 = .ok (.iload_n 0, 1) := by decide +kernel
theorem dX12_above_19 : decode mX12_above.2.2.1 19 = .ok (.iconst 5, 1) := by decide +kernel
theorem dX12_above_20 : decode mX12_above.2.2.1 20 = .ok (.if_icmp .ne 7, 3) := by decide +kernel
theorem dX12_above_23 : decode mX12_above.2.2.1 23 = .ok (.iconst 3, 1) := by decide +kernel
theorem dX12_above_24 : decode mX12_above.2.2.1 24 = .ok (.goto 14, 3) := by decide +kernel
theorem dX12_above_27 : decode mX12_above.2.2.1 27 = .ok (.iload_n 0, 1) := by decide +kernel
theorem dX12_above_28 : decode mX12_above.2.2.1 28 = .ok (.bipush 7, 2) := by decide +kernel
theorem dX12_above_30 : decode mX12_above.2.2.1 30 = .ok (.if_icmp .ne 7, 3) := by decide +kernel
theorem dX12_above_33 : decode mX12_above.2.2.1 33 = .ok (.iconst 4, 1) := by decide +kernel
theorem dX12_above_34 : decode mX12_above.2.2.1 34 = .ok (.goto 4, 3) := by decide +kernel
theorem dX12_above_37 : decode mX12_above.2.2.1 37 = .ok (.iconst 0, 1) := by decide +kernel
theorem dX12_above_38 : decode mX12_above.2.2.1 38 = .ok (.ireturn, 1) := by decide +kernel
set_option maxHeartbeats 100000 in
theorem kX12_above_0 {d : Nat} {F : am_FT} {L : am_LT} {Q : am_QT} {x0 : Int32} : wt am_S0 d mX12_above 0 [some (.int x0)] [] F L Q = if ¬ x0 = 3 then wt am_S0 d mX12_above 9 [some (.int x0)] [] F L Q else wt am_S0 d mX12_above 5 [some (.int x0)] [] F L Q := (wt_iload_n dX12_above_0 rfl).trans ((wt_iconst dX12_above_1 (v := 3) (by decide)).trans (wt_if_icmp_ne dX12_above_2 (t := 9) rfl))
set_option maxHeartbeats 100000 in
theorem kX12_above_5 {d : Nat} {F : am_FT} {L : am_LT} {Q : am_QT} {l0 : Option Value} : wt am_S0 d mX12_above 5 [l0] [] F L Q = wt am_S0 d mX12_above 38 [l0] [.int 2] F L Q := (wt_iconst dX12_above_5 (v := 2) (by decide)).trans (wt_goto dX12_above_6 (t := 38) rfl)
set_option maxHeartbeats 100000 in
theorem kX12_above_9 {d : Nat} {F : am_FT} {L : am_LT} {Q : am_QT} {x0 : Int32} : wt am_S0 d mX12_above 9 [some (.int x0)] [] F L Q = if ¬ x0 = 4 then wt am_S0 d mX12_above 18 [some (.int x0)] [] F L Q else wt am_S0 d mX12_above 14 [some (.int x0)] [] F L Q := (wt_iload_n dX12_above_9 rfl).trans ((wt_iconst dX12_above_10 (v := 4) (by decide)).trans (wt_if_icmp_ne dX12_above_11 (t := 18) rfl))
set_option maxHeartbeats 100000 in
theorem kX12_above_14 {d : Nat} {F : am_FT} {L : am_LT} {Q : am_QT} {l0 : Option Value} : wt am_S0 d mX12_above 14 [l0] [] F L Q = wt am_S0 d mX12_above 38 [l0] [.int 1] F L Q := (wt_iconst dX12_above_14 (v := 1) (by decide)).trans (wt_goto dX12_above_15 (t := 38) rfl)
set_option maxHeartbeats 100000 in
theorem kX12_above_18 {d : Nat} {F : am_FT} {L : am_LT} {Q : am_QT} {x0 : Int32} : wt am_S0 d mX12_above 18 [some (.int x0)] [] F L Q = if ¬ x0 = 5 then wt am_S0 d mX12_above 27 [some (.int x0)] [] F L Q else wt am_S0 d mX12_above 23 [some (.int x0)] [] F L Q := (wt_iload_n dX12_above_18 rfl).trans ((wt_iconst dX12_above_19 (v := 5) (by decide)).trans (wt_if_icmp_ne dX12_above_20 (t := 27) rfl))
set_option maxHeartbeats 100000 in
theorem kX12_above_23 {d : Nat} {F : am_FT} {L : am_LT} {Q : am_QT} {l0 : Option Value} : wt am_S0 d mX12_above 23 [l0] [] F L Q = wt am_S0 d mX12_above 38 [l0] [.int 3] F L Q := (wt_iconst dX12_above_23 (v := 3) (by decide)).trans (wt_goto dX12_above_24 (t := 38) rfl)
set_option maxHeartbeats 100000 in
theorem kX12_above_27 {d : Nat} {F : am_FT} {L : am_LT} {Q : am_QT} {x0 : Int32} : wt am_S0 d mX12_above 27 [some (.int x0)] [] F L Q = if ¬ x0 = 7 then wt am_S0 d mX12_above 37 [some (.int x0)] [] F L Q else wt am_S0 d mX12_above 33 [some (.int x0)] [] F L Q := (wt_iload_n dX12_above_27 rfl).trans ((wt_bipush dX12_above_28 (v := 7) (by decide)).trans (wt_if_icmp_ne dX12_above_30 (t := 37) rfl))
set_option maxHeartbeats 100000 in
theorem kX12_above_33 {d : Nat} {F : am_FT} {L : am_LT} {Q : am_QT} {l0 : Option Value} : wt am_S0 d mX12_above 33 [l0] [] F L Q = wt am_S0 d mX12_above 38 [l0] [.int 4] F L Q := (wt_iconst dX12_above_33 (v := 4) (by decide)).trans (wt_goto dX12_above_34 (t := 38) rfl)
set_option maxHeartbeats 100000 in
theorem kX12_above_37 {d : Nat} {F : am_FT} {L : am_LT} {Q : am_QT} {l0 : Option Value} : wt am_S0 d mX12_above 37 [l0] [] F L Q = wt am_S0 d mX12_above 38 [l0] [.int 0] F L Q := wt_iconst dX12_above_37 (v := 0) (by decide)
set_option maxHeartbeats 100000 in
theorem kX12_above_38 {d : Nat} {F : am_FT} {L : am_LT} {Q : am_QT} {l0 : Option Value} {s0 : Int32} : wt am_S0 d mX12_above 38 [l0] [.int s0] F L Q = Q (some (.int s0)) F L := wt_ireturn dX12_above_38 rfl rfl
theorem dX12_count_0 : decode mX12_count.2.2.1 0 = .ok (.iload_n 1, 1) := by decide +kernel
theorem dX12_count_1 : decode mX12_count.2.2.1 1 = .ok (.tableswitch 69 0 5 #[39, 44, 49, 54, 59, 64], 39) := by decide +kernel
theorem dX12_count_40 : decode mX12_count.2.2.1 40 = .ok (.aload_n 0, 1) := by decide +kernel
theorem dX12_count_41 : decode mX12_count.2.2.1 41 = .ok (.getfield 72, 3) := by decide +kernel
theorem dX12_count_44 : decode mX12_count.2.2.1 44 = .ok (.ireturn, 1) := by decide +kernel
theorem dX12_count_45 : decode mX12_count.2.2.1 45 = .ok (.aload_n 0, 1) := by decide +kernel
theorem dX12_count_46 : decode mX12_count.2.2.1 46 = .ok (.getfield 79, 3) := by decide +kernel
theorem dX12_count_49 : decode mX12_count.2.2.1 49 = .ok (.ireturn, 1) := by decide +kernel
theorem dX12_count_50 : decode mX12_count.2.2.1 50 = .ok (.aload_n 0, 1) := by decide +kernel
theorem dX12_count_51 : decode mX12_count.2.2.1 51 = .ok (.getfield 129, 3) := by decide +kernel
theorem dX12_count_54 : decode mX12_count.2.2.1 54 = .ok (.ireturn, 1) := by decide +kernel
theorem dX12_count_55 : decode mX12_count.2.2.1 55 = .ok (.aload_n 0, 1) := by decide +kernel
theorem dX12_count_56 : decode mX12_count.2.2.1 56 = .ok (.getfield 66, 3) := by decide +kernel
theorem dX12_count_59 : decode mX12_count.2.2.1 59 = .ok (.ireturn, 1) := by decide +kernel
theorem dX12_count_60 : decode mX12_count.2.2.1 60 = .ok (.aload_n 0, 1) := by decide +kernel
theorem dX12_count_61 : decode mX12_count.2.2.1 61 = .ok (.getfield 282, 3) := by decide +kernel
theorem dX12_count_64 : decode mX12_count.2.2.1 64 = .ok (.ireturn, 1) := by decide +kernel
theorem dX12_count_65 : decode mX12_count.2.2.1 65 = .ok (.aload_n 0, 1) := by decide +kernel
theorem dX12_count_66 : decode mX12_count.2.2.1 66 = .ok (.getfield 287, 3) := by decide +kernel
theorem dX12_count_69 : decode mX12_count.2.2.1 69 = .ok (.ireturn, 1) := by decide +kernel
theorem dX12_count_70 : decode mX12_count.2.2.1 70 = .ok (.iconst (-1), 1) := by decide +kernel
theorem dX12_count_71 : decode mX12_count.2.2.1 71 = .ok (.ireturn, 1) := by decide +kernel
set_option maxHeartbeats 100000 in
theorem kX12_count_0 {d : Nat} {F : am_FT} {L : am_LT} {Q : am_QT} {l0 : Option Value} {x1 : Int32} : wt am_S0 d mX12_count 0 [l0, some (.int x1)] [] F L Q = if x1 = 0 then wt am_S0 d mX12_count 40 [l0, some (.int x1)] [] F L Q else if x1 = 1 then wt am_S0 d mX12_count 45 [l0, some (.int x1)] [] F L Q else if x1 = 2 then wt am_S0 d mX12_count 50 [l0, some (.int x1)] [] F L Q else if x1 = 3 then wt am_S0 d mX12_count 55 [l0, some (.int x1)] [] F L Q else if x1 = 4 then wt am_S0 d mX12_count 60 [l0, some (.int x1)] [] F L Q else if x1 = 5 then wt am_S0 d mX12_count 65 [l0, some (.int x1)] [] F L Q else wt am_S0 d mX12_count 70 [l0, some (.int x1)] [] F L Q := by
  rw [wt_iload_n dX12_count_0 rfl]
  by_cases g0 : x1 = 0
  · rw [if_pos g0, g0]
    exact wt_tableI dX12_count_1 (by decide) (off := 39) rfl (t := 40) rfl
  rw [if_neg g0]
  by_cases g1 : x1 = 1
  · rw [if_pos g1, g1]
    exact wt_tableI dX12_count_1 (by decide) (off := 44) rfl (t := 45) rfl
  rw [if_neg g1]
  by_cases g2 : x1 = 2
  · rw [if_pos g2, g2]
    exact wt_tableI dX12_count_1 (by decide) (off := 49) rfl (t := 50) rfl
  rw [if_neg g2]
  by_cases g3 : x1 = 3
  · rw [if_pos g3, g3]
    exact wt_tableI dX12_count_1 (by decide) (off := 54) rfl (t := 55) rfl
  rw [if_neg g3]
  by_cases g4 : x1 = 4
  · rw [if_pos g4, g4]
    exact wt_tableI dX12_count_1 (by decide) (off := 59) rfl (t := 60) rfl
  rw [if_neg g4]
  by_cases g5 : x1 = 5
  · rw [if_pos g5, g5]
    exact wt_tableI dX12_count_1 (by decide) (off := 64) rfl (t := 65) rfl
  rw [if_neg g5]
  have i0 : ¬ ((x1 : Int32)).toInt = 0 := fun z => g0 (Int32.toInt_inj.mp (z.trans (by decide)))
  have i1 : ¬ ((x1 : Int32)).toInt = 1 := fun z => g1 (Int32.toInt_inj.mp (z.trans (by decide)))
  have i2 : ¬ ((x1 : Int32)).toInt = 2 := fun z => g2 (Int32.toInt_inj.mp (z.trans (by decide)))
  have i3 : ¬ ((x1 : Int32)).toInt = 3 := fun z => g3 (Int32.toInt_inj.mp (z.trans (by decide)))
  have i4 : ¬ ((x1 : Int32)).toInt = 4 := fun z => g4 (Int32.toInt_inj.mp (z.trans (by decide)))
  have i5 : ¬ ((x1 : Int32)).toInt = 5 := fun z => g5 (Int32.toInt_inj.mp (z.trans (by decide)))
  exact wt_tableO dX12_count_1 (by omega) (t := 70) rfl
set_option maxHeartbeats 100000 in
theorem kX12_count_40 {d : Nat} {F : am_FT} {L : am_LT} {Q : am_QT} {l1 : Option Value} : wt am_S0 d mX12_count 40 [some (.ref 45), l1] [] F L Q = Q (some (.int (F 45 6))) F L := (wt_aload_n dX12_count_40 rfl rfl).trans ((wt_getfield dX12_count_41 rfl rfl (v := .int (F 45 6)) rfl).trans (wt_ireturn dX12_count_44 rfl rfl))
set_option maxHeartbeats 100000 in
theorem kX12_count_45 {d : Nat} {F : am_FT} {L : am_LT} {Q : am_QT} {l1 : Option Value} : wt am_S0 d mX12_count 45 [some (.ref 45), l1] [] F L Q = Q (some (.int (F 45 7))) F L := (wt_aload_n dX12_count_45 rfl rfl).trans ((wt_getfield dX12_count_46 rfl rfl (v := .int (F 45 7)) rfl).trans (wt_ireturn dX12_count_49 rfl rfl))
set_option maxHeartbeats 100000 in
theorem kX12_count_50 {d : Nat} {F : am_FT} {L : am_LT} {Q : am_QT} {l1 : Option Value} : wt am_S0 d mX12_count 50 [some (.ref 45), l1] [] F L Q = Q (some (.int (F 45 10))) F L := (wt_aload_n dX12_count_50 rfl rfl).trans ((wt_getfield dX12_count_51 rfl rfl (v := .int (F 45 10)) rfl).trans (wt_ireturn dX12_count_54 rfl rfl))
set_option maxHeartbeats 100000 in
theorem kX12_count_55 {d : Nat} {F : am_FT} {L : am_LT} {Q : am_QT} {l1 : Option Value} : wt am_S0 d mX12_count 55 [some (.ref 45), l1] [] F L Q = Q (some (.int (F 45 5))) F L := (wt_aload_n dX12_count_55 rfl rfl).trans ((wt_getfield dX12_count_56 rfl rfl (v := .int (F 45 5)) rfl).trans (wt_ireturn dX12_count_59 rfl rfl))
set_option maxHeartbeats 100000 in
theorem kX12_count_60 {d : Nat} {F : am_FT} {L : am_LT} {Q : am_QT} {l1 : Option Value} : wt am_S0 d mX12_count 60 [some (.ref 45), l1] [] F L Q = Q (some (.int (F 45 29))) F L := (wt_aload_n dX12_count_60 rfl rfl).trans ((wt_getfield dX12_count_61 rfl rfl (v := .int (F 45 29)) rfl).trans (wt_ireturn dX12_count_64 rfl rfl))
set_option maxHeartbeats 100000 in
theorem kX12_count_65 {d : Nat} {F : am_FT} {L : am_LT} {Q : am_QT} {l1 : Option Value} : wt am_S0 d mX12_count 65 [some (.ref 45), l1] [] F L Q = Q (some (.int (F 45 32))) F L := (wt_aload_n dX12_count_65 rfl rfl).trans ((wt_getfield dX12_count_66 rfl rfl (v := .int (F 45 32)) rfl).trans (wt_ireturn dX12_count_69 rfl rfl))
set_option maxHeartbeats 100000 in
theorem kX12_count_70 {d : Nat} {F : am_FT} {L : am_LT} {Q : am_QT} {l0 l1 : Option Value} : wt am_S0 d mX12_count 70 [l0, l1] [] F L Q = Q (some (.int (-1))) F L := (wt_iconst dX12_count_70 (v := (-1)) (by decide)).trans (wt_ireturn dX12_count_71 rfl rfl)
