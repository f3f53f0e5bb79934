theorem dX4_fewestToTurn_0 : decode mX4_fewestToTurn.2.2.1 0 = .ok (.aload_n 0, 1) := by decide +kernel
theorem dX4_fewestToTurn_1 : decode mX4_fewestToTurn.2.2.1 1 = .ok (.getfield 15, 3) := by decide +kernel
theorem dX4_fewestToTurn_4 : decode mX4_fewestToTurn.2.2.1 4 = .ok (.iload_n 1, 1) := by decide +kernel
theorem dX4_fewestToTurn_5 : decode mX4_fewestToTurn.2.2.1 5 = .ok (.iload_n 2, 1) := by decide +kernel
theorem dX4_fewestToTurn_6 : decode mX4_fewestToTurn.2.2.1 6 = .ok (.invokevirtual 26, 3) := by decide +kernel
theorem dX4_fewestToTurn_9 : decode mX4_fewestToTurn.2.2.1 9 = .ok (.aload_n 0, 1) := by decide +kernel
theorem dX4_fewestToTurn_10 : decode mX4_fewestToTurn.2.2.1 10 = .ok (.getfield 15, 3) := by decide +kernel
theorem dX4_fewestToTurn_13 : decode mX4_fewestToTurn.2.2.1 13 = .ok (.getfield 32, 3) := by decide +kernel
theorem dX4_fewestToTurn_16 : decode mX4_fewestToTurn.2.2.1 16 = .ok (.istore_n 3, 1) := by decide +kernel
theorem dX4_fewestToTurn_17 : decode mX4_fewestToTurn.2.2.1 17 = .ok (.aload_n 0, 1) := by decide +kernel
theorem dX4_fewestToTurn_18 : decode mX4_fewestToTurn.2.2.1 18 = .ok (.getfield 15, 3) := by decide +kernel
theorem dX4_fewestToTurn_21 : decode mX4_fewestToTurn.2.2.1 21 = .ok (.getfield 36, 3) := by decide +kernel
theorem dX4_fewestToTurn_24 : decode mX4_fewestToTurn.2.2.1 24 = .ok (.istore 4, 2) := by decide +kernel
theorem dX4_fewestToTurn_26 : decode mX4_fewestToTurn.2.2.1 26 = .ok (.aload_n 0, 1) := by decide +kernel
theorem dX4_fewestToTurn_27 : decode mX4_fewestToTurn.2.2.1 27 = .ok (.getfield 15, 3) := by decide +kernel
theorem dX4_fewestToTurn_30 : decode mX4_fewestToTurn.2.2.1 30 = .ok (.iload_n 3, 1) := by decide +kernel
theorem dX4_fewestToTurn_31 : decode mX4_fewestToTurn.2.2.1 31 = .ok (.iload 4, 2) := by decide +kernel
theorem dX4_fewestToTurn_33 : decode mX4_fewestToTurn.2.2.1 33 = .ok (.invokevirtual 39, 3) := by decide +kernel
theorem dX4_fewestToTurn_36 : decode mX4_fewestToTurn.2.2.1 36 = .ok (.istore 5, 2) := by decide +kernel
theorem dX4_fewestToTurn_38 : decode mX4_fewestToTurn.2.2.1 38 = .ok (.iconst 1, 1) := by decide +kernel
theorem dX4_fewestToTurn_39 : decode mX4_fewestToTurn.2.2.1 39 = .ok (.aload_n 0, 1) := by decide +kernel
theorem dX4_fewestToTurn_40 : decode mX4_fewestToTurn.2.2.1 40 = .ok (.getfield 9, 3) := by decide +kernel
theorem dX4_fewestToTurn_43 : decode mX4_fewestToTurn.2.2.1 43 = .ok (.getfield 43, 3) := by decide +kernel
theorem dX4_fewestToTurn_46 : decode mX4_fewestToTurn.2.2.1 46 = .ok (.ishl, 1) := by decide +kernel
theorem dX4_fewestToTurn_47 : decode mX4_fewestToTurn.2.2.1 47 = .ok (.istore 6, 2) := by decide +kernel
theorem dX4_fewestToTurn_49 : decode mX4_fewestToTurn.2.2.1 49 = .ok (.iconst 1, 1) := by decide +kernel
theorem dX4_fewestToTurn_50 : decode mX4_fewestToTurn.2.2.1 50 = .ok (.istore 7, 2) := by decide +kernel
theorem dX4_fewestToTurn_52 : decode mX4_fewestToTurn.2.2.1 52 = .ok (.iload 7, 2) := by decide +kernel
theorem dX4_fewestToTurn_54 : decode mX4_fewestToTurn.2.2.1 54 = .ok (.aload_n 0, 1) := by decide +kernel
theorem dX4_fewestToTurn_55 : decode mX4_fewestToTurn.2.2.1 55 = .ok (.getfield 9, 3) := by decide +kernel
theorem dX4_fewestToTurn_58 : decode mX4_fewestToTurn.2.2.1 58 = .ok (.getfield 43, 3) := by decide +kernel
theorem dX4_fewestToTurn_61 : decode mX4_fewestToTurn.2.2.1 61 = .ok (.if_icmp .gt 56, 3) := by decide +kernel
theorem dX4_fewestToTurn_64 : decode mX4_fewestToTurn.2.2.1 64 = .ok (.iconst 1, 1) := by decide +kernel
theorem dX4_fewestToTurn_65 : decode mX4_fewestToTurn.2.2.1 65 = .ok (.istore 8, 2) := by decide +kernel
theorem dX4_fewestToTurn_67 : decode mX4_fewestToTurn.2.2.1 67 = .ok (.iload 8, 2) := by decide +kernel
theorem dX4_fewestToTurn_69 : decode mX4_fewestToTurn.2.2.1 69 = .ok (.iload 6, 2) := by decide +kernel
theorem dX4_fewestToTurn_71 : decode mX4_fewestToTurn.2.2.1 71 = .ok (.if_icmp .ge 40, 3) := by decide +kernel
theorem dX4_fewestToTurn_74 : decode mX4_fewestToTurn.2.2.1 74 = .ok (.iload 8, 2) := by decide +kernel
theorem dX4_fewestToTurn_76 : decode mX4_fewestToTurn.2.2.1 76 = .ok (.invokestatic 48, 3) := by decide +kernel
theorem dX4_fewestToTurn_79 : decode mX4_fewestToTurn.2.2.1 79 = .ok (.iload 7, 2) := by decide +kernel
theorem dX4_fewestToTurn_81 : decode mX4_fewestToTurn.2.2.1 81 = .ok (.if_icmp .ne 24, 3) := by decide +kernel
theorem dX4_fewestToTurn_84 : decode mX4_fewestToTurn.2.2.1 84 = .ok (.aload_n 0, 1) := by decide +kernel
theorem dX4_fewestToTurn_85 : decode mX4_fewestToTurn.2.2.1 85 = .ok (.getfield 15, 3) := by decide +kernel
theorem dX4_fewestToTurn_88 : decode mX4_fewestToTurn.2.2.1 88 = .ok (.iload_n 3, 1) := by decide +kernel
theorem dX4_fewestToTurn_89 : decode mX4_fewestToTurn.2.2.1 89 = .ok (.iload 8, 2) := by decide +kernel
theorem dX4_fewestToTurn_91 : decode mX4_fewestToTurn.2.2.1 91 = .ok (.ixor, 1) := by decide +kernel
theorem dX4_fewestToTurn_92 : decode mX4_fewestToTurn.2.2.1 92 = .ok (.iload 4, 2) := by decide +kernel
theorem dX4_fewestToTurn_94 : decode mX4_fewestToTurn.2.2.1 94 = .ok (.invokevirtual 39, 3) := by decide +kernel
theorem dX4_fewestToTurn_97 : decode mX4_fewestToTurn.2.2.1 97 = .ok (.iload 5, 2) := by decide +kernel
theorem dX4_fewestToTurn_99 : decode mX4_fewestToTurn.2.2.1 99 = .ok (.if_icmp .eq 6, 3) := by decide +kernel
theorem dX4_fewestToTurn_102 : decode mX4_fewestToTurn.2.2.1 102 = .ok (.iload 8, 2) := by decide +kernel
theorem dX4_fewestToTurn_104 : decode mX4_fewestToTurn.2.2.1 104 = .ok (.ireturn, 1) := by decide +kernel
theorem dX4_fewestToTurn_105 : decode mX4_fewestToTurn.2.2.1 105 = .ok (.iinc 8 1, 3) := by decide +kernel
theorem dX4_fewestToTurn_108 : decode mX4_fewestToTurn.2.2.1 108 = .ok (.goto (-41), 3) := by decide +kernel
theorem dX4_fewestToTurn_111 : decode mX4_fewestToTurn.2.2.1 111 = .ok (.iinc 7 1, 3) := by decide +kernel
theorem dX4_fewestToTurn_114 : decode mX4_fewestToTurn.2.2.1 114 = .ok (.goto (-62), 3) := by decide +kernel
theorem dX4_fewestToTurn_117 : decode mX4_fewestToTurn.2.2.1 117 = .ok (.iconst 0, 1) := by decide +kernel
theorem dX4_fewestToTurn_118 : decode mX4_fewestToTurn.2.2.1 118 = .ok (.ireturn, 1) := by decide +kernel
set_option maxHeartbeats 100000 in
theorem kX4_fewestToTurn_0 {d : Nat} {F : am_FT} {L : am_LT} {Q : am_QT} {l3 l4 l5 l6 l7 l8 : Option Value} {x1 x2 : Int32} : wt am_S0 (d + 1) mX4_fewestToTurn 0 [some (.ref 16), some (.int x1), some (.int x2), l3, l4, l5, l6, l7, l8] [] F L Q = wc am_S0 d mX0_open [.ref 9, .int x1, .int x2] F L (fun r G K => wt am_S0 (d + 1) mX4_fewestToTurn 9 [some (.ref 16), some (.int x1), some (.int x2), l3, l4, l5, l6, l7, l8] (r.toList ++ []) G K Q) := (wt_aload_n dX4_fewestToTurn_0 rfl rfl).trans ((wt_getfield dX4_fewestToTurn_1 rfl rfl (v := .ref 9) rfl).trans ((wt_iload_n dX4_fewestToTurn_4 rfl).trans ((wt_iload_n dX4_fewestToTurn_5 rfl).trans (wt_callV dX4_fewestToTurn_6 rfl (as := [.int x1, .int x2]) (rest := []) rfl rfl (Nat.le_of_ble_eq_true rfl) rfl (Nat.le_of_ble_eq_true rfl)))))
set_option maxHeartbeats 100000 in
theorem kX4_fewestToTurn_9 {d : Nat} {F : am_FT} {L : am_LT} {Q : am_QT} {l1 l3 l4 l5 l6 l7 l8 : Option Value} {x2 : Int32} : wt am_S0 (d + 1) mX4_fewestToTurn 9 [some (.ref 16), l1, some (.int x2), l3, l4, l5, l6, l7, l8] [] F L Q = wc am_S0 d mX0_passes [.ref 9, .int (F 9 5), .int (F 9 6)] F L (fun r G K => wt am_S0 (d + 1) mX4_fewestToTurn 36 [some (.ref 16), l1, some (.int x2), some (.int (F 9 5)), some (.int (F 9 6)), l5, l6, l7, l8] (r.toList ++ []) G K Q) := (wt_aload_n dX4_fewestToTurn_9 rfl rfl).trans ((wt_getfield dX4_fewestToTurn_10 rfl rfl (v := .ref 9) rfl).trans ((wt_getfield dX4_fewestToTurn_13 rfl rfl (v := .int (F 9 5)) rfl).trans ((wt_istore_n dX4_fewestToTurn_16 (lv1 := [some (.ref 16), l1, some (.int x2), some (.int (F 9 5)), l4, l5, l6, l7, l8]) (Nat.le_of_ble_eq_true rfl) rfl).trans ((wt_aload_n dX4_fewestToTurn_17 rfl rfl).trans ((wt_getfield dX4_fewestToTurn_18 rfl rfl (v := .ref 9) rfl).trans ((wt_getfield dX4_fewestToTurn_21 rfl rfl (v := .int (F 9 6)) rfl).trans ((wt_istore dX4_fewestToTurn_24 (lv1 := [some (.ref 16), l1, some (.int x2), some (.int (F 9 5)), some (.int (F 9 6)), l5, l6, l7, l8]) (Nat.le_of_ble_eq_true rfl) rfl).trans ((wt_aload_n dX4_fewestToTurn_26 rfl rfl).trans ((wt_getfield dX4_fewestToTurn_27 rfl rfl (v := .ref 9) rfl).trans ((wt_iload_n dX4_fewestToTurn_30 rfl).trans ((wt_iload dX4_fewestToTurn_31 rfl).trans (wt_callV dX4_fewestToTurn_33 rfl (as := [.int (F 9 5), .int (F 9 6)]) (rest := []) rfl rfl (Nat.le_of_ble_eq_true rfl) rfl (Nat.le_of_ble_eq_true rfl)))))))))))))
set_option maxHeartbeats 100000 in
theorem kX4_fewestToTurn_36 {d : Nat} {F : am_FT} {L : am_LT} {Q : am_QT} {l1 l2 l3 l5 l6 l7 l8 : Option Value} {s0 x4 : Int32} : wt am_S0 d mX4_fewestToTurn 36 [some (.ref 16), l1, l2, l3, some (.int x4), l5, l6, l7, l8] [.int s0] F L Q = wt am_S0 d mX4_fewestToTurn 52 [some (.ref 16), l1, l2, l3, some (.int x4), some (.int s0), some (.int ((1 : Int32) <<< ((F 1 2) &&& 31))), some (.int 1), l8] [] F L Q := (wt_istore dX4_fewestToTurn_36 (lv1 := [some (.ref 16), l1, l2, l3, some (.int x4), some (.int s0), l6, l7, l8]) (Nat.le_of_ble_eq_true rfl) rfl).trans ((wt_iconst dX4_fewestToTurn_38 (v := 1) (by decide)).trans ((wt_aload_n dX4_fewestToTurn_39 rfl rfl).trans ((wt_getfield dX4_fewestToTurn_40 rfl rfl (v := .ref 1) rfl).trans ((wt_getfield dX4_fewestToTurn_43 rfl rfl (v := .int (F 1 2)) rfl).trans ((wt_ishl dX4_fewestToTurn_46).trans ((wt_istore dX4_fewestToTurn_47 (lv1 := [some (.ref 16), l1, l2, l3, some (.int x4), some (.int s0), some (.int ((1 : Int32) <<< ((F 1 2) &&& 31))), l7, l8]) (Nat.le_of_ble_eq_true rfl) rfl).trans ((wt_iconst dX4_fewestToTurn_49 (v := 1) (by decide)).trans (wt_istore dX4_fewestToTurn_50 (lv1 := [some (.ref 16), l1, l2, l3, some (.int x4), some (.int s0), some (.int ((1 : Int32) <<< ((F 1 2) &&& 31))), some (.int 1), l8]) (Nat.le_of_ble_eq_true rfl) rfl))))))))
set_option maxHeartbeats 100000 in
theorem kX4_fewestToTurn_52 {d : Nat} {F : am_FT} {L : am_LT} {Q : am_QT} {l1 l2 l3 l4 l5 l6 l8 : Option Value} {x7 : Int32} : wt am_S0 d mX4_fewestToTurn 52 [some (.ref 16), l1, l2, l3, l4, l5, l6, some (.int x7), l8] [] F L Q = if (F 1 2) < x7 then wt am_S0 d mX4_fewestToTurn 117 [some (.ref 16), l1, l2, l3, l4, l5, l6, some (.int x7), l8] [] F L Q else wt am_S0 d mX4_fewestToTurn 64 [some (.ref 16), l1, l2, l3, l4, l5, l6, some (.int x7), l8] [] F L Q := (wt_iload dX4_fewestToTurn_52 rfl).trans ((wt_aload_n dX4_fewestToTurn_54 rfl rfl).trans ((wt_getfield dX4_fewestToTurn_55 rfl rfl (v := .ref 1) rfl).trans ((wt_getfield dX4_fewestToTurn_58 rfl rfl (v := .int (F 1 2)) rfl).trans (wt_if_icmp_gt dX4_fewestToTurn_61 (t := 117) rfl))))
set_option maxHeartbeats 100000 in
theorem kX4_fewestToTurn_64 {d : Nat} {F : am_FT} {L : am_LT} {Q : am_QT} {l0 l1 l2 l3 l4 l5 l6 l8 : Option Value} {x7 : Int32} : wt am_S0 d mX4_fewestToTurn 64 [l0, l1, l2, l3, l4, l5, l6, some (.int x7), l8] [] F L Q = wt am_S0 d mX4_fewestToTurn 67 [l0, l1, l2, l3, l4, l5, l6, some (.int x7), some (.int 1)] [] F L Q := (wt_iconst dX4_fewestToTurn_64 (v := 1) (by decide)).trans (wt_istore dX4_fewestToTurn_65 (lv1 := [l0, l1, l2, l3, l4, l5, l6, some (.int x7), some (.int 1)]) (Nat.le_of_ble_eq_true rfl) rfl)
set_option maxHeartbeats 100000 in
theorem kX4_fewestToTurn_67 {d : Nat} {F : am_FT} {L : am_LT} {Q : am_QT} {l0 l1 l2 l3 l4 l5 l7 : Option Value} {x8 x6 : Int32} : wt am_S0 d mX4_fewestToTurn 67 [l0, l1, l2, l3, l4, l5, some (.int x6), l7, some (.int x8)] [] F L Q = if x6 ≤ x8 then wt am_S0 d mX4_fewestToTurn 111 [l0, l1, l2, l3, l4, l5, some (.int x6), l7, some (.int x8)] [] F L Q else wt am_S0 d mX4_fewestToTurn 74 [l0, l1, l2, l3, l4, l5, some (.int x6), l7, some (.int x8)] [] F L Q := (wt_iload dX4_fewestToTurn_67 rfl).trans ((wt_iload dX4_fewestToTurn_69 rfl).trans (wt_if_icmp_ge dX4_fewestToTurn_71 (t := 111) rfl))
set_option maxHeartbeats 100000 in
theorem kX4_fewestToTurn_74 {d : Nat} {F : am_FT} {L : am_LT} {Q : am_QT} {l0 l1 l2 l3 l4 l5 l6 l7 : Option Value} {x8 : Int32} : wt am_S0 (d + 1) mX4_fewestToTurn 74 [l0, l1, l2, l3, l4, l5, l6, l7, some (.int x8)] [] F L Q = wc am_S0 d mJ6_bitCount_0f7a4 [.int x8] F L (fun r G K => wt am_S0 (d + 1) mX4_fewestToTurn 79 [l0, l1, l2, l3, l4, l5, l6, l7, some (.int x8)] (r.toList ++ []) G K Q) := (wt_iload dX4_fewestToTurn_74 rfl).trans (wt_callS dX4_fewestToTurn_76 rfl (as := [.int x8]) (rest := []) rfl rfl (Nat.le_of_ble_eq_true rfl) (Nat.le_of_ble_eq_true rfl))
set_option maxHeartbeats 100000 in
theorem kX4_fewestToTurn_79 {d : Nat} {F : am_FT} {L : am_LT} {Q : am_QT} {l0 l1 l2 l3 l4 l5 l6 l8 : Option Value} {s0 x7 : Int32} : wt am_S0 d mX4_fewestToTurn 79 [l0, l1, l2, l3, l4, l5, l6, some (.int x7), l8] [.int s0] F L Q = if ¬ s0 = x7 then wt am_S0 d mX4_fewestToTurn 105 [l0, l1, l2, l3, l4, l5, l6, some (.int x7), l8] [] F L Q else wt am_S0 d mX4_fewestToTurn 84 [l0, l1, l2, l3, l4, l5, l6, some (.int x7), l8] [] F L Q := (wt_iload dX4_fewestToTurn_79 rfl).trans (wt_if_icmp_ne dX4_fewestToTurn_81 (t := 105) rfl)
set_option maxHeartbeats 100000 in
theorem kX4_fewestToTurn_84 {d : Nat} {F : am_FT} {L : am_LT} {Q : am_QT} {l1 l2 l5 l6 l7 : Option Value} {x3 x8 x4 : Int32} : wt am_S0 (d + 1) mX4_fewestToTurn 84 [some (.ref 16), l1, l2, some (.int x3), some (.int x4), l5, l6, l7, some (.int x8)] [] F L Q = wc am_S0 d mX0_passes [.ref 9, .int (x3 ^^^ x8), .int x4] F L (fun r G K => wt am_S0 (d + 1) mX4_fewestToTurn 97 [some (.ref 16), l1, l2, some (.int x3), some (.int x4), l5, l6, l7, some (.int x8)] (r.toList ++ []) G K Q) := (wt_aload_n dX4_fewestToTurn_84 rfl rfl).trans ((wt_getfield dX4_fewestToTurn_85 rfl rfl (v := .ref 9) rfl).trans ((wt_iload_n dX4_fewestToTurn_88 rfl).trans ((wt_iload dX4_fewestToTurn_89 rfl).trans ((wt_ixor dX4_fewestToTurn_91).trans ((wt_iload dX4_fewestToTurn_92 rfl).trans (wt_callV dX4_fewestToTurn_94 rfl (as := [.int (x3 ^^^ x8), .int x4]) (rest := []) rfl rfl (Nat.le_of_ble_eq_true rfl) rfl (Nat.le_of_ble_eq_true rfl)))))))
set_option maxHeartbeats 100000 in
theorem kX4_fewestToTurn_97 {d : Nat} {F : am_FT} {L : am_LT} {Q : am_QT} {l0 l1 l2 l3 l4 l6 l7 l8 : Option Value} {s0 x5 : Int32} : wt am_S0 d mX4_fewestToTurn 97 [l0, l1, l2, l3, l4, some (.int x5), l6, l7, l8] [.int s0] F L Q = if s0 = x5 then wt am_S0 d mX4_fewestToTurn 105 [l0, l1, l2, l3, l4, some (.int x5), l6, l7, l8] [] F L Q else wt am_S0 d mX4_fewestToTurn 102 [l0, l1, l2, l3, l4, some (.int x5), l6, l7, l8] [] F L Q := (wt_iload dX4_fewestToTurn_97 rfl).trans (wt_if_icmp_eq dX4_fewestToTurn_99 (t := 105) rfl)
set_option maxHeartbeats 100000 in
theorem kX4_fewestToTurn_102 {d : Nat} {F : am_FT} {L : am_LT} {Q : am_QT} {l0 l1 l2 l3 l4 l5 l6 l7 : Option Value} {x8 : Int32} : wt am_S0 d mX4_fewestToTurn 102 [l0, l1, l2, l3, l4, l5, l6, l7, some (.int x8)] [] F L Q = Q (some (.int x8)) F L := (wt_iload dX4_fewestToTurn_102 rfl).trans (wt_ireturn dX4_fewestToTurn_104 rfl rfl)
set_option maxHeartbeats 100000 in
theorem kX4_fewestToTurn_105 {d : Nat} {F : am_FT} {L : am_LT} {Q : am_QT} {l0 l1 l2 l3 l4 l5 l6 : Option Value} {x8 x7 : Int32} : wt am_S0 d mX4_fewestToTurn 105 [l0, l1, l2, l3, l4, l5, l6, some (.int x7), some (.int x8)] [] F L Q = wt am_S0 d mX4_fewestToTurn 67 [l0, l1, l2, l3, l4, l5, l6, some (.int x7), some (.int (x8 + 1))] [] F L Q := (wt_iinc dX4_fewestToTurn_105 (v := 1) (lv1 := [l0, l1, l2, l3, l4, l5, l6, some (.int x7), some (.int (x8 + 1))]) rfl (Nat.le_of_ble_eq_true rfl) (by decide) rfl).trans (wt_goto dX4_fewestToTurn_108 (t := 67) rfl)
set_option maxHeartbeats 100000 in
theorem kX4_fewestToTurn_111 {d : Nat} {F : am_FT} {L : am_LT} {Q : am_QT} {l0 l1 l2 l3 l4 l5 l8 : Option Value} {x7 x6 : Int32} : wt am_S0 d mX4_fewestToTurn 111 [l0, l1, l2, l3, l4, l5, some (.int x6), some (.int x7), l8] [] F L Q = wt am_S0 d mX4_fewestToTurn 52 [l0, l1, l2, l3, l4, l5, some (.int x6), some (.int (x7 + 1)), l8] [] F L Q := (wt_iinc dX4_fewestToTurn_111 (v := 1) (lv1 := [l0, l1, l2, l3, l4, l5, some (.int x6), some (.int (x7 + 1)), l8]) rfl (Nat.le_of_ble_eq_true rfl) (by decide) rfl).trans (wt_goto dX4_fewestToTurn_114 (t := 52) rfl)
set_option maxHeartbeats 100000 in
theorem kX4_fewestToTurn_117 {d : Nat} {F : am_FT} {L : am_LT} {Q : am_QT} {l0 l1 l2 l3 l4 l5 l6 l7 l8 : Option Value} : wt am_S0 d mX4_fewestToTurn 117 [l0, l1, l2, l3, l4, l5, l6, l7, l8] [] F L Q = Q (some (.int 0)) F L := (wt_iconst dX4_fewestToTurn_117 (v := 0) (by decide)).trans (wt_ireturn dX4_fewestToTurn_118 rfl rfl)
theorem dX4_hangsOn_0 : decode mX4_hangsOn.2.2.1 0 = .ok (.aload_n 0, 1) := by decide +kernel
theorem dX4_hangsOn_1 : decode mX4_hangsOn.2.2.1 1 = .ok (.getfield 15, 3) := by decide +kernel
theorem dX4_hangsOn_4 : decode mX4_hangsOn.2.2.1 4 = .ok (.iload_n 1, 1) := by decide +kernel
theorem dX4_hangsOn_5 : decode mX4_hangsOn.2.2.1 5 = .ok (.iload_n 2, 1) := by decide +kernel
theorem dX4_hangsOn_6 : decode mX4_hangsOn.2.2.1 6 = .ok (.invokevirtual 26, 3) := by decide +kernel
theorem dX4_hangsOn_9 : decode mX4_hangsOn.2.2.1 9 = .ok (.aload_n 0, 1) := by decide +kernel
theorem dX4_hangsOn_10 : decode mX4_hangsOn.2.2.1 10 = .ok (.getfield 15, 3) := by decide +kernel
theorem dX4_hangsOn_13 : decode mX4_hangsOn.2.2.1 13 = .ok (.getfield 32, 3) := by decide +kernel
theorem dX4_hangsOn_16 : decode mX4_hangsOn.2.2.1 16 = .ok (.istore_n 3, 1) := by decide +kernel
theorem dX4_hangsOn_17 : decode mX4_hangsOn.2.2.1 17 = .ok (.aload_n 0, 1) := by decide +kernel
theorem dX4_hangsOn_18 : decode mX4_hangsOn.2.2.1 18 = .ok (.getfield 15, 3) := by decide +kernel
theorem dX4_hangsOn_21 : decode mX4_hangsOn.2.2.1 21 = .ok (.iload_n 3, 1) := by decide +kernel
theorem dX4_hangsOn_22 : decode mX4_hangsOn.2.2.1 22 = .ok (.aload_n 0, 1) := by decide +kernel
theorem dX4_hangsOn_23 : decode mX4_hangsOn.2.2.1 23 = .ok (.getfield 15, 3) := by decide +kernel
theorem dX4_hangsOn_26 : decode mX4_hangsOn.2.2.1 26 = .ok (.getfield 36, 3) := by decide +kernel
theorem dX4_hangsOn_29 : decode mX4_hangsOn.2.2.1 29 = .ok (.invokevirtual 39, 3) := by decide +kernel
theorem dX4_hangsOn_32 : decode mX4_hangsOn.2.2.1 32 = .ok (.istore 4, 2) := by decide +kernel
theorem dX4_hangsOn_34 : decode mX4_hangsOn.2.2.1 34 = .ok (.iconst 0, 1) := by decide +kernel
theorem dX4_hangsOn_35 : decode mX4_hangsOn.2.2.1 35 = .ok (.istore 5, 2) := by decide +kernel
theorem dX4_hangsOn_37 : decode mX4_hangsOn.2.2.1 37 = .ok (.iconst 0, 1) := by decide +kernel
theorem dX4_hangsOn_38 : decode mX4_hangsOn.2.2.1 38 = .ok (.istore 6, 2) := by decide +kernel
theorem dX4_hangsOn_40 : decode mX4_hangsOn.2.2.1 40 = .ok (.iload 6, 2) := by decide +kernel
theorem dX4_hangsOn_42 : decode mX4_hangsOn.2.2.1 42 = .ok (.aload_n 0, 1) := by decide +kernel
theorem dX4_hangsOn_43 : decode mX4_hangsOn.2.2.1 43 = .ok (.getfield 9, 3) := by decide +kernel
theorem dX4_hangsOn_46 : decode mX4_hangsOn.2.2.1 46 = .ok (.getfield 43, 3) := by decide +kernel
theorem dX4_hangsOn_49 : decode mX4_hangsOn.2.2.1 49 = .ok (.if_icmp .ge 54, 3) := by decide +kernel
theorem dX4_hangsOn_52 : decode mX4_hangsOn.2.2.1 52 = .ok (.iload_n 3, 1) := by decide +kernel
theorem dX4_hangsOn_53 : decode mX4_hangsOn.2.2.1 53 = .ok (.iload 6, 2) := by decide +kernel
theorem dX4_hangsOn_55 : decode mX4_hangsOn.2.2.1 55 = .ok (.invokestatic 54, 3) := by decide +kernel
theorem dX4_hangsOn_58 : decode mX4_hangsOn.2.2.1 58 = .ok (.ifCond .eq 39, 3) := by decide +kernel
theorem dX4_hangsOn_61 : decode mX4_hangsOn.2.2.1 61 = .ok (.aload_n 0, 1) := by decide +kernel
theorem dX4_hangsOn_62 : decode mX4_hangsOn.2.2.1 62 = .ok (.getfield 15, 3) := by decide +kernel
theorem dX4_hangsOn_65 : decode mX4_hangsOn.2.2.1 65 = .ok (.iload_n 3, 1) := by decide +kernel
theorem dX4_hangsOn_66 : decode mX4_hangsOn.2.2.1 66 = .ok (.iconst 1, 1) := by decide +kernel
theorem dX4_hangsOn_67 : decode mX4_hangsOn.2.2.1 67 = .ok (.iload 6, 2) := by decide +kernel
theorem dX4_hangsOn_69 : decode mX4_hangsOn.2.2.1 69 = .ok (.ishl, 1) := by decide +kernel
theorem dX4_hangsOn_70 : decode mX4_hangsOn.2.2.1 70 = .ok (.iconst (-1), 1) := by decide +kernel
theorem dX4_hangsOn_71 : decode mX4_hangsOn.2.2.1 71 = .ok (.ixor, 1) := by decide +kernel
theorem dX4_hangsOn_72 : decode mX4_hangsOn.2.2.1 72 = .ok (.iand, 1) := by decide +kernel
theorem dX4_hangsOn_73 : decode mX4_hangsOn.2.2.1 73 = .ok (.aload_n 0, 1) := by decide +kernel
theorem dX4_hangsOn_74 : decode mX4_hangsOn.2.2.1 74 = .ok (.getfield 15, 3) := by decide +kernel
theorem dX4_hangsOn_77 : decode mX4_hangsOn.2.2.1 77 = .ok (.getfield 36, 3) := by decide +kernel
theorem dX4_hangsOn_80 : decode mX4_hangsOn.2.2.1 80 = .ok (.invokevirtual 39, 3) := by decide +kernel
theorem dX4_hangsOn_83 : decode mX4_hangsOn.2.2.1 83 = .ok (.iload 4, 2) := by decide +kernel
theorem dX4_hangsOn_85 : decode mX4_hangsOn.2.2.1 85 = .ok (.if_icmp .eq 12, 3) := by decide +kernel
theorem dX4_hangsOn_88 : decode mX4_hangsOn.2.2.1 88 = .ok (.iload 5, 2) := by decide +kernel
theorem dX4_hangsOn_90 : decode mX4_hangsOn.2.2.1 90 = .ok (.iconst 1, 1) := by decide +kernel
theorem dX4_hangsOn_91 : decode mX4_hangsOn.2.2.1 91 = .ok (.iload 6, 2) := by decide +kernel
theorem dX4_hangsOn_93 : decode mX4_hangsOn.2.2.1 93 = .ok (.ishl, 1) := by decide +kernel
theorem dX4_hangsOn_94 : decode mX4_hangsOn.2.2.1 94 = .ok (.ior, 1) := by decide +kernel
theorem dX4_hangsOn_95 : decode mX4_hangsOn.2.2.1 95 = .ok (.istore 5, 2) := by decide +kernel
theorem dX4_hangsOn_97 : decode mX4_hangsOn.2.2.1 97 = .ok (.iinc 6 1, 3) := by decide +kernel
theorem dX4_hangsOn_100 : decode mX4_hangsOn.2.2.1 100 = .ok (.goto (-60), 3) := by decide +kernel
theorem dX4_hangsOn_103 : decode mX4_hangsOn.2.2.1 103 = .ok (.iload 5, 2) := by decide +kernel
theorem dX4_hangsOn_105 : decode mX4_hangsOn.2.2.1 105 = .ok (.ireturn, 1) := by decide +kernel
set_option maxHeartbeats 100000 in
theorem kX4_hangsOn_0 {d : Nat} {F : am_FT} {L : am_LT} {Q : am_QT} {l3 l4 l5 l6 : Option Value} {x1 x2 : Int32} : wt am_S0 (d + 1) mX4_hangsOn 0 [some (.ref 16), some (.int x1), some (.int x2), l3, l4, l5, l6] [] F L Q = wc am_S0 d mX0_open [.ref 9, .int x1, .int x2] F L (fun r G K => wt am_S0 (d + 1) mX4_hangsOn 9 [some (.ref 16), some (.int x1), some (.int x2), l3, l4, l5, l6] (r.toList ++ []) G K Q) := (wt_aload_n dX4_hangsOn_0 rfl rfl).trans ((wt_getfield dX4_hangsOn_1 rfl rfl (v := .ref 9) rfl).trans ((wt_iload_n dX4_hangsOn_4 rfl).trans ((wt_iload_n dX4_hangsOn_5 rfl).trans (wt_callV dX4_hangsOn_6 rfl (as := [.int x1, .int x2]) (rest := []) rfl rfl (Nat.le_of_ble_eq_true rfl) rfl (Nat.le_of_ble_eq_true rfl)))))
set_option maxHeartbeats 100000 in
theorem kX4_hangsOn_9 {d : Nat} {F : am_FT} {L : am_LT} {Q : am_QT} {l1 l3 l4 l5 l6 : Option Value} {x2 : Int32} : wt am_S0 (d + 1) mX4_hangsOn 9 [some (.ref 16), l1, some (.int x2), l3, l4, l5, l6] [] F L Q = wc am_S0 d mX0_passes [.ref 9, .int (F 9 5), .int (F 9 6)] F L (fun r G K => wt am_S0 (d + 1) mX4_hangsOn 32 [some (.ref 16), l1, some (.int x2), some (.int (F 9 5)), l4, l5, l6] (r.toList ++ []) G K Q) := (wt_aload_n dX4_hangsOn_9 rfl rfl).trans ((wt_getfield dX4_hangsOn_10 rfl rfl (v := .ref 9) rfl).trans ((wt_getfield dX4_hangsOn_13 rfl rfl (v := .int (F 9 5)) rfl).trans ((wt_istore_n dX4_hangsOn_16 (lv1 := [some (.ref 16), l1, some (.int x2), some (.int (F 9 5)), l4, l5, l6]) (Nat.le_of_ble_eq_true rfl) rfl).trans ((wt_aload_n dX4_hangsOn_17 rfl rfl).trans ((wt_getfield dX4_hangsOn_18 rfl rfl (v := .ref 9) rfl).trans ((wt_iload_n dX4_hangsOn_21 rfl).trans ((wt_aload_n dX4_hangsOn_22 rfl rfl).trans ((wt_getfield dX4_hangsOn_23 rfl rfl (v := .ref 9) rfl).trans ((wt_getfield dX4_hangsOn_26 rfl rfl (v := .int (F 9 6)) rfl).trans (wt_callV dX4_hangsOn_29 rfl (as := [.int (F 9 5), .int (F 9 6)]) (rest := []) rfl rfl (Nat.le_of_ble_eq_true rfl) rfl (Nat.le_of_ble_eq_true rfl)))))))))))
set_option maxHeartbeats 100000 in
theorem kX4_hangsOn_32 {d : Nat} {F : am_FT} {L : am_LT} {Q : am_QT} {l0 l1 l2 l4 l5 l6 : Option Value} {s0 x3 : Int32} : wt am_S0 d mX4_hangsOn 32 [l0, l1, l2, some (.int x3), l4, l5, l6] [.int s0] F L Q = wt am_S0 d mX4_hangsOn 40 [l0, l1, l2, some (.int x3), some (.int s0), some (.int 0), some (.int 0)] [] F L Q := (wt_istore dX4_hangsOn_32 (lv1 := [l0, l1, l2, some (.int x3), some (.int s0), l5, l6]) (Nat.le_of_ble_eq_true rfl) rfl).trans ((wt_iconst dX4_hangsOn_34 (v := 0) (by decide)).trans ((wt_istore dX4_hangsOn_35 (lv1 := [l0, l1, l2, some (.int x3), some (.int s0), some (.int 0), l6]) (Nat.le_of_ble_eq_true rfl) rfl).trans ((wt_iconst dX4_hangsOn_37 (v := 0) (by decide)).trans (wt_istore dX4_hangsOn_38 (lv1 := [l0, l1, l2, some (.int x3), some (.int s0), some (.int 0), some (.int 0)]) (Nat.le_of_ble_eq_true rfl) rfl))))
set_option maxHeartbeats 100000 in
theorem kX4_hangsOn_40 {d : Nat} {F : am_FT} {L : am_LT} {Q : am_QT} {l1 l2 l3 l4 l5 : Option Value} {x6 : Int32} : wt am_S0 d mX4_hangsOn 40 [some (.ref 16), l1, l2, l3, l4, l5, some (.int x6)] [] F L Q = if (F 1 2) ≤ x6 then wt am_S0 d mX4_hangsOn 103 [some (.ref 16), l1, l2, l3, l4, l5, some (.int x6)] [] F L Q else wt am_S0 d mX4_hangsOn 52 [some (.ref 16), l1, l2, l3, l4, l5, some (.int x6)] [] F L Q := (wt_iload dX4_hangsOn_40 rfl).trans ((wt_aload_n dX4_hangsOn_42 rfl rfl).trans ((wt_getfield dX4_hangsOn_43 rfl rfl (v := .ref 1) rfl).trans ((wt_getfield dX4_hangsOn_46 rfl rfl (v := .int (F 1 2)) rfl).trans (wt_if_icmp_ge dX4_hangsOn_49 (t := 103) rfl))))
set_option maxHeartbeats 100000 in
theorem kX4_hangsOn_52 {d : Nat} {F : am_FT} {L : am_LT} {Q : am_QT} {l0 l1 l2 l4 l5 : Option Value} {x3 x6 : Int32} : wt am_S0 (d + 1) mX4_hangsOn 52 [l0, l1, l2, some (.int x3), l4, l5, some (.int x6)] [] F L Q = wc am_S0 d mX11_holds [.int x3, .int x6] F L (fun r G K => wt am_S0 (d + 1) mX4_hangsOn 58 [l0, l1, l2, some (.int x3), l4, l5, some (.int x6)] (r.toList ++ []) G K Q) := (wt_iload_n dX4_hangsOn_52 rfl).trans ((wt_iload dX4_hangsOn_53 rfl).trans (wt_callS dX4_hangsOn_55 rfl (as := [.int x3, .int x6]) (rest := []) rfl rfl (Nat.le_of_ble_eq_true rfl) (Nat.le_of_ble_eq_true rfl)))
set_option maxHeartbeats 100000 in
theorem kX4_hangsOn_58 {d : Nat} {F : am_FT} {L : am_LT} {Q : am_QT} {l0 l1 l2 l3 l4 l5 l6 : Option Value} {s0 : Int32} : wt am_S0 d mX4_hangsOn 58 [l0, l1, l2, l3, l4, l5, l6] [.int s0] F L Q = if s0 = 0 then wt am_S0 d mX4_hangsOn 97 [l0, l1, l2, l3, l4, l5, l6] [] F L Q else wt am_S0 d mX4_hangsOn 61 [l0, l1, l2, l3, l4, l5, l6] [] F L Q := wt_ifCond_eq dX4_hangsOn_58 (t := 97) rfl
set_option maxHeartbeats 100000 in
theorem kX4_hangsOn_61 {d : Nat} {F : am_FT} {L : am_LT} {Q : am_QT} {l1 l2 l4 l5 : Option Value} {x3 x6 : Int32} : wt am_S0 (d + 1) mX4_hangsOn 61 [some (.ref 16), l1, l2, some (.int x3), l4, l5, some (.int x6)] [] F L Q = wc am_S0 d mX0_passes [.ref 9, .int (x3 &&& (((1 : Int32) <<< (x6 &&& 31)) ^^^ (-1))), .int (F 9 6)] F L (fun r G K => wt am_S0 (d + 1) mX4_hangsOn 83 [some (.ref 16), l1, l2, some (.int x3), l4, l5, some (.int x6)] (r.toList ++ []) G K Q) := (wt_aload_n dX4_hangsOn_61 rfl rfl).trans ((wt_getfield dX4_hangsOn_62 rfl rfl (v := .ref 9) rfl).trans ((wt_iload_n dX4_hangsOn_65 rfl).trans ((wt_iconst dX4_hangsOn_66 (v := 1) (by decide)).trans ((wt_iload dX4_hangsOn_67 rfl).trans ((wt_ishl dX4_hangsOn_69).trans ((wt_iconst dX4_hangsOn_70 (v := (-1)) (by decide)).trans ((wt_ixor dX4_hangsOn_71).trans ((wt_iand dX4_hangsOn_72).trans ((wt_aload_n dX4_hangsOn_73 rfl rfl).trans ((wt_getfield dX4_hangsOn_74 rfl rfl (v := .ref 9) rfl).trans ((wt_getfield dX4_hangsOn_77 rfl rfl (v := .int (F 9 6)) rfl).trans (wt_callV dX4_hangsOn_80 rfl (as := [.int (x3 &&& (((1 : Int32) <<< (x6 &&& 31)) ^^^ (-1))), .int (F 9 6)]) (rest := []) rfl rfl (Nat.le_of_ble_eq_true rfl) rfl (Nat.le_of_ble_eq_true rfl)))))))))))))
set_option maxHeartbeats 100000 in
theorem kX4_hangsOn_83 {d : Nat} {F : am_FT} {L : am_LT} {Q : am_QT} {l0 l1 l2 l3 l5 l6 : Option Value} {s0 x4 : Int32} : wt am_S0 d mX4_hangsOn 83 [l0, l1, l2, l3, some (.int x4), l5, l6] [.int s0] F L Q = if s0 = x4 then wt am_S0 d mX4_hangsOn 97 [l0, l1, l2, l3, some (.int x4), l5, l6] [] F L Q else wt am_S0 d mX4_hangsOn 88 [l0, l1, l2, l3, some (.int x4), l5, l6] [] F L Q := (wt_iload dX4_hangsOn_83 rfl).trans (wt_if_icmp_eq dX4_hangsOn_85 (t := 97) rfl)
set_option maxHeartbeats 100000 in
theorem kX4_hangsOn_88 {d : Nat} {F : am_FT} {L : am_LT} {Q : am_QT} {l0 l1 l2 l3 : Option Value} {x5 x6 x4 : Int32} : wt am_S0 d mX4_hangsOn 88 [l0, l1, l2, l3, some (.int x4), some (.int x5), some (.int x6)] [] F L Q = wt am_S0 d mX4_hangsOn 97 [l0, l1, l2, l3, some (.int x4), some (.int (x5 ||| ((1 : Int32) <<< (x6 &&& 31)))), some (.int x6)] [] F L Q := (wt_iload dX4_hangsOn_88 rfl).trans ((wt_iconst dX4_hangsOn_90 (v := 1) (by decide)).trans ((wt_iload dX4_hangsOn_91 rfl).trans ((wt_ishl dX4_hangsOn_93).trans ((wt_ior dX4_hangsOn_94).trans (wt_istore dX4_hangsOn_95 (lv1 := [l0, l1, l2, l3, some (.int x4), some (.int (x5 ||| ((1 : Int32) <<< (x6 &&& 31)))), some (.int x6)]) (Nat.le_of_ble_eq_true rfl) rfl)))))
set_option maxHeartbeats 100000 in
theorem kX4_hangsOn_97 {d : Nat} {F : am_FT} {L : am_LT} {Q : am_QT} {l0 l1 l2 l3 l4 : Option Value} {x6 x5 : Int32} : wt am_S0 d mX4_hangsOn 97 [l0, l1, l2, l3, l4, some (.int x5), some (.int x6)] [] F L Q = wt am_S0 d mX4_hangsOn 40 [l0, l1, l2, l3, l4, some (.int x5), some (.int (x6 + 1))] [] F L Q := (wt_iinc dX4_hangsOn_97 (v := 1) (lv1 := [l0, l1, l2, l3, l4, some (.int x5), some (.int (x6 + 1))]) rfl (Nat.le_of_ble_eq_true rfl) (by decide) rfl).trans (wt_goto dX4_hangsOn_100 (t := 40) rfl)
set_option maxHeartbeats 100000 in
theorem kX4_hangsOn_103 {d : Nat} {F : am_FT} {L : am_LT} {Q : am_QT} {l0 l1 l2 l3 l4 l6 : Option Value} {x5 : Int32} : wt am_S0 d mX4_hangsOn 103 [l0, l1, l2, l3, l4, some (.int x5), l6] [] F L Q = Q (some (.int x5)) F L := (wt_iload dX4_hangsOn_103 rfl).trans (wt_ireturn dX4_hangsOn_105 rfl rfl)
theorem dX4_powerOf_0 : decode mX4_powerOf.2.2.1 0 = .ok (.aload_n 0, 1) := by decide +kernel
theorem dX4_powerOf_1 : decode mX4_powerOf.2.2.1 1 = .ok (.getfield 15, 3) := by decide +kernel
theorem dX4_powerOf_4 : decode mX4_powerOf.2.2.1 4 = .ok (.iload_n 1, 1) := by decide +kernel
theorem dX4_powerOf_5 : decode mX4_powerOf.2.2.1 5 = .ok (.iload_n 2, 1) := by decide +kernel
theorem dX4_powerOf_6 : decode mX4_powerOf.2.2.1 6 = .ok (.invokevirtual 26, 3) := by decide +kernel
theorem dX4_powerOf_9 : decode mX4_powerOf.2.2.1 9 = .ok (.aload_n 0, 1) := by decide +kernel
theorem dX4_powerOf_10 : decode mX4_powerOf.2.2.1 10 = .ok (.getfield 15, 3) := by decide +kernel
theorem dX4_powerOf_13 : decode mX4_powerOf.2.2.1 13 = .ok (.getfield 32, 3) := by decide +kernel
theorem dX4_powerOf_16 : decode mX4_powerOf.2.2.1 16 = .ok (.iload_n 3, 1) := by decide +kernel
theorem dX4_powerOf_17 : decode mX4_powerOf.2.2.1 17 = .ok (.invokestatic 54, 3) := by decide +kernel
theorem dX4_powerOf_20 : decode mX4_powerOf.2.2.1 20 = .ok (.ifCond .ne 6, 3) := by decide +kernel
theorem dX4_powerOf_23 : decode mX4_powerOf.2.2.1 23 = .ok (.iload 4, 2) := by decide +kernel
theorem dX4_powerOf_25 : decode mX4_powerOf.2.2.1 25 = .ok (.ireturn, 1) := by decide +kernel
theorem dX4_powerOf_26 : decode mX4_powerOf.2.2.1 26 = .ok (.aload_n 0, 1) := by decide +kernel
theorem dX4_powerOf_27 : decode mX4_powerOf.2.2.1 27 = .ok (.getfield 15, 3) := by decide +kernel
theorem dX4_powerOf_30 : decode mX4_powerOf.2.2.1 30 = .ok (.getfield 32, 3) := by decide +kernel
theorem dX4_powerOf_33 : decode mX4_powerOf.2.2.1 33 = .ok (.iconst 1, 1) := by decide +kernel
theorem dX4_powerOf_34 : decode mX4_powerOf.2.2.1 34 = .ok (.iload_n 3, 1) := by decide +kernel
theorem dX4_powerOf_35 : decode mX4_powerOf.2.2.1 35 = .ok (.ishl, 1) := by decide +kernel
theorem dX4_powerOf_36 : decode mX4_powerOf.2.2.1 36 = .ok (.iconst (-1), 1) := by decide +kernel
theorem dX4_powerOf_37 : decode mX4_powerOf.2.2.1 37 = .ok (.ixor, 1) := by decide +kernel
theorem dX4_powerOf_38 : decode mX4_powerOf.2.2.1 38 = .ok (.iand, 1) := by decide +kernel
theorem dX4_powerOf_39 : decode mX4_powerOf.2.2.1 39 = .ok (.istore 5, 2) := by decide +kernel
theorem dX4_powerOf_41 : decode mX4_powerOf.2.2.1 41 = .ok (.aload_n 0, 1) := by decide +kernel
theorem dX4_powerOf_42 : decode mX4_powerOf.2.2.1 42 = .ok (.iload_n 3, 1) := by decide +kernel
theorem dX4_powerOf_43 : decode mX4_powerOf.2.2.1 43 = .ok (.iload 5, 2) := by decide +kernel
theorem dX4_powerOf_45 : decode mX4_powerOf.2.2.1 45 = .ok (.invokevirtual 57, 3) := by decide +kernel
theorem dX4_powerOf_48 : decode mX4_powerOf.2.2.1 48 = .ok (.istore 6, 2) := by decide +kernel
theorem dX4_powerOf_50 : decode mX4_powerOf.2.2.1 50 = .ok (.iconst 1, 1) := by decide +kernel
theorem dX4_powerOf_51 : decode mX4_powerOf.2.2.1 51 = .ok (.iload 5, 2) := by decide +kernel
theorem dX4_powerOf_53 : decode mX4_powerOf.2.2.1 53 = .ok (.invokestatic 48, 3) := by decide +kernel
theorem dX4_powerOf_56 : decode mX4_powerOf.2.2.1 56 = .ok (.ishl, 1) := by decide +kernel
theorem dX4_powerOf_57 : decode mX4_powerOf.2.2.1 57 = .ok (.istore 7, 2) := by decide +kernel
theorem dX4_powerOf_59 : decode mX4_powerOf.2.2.1 59 = .ok (.iload 7, 2) := by decide +kernel
theorem dX4_powerOf_61 : decode mX4_powerOf.2.2.1 61 = .ok (.iconst 1, 1) := by decide +kernel
theorem dX4_powerOf_62 : decode mX4_powerOf.2.2.1 62 = .ok (.if_icmp .le 25, 3) := by decide +kernel
theorem dX4_powerOf_65 : decode mX4_powerOf.2.2.1 65 = .ok (.iload 6, 2) := by decide +kernel
theorem dX4_powerOf_67 : decode mX4_powerOf.2.2.1 67 = .ok (.iconst 2, 1) := by decide +kernel
theorem dX4_powerOf_68 : decode mX4_powerOf.2.2.1 68 = .ok (.irem, 1) := by decide +kernel
theorem dX4_powerOf_69 : decode mX4_powerOf.2.2.1 69 = .ok (.ifCond .ne 18, 3) := by decide +kernel
theorem dX4_powerOf_72 : decode mX4_powerOf.2.2.1 72 = .ok (.iload 6, 2) := by decide +kernel
theorem dX4_powerOf_74 : decode mX4_powerOf.2.2.1 74 = .ok (.iconst 2, 1) := by decide +kernel
theorem dX4_powerOf_75 : decode mX4_powerOf.2.2.1 75 = .ok (.idiv, 1) := by decide +kernel
theorem dX4_powerOf_76 : decode mX4_powerOf.2.2.1 76 = .ok (.istore 6, 2) := by decide +kernel
theorem dX4_powerOf_78 : decode mX4_powerOf.2.2.1 78 = .ok (.iload 7, 2) := by decide +kernel
theorem dX4_powerOf_80 : decode mX4_powerOf.2.2.1 80 = .ok (.iconst 2, 1) := by decide +kernel
theorem dX4_powerOf_81 : decode mX4_powerOf.2.2.1 81 = .ok (.idiv, 1) := by decide +kernel
theorem dX4_powerOf_82 : decode mX4_powerOf.2.2.1 82 = .ok (.istore 7, 2) := by decide +kernel
theorem dX4_powerOf_84 : decode mX4_powerOf.2.2.1 84 = .ok (.goto (-25), 3) := by decide +kernel
theorem dX4_powerOf_87 : decode mX4_powerOf.2.2.1 87 = .ok (.iload 4, 2) := by decide +kernel
theorem dX4_powerOf_89 : decode mX4_powerOf.2.2.1 89 = .ok (.ifCond .ne 8, 3) := by decide +kernel
theorem dX4_powerOf_92 : decode mX4_powerOf.2.2.1 92 = .ok (.iload 6, 2) := by decide +kernel
theorem dX4_powerOf_94 : decode mX4_powerOf.2.2.1 94 = .ok (.goto 5, 3) := by decide +kernel
theorem dX4_powerOf_97 : decode mX4_powerOf.2.2.1 97 = .ok (.iload 7, 2) := by decide +kernel
theorem dX4_powerOf_99 : decode mX4_powerOf.2.2.1 99 = .ok (.ireturn, 1) := by decide +kernel
set_option maxHeartbeats 100000 in
theorem kX4_powerOf_0 {d : Nat} {F : am_FT} {L : am_LT} {Q : am_QT} {l3 l4 l5 l6 l7 : Option Value} {x1 x2 : Int32} : wt am_S0 (d + 1) mX4_powerOf 0 [some (.ref 16), some (.int x1), some (.int x2), l3, l4, l5, l6, l7] [] F L Q = wc am_S0 d mX0_open [.ref 9, .int x1, .int x2] F L (fun r G K => wt am_S0 (d + 1) mX4_powerOf 9 [some (.ref 16), some (.int x1), some (.int x2), l3, l4, l5, l6, l7] (r.toList ++ []) G K Q) := (wt_aload_n dX4_powerOf_0 rfl rfl).trans ((wt_getfield dX4_powerOf_1 rfl rfl (v := .ref 9) rfl).trans ((wt_iload_n dX4_powerOf_4 rfl).trans ((wt_iload_n dX4_powerOf_5 rfl).trans (wt_callV dX4_powerOf_6 rfl (as := [.int x1, .int x2]) (rest := []) rfl rfl (Nat.le_of_ble_eq_true rfl) rfl (Nat.le_of_ble_eq_true rfl)))))
set_option maxHeartbeats 100000 in
theorem kX4_powerOf_9 {d : Nat} {F : am_FT} {L : am_LT} {Q : am_QT} {l1 l2 l4 l5 l6 l7 : Option Value} {x3 : Int32} : wt am_S0 (d + 1) mX4_powerOf 9 [some (.ref 16), l1, l2, some (.int x3), l4, l5, l6, l7] [] F L Q = wc am_S0 d mX11_holds [.int (F 9 5), .int x3] F L (fun r G K => wt am_S0 (d + 1) mX4_powerOf 20 [some (.ref 16), l1, l2, some (.int x3), l4, l5, l6, l7] (r.toList ++ []) G K Q) := (wt_aload_n dX4_powerOf_9 rfl rfl).trans ((wt_getfield dX4_powerOf_10 rfl rfl (v := .ref 9) rfl).trans ((wt_getfield dX4_powerOf_13 rfl rfl (v := .int (F 9 5)) rfl).trans ((wt_iload_n dX4_powerOf_16 rfl).trans (wt_callS dX4_powerOf_17 rfl (as := [.int (F 9 5), .int x3]) (rest := []) rfl rfl (Nat.le_of_ble_eq_true rfl) (Nat.le_of_ble_eq_true rfl)))))
set_option maxHeartbeats 100000 in
theorem kX4_powerOf_20 {d : Nat} {F : am_FT} {L : am_LT} {Q : am_QT} {l0 l1 l2 l3 l4 l5 l6 l7 : Option Value} {s0 : Int32} : wt am_S0 d mX4_powerOf 20 [l0, l1, l2, l3, l4, l5, l6, l7] [.int s0] F L Q = if ¬ s0 = 0 then wt am_S0 d mX4_powerOf 26 [l0, l1, l2, l3, l4, l5, l6, l7] [] F L Q else wt am_S0 d mX4_powerOf 23 [l0, l1, l2, l3, l4, l5, l6, l7] [] F L Q := wt_ifCond_ne dX4_powerOf_20 (t := 26) rfl
set_option maxHeartbeats 100000 in
theorem kX4_powerOf_23 {d : Nat} {F : am_FT} {L : am_LT} {Q : am_QT} {l0 l1 l2 l3 l5 l6 l7 : Option Value} {x4 : Int32} : wt am_S0 d mX4_powerOf 23 [l0, l1, l2, l3, some (.int x4), l5, l6, l7] [] F L Q = Q (some (.int x4)) F L := (wt_iload dX4_powerOf_23 rfl).trans (wt_ireturn dX4_powerOf_25 rfl rfl)
set_option maxHeartbeats 100000 in
theorem kX4_powerOf_26 {d : Nat} {F : am_FT} {L : am_LT} {Q : am_QT} {l1 l2 l5 l6 l7 : Option Value} {x3 x4 : Int32} : wt am_S0 (d + 1) mX4_powerOf 26 [some (.ref 16), l1, l2, some (.int x3), some (.int x4), l5, l6, l7] [] F L Q = wc am_S0 d mX4_waysToDecide [.ref 16, .int x3, .int ((F 9 5) &&& (((1 : Int32) <<< (x3 &&& 31)) ^^^ (-1)))] F L (fun r G K => wt am_S0 (d + 1) mX4_powerOf 48 [some (.ref 16), l1, l2, some (.int x3), some (.int x4), some (.int ((F 9 5) &&& (((1 : Int32) <<< (x3 &&& 31)) ^^^ (-1)))), l6, l7] (r.toList ++ []) G K Q) := (wt_aload_n dX4_powerOf_26 rfl rfl).trans ((wt_getfield dX4_powerOf_27 rfl rfl (v := .ref 9) rfl).trans ((wt_getfield dX4_powerOf_30 rfl rfl (v := .int (F 9 5)) rfl).trans ((wt_iconst dX4_powerOf_33 (v := 1) (by decide)).trans ((wt_iload_n dX4_powerOf_34 rfl).trans ((wt_ishl dX4_powerOf_35).trans ((wt_iconst dX4_powerOf_36 (v := (-1)) (by decide)).trans ((wt_ixor dX4_powerOf_37).trans ((wt_iand dX4_powerOf_38).trans ((wt_istore dX4_powerOf_39 (lv1 := [some (.ref 16), l1, l2, some (.int x3), some (.int x4), some (.int ((F 9 5) &&& (((1 : Int32) <<< (x3 &&& 31)) ^^^ (-1)))), l6, l7]) (Nat.le_of_ble_eq_true rfl) rfl).trans ((wt_aload_n dX4_powerOf_41 rfl rfl).trans ((wt_iload_n dX4_powerOf_42 rfl).trans ((wt_iload dX4_powerOf_43 rfl).trans (wt_callV dX4_powerOf_45 rfl (as := [.int x3, .int ((F 9 5) &&& (((1 : Int32) <<< (x3 &&& 31)) ^^^ (-1)))]) (rest := []) rfl rfl (Nat.le_of_ble_eq_true rfl) rfl (Nat.le_of_ble_eq_true rfl))))))))))))))
set_option maxHeartbeats 100000 in
theorem kX4_powerOf_48 {d : Nat} {F : am_FT} {L : am_LT} {Q : am_QT} {l0 l1 l2 l3 l4 l6 l7 : Option Value} {s0 x5 : Int32} : wt am_S0 (d + 1) mX4_powerOf 48 [l0, l1, l2, l3, l4, some (.int x5), l6, l7] [.int s0] F L Q = wc am_S0 d mJ6_bitCount_0f7a4 [.int x5] F L (fun r G K => wt am_S0 (d + 1) mX4_powerOf 56 [l0, l1, l2, l3, l4, some (.int x5), some (.int s0), l7] (r.toList ++ [.int 1]) G K Q) := (wt_istore dX4_powerOf_48 (lv1 := [l0, l1, l2, l3, l4, some (.int x5), some (.int s0), l7]) (Nat.le_of_ble_eq_true rfl) rfl).trans ((wt_iconst dX4_powerOf_50 (v := 1) (by decide)).trans ((wt_iload dX4_powerOf_51 rfl).trans (wt_callS dX4_powerOf_53 rfl (as := [.int x5]) (rest := [.int 1]) rfl rfl (Nat.le_of_ble_eq_true rfl) (Nat.le_of_ble_eq_true rfl))))
set_option maxHeartbeats 100000 in
theorem kX4_powerOf_56 {d : Nat} {F : am_FT} {L : am_LT} {Q : am_QT} {l0 l1 l2 l3 l4 l5 l7 : Option Value} {s0 s1 x6 : Int32} : wt am_S0 d mX4_powerOf 56 [l0, l1, l2, l3, l4, l5, some (.int x6), l7] [.int s1, .int s0] F L Q = wt am_S0 d mX4_powerOf 59 [l0, l1, l2, l3, l4, l5, some (.int x6), some (.int (s0 <<< (s1 &&& 31)))] [] F L Q := (wt_ishl dX4_powerOf_56).trans (wt_istore dX4_powerOf_57 (lv1 := [l0, l1, l2, l3, l4, l5, some (.int x6), some (.int (s0 <<< (s1 &&& 31)))]) (Nat.le_of_ble_eq_true rfl) rfl)
set_option maxHeartbeats 100000 in
theorem kX4_powerOf_59 {d : Nat} {F : am_FT} {L : am_LT} {Q : am_QT} {l0 l1 l2 l3 l4 l5 l6 : Option Value} {x7 : Int32} : wt am_S0 d mX4_powerOf 59 [l0, l1, l2, l3, l4, l5, l6, some (.int x7)] [] F L Q = if x7 ≤ 1 then wt am_S0 d mX4_powerOf 87 [l0, l1, l2, l3, l4, l5, l6, some (.int x7)] [] F L Q else wt am_S0 d mX4_powerOf 65 [l0, l1, l2, l3, l4, l5, l6, some (.int x7)] [] F L Q := (wt_iload dX4_powerOf_59 rfl).trans ((wt_iconst dX4_powerOf_61 (v := 1) (by decide)).trans (wt_if_icmp_le dX4_powerOf_62 (t := 87) rfl))
set_option maxHeartbeats 100000 in
theorem kX4_powerOf_65 {d : Nat} {F : am_FT} {L : am_LT} {Q : am_QT} {l0 l1 l2 l3 l4 l5 l7 : Option Value} {x6 : Int32} : wt am_S0 d mX4_powerOf 65 [l0, l1, l2, l3, l4, l5, some (.int x6), l7] [] F L Q = if ¬ (x6 - x6 / 2 * 2) = 0 then wt am_S0 d mX4_powerOf 87 [l0, l1, l2, l3, l4, l5, some (.int x6), l7] [] F L Q else wt am_S0 d mX4_powerOf 72 [l0, l1, l2, l3, l4, l5, some (.int x6), l7] [] F L Q := (wt_iload dX4_powerOf_65 rfl).trans ((wt_iconst dX4_powerOf_67 (v := 2) (by decide)).trans ((wt_irem dX4_powerOf_68 (by decide)).trans (wt_ifCond_ne dX4_powerOf_69 (t := 87) rfl)))
set_option maxHeartbeats 100000 in
theorem kX4_powerOf_72 {d : Nat} {F : am_FT} {L : am_LT} {Q : am_QT} {l0 l1 l2 l3 l4 : Option Value} {x6 x5 x7 : Int32} : wt am_S0 d mX4_powerOf 72 [l0, l1, l2, l3, l4, some (.int x5), some (.int x6), some (.int x7)] [] F L Q = wt am_S0 d mX4_powerOf 59 [l0, l1, l2, l3, l4, some (.int x5), some (.int (x6 / 2)), some (.int (x7 / 2))] [] F L Q := (wt_iload dX4_powerOf_72 rfl).trans ((wt_iconst dX4_powerOf_74 (v := 2) (by decide)).trans ((wt_idiv dX4_powerOf_75 (by decide)).trans ((wt_istore dX4_powerOf_76 (lv1 := [l0, l1, l2, l3, l4, some (.int x5), some (.int (x6 / 2)), some (.int x7)]) (Nat.le_of_ble_eq_true rfl) rfl).trans ((wt_iload dX4_powerOf_78 rfl).trans ((wt_iconst dX4_powerOf_80 (v := 2) (by decide)).trans ((wt_idiv dX4_powerOf_81 (by decide)).trans ((wt_istore dX4_powerOf_82 (lv1 := [l0, l1, l2, l3, l4, some (.int x5), some (.int (x6 / 2)), some (.int (x7 / 2))]) (Nat.le_of_ble_eq_true rfl) rfl).trans (wt_goto dX4_powerOf_84 (t := 59) rfl))))))))
set_option maxHeartbeats 100000 in
theorem kX4_powerOf_87 {d : Nat} {F : am_FT} {L : am_LT} {Q : am_QT} {l0 l1 l2 l3 l5 l6 l7 : Option Value} {x4 : Int32} : wt am_S0 d mX4_powerOf 87 [l0, l1, l2, l3, some (.int x4), l5, l6, l7] [] F L Q = if ¬ x4 = 0 then wt am_S0 d mX4_powerOf 97 [l0, l1, l2, l3, some (.int x4), l5, l6, l7] [] F L Q else wt am_S0 d mX4_powerOf 92 [l0, l1, l2, l3, some (.int x4), l5, l6, l7] [] F L Q := (wt_iload dX4_powerOf_87 rfl).trans (wt_ifCond_ne dX4_powerOf_89 (t := 97) rfl)
set_option maxHeartbeats 100000 in
theorem kX4_powerOf_92 {d : Nat} {F : am_FT} {L : am_LT} {Q : am_QT} {l0 l1 l2 l3 l4 l5 l7 : Option Value} {x6 : Int32} : wt am_S0 d mX4_powerOf 92 [l0, l1, l2, l3, l4, l5, some (.int x6), l7] [] F L Q = wt am_S0 d mX4_powerOf 99 [l0, l1, l2, l3, l4, l5, some (.int x6), l7] [.int x6] F L Q := (wt_iload dX4_powerOf_92 rfl).trans (wt_goto dX4_powerOf_94 (t := 99) rfl)
set_option maxHeartbeats 100000 in
theorem kX4_powerOf_97 {d : Nat} {F : am_FT} {L : am_LT} {Q : am_QT} {l0 l1 l2 l3 l4 l5 l6 : Option Value} {x7 : Int32} : wt am_S0 d mX4_powerOf 97 [l0, l1, l2, l3, l4, l5, l6, some (.int x7)] [] F L Q = wt am_S0 d mX4_powerOf 99 [l0, l1, l2, l3, l4, l5, l6, some (.int x7)] [.int x7] F L Q := wt_iload dX4_powerOf_97 rfl
set_option maxHeartbeats 100000 in
theorem kX4_powerOf_99 {d : Nat} {F : am_FT} {L : am_LT} {Q : am_QT} {l0 l1 l2 l3 l4 l5 l6 l7 : Option Value} {s0 : Int32} : wt am_S0 d mX4_powerOf 99 [l0, l1, l2, l3, l4, l5, l6, l7] [.int s0] F L Q = Q (some (.int s0)) F L := wt_ireturn dX4_powerOf_99 rfl rfl
theorem dX4_waysToDecide_0 : decode mX4_waysToDecide.2.2.1 0 = .ok (.aload_n 0, 1) := by decide +kernel
theorem dX4_waysToDecide_1 : decode mX4_waysToDecide.2.2.1 1 = .ok (.getfield 19, 3) := by decide +kernel
theorem dX4_waysToDecide_4 : decode mX4_waysToDecide.2.2.1 4 = .ok (.astore_n 3, 1) := by decide +kernel
theorem dX4_waysToDecide_5 : decode mX4_waysToDecide.2.2.1 5 = .ok (.aload_n 0, 1) := by decide +kernel
theorem dX4_waysToDecide_6 : decode mX4_waysToDecide.2.2.1 6 = .ok (.getfield 15, 3) := by decide +kernel
theorem dX4_waysToDecide_9 : decode mX4_waysToDecide.2.2.1 9 = .ok (.aload_n 3, 1) := by decide +kernel
theorem dX4_waysToDecide_10 : decode mX4_waysToDecide.2.2.1 10 = .ok (.invokevirtual 61, 3) := by decide +kernel
theorem dX4_waysToDecide_13 : decode mX4_waysToDecide.2.2.1 13 = .ok (.aload_n 0, 1) := by decide +kernel
theorem dX4_waysToDecide_14 : decode mX4_waysToDecide.2.2.1 14 = .ok (.getfield 15, 3) := by decide +kernel
theorem dX4_waysToDecide_17 : decode mX4_waysToDecide.2.2.1 17 = .ok (.aload_n 0, 1) := by decide +kernel
theorem dX4_waysToDecide_18 : decode mX4_waysToDecide.2.2.1 18 = .ok (.getfield 15, 3) := by decide +kernel
theorem dX4_waysToDecide_21 : decode mX4_waysToDecide.2.2.1 21 = .ok (.getfield 32, 3) := by decide +kernel
theorem dX4_waysToDecide_24 : decode mX4_waysToDecide.2.2.1 24 = .ok (.invokevirtual 65, 3) := by decide +kernel
theorem dX4_waysToDecide_27 : decode mX4_waysToDecide.2.2.1 27 = .ok (.istore 4, 2) := by decide +kernel
theorem dX4_waysToDecide_29 : decode mX4_waysToDecide.2.2.1 29 = .ok (.iconst 1, 1) := by decide +kernel
theorem dX4_waysToDecide_30 : decode mX4_waysToDecide.2.2.1 30 = .ok (.aload_n 0, 1) := by decide +kernel
theorem dX4_waysToDecide_31 : decode mX4_waysToDecide.2.2.1 31 = .ok (.getfield 9, 3) := by decide +kernel
theorem dX4_waysToDecide_34 : decode mX4_waysToDecide.2.2.1 34 = .ok (.getfield 43, 3) := by decide +kernel
theorem dX4_waysToDecide_37 : decode mX4_waysToDecide.2.2.1 37 = .ok (.ishl, 1) := by decide +kernel
theorem dX4_waysToDecide_38 : decode mX4_waysToDecide.2.2.1 38 = .ok (.istore 5, 2) := by decide +kernel
theorem dX4_waysToDecide_40 : decode mX4_waysToDecide.2.2.1 40 = .ok (.iconst 0, 1) := by decide +kernel
theorem dX4_waysToDecide_41 : decode mX4_waysToDecide.2.2.1 41 = .ok (.istore 6, 2) := by decide +kernel
theorem dX4_waysToDecide_43 : decode mX4_waysToDecide.2.2.1 43 = .ok (.iconst 0, 1) := by decide +kernel
theorem dX4_waysToDecide_44 : decode mX4_waysToDecide.2.2.1 44 = .ok (.istore 7, 2) := by decide +kernel
theorem dX4_waysToDecide_46 : decode mX4_waysToDecide.2.2.1 46 = .ok (.iload 7, 2) := by decide +kernel
theorem dX4_waysToDecide_48 : decode mX4_waysToDecide.2.2.1 48 = .ok (.iload 5, 2) := by decide +kernel
theorem dX4_waysToDecide_50 : decode mX4_waysToDecide.2.2.1 50 = .ok (.if_icmp .ge 75, 3) := by decide +kernel
theorem dX4_waysToDecide_53 : decode mX4_waysToDecide.2.2.1 53 = .ok (.iload 7, 2) := by decide +kernel
theorem dX4_waysToDecide_55 : decode mX4_waysToDecide.2.2.1 55 = .ok (.iload_n 2, 1) := by decide +kernel
theorem dX4_waysToDecide_56 : decode mX4_waysToDecide.2.2.1 56 = .ok (.iconst (-1), 1) := by decide +kernel
theorem dX4_waysToDecide_57 : decode mX4_waysToDecide.2.2.1 57 = .ok (.ixor, 1) := by decide +kernel
theorem dX4_waysToDecide_58 : decode mX4_waysToDecide.2.2.1 58 = .ok (.iand, 1) := by decide +kernel
theorem dX4_waysToDecide_59 : decode mX4_waysToDecide.2.2.1 59 = .ok (.ifCond .eq 6, 3) := by decide +kernel
theorem dX4_waysToDecide_62 : decode mX4_waysToDecide.2.2.1 62 = .ok (.goto 57, 3) := by decide +kernel
theorem dX4_waysToDecide_65 : decode mX4_waysToDecide.2.2.1 65 = .ok (.iconst 2, 1) := by decide +kernel
theorem dX4_waysToDecide_66 : decode mX4_waysToDecide.2.2.1 66 = .ok (.aload_n 3, 1) := by decide +kernel
theorem dX4_waysToDecide_67 : decode mX4_waysToDecide.2.2.1 67 = .ok (.iload 7, 2) := by decide +kernel
theorem dX4_waysToDecide_69 : decode mX4_waysToDecide.2.2.1 69 = .ok (.invokestatic 68, 3) := by decide +kernel
theorem dX4_waysToDecide_72 : decode mX4_waysToDecide.2.2.1 72 = .ok (.imul, 1) := by decide +kernel
theorem dX4_waysToDecide_73 : decode mX4_waysToDecide.2.2.1 73 = .ok (.iload 4, 2) := by decide +kernel
theorem dX4_waysToDecide_75 : decode mX4_waysToDecide.2.2.1 75 = .ok (.if_icmp .le 7, 3) := by decide +kernel
theorem dX4_waysToDecide_78 : decode mX4_waysToDecide.2.2.1 78 = .ok (.iconst 1, 1) := by decide +kernel
theorem dX4_waysToDecide_79 : decode mX4_waysToDecide.2.2.1 79 = .ok (.goto 4, 3) := by decide +kernel
theorem dX4_waysToDecide_82 : decode mX4_waysToDecide.2.2.1 82 = .ok (.iconst 0, 1) := by decide +kernel
theorem dX4_waysToDecide_83 : decode mX4_waysToDecide.2.2.1 83 = .ok (.istore 8, 2) := by decide +kernel
theorem dX4_waysToDecide_85 : decode mX4_waysToDecide.2.2.1 85 = .ok (.iconst 2, 1) := by decide +kernel
theorem dX4_waysToDecide_86 : decode mX4_waysToDecide.2.2.1 86 = .ok (.aload_n 3, 1) := by decide +kernel
theorem dX4_waysToDecide_87 : decode mX4_waysToDecide.2.2.1 87 = .ok (.iload 7, 2) := by decide +kernel
theorem dX4_waysToDecide_89 : decode mX4_waysToDecide.2.2.1 89 = .ok (.iconst 1, 1) := by decide +kernel
theorem dX4_waysToDecide_90 : decode mX4_waysToDecide.2.2.1 90 = .ok (.iload_n 1, 1) := by decide +kernel
theorem dX4_waysToDecide_91 : decode mX4_waysToDecide.2.2.1 91 = .ok (.ishl, 1) := by decide +kernel
theorem dX4_waysToDecide_92 : decode mX4_waysToDecide.2.2.1 92 = .ok (.ior, 1) := by decide +kernel
theorem dX4_waysToDecide_93 : decode mX4_waysToDecide.2.2.1 93 = .ok (.invokestatic 68, 3) := by decide +kernel
theorem dX4_waysToDecide_96 : decode mX4_waysToDecide.2.2.1 96 = .ok (.imul, 1) := by decide +kernel
theorem dX4_waysToDecide_97 : decode mX4_waysToDecide.2.2.1 97 = .ok (.iload 4, 2) := by decide +kernel
theorem dX4_waysToDecide_99 : decode mX4_waysToDecide.2.2.1 99 = .ok (.if_icmp .le 7, 3) := by decide +kernel
theorem dX4_waysToDecide_102 : decode mX4_waysToDecide.2.2.1 102 = .ok (.iconst 1, 1) := by decide +kernel
theorem dX4_waysToDecide_103 : decode mX4_waysToDecide.2.2.1 103 = .ok (.goto 4, 3) := by decide +kernel
theorem dX4_waysToDecide_106 : decode mX4_waysToDecide.2.2.1 106 = .ok (.iconst 0, 1) := by decide +kernel
theorem dX4_waysToDecide_107 : decode mX4_waysToDecide.2.2.1 107 = .ok (.istore 9, 2) := by decide +kernel
theorem dX4_waysToDecide_109 : decode mX4_waysToDecide.2.2.1 109 = .ok (.iload 9, 2) := by decide +kernel
theorem dX4_waysToDecide_111 : decode mX4_waysToDecide.2.2.1 111 = .ok (.iload 8, 2) := by decide +kernel
theorem dX4_waysToDecide_113 : decode mX4_waysToDecide.2.2.1 113 = .ok (.if_icmp .eq 6, 3) := by decide +kernel
theorem dX4_waysToDecide_116 : decode mX4_waysToDecide.2.2.1 116 = .ok (.iinc 6 1, 3) := by decide +kernel
theorem dX4_waysToDecide_119 : decode mX4_waysToDecide.2.2.1 119 = .ok (.iinc 7 1, 3) := by decide +kernel
theorem dX4_waysToDecide_122 : decode mX4_waysToDecide.2.2.1 122 = .ok (.goto (-76), 3) := by decide +kernel
theorem dX4_waysToDecide_125 : decode mX4_waysToDecide.2.2.1 125 = .ok (.iload 6, 2) := by decide +kernel
theorem dX4_waysToDecide_127 : decode mX4_waysToDecide.2.2.1 127 = .ok (.ireturn, 1) := by decide +kernel
set_option maxHeartbeats 100000 in
theorem kX4_waysToDecide_0 {d : Nat} {F : am_FT} {L : am_LT} {Q : am_QT} {l1 l3 l4 l5 l6 l7 l8 l9 : Option Value} {x2 : Int32} : wt am_S0 (d + 1) mX4_waysToDecide 0 [some (.ref 16), l1, some (.int x2), l3, l4, l5, l6, l7, l8, l9] [] F L Q = wc am_S0 d mX0_sumSets [.ref 9, .ref 14] F L (fun r G K => wt am_S0 (d + 1) mX4_waysToDecide 13 [some (.ref 16), l1, some (.int x2), some (.ref 14), l4, l5, l6, l7, l8, l9] (r.toList ++ []) G K Q) := (wt_aload_n dX4_waysToDecide_0 rfl rfl).trans ((wt_getfield dX4_waysToDecide_1 rfl rfl (v := .ref 14) rfl).trans ((wt_astore_n dX4_waysToDecide_4 (lv1 := [some (.ref 16), l1, some (.int x2), some (.ref 14), l4, l5, l6, l7, l8, l9]) rfl (Nat.le_of_ble_eq_true rfl) rfl).trans ((wt_aload_n dX4_waysToDecide_5 rfl rfl).trans ((wt_getfield dX4_waysToDecide_6 rfl rfl (v := .ref 9) rfl).trans ((wt_aload_n dX4_waysToDecide_9 rfl rfl).trans (wt_callV dX4_waysToDecide_10 rfl (as := [.ref 14]) (rest := []) rfl rfl (Nat.le_of_ble_eq_true rfl) rfl (Nat.le_of_ble_eq_true rfl)))))))
set_option maxHeartbeats 100000 in
theorem kX4_waysToDecide_13 {d : Nat} {F : am_FT} {L : am_LT} {Q : am_QT} {l1 l2 l3 l4 l5 l6 l7 l8 l9 : Option Value} : wt am_S0 (d + 1) mX4_waysToDecide 13 [some (.ref 16), l1, l2, l3, l4, l5, l6, l7, l8, l9] [] F L Q = wc am_S0 d mX0_sumOf [.ref 9, .int (F 9 5)] F L (fun r G K => wt am_S0 (d + 1) mX4_waysToDecide 27 [some (.ref 16), l1, l2, l3, l4, l5, l6, l7, l8, l9] (r.toList ++ []) G K Q) := (wt_aload_n dX4_waysToDecide_13 rfl rfl).trans ((wt_getfield dX4_waysToDecide_14 rfl rfl (v := .ref 9) rfl).trans ((wt_aload_n dX4_waysToDecide_17 rfl rfl).trans ((wt_getfield dX4_waysToDecide_18 rfl rfl (v := .ref 9) rfl).trans ((wt_getfield dX4_waysToDecide_21 rfl rfl (v := .int (F 9 5)) rfl).trans (wt_callV dX4_waysToDecide_24 rfl (as := [.int (F 9 5)]) (rest := []) rfl rfl (Nat.le_of_ble_eq_true rfl) rfl (Nat.le_of_ble_eq_true rfl))))))
set_option maxHeartbeats 100000 in
theorem kX4_waysToDecide_27 {d : Nat} {F : am_FT} {L : am_LT} {Q : am_QT} {l1 l2 l4 l5 l6 l7 l8 l9 : Option Value} {s0 : Int32} : wt am_S0 d mX4_waysToDecide 27 [some (.ref 16), l1, l2, some (.ref 14), l4, l5, l6, l7, l8, l9] [.int s0] F L Q = wt am_S0 d mX4_waysToDecide 46 [some (.ref 16), l1, l2, some (.ref 14), some (.int s0), some (.int ((1 : Int32) <<< ((F 1 2) &&& 31))), some (.int 0), some (.int 0), l8, l9] [] F L Q := (wt_istore dX4_waysToDecide_27 (lv1 := [some (.ref 16), l1, l2, some (.ref 14), some (.int s0), l5, l6, l7, l8, l9]) (Nat.le_of_ble_eq_true rfl) rfl).trans ((wt_iconst dX4_waysToDecide_29 (v := 1) (by decide)).trans ((wt_aload_n dX4_waysToDecide_30 rfl rfl).trans ((wt_getfield dX4_waysToDecide_31 rfl rfl (v := .ref 1) rfl).trans ((wt_getfield dX4_waysToDecide_34 rfl rfl (v := .int (F 1 2)) rfl).trans ((wt_ishl dX4_waysToDecide_37).trans ((wt_istore dX4_waysToDecide_38 (lv1 := [some (.ref 16), l1, l2, some (.ref 14), some (.int s0), some (.int ((1 : Int32) <<< ((F 1 2) &&& 31))), l6, l7, l8, l9]) (Nat.le_of_ble_eq_true rfl) rfl).trans ((wt_iconst dX4_waysToDecide_40 (v := 0) (by decide)).trans ((wt_istore dX4_waysToDecide_41 (lv1 := [some (.ref 16), l1, l2, some (.ref 14), some (.int s0), some (.int ((1 : Int32) <<< ((F 1 2) &&& 31))), some (.int 0), l7, l8, l9]) (Nat.le_of_ble_eq_true rfl) rfl).trans ((wt_iconst dX4_waysToDecide_43 (v := 0) (by decide)).trans (wt_istore dX4_waysToDecide_44 (lv1 := [some (.ref 16), l1, l2, some (.ref 14), some (.int s0), some (.int ((1 : Int32) <<< ((F 1 2) &&& 31))), some (.int 0), some (.int 0), l8, l9]) (Nat.le_of_ble_eq_true rfl) rfl))))))))))
set_option maxHeartbeats 100000 in
theorem kX4_waysToDecide_46 {d : Nat} {F : am_FT} {L : am_LT} {Q : am_QT} {l0 l1 l2 l3 l4 l6 l8 l9 : Option Value} {x7 x5 : Int32} : wt am_S0 d mX4_waysToDecide 46 [l0, l1, l2, l3, l4, some (.int x5), l6, some (.int x7), l8, l9] [] F L Q = if x5 ≤ x7 then wt am_S0 d mX4_waysToDecide 125 [l0, l1, l2, l3, l4, some (.int x5), l6, some (.int x7), l8, l9] [] F L Q else wt am_S0 d mX4_waysToDecide 53 [l0, l1, l2, l3, l4, some (.int x5), l6, some (.int x7), l8, l9] [] F L Q := (wt_iload dX4_waysToDecide_46 rfl).trans ((wt_iload dX4_waysToDecide_48 rfl).trans (wt_if_icmp_ge dX4_waysToDecide_50 (t := 125) rfl))
set_option maxHeartbeats 100000 in
theorem kX4_waysToDecide_53 {d : Nat} {F : am_FT} {L : am_LT} {Q : am_QT} {l0 l1 l3 l4 l5 l6 l8 l9 : Option Value} {x7 x2 : Int32} : wt am_S0 d mX4_waysToDecide 53 [l0, l1, some (.int x2), l3, l4, l5, l6, some (.int x7), l8, l9] [] F L Q = if (x7 &&& (x2 ^^^ (-1))) = 0 then wt am_S0 d mX4_waysToDecide 65 [l0, l1, some (.int x2), l3, l4, l5, l6, some (.int x7), l8, l9] [] F L Q else wt am_S0 d mX4_waysToDecide 62 [l0, l1, some (.int x2), l3, l4, l5, l6, some (.int x7), l8, l9] [] F L Q := (wt_iload dX4_waysToDecide_53 rfl).trans ((wt_iload_n dX4_waysToDecide_55 rfl).trans ((wt_iconst dX4_waysToDecide_56 (v := (-1)) (by decide)).trans ((wt_ixor dX4_waysToDecide_57).trans ((wt_iand dX4_waysToDecide_58).trans (wt_ifCond_eq dX4_waysToDecide_59 (t := 65) rfl)))))
set_option maxHeartbeats 100000 in
theorem kX4_waysToDecide_62 {d : Nat} {F : am_FT} {L : am_LT} {Q : am_QT} {l0 l1 l2 l3 l4 l5 l6 l7 l8 l9 : Option Value} : wt am_S0 d mX4_waysToDecide 62 [l0, l1, l2, l3, l4, l5, l6, l7, l8, l9] [] F L Q = wt am_S0 d mX4_waysToDecide 119 [l0, l1, l2, l3, l4, l5, l6, l7, l8, l9] [] F L Q := wt_goto dX4_waysToDecide_62 (t := 119) rfl
set_option maxHeartbeats 100000 in
theorem kX4_waysToDecide_65 {d : Nat} {F : am_FT} {L : am_LT} {Q : am_QT} {l0 l1 l2 l4 l5 l6 l8 l9 : Option Value} {x7 : Int32} : wt am_S0 (d + 1) mX4_waysToDecide 65 [l0, l1, l2, some (.ref 14), l4, l5, l6, some (.int x7), l8, l9] [] F L Q = wc am_S0 d mX11_at [.ref 14, .int x7] F L (fun r G K => wt am_S0 (d + 1) mX4_waysToDecide 72 [l0, l1, l2, some (.ref 14), l4, l5, l6, some (.int x7), l8, l9] (r.toList ++ [.int 2]) G K Q) := (wt_iconst dX4_waysToDecide_65 (v := 2) (by decide)).trans ((wt_aload_n dX4_waysToDecide_66 rfl rfl).trans ((wt_iload dX4_waysToDecide_67 rfl).trans (wt_callS dX4_waysToDecide_69 rfl (as := [.ref 14, .int x7]) (rest := [.int 2]) rfl rfl (Nat.le_of_ble_eq_true rfl) (Nat.le_of_ble_eq_true rfl))))
set_option maxHeartbeats 100000 in
theorem kX4_waysToDecide_72 {d : Nat} {F : am_FT} {L : am_LT} {Q : am_QT} {l0 l1 l2 l3 l5 l6 l7 l8 l9 : Option Value} {s0 s1 x4 : Int32} : wt am_S0 d mX4_waysToDecide 72 [l0, l1, l2, l3, some (.int x4), l5, l6, l7, l8, l9] [.int s1, .int s0] F L Q = if (s0 * s1) ≤ x4 then wt am_S0 d mX4_waysToDecide 82 [l0, l1, l2, l3, some (.int x4), l5, l6, l7, l8, l9] [] F L Q else wt am_S0 d mX4_waysToDecide 78 [l0, l1, l2, l3, some (.int x4), l5, l6, l7, l8, l9] [] F L Q := (wt_imul dX4_waysToDecide_72).trans ((wt_iload dX4_waysToDecide_73 rfl).trans (wt_if_icmp_le dX4_waysToDecide_75 (t := 82) rfl))
set_option maxHeartbeats 100000 in
theorem kX4_waysToDecide_78 {d : Nat} {F : am_FT} {L : am_LT} {Q : am_QT} {l0 l1 l2 l3 l4 l5 l6 l7 l8 l9 : Option Value} : wt am_S0 d mX4_waysToDecide 78 [l0, l1, l2, l3, l4, l5, l6, l7, l8, l9] [] F L Q = wt am_S0 d mX4_waysToDecide 83 [l0, l1, l2, l3, l4, l5, l6, l7, l8, l9] [.int 1] F L Q := (wt_iconst dX4_waysToDecide_78 (v := 1) (by decide)).trans (wt_goto dX4_waysToDecide_79 (t := 83) rfl)
set_option maxHeartbeats 100000 in
theorem kX4_waysToDecide_82 {d : Nat} {F : am_FT} {L : am_LT} {Q : am_QT} {l0 l1 l2 l3 l4 l5 l6 l7 l8 l9 : Option Value} : wt am_S0 d mX4_waysToDecide 82 [l0, l1, l2, l3, l4, l5, l6, l7, l8, l9] [] F L Q = wt am_S0 d mX4_waysToDecide 83 [l0, l1, l2, l3, l4, l5, l6, l7, l8, l9] [.int 0] F L Q := wt_iconst dX4_waysToDecide_82 (v := 0) (by decide)
set_option maxHeartbeats 100000 in
theorem kX4_waysToDecide_83 {d : Nat} {F : am_FT} {L : am_LT} {Q : am_QT} {l0 l2 l4 l5 l6 l8 l9 : Option Value} {s0 x7 x1 : Int32} : wt am_S0 (d + 1) mX4_waysToDecide 83 [l0, some (.int x1), l2, some (.ref 14), l4, l5, l6, some (.int x7), l8, l9] [.int s0] F L Q = wc am_S0 d mX11_at [.ref 14, .int (x7 ||| ((1 : Int32) <<< (x1 &&& 31)))] F L (fun r G K => wt am_S0 (d + 1) mX4_waysToDecide 96 [l0, some (.int x1), l2, some (.ref 14), l4, l5, l6, some (.int x7), some (.int s0), l9] (r.toList ++ [.int 2]) G K Q) := (wt_istore dX4_waysToDecide_83 (lv1 := [l0, some (.int x1), l2, some (.ref 14), l4, l5, l6, some (.int x7), some (.int s0), l9]) (Nat.le_of_ble_eq_true rfl) rfl).trans ((wt_iconst dX4_waysToDecide_85 (v := 2) (by decide)).trans ((wt_aload_n dX4_waysToDecide_86 rfl rfl).trans ((wt_iload dX4_waysToDecide_87 rfl).trans ((wt_iconst dX4_waysToDecide_89 (v := 1) (by decide)).trans ((wt_iload_n dX4_waysToDecide_90 rfl).trans ((wt_ishl dX4_waysToDecide_91).trans ((wt_ior dX4_waysToDecide_92).trans (wt_callS dX4_waysToDecide_93 rfl (as := [.ref 14, .int (x7 ||| ((1 : Int32) <<< (x1 &&& 31)))]) (rest := [.int 2]) rfl rfl (Nat.le_of_ble_eq_true rfl) (Nat.le_of_ble_eq_true rfl)))))))))
set_option maxHeartbeats 100000 in
theorem kX4_waysToDecide_96 {d : Nat} {F : am_FT} {L : am_LT} {Q : am_QT} {l0 l1 l2 l3 l5 l6 l7 l8 l9 : Option Value} {s0 s1 x4 : Int32} : wt am_S0 d mX4_waysToDecide 96 [l0, l1, l2, l3, some (.int x4), l5, l6, l7, l8, l9] [.int s1, .int s0] F L Q = if (s0 * s1) ≤ x4 then wt am_S0 d mX4_waysToDecide 106 [l0, l1, l2, l3, some (.int x4), l5, l6, l7, l8, l9] [] F L Q else wt am_S0 d mX4_waysToDecide 102 [l0, l1, l2, l3, some (.int x4), l5, l6, l7, l8, l9] [] F L Q := (wt_imul dX4_waysToDecide_96).trans ((wt_iload dX4_waysToDecide_97 rfl).trans (wt_if_icmp_le dX4_waysToDecide_99 (t := 106) rfl))
set_option maxHeartbeats 100000 in
theorem kX4_waysToDecide_102 {d : Nat} {F : am_FT} {L : am_LT} {Q : am_QT} {l0 l1 l2 l3 l4 l5 l6 l7 l8 l9 : Option Value} : wt am_S0 d mX4_waysToDecide 102 [l0, l1, l2, l3, l4, l5, l6, l7, l8, l9] [] F L Q = wt am_S0 d mX4_waysToDecide 107 [l0, l1, l2, l3, l4, l5, l6, l7, l8, l9] [.int 1] F L Q := (wt_iconst dX4_waysToDecide_102 (v := 1) (by decide)).trans (wt_goto dX4_waysToDecide_103 (t := 107) rfl)
set_option maxHeartbeats 100000 in
theorem kX4_waysToDecide_106 {d : Nat} {F : am_FT} {L : am_LT} {Q : am_QT} {l0 l1 l2 l3 l4 l5 l6 l7 l8 l9 : Option Value} : wt am_S0 d mX4_waysToDecide 106 [l0, l1, l2, l3, l4, l5, l6, l7, l8, l9] [] F L Q = wt am_S0 d mX4_waysToDecide 107 [l0, l1, l2, l3, l4, l5, l6, l7, l8, l9] [.int 0] F L Q := wt_iconst dX4_waysToDecide_106 (v := 0) (by decide)
set_option maxHeartbeats 100000 in
theorem kX4_waysToDecide_107 {d : Nat} {F : am_FT} {L : am_LT} {Q : am_QT} {l0 l1 l2 l3 l4 l5 l6 l7 l9 : Option Value} {s0 x8 : Int32} : wt am_S0 d mX4_waysToDecide 107 [l0, l1, l2, l3, l4, l5, l6, l7, some (.int x8), l9] [.int s0] F L Q = if s0 = x8 then wt am_S0 d mX4_waysToDecide 119 [l0, l1, l2, l3, l4, l5, l6, l7, some (.int x8), some (.int s0)] [] F L Q else wt am_S0 d mX4_waysToDecide 116 [l0, l1, l2, l3, l4, l5, l6, l7, some (.int x8), some (.int s0)] [] F L Q := (wt_istore dX4_waysToDecide_107 (lv1 := [l0, l1, l2, l3, l4, l5, l6, l7, some (.int x8), some (.int s0)]) (Nat.le_of_ble_eq_true rfl) rfl).trans ((wt_iload dX4_waysToDecide_109 rfl).trans ((wt_iload dX4_waysToDecide_111 rfl).trans (wt_if_icmp_eq dX4_waysToDecide_113 (t := 119) rfl)))
set_option maxHeartbeats 100000 in
theorem kX4_waysToDecide_116 {d : Nat} {F : am_FT} {L : am_LT} {Q : am_QT} {l0 l1 l2 l3 l4 l7 l8 l9 : Option Value} {x6 x5 : Int32} : wt am_S0 d mX4_waysToDecide 116 [l0, l1, l2, l3, l4, some (.int x5), some (.int x6), l7, l8, l9] [] F L Q = wt am_S0 d mX4_waysToDecide 119 [l0, l1, l2, l3, l4, some (.int x5), some (.int (x6 + 1)), l7, l8, l9] [] F L Q := wt_iinc dX4_waysToDecide_116 (v := 1) (lv1 := [l0, l1, l2, l3, l4, some (.int x5), some (.int (x6 + 1)), l7, l8, l9]) rfl (Nat.le_of_ble_eq_true rfl) (by decide) rfl
set_option maxHeartbeats 100000 in
theorem kX4_waysToDecide_119 {d : Nat} {F : am_FT} {L : am_LT} {Q : am_QT} {l0 l1 l2 l3 l4 l5 l8 l9 : Option Value} {x7 x6 : Int32} : wt am_S0 d mX4_waysToDecide 119 [l0, l1, l2, l3, l4, l5, some (.int x6), some (.int x7), l8, l9] [] F L Q = wt am_S0 d mX4_waysToDecide 46 [l0, l1, l2, l3, l4, l5, some (.int x6), some (.int (x7 + 1)), l8, l9] [] F L Q := (wt_iinc dX4_waysToDecide_119 (v := 1) (lv1 := [l0, l1, l2, l3, l4, l5, some (.int x6), some (.int (x7 + 1)), l8, l9]) rfl (Nat.le_of_ble_eq_true rfl) (by decide) rfl).trans (wt_goto dX4_waysToDecide_122 (t := 46) rfl)
set_option maxHeartbeats 100000 in
theorem kX4_waysToDecide_125 {d : Nat} {F : am_FT} {L : am_LT} {Q : am_QT} {l0 l1 l2 l3 l4 l5 l7 l8 l9 : Option Value} {x6 : Int32} : wt am_S0 d mX4_waysToDecide 125 [l0, l1, l2, l3, l4, l5, some (.int x6), l7, l8, l9] [] F L Q = Q (some (.int x6)) F L := (wt_iload dX4_waysToDecide_125 rfl).trans (wt_ireturn dX4_waysToDecide_127 rfl rfl)
theorem dX4_lessHigh_0 : decode mX4_lessHigh.2.2.1 0 = .ok (.aload_n 0, 1) := by decide +kernel
theorem dX4_lessHigh_1 : decode mX4_lessHigh.2.2.1 1 = .ok (.getfield 9, 3) := by decide +kernel
theorem dX4_lessHigh_4 : decode mX4_lessHigh.2.2.1 4 = .ok (.iload_n 1, 1) := by decide +kernel
theorem dX4_lessHigh_5 : decode mX4_lessHigh.2.2.1 5 = .ok (.iconst 1, 1) := by decide +kernel
theorem dX4_lessHigh_6 : decode mX4_lessHigh.2.2.1 6 = .ok (.invokevirtual 72, 3) := by decide +kernel
theorem dX4_lessHigh_9 : decode mX4_lessHigh.2.2.1 9 = .ok (.istore_n 3, 1) := by decide +kernel
theorem dX4_lessHigh_10 : decode mX4_lessHigh.2.2.1 10 = .ok (.iconst 0, 1) := by decide +kernel
theorem dX4_lessHigh_11 : decode mX4_lessHigh.2.2.1 11 = .ok (.istore 4, 2) := by decide +kernel
theorem dX4_lessHigh_13 : decode mX4_lessHigh.2.2.1 13 = .ok (.iload 4, 2) := by decide +kernel
theorem dX4_lessHigh_15 : decode mX4_lessHigh.2.2.1 15 = .ok (.iload_n 3, 1) := by decide +kernel
theorem dX4_lessHigh_16 : decode mX4_lessHigh.2.2.1 16 = .ok (.if_icmp .ge 36, 3) := by decide +kernel
theorem dX4_lessHigh_19 : decode mX4_lessHigh.2.2.1 19 = .ok (.aload_n 0, 1) := by decide +kernel
theorem dX4_lessHigh_20 : decode mX4_lessHigh.2.2.1 20 = .ok (.getfield 9, 3) := by decide +kernel
theorem dX4_lessHigh_23 : decode mX4_lessHigh.2.2.1 23 = .ok (.iload_n 1, 1) := by decide +kernel
theorem dX4_lessHigh_24 : decode mX4_lessHigh.2.2.1 24 = .ok (.invokevirtual 75, 3) := by decide +kernel
theorem dX4_lessHigh_27 : decode mX4_lessHigh.2.2.1 27 = .ok (.ifCond .eq 25, 3) := by decide +kernel
theorem dX4_lessHigh_30 : decode mX4_lessHigh.2.2.1 30 = .ok (.aload_n 0, 1) := by decide +kernel
theorem dX4_lessHigh_31 : decode mX4_lessHigh.2.2.1 31 = .ok (.iload_n 1, 1) := by decide +kernel
theorem dX4_lessHigh_32 : decode mX4_lessHigh.2.2.1 32 = .ok (.iload_n 2, 1) := by decide +kernel
theorem dX4_lessHigh_33 : decode mX4_lessHigh.2.2.1 33 = .ok (.iload_n 3, 1) := by decide +kernel
theorem dX4_lessHigh_34 : decode mX4_lessHigh.2.2.1 34 = .ok (.iload 4, 2) := by decide +kernel
theorem dX4_lessHigh_36 : decode mX4_lessHigh.2.2.1 36 = .ok (.isub, 1) := by decide +kernel
theorem dX4_lessHigh_37 : decode mX4_lessHigh.2.2.1 37 = .ok (.invokevirtual 79, 3) := by decide +kernel
theorem dX4_lessHigh_40 : decode mX4_lessHigh.2.2.1 40 = .ok (.ifCond .ne 6, 3) := by decide +kernel
theorem dX4_lessHigh_43 : decode mX4_lessHigh.2.2.1 43 = .ok (.iload 4, 2) := by decide +kernel
theorem dX4_lessHigh_45 : decode mX4_lessHigh.2.2.1 45 = .ok (.ireturn, 1) := by decide +kernel
theorem dX4_lessHigh_46 : decode mX4_lessHigh.2.2.1 46 = .ok (.iinc 4 1, 3) := by decide +kernel
theorem dX4_lessHigh_49 : decode mX4_lessHigh.2.2.1 49 = .ok (.goto (-36), 3) := by decide +kernel
theorem dX4_lessHigh_52 : decode mX4_lessHigh.2.2.1 52 = .ok (.bipush (-2), 2) := by decide +kernel
theorem dX4_lessHigh_54 : decode mX4_lessHigh.2.2.1 54 = .ok (.ireturn, 1) := by decide +kernel
set_option maxHeartbeats 100000 in
theorem kX4_lessHigh_0 {d : Nat} {F : am_FT} {L : am_LT} {Q : am_QT} {l2 l3 l4 : Option Value} {x1 : Int32} : wt am_S0 (d + 1) mX4_lessHigh 0 [some (.ref 16), some (.int x1), l2, l3, l4] [] F L Q = wc am_S0 d mX5_read [.ref 1, .int x1, .int 1] F L (fun r G K => wt am_S0 (d + 1) mX4_lessHigh 9 [some (.ref 16), some (.int x1), l2, l3, l4] (r.toList ++ []) G K Q) := (wt_aload_n dX4_lessHigh_0 rfl rfl).trans ((wt_getfield dX4_lessHigh_1 rfl rfl (v := .ref 1) rfl).trans ((wt_iload_n dX4_lessHigh_4 rfl).trans ((wt_iconst dX4_lessHigh_5 (v := 1) (by decide)).trans (wt_callV dX4_lessHigh_6 rfl (as := [.int x1, .int 1]) (rest := []) rfl rfl (Nat.le_of_ble_eq_true rfl) rfl (Nat.le_of_ble_eq_true rfl)))))
set_option maxHeartbeats 100000 in
theorem kX4_lessHigh_9 {d : Nat} {F : am_FT} {L : am_LT} {Q : am_QT} {l0 l1 l3 l4 : Option Value} {s0 x2 : Int32} : wt am_S0 d mX4_lessHigh 9 [l0, l1, some (.int x2), l3, l4] [.int s0] F L Q = wt am_S0 d mX4_lessHigh 13 [l0, l1, some (.int x2), some (.int s0), some (.int 0)] [] F L Q := (wt_istore_n dX4_lessHigh_9 (lv1 := [l0, l1, some (.int x2), some (.int s0), l4]) (Nat.le_of_ble_eq_true rfl) rfl).trans ((wt_iconst dX4_lessHigh_10 (v := 0) (by decide)).trans (wt_istore dX4_lessHigh_11 (lv1 := [l0, l1, some (.int x2), some (.int s0), some (.int 0)]) (Nat.le_of_ble_eq_true rfl) rfl))
set_option maxHeartbeats 100000 in
theorem kX4_lessHigh_13 {d : Nat} {F : am_FT} {L : am_LT} {Q : am_QT} {l0 l1 l2 : Option Value} {x4 x3 : Int32} : wt am_S0 d mX4_lessHigh 13 [l0, l1, l2, some (.int x3), some (.int x4)] [] F L Q = if x3 ≤ x4 then wt am_S0 d mX4_lessHigh 52 [l0, l1, l2, some (.int x3), some (.int x4)] [] F L Q else wt am_S0 d mX4_lessHigh 19 [l0, l1, l2, some (.int x3), some (.int x4)] [] F L Q := (wt_iload dX4_lessHigh_13 rfl).trans ((wt_iload_n dX4_lessHigh_15 rfl).trans (wt_if_icmp_ge dX4_lessHigh_16 (t := 52) rfl))
set_option maxHeartbeats 100000 in
theorem kX4_lessHigh_19 {d : Nat} {F : am_FT} {L : am_LT} {Q : am_QT} {l2 l3 l4 : Option Value} {x1 : Int32} : wt am_S0 (d + 1) mX4_lessHigh 19 [some (.ref 16), some (.int x1), l2, l3, l4] [] F L Q = wc am_S0 d mX5_stands [.ref 1, .int x1] F L (fun r G K => wt am_S0 (d + 1) mX4_lessHigh 27 [some (.ref 16), some (.int x1), l2, l3, l4] (r.toList ++ []) G K Q) := (wt_aload_n dX4_lessHigh_19 rfl rfl).trans ((wt_getfield dX4_lessHigh_20 rfl rfl (v := .ref 1) rfl).trans ((wt_iload_n dX4_lessHigh_23 rfl).trans (wt_callV dX4_lessHigh_24 rfl (as := [.int x1]) (rest := []) rfl rfl (Nat.le_of_ble_eq_true rfl) rfl (Nat.le_of_ble_eq_true rfl))))
set_option maxHeartbeats 100000 in
theorem kX4_lessHigh_27 {d : Nat} {F : am_FT} {L : am_LT} {Q : am_QT} {l0 l1 l2 l3 l4 : Option Value} {s0 : Int32} : wt am_S0 d mX4_lessHigh 27 [l0, l1, l2, l3, l4] [.int s0] F L Q = if s0 = 0 then wt am_S0 d mX4_lessHigh 52 [l0, l1, l2, l3, l4] [] F L Q else wt am_S0 d mX4_lessHigh 30 [l0, l1, l2, l3, l4] [] F L Q := wt_ifCond_eq dX4_lessHigh_27 (t := 52) rfl
set_option maxHeartbeats 100000 in
theorem kX4_lessHigh_30 {d : Nat} {F : am_FT} {L : am_LT} {Q : am_QT} {x1 x2 x3 x4 : Int32} : wt am_S0 (d + 1) mX4_lessHigh 30 [some (.ref 16), some (.int x1), some (.int x2), some (.int x3), some (.int x4)] [] F L Q = wc am_S0 d mX4_fallsAt [.ref 16, .int x1, .int x2, .int (x3 - x4)] F L (fun r G K => wt am_S0 (d + 1) mX4_lessHigh 40 [some (.ref 16), some (.int x1), some (.int x2), some (.int x3), some (.int x4)] (r.toList ++ []) G K Q) := (wt_aload_n dX4_lessHigh_30 rfl rfl).trans ((wt_iload_n dX4_lessHigh_31 rfl).trans ((wt_iload_n dX4_lessHigh_32 rfl).trans ((wt_iload_n dX4_lessHigh_33 rfl).trans ((wt_iload dX4_lessHigh_34 rfl).trans ((wt_isub dX4_lessHigh_36).trans (wt_callV dX4_lessHigh_37 rfl (as := [.int x1, .int x2, .int (x3 - x4)]) (rest := []) rfl rfl (Nat.le_of_ble_eq_true rfl) rfl (Nat.le_of_ble_eq_true rfl)))))))
set_option maxHeartbeats 100000 in
theorem kX4_lessHigh_40 {d : Nat} {F : am_FT} {L : am_LT} {Q : am_QT} {l0 l1 l2 l3 l4 : Option Value} {s0 : Int32} : wt am_S0 d mX4_lessHigh 40 [l0, l1, l2, l3, l4] [.int s0] F L Q = if ¬ s0 = 0 then wt am_S0 d mX4_lessHigh 46 [l0, l1, l2, l3, l4] [] F L Q else wt am_S0 d mX4_lessHigh 43 [l0, l1, l2, l3, l4] [] F L Q := wt_ifCond_ne dX4_lessHigh_40 (t := 46) rfl
set_option maxHeartbeats 100000 in
theorem kX4_lessHigh_43 {d : Nat} {F : am_FT} {L : am_LT} {Q : am_QT} {l0 l1 l2 l3 : Option Value} {x4 : Int32} : wt am_S0 d mX4_lessHigh 43 [l0, l1, l2, l3, some (.int x4)] [] F L Q = Q (some (.int x4)) F L := (wt_iload dX4_lessHigh_43 rfl).trans (wt_ireturn dX4_lessHigh_45 rfl rfl)
set_option maxHeartbeats 100000 in
theorem kX4_lessHigh_46 {d : Nat} {F : am_FT} {L : am_LT} {Q : am_QT} {l0 l1 l2 : Option Value} {x4 x3 : Int32} : wt am_S0 d mX4_lessHigh 46 [l0, l1, l2, some (.int x3), some (.int x4)] [] F L Q = wt am_S0 d mX4_lessHigh 13 [l0, l1, l2, some (.int x3), some (.int (x4 + 1))] [] F L Q := (wt_iinc dX4_lessHigh_46 (v := 1) (lv1 := [l0, l1, l2, some (.int x3), some (.int (x4 + 1))]) rfl (Nat.le_of_ble_eq_true rfl) (by decide) rfl).trans (wt_goto dX4_lessHigh_49 (t := 13) rfl)
set_option maxHeartbeats 100000 in
theorem kX4_lessHigh_52 {d : Nat} {F : am_FT} {L : am_LT} {Q : am_QT} {l0 l1 l2 l3 l4 : Option Value} : wt am_S0 d mX4_lessHigh 52 [l0, l1, l2, l3, l4] [] F L Q = Q (some (.int (-2))) F L := (wt_bipush dX4_lessHigh_52 (v := (-2)) (by decide)).trans (wt_ireturn dX4_lessHigh_54 rfl rfl)
theorem dX4_fallsAt_0 : decode mX4_fallsAt.2.2.1 0 = .ok (.aload_n 0, 1) := by decide +kernel
theorem dX4_fallsAt_1 : decode mX4_fallsAt.2.2.1 1 = .ok (.getfield 15, 3) := by decide +kernel
theorem dX4_fallsAt_4 : decode mX4_fallsAt.2.2.1 4 = .ok (.iload_n 1, 1) := by decide +kernel
theorem dX4_fallsAt_5 : decode mX4_fallsAt.2.2.1 5 = .ok (.iload_n 2, 1) := by decide +kernel
theorem dX4_fallsAt_6 : decode mX4_fallsAt.2.2.1 6 = .ok (.iload_n 3, 1) := by decide +kernel
theorem dX4_fallsAt_7 : decode mX4_fallsAt.2.2.1 7 = .ok (.invokevirtual 83, 3) := by decide +kernel
theorem dX4_fallsAt_10 : decode mX4_fallsAt.2.2.1 10 = .ok (.aload_n 0, 1) := by decide +kernel
theorem dX4_fallsAt_11 : decode mX4_fallsAt.2.2.1 11 = .ok (.getfield 15, 3) := by decide +kernel
theorem dX4_fallsAt_14 : decode mX4_fallsAt.2.2.1 14 = .ok (.aload_n 0, 1) := by decide +kernel
theorem dX4_fallsAt_15 : decode mX4_fallsAt.2.2.1 15 = .ok (.getfield 15, 3) := by decide +kernel
theorem dX4_fallsAt_18 : decode mX4_fallsAt.2.2.1 18 = .ok (.getfield 32, 3) := by decide +kernel
theorem dX4_fallsAt_21 : decode mX4_fallsAt.2.2.1 21 = .ok (.aload_n 0, 1) := by decide +kernel
theorem dX4_fallsAt_22 : decode mX4_fallsAt.2.2.1 22 = .ok (.getfield 15, 3) := by decide +kernel
theorem dX4_fallsAt_25 : decode mX4_fallsAt.2.2.1 25 = .ok (.getfield 36, 3) := by decide +kernel
theorem dX4_fallsAt_28 : decode mX4_fallsAt.2.2.1 28 = .ok (.invokevirtual 39, 3) := by decide +kernel
theorem dX4_fallsAt_31 : decode mX4_fallsAt.2.2.1 31 = .ok (.ireturn, 1) := by decide +kernel
set_option maxHeartbeats 100000 in
theorem kX4_fallsAt_0 {d : Nat} {F : am_FT} {L : am_LT} {Q : am_QT} {x1 x2 x3 : Int32} : wt am_S0 (d + 1) mX4_fallsAt 0 [some (.ref 16), some (.int x1), some (.int x2), some (.int x3)] [] F L Q = wc am_S0 d mX0_openAsIf [.ref 9, .int x1, .int x2, .int x3] F L (fun r G K => wt am_S0 (d + 1) mX4_fallsAt 10 [some (.ref 16), some (.int x1), some (.int x2), some (.int x3)] (r.toList ++ []) G K Q) := (wt_aload_n dX4_fallsAt_0 rfl rfl).trans ((wt_getfield dX4_fallsAt_1 rfl rfl (v := .ref 9) rfl).trans ((wt_iload_n dX4_fallsAt_4 rfl).trans ((wt_iload_n dX4_fallsAt_5 rfl).trans ((wt_iload_n dX4_fallsAt_6 rfl).trans (wt_callV dX4_fallsAt_7 rfl (as := [.int x1, .int x2, .int x3]) (rest := []) rfl rfl (Nat.le_of_ble_eq_true rfl) rfl (Nat.le_of_ble_eq_true rfl))))))
set_option maxHeartbeats 100000 in
theorem kX4_fallsAt_10 {d : Nat} {F : am_FT} {L : am_LT} {Q : am_QT} {l1 l2 l3 : Option Value} : wt am_S0 (d + 1) mX4_fallsAt 10 [some (.ref 16), l1, l2, l3] [] F L Q = wc am_S0 d mX0_passes [.ref 9, .int (F 9 5), .int (F 9 6)] F L (fun r G K => wt am_S0 (d + 1) mX4_fallsAt 31 [some (.ref 16), l1, l2, l3] (r.toList ++ []) G K Q) := (wt_aload_n dX4_fallsAt_10 rfl rfl).trans ((wt_getfield dX4_fallsAt_11 rfl rfl (v := .ref 9) rfl).trans ((wt_aload_n dX4_fallsAt_14 rfl rfl).trans ((wt_getfield dX4_fallsAt_15 rfl rfl (v := .ref 9) rfl).trans ((wt_getfield dX4_fallsAt_18 rfl rfl (v := .int (F 9 5)) rfl).trans ((wt_aload_n dX4_fallsAt_21 rfl rfl).trans ((wt_getfield dX4_fallsAt_22 rfl rfl (v := .ref 9) rfl).trans ((wt_getfield dX4_fallsAt_25 rfl rfl (v := .int (F 9 6)) rfl).trans (wt_callV dX4_fallsAt_28 rfl (as := [.int (F 9 5), .int (F 9 6)]) (rest := []) rfl rfl (Nat.le_of_ble_eq_true rfl) rfl (Nat.le_of_ble_eq_true rfl)))))))))
set_option maxHeartbeats 100000 in
theorem kX4_fallsAt_31 {d : Nat} {F : am_FT} {L : am_LT} {Q : am_QT} {l0 l1 l2 l3 : Option Value} {s0 : Int32} (h1 : narrow .boolean (.int s0) = .int s0) : wt am_S0 d mX4_fallsAt 31 [l0, l1, l2, l3] [.int s0] F L Q = Q (some (.int s0)) F L := wt_ireturn dX4_fallsAt_31 rfl h1
theorem dX4_moreHigh_0 : decode mX4_moreHigh.2.2.1 0 = .ok (.aload_n 0, 1) := by decide +kernel
theorem dX4_moreHigh_1 : decode mX4_moreHigh.2.2.1 1 = .ok (.getfield 9, 3) := by decide +kernel
theorem dX4_moreHigh_4 : decode mX4_moreHigh.2.2.1 4 = .ok (.iload_n 1, 1) := by decide +kernel
theorem dX4_moreHigh_5 : decode mX4_moreHigh.2.2.1 5 = .ok (.iconst 1, 1) := by decide +kernel
theorem dX4_moreHigh_6 : decode mX4_moreHigh.2.2.1 6 = .ok (.invokevirtual 72, 3) := by decide +kernel
theorem dX4_moreHigh_9 : decode mX4_moreHigh.2.2.1 9 = .ok (.istore_n 3, 1) := by decide +kernel
theorem dX4_moreHigh_10 : decode mX4_moreHigh.2.2.1 10 = .ok (.iconst 0, 1) := by decide +kernel
theorem dX4_moreHigh_11 : decode mX4_moreHigh.2.2.1 11 = .ok (.istore 4, 2) := by decide +kernel
theorem dX4_moreHigh_13 : decode mX4_moreHigh.2.2.1 13 = .ok (.iload_n 3, 1) := by decide +kernel
theorem dX4_moreHigh_14 : decode mX4_moreHigh.2.2.1 14 = .ok (.iload 4, 2) := by decide +kernel
theorem dX4_moreHigh_16 : decode mX4_moreHigh.2.2.1 16 = .ok (.iadd, 1) := by decide +kernel
theorem dX4_moreHigh_17 : decode mX4_moreHigh.2.2.1 17 = .ok (.bipush 9, 2) := by decide +kernel
theorem dX4_moreHigh_19 : decode mX4_moreHigh.2.2.1 19 = .ok (.if_icmp .gt 36, 3) := by decide +kernel
theorem dX4_moreHigh_22 : decode mX4_moreHigh.2.2.1 22 = .ok (.aload_n 0, 1) := by decide +kernel
theorem dX4_moreHigh_23 : decode mX4_moreHigh.2.2.1 23 = .ok (.getfield 9, 3) := by decide +kernel
theorem dX4_moreHigh_26 : decode mX4_moreHigh.2.2.1 26 = .ok (.iload_n 1, 1) := by decide +kernel
theorem dX4_moreHigh_27 : decode mX4_moreHigh.2.2.1 27 = .ok (.invokevirtual 75, 3) := by decide +kernel
theorem dX4_moreHigh_30 : decode mX4_moreHigh.2.2.1 30 = .ok (.ifCond .eq 25, 3) := by decide +kernel
theorem dX4_moreHigh_33 : decode mX4_moreHigh.2.2.1 33 = .ok (.aload_n 0, 1) := by decide +kernel
theorem dX4_moreHigh_34 : decode mX4_moreHigh.2.2.1 34 = .ok (.iload_n 1, 1) := by decide +kernel
theorem dX4_moreHigh_35 : decode mX4_moreHigh.2.2.1 35 = .ok (.iload_n 2, 1) := by decide +kernel
theorem dX4_moreHigh_36 : decode mX4_moreHigh.2.2.1 36 = .ok (.iload_n 3, 1) := by decide +kernel
theorem dX4_moreHigh_37 : decode mX4_moreHigh.2.2.1 37 = .ok (.iload 4, 2) := by decide +kernel
theorem dX4_moreHigh_39 : decode mX4_moreHigh.2.2.1 39 = .ok (.iadd, 1) := by decide +kernel
theorem dX4_moreHigh_40 : decode mX4_moreHigh.2.2.1 40 = .ok (.invokevirtual 79, 3) := by decide +kernel
theorem dX4_moreHigh_43 : decode mX4_moreHigh.2.2.1 43 = .ok (.ifCond .eq 6, 3) := by decide +kernel
theorem dX4_moreHigh_46 : decode mX4_moreHigh.2.2.1 46 = .ok (.iload 4, 2) := by decide +kernel
theorem dX4_moreHigh_48 : decode mX4_moreHigh.2.2.1 48 = .ok (.ireturn, 1) := by decide +kernel
theorem dX4_moreHigh_49 : decode mX4_moreHigh.2.2.1 49 = .ok (.iinc 4 1, 3) := by decide +kernel
theorem dX4_moreHigh_52 : decode mX4_moreHigh.2.2.1 52 = .ok (.goto (-39), 3) := by decide +kernel
theorem dX4_moreHigh_55 : decode mX4_moreHigh.2.2.1 55 = .ok (.bipush (-2), 2) := by decide +kernel
theorem dX4_moreHigh_57 : decode mX4_moreHigh.2.2.1 57 = .ok (.ireturn, 1) := by decide +kernel
set_option maxHeartbeats 100000 in
theorem kX4_moreHigh_0 {d : Nat} {F : am_FT} {L : am_LT} {Q : am_QT} {l2 l3 l4 : Option Value} {x1 : Int32} : wt am_S0 (d + 1) mX4_moreHigh 0 [some (.ref 16), some (.int x1), l2, l3, l4] [] F L Q = wc am_S0 d mX5_read [.ref 1, .int x1, .int 1] F L (fun r G K => wt am_S0 (d + 1) mX4_moreHigh 9 [some (.ref 16), some (.int x1), l2, l3, l4] (r.toList ++ []) G K Q) := (wt_aload_n dX4_moreHigh_0 rfl rfl).trans ((wt_getfield dX4_moreHigh_1 rfl rfl (v := .ref 1) rfl).trans ((wt_iload_n dX4_moreHigh_4 rfl).trans ((wt_iconst dX4_moreHigh_5 (v := 1) (by decide)).trans (wt_callV dX4_moreHigh_6 rfl (as := [.int x1, .int 1]) (rest := []) rfl rfl (Nat.le_of_ble_eq_true rfl) rfl (Nat.le_of_ble_eq_true rfl)))))
set_option maxHeartbeats 100000 in
theorem kX4_moreHigh_9 {d : Nat} {F : am_FT} {L : am_LT} {Q : am_QT} {l0 l1 l3 l4 : Option Value} {s0 x2 : Int32} : wt am_S0 d mX4_moreHigh 9 [l0, l1, some (.int x2), l3, l4] [.int s0] F L Q = wt am_S0 d mX4_moreHigh 13 [l0, l1, some (.int x2), some (.int s0), some (.int 0)] [] F L Q := (wt_istore_n dX4_moreHigh_9 (lv1 := [l0, l1, some (.int x2), some (.int s0), l4]) (Nat.le_of_ble_eq_true rfl) rfl).trans ((wt_iconst dX4_moreHigh_10 (v := 0) (by decide)).trans (wt_istore dX4_moreHigh_11 (lv1 := [l0, l1, some (.int x2), some (.int s0), some (.int 0)]) (Nat.le_of_ble_eq_true rfl) rfl))
set_option maxHeartbeats 100000 in
theorem kX4_moreHigh_13 {d : Nat} {F : am_FT} {L : am_LT} {Q : am_QT} {l0 l1 l2 : Option Value} {x3 x4 : Int32} : wt am_S0 d mX4_moreHigh 13 [l0, l1, l2, some (.int x3), some (.int x4)] [] F L Q = if 9 < (x3 + x4) then wt am_S0 d mX4_moreHigh 55 [l0, l1, l2, some (.int x3), some (.int x4)] [] F L Q else wt am_S0 d mX4_moreHigh 22 [l0, l1, l2, some (.int x3), some (.int x4)] [] F L Q := (wt_iload_n dX4_moreHigh_13 rfl).trans ((wt_iload dX4_moreHigh_14 rfl).trans ((wt_iadd dX4_moreHigh_16).trans ((wt_bipush dX4_moreHigh_17 (v := 9) (by decide)).trans (wt_if_icmp_gt dX4_moreHigh_19 (t := 55) rfl))))
set_option maxHeartbeats 100000 in
theorem kX4_moreHigh_22 {d : Nat} {F : am_FT} {L : am_LT} {Q : am_QT} {l2 l3 l4 : Option Value} {x1 : Int32} : wt am_S0 (d + 1) mX4_moreHigh 22 [some (.ref 16), some (.int x1), l2, l3, l4] [] F L Q = wc am_S0 d mX5_stands [.ref 1, .int x1] F L (fun r G K => wt am_S0 (d + 1) mX4_moreHigh 30 [some (.ref 16), some (.int x1), l2, l3, l4] (r.toList ++ []) G K Q) := (wt_aload_n dX4_moreHigh_22 rfl rfl).trans ((wt_getfield dX4_moreHigh_23 rfl rfl (v := .ref 1) rfl).trans ((wt_iload_n dX4_moreHigh_26 rfl).trans (wt_callV dX4_moreHigh_27 rfl (as := [.int x1]) (rest := []) rfl rfl (Nat.le_of_ble_eq_true rfl) rfl (Nat.le_of_ble_eq_true rfl))))
set_option maxHeartbeats 100000 in
theorem kX4_moreHigh_30 {d : Nat} {F : am_FT} {L : am_LT} {Q : am_QT} {l0 l1 l2 l3 l4 : Option Value} {s0 : Int32} : wt am_S0 d mX4_moreHigh 30 [l0, l1, l2, l3, l4] [.int s0] F L Q = if s0 = 0 then wt am_S0 d mX4_moreHigh 55 [l0, l1, l2, l3, l4] [] F L Q else wt am_S0 d mX4_moreHigh 33 [l0, l1, l2, l3, l4] [] F L Q := wt_ifCond_eq dX4_moreHigh_30 (t := 55) rfl
set_option maxHeartbeats 100000 in
theorem kX4_moreHigh_33 {d : Nat} {F : am_FT} {L : am_LT} {Q : am_QT} {x1 x2 x3 x4 : Int32} : wt am_S0 (d + 1) mX4_moreHigh 33 [some (.ref 16), some (.int x1), some (.int x2), some (.int x3), some (.int x4)] [] F L Q = wc am_S0 d mX4_fallsAt [.ref 16, .int x1, .int x2, .int (x3 + x4)] F L (fun r G K => wt am_S0 (d + 1) mX4_moreHigh 43 [some (.ref 16), some (.int x1), some (.int x2), some (.int x3), some (.int x4)] (r.toList ++ []) G K Q) := (wt_aload_n dX4_moreHigh_33 rfl rfl).trans ((wt_iload_n dX4_moreHigh_34 rfl).trans ((wt_iload_n dX4_moreHigh_35 rfl).trans ((wt_iload_n dX4_moreHigh_36 rfl).trans ((wt_iload dX4_moreHigh_37 rfl).trans ((wt_iadd dX4_moreHigh_39).trans (wt_callV dX4_moreHigh_40 rfl (as := [.int x1, .int x2, .int (x3 + x4)]) (rest := []) rfl rfl (Nat.le_of_ble_eq_true rfl) rfl (Nat.le_of_ble_eq_true rfl)))))))
set_option maxHeartbeats 100000 in
theorem kX4_moreHigh_43 {d : Nat} {F : am_FT} {L : am_LT} {Q : am_QT} {l0 l1 l2 l3 l4 : Option Value} {s0 : Int32} : wt am_S0 d mX4_moreHigh 43 [l0, l1, l2, l3, l4] [.int s0] F L Q = if s0 = 0 then wt am_S0 d mX4_moreHigh 49 [l0, l1, l2, l3, l4] [] F L Q else wt am_S0 d mX4_moreHigh 46 [l0, l1, l2, l3, l4] [] F L Q := wt_ifCond_eq dX4_moreHigh_43 (t := 49) rfl
set_option maxHeartbeats 100000 in
theorem kX4_moreHigh_46 {d : Nat} {F : am_FT} {L : am_LT} {Q : am_QT} {l0 l1 l2 l3 : Option Value} {x4 : Int32} : wt am_S0 d mX4_moreHigh 46 [l0, l1, l2, l3, some (.int x4)] [] F L Q = Q (some (.int x4)) F L := (wt_iload dX4_moreHigh_46 rfl).trans (wt_ireturn dX4_moreHigh_48 rfl rfl)
set_option maxHeartbeats 100000 in
theorem kX4_moreHigh_49 {d : Nat} {F : am_FT} {L : am_LT} {Q : am_QT} {l0 l1 l2 : Option Value} {x4 x3 : Int32} : wt am_S0 d mX4_moreHigh 49 [l0, l1, l2, some (.int x3), some (.int x4)] [] F L Q = wt am_S0 d mX4_moreHigh 13 [l0, l1, l2, some (.int x3), some (.int (x4 + 1))] [] F L Q := (wt_iinc dX4_moreHigh_49 (v := 1) (lv1 := [l0, l1, l2, some (.int x3), some (.int (x4 + 1))]) rfl (Nat.le_of_ble_eq_true rfl) (by decide) rfl).trans (wt_goto dX4_moreHigh_52 (t := 13) rfl)
set_option maxHeartbeats 100000 in
theorem kX4_moreHigh_55 {d : Nat} {F : am_FT} {L : am_LT} {Q : am_QT} {l0 l1 l2 l3 l4 : Option Value} : wt am_S0 d mX4_moreHigh 55 [l0, l1, l2, l3, l4] [] F L Q = Q (some (.int (-2))) F L := (wt_bipush dX4_moreHigh_55 (v := (-2)) (by decide)).trans (wt_ireturn dX4_moreHigh_57 rfl rfl)
theorem dX4_playTurns_0 : decode mX4_playTurns.2.2.1 0 = .ok (.aload_n 0, 1) := by decide +kernel
theorem dX4_playTurns_1 : decode mX4_playTurns.2.2.1 1 = .ok (.getfield 15, 3) := by decide +kernel
theorem dX4_playTurns_4 : decode mX4_playTurns.2.2.1 4 = .ok (.iload_n 1, 1) := by decide +kernel
theorem dX4_playTurns_5 : decode mX4_playTurns.2.2.1 5 = .ok (.iload_n 2, 1) := by decide +kernel
theorem dX4_playTurns_6 : decode mX4_playTurns.2.2.1 6 = .ok (.invokevirtual 26, 3) := by decide +kernel
theorem dX4_playTurns_9 : decode mX4_playTurns.2.2.1 9 = .ok (.aload_n 0, 1) := by decide +kernel
theorem dX4_playTurns_10 : decode mX4_playTurns.2.2.1 10 = .ok (.getfield 15, 3) := by decide +kernel
theorem dX4_playTurns_13 : decode mX4_playTurns.2.2.1 13 = .ok (.getfield 32, 3) := by decide +kernel
theorem dX4_playTurns_16 : decode mX4_playTurns.2.2.1 16 = .ok (.istore 4, 2) := by decide +kernel
theorem dX4_playTurns_18 : decode mX4_playTurns.2.2.1 18 = .ok (.iconst 1, 1) := by decide +kernel
theorem dX4_playTurns_19 : decode mX4_playTurns.2.2.1 19 = .ok (.aload_n 0, 1) := by decide +kernel
theorem dX4_playTurns_20 : decode mX4_playTurns.2.2.1 20 = .ok (.getfield 9, 3) := by decide +kernel
theorem dX4_playTurns_23 : decode mX4_playTurns.2.2.1 23 = .ok (.getfield 43, 3) := by decide +kernel
theorem dX4_playTurns_26 : decode mX4_playTurns.2.2.1 26 = .ok (.ishl, 1) := by decide +kernel
theorem dX4_playTurns_27 : decode mX4_playTurns.2.2.1 27 = .ok (.istore 5, 2) := by decide +kernel
theorem dX4_playTurns_29 : decode mX4_playTurns.2.2.1 29 = .ok (.aload_n 0, 1) := by decide +kernel
theorem dX4_playTurns_30 : decode mX4_playTurns.2.2.1 30 = .ok (.getfield 19, 3) := by decide +kernel
theorem dX4_playTurns_33 : decode mX4_playTurns.2.2.1 33 = .ok (.astore 6, 2) := by decide +kernel
theorem dX4_playTurns_35 : decode mX4_playTurns.2.2.1 35 = .ok (.aload_n 0, 1) := by decide +kernel
theorem dX4_playTurns_36 : decode mX4_playTurns.2.2.1 36 = .ok (.getfield 23, 3) := by decide +kernel
theorem dX4_playTurns_39 : decode mX4_playTurns.2.2.1 39 = .ok (.astore 7, 2) := by decide +kernel
theorem dX4_playTurns_41 : decode mX4_playTurns.2.2.1 41 = .ok (.iconst 0, 1) := by decide +kernel
theorem dX4_playTurns_42 : decode mX4_playTurns.2.2.1 42 = .ok (.istore 8, 2) := by decide +kernel
theorem dX4_playTurns_44 : decode mX4_playTurns.2.2.1 44 = .ok (.iload 8, 2) := by decide +kernel
theorem dX4_playTurns_46 : decode mX4_playTurns.2.2.1 46 = .ok (.iload 5, 2) := by decide +kernel
theorem dX4_playTurns_48 : decode mX4_playTurns.2.2.1 48 = .ok (.if_icmp .ge 52, 3) := by decide +kernel
theorem dX4_playTurns_51 : decode mX4_playTurns.2.2.1 51 = .ok (.iload 8, 2) := by decide +kernel
theorem dX4_playTurns_53 : decode mX4_playTurns.2.2.1 53 = .ok (.iload 4, 2) := by decide +kernel
theorem dX4_playTurns_55 : decode mX4_playTurns.2.2.1 55 = .ok (.ixor, 1) := by decide +kernel
theorem dX4_playTurns_56 : decode mX4_playTurns.2.2.1 56 = .ok (.invokestatic 48, 3) := by decide +kernel
theorem dX4_playTurns_59 : decode mX4_playTurns.2.2.1 59 = .ok (.iload_n 3, 1) := by decide +kernel
theorem dX4_playTurns_60 : decode mX4_playTurns.2.2.1 60 = .ok (.if_icmp .gt 34, 3) := by decide +kernel
theorem dX4_playTurns_63 : decode mX4_playTurns.2.2.1 63 = .ok (.aload 6, 2) := by decide +kernel
theorem dX4_playTurns_65 : decode mX4_playTurns.2.2.1 65 = .ok (.iload 8, 2) := by decide +kernel
theorem dX4_playTurns_67 : decode mX4_playTurns.2.2.1 67 = .ok (.aload_n 0, 1) := by decide +kernel
theorem dX4_playTurns_68 : decode mX4_playTurns.2.2.1 68 = .ok (.getfield 15, 3) := by decide +kernel
theorem dX4_playTurns_71 : decode mX4_playTurns.2.2.1 71 = .ok (.iload 8, 2) := by decide +kernel
theorem dX4_playTurns_73 : decode mX4_playTurns.2.2.1 73 = .ok (.aload_n 0, 1) := by decide +kernel
theorem dX4_playTurns_74 : decode mX4_playTurns.2.2.1 74 = .ok (.getfield 15, 3) := by decide +kernel
theorem dX4_playTurns_77 : decode mX4_playTurns.2.2.1 77 = .ok (.getfield 36, 3) := by decide +kernel
theorem dX4_playTurns_80 : decode mX4_playTurns.2.2.1 80 = .ok (.invokevirtual 39, 3) := by decide +kernel
theorem dX4_playTurns_83 : decode mX4_playTurns.2.2.1 83 = .ok (.ifCond .eq 7, 3) := by decide +kernel
theorem dX4_playTurns_86 : decode mX4_playTurns.2.2.1 86 = .ok (.iconst 1, 1) := by decide +kernel
theorem dX4_playTurns_87 : decode mX4_playTurns.2.2.1 87 = .ok (.goto 4, 3) := by decide +kernel
theorem dX4_playTurns_90 : decode mX4_playTurns.2.2.1 90 = .ok (.iconst 0, 1) := by decide +kernel
theorem dX4_playTurns_91 : decode mX4_playTurns.2.2.1 91 = .ok (.invokestatic 87, 3) := by decide +kernel
theorem dX4_playTurns_94 : decode mX4_playTurns.2.2.1 94 = .ok (.iinc 8 1, 3) := by decide +kernel
theorem dX4_playTurns_97 : decode mX4_playTurns.2.2.1 97 = .ok (.goto (-53), 3) := by decide +kernel
theorem dX4_playTurns_100 : decode mX4_playTurns.2.2.1 100 = .ok (.iload_n 3, 1) := by decide +kernel
theorem dX4_playTurns_101 : decode mX4_playTurns.2.2.1 101 = .ok (.iconst 1, 1) := by decide +kernel
theorem dX4_playTurns_102 : decode mX4_playTurns.2.2.1 102 = .ok (.isub, 1) := by decide +kernel
theorem dX4_playTurns_103 : decode mX4_playTurns.2.2.1 103 = .ok (.istore 8, 2) := by decide +kernel
theorem dX4_playTurns_105 : decode mX4_playTurns.2.2.1 105 = .ok (.iload 8, 2) := by decide +kernel
theorem dX4_playTurns_107 : decode mX4_playTurns.2.2.1 107 = .ok (.ifCond .le 77, 3) := by decide +kernel
theorem dX4_playTurns_110 : decode mX4_playTurns.2.2.1 110 = .ok (.iconst 0, 1) := by decide +kernel
theorem dX4_playTurns_111 : decode mX4_playTurns.2.2.1 111 = .ok (.istore 9, 2) := by decide +kernel
theorem dX4_playTurns_113 : decode mX4_playTurns.2.2.1 113 = .ok (.iload 9, 2) := by decide +kernel
theorem dX4_playTurns_115 : decode mX4_playTurns.2.2.1 115 = .ok (.iload 5, 2) := by decide +kernel
theorem dX4_playTurns_117 : decode mX4_playTurns.2.2.1 117 = .ok (.if_icmp .ge 49, 3) := by decide +kernel
theorem dX4_playTurns_120 : decode mX4_playTurns.2.2.1 120 = .ok (.iload 9, 2) := by decide +kernel
theorem dX4_playTurns_122 : decode mX4_playTurns.2.2.1 122 = .ok (.iload 4, 2) := by decide +kernel
theorem dX4_playTurns_124 : decode mX4_playTurns.2.2.1 124 = .ok (.ixor, 1) := by decide +kernel
theorem dX4_playTurns_125 : decode mX4_playTurns.2.2.1 125 = .ok (.invokestatic 48, 3) := by decide +kernel
theorem dX4_playTurns_128 : decode mX4_playTurns.2.2.1 128 = .ok (.iload 8, 2) := by decide +kernel
theorem dX4_playTurns_130 : decode mX4_playTurns.2.2.1 130 = .ok (.if_icmp .gt 30, 3) := by decide +kernel
theorem dX4_playTurns_133 : decode mX4_playTurns.2.2.1 133 = .ok (.aload 7, 2) := by decide +kernel
theorem dX4_playTurns_135 : decode mX4_playTurns.2.2.1 135 = .ok (.iload 9, 2) := by decide +kernel
theorem dX4_playTurns_137 : decode mX4_playTurns.2.2.1 137 = .ok (.aload_n 0, 1) := by decide +kernel
theorem dX4_playTurns_138 : decode mX4_playTurns.2.2.1 138 = .ok (.aload 6, 2) := by decide +kernel
theorem dX4_playTurns_140 : decode mX4_playTurns.2.2.1 140 = .ok (.iload 9, 2) := by decide +kernel
theorem dX4_playTurns_142 : decode mX4_playTurns.2.2.1 142 = .ok (.iload 8, 2) := by decide +kernel
theorem dX4_playTurns_144 : decode mX4_playTurns.2.2.1 144 = .ok (.iconst 2, 1) := by decide +kernel
theorem dX4_playTurns_145 : decode mX4_playTurns.2.2.1 145 = .ok (.irem, 1) := by decide +kernel
theorem dX4_playTurns_146 : decode mX4_playTurns.2.2.1 146 = .ok (.ifCond .ne 7, 3) := by decide +kernel
theorem dX4_playTurns_149 : decode mX4_playTurns.2.2.1 149 = .ok (.iconst 1, 1) := by decide +kernel
theorem dX4_playTurns_150 : decode mX4_playTurns.2.2.1 150 = .ok (.goto 4, 3) := by decide +kernel
theorem dX4_playTurns_153 : decode mX4_playTurns.2.2.1 153 = .ok (.iconst 0, 1) := by decide +kernel
theorem dX4_playTurns_154 : decode mX4_playTurns.2.2.1 154 = .ok (.invokevirtual 91, 3) := by decide +kernel
theorem dX4_playTurns_157 : decode mX4_playTurns.2.2.1 157 = .ok (.invokestatic 87, 3) := by decide +kernel
theorem dX4_playTurns_160 : decode mX4_playTurns.2.2.1 160 = .ok (.iinc 9 1, 3) := by decide +kernel
theorem dX4_playTurns_163 : decode mX4_playTurns.2.2.1 163 = .ok (.goto (-50), 3) := by decide +kernel
theorem dX4_playTurns_166 : decode mX4_playTurns.2.2.1 166 = .ok (.aload 6, 2) := by decide +kernel
theorem dX4_playTurns_168 : decode mX4_playTurns.2.2.1 168 = .ok (.astore 9, 2) := by decide +kernel
theorem dX4_playTurns_170 : decode mX4_playTurns.2.2.1 170 = .ok (.aload 7, 2) := by decide +kernel
theorem dX4_playTurns_172 : decode mX4_playTurns.2.2.1 172 = .ok (.astore 6, 2) := by decide +kernel
theorem dX4_playTurns_174 : decode mX4_playTurns.2.2.1 174 = .ok (.aload 9, 2) := by decide +kernel
theorem dX4_playTurns_176 : decode mX4_playTurns.2.2.1 176 = .ok (.astore 7, 2) := by decide +kernel
theorem dX4_playTurns_178 : decode mX4_playTurns.2.2.1 178 = .ok (.iinc 8 (-1), 3) := by decide +kernel
theorem dX4_playTurns_181 : decode mX4_playTurns.2.2.1 181 = .ok (.goto (-76), 3) := by decide +kernel
theorem dX4_playTurns_184 : decode mX4_playTurns.2.2.1 184 = .ok (.aload_n 0, 1) := by decide +kernel
theorem dX4_playTurns_185 : decode mX4_playTurns.2.2.1 185 = .ok (.aload_n 0, 1) := by decide +kernel
theorem dX4_playTurns_186 : decode mX4_playTurns.2.2.1 186 = .ok (.aload 6, 2) := by decide +kernel
theorem dX4_playTurns_188 : decode mX4_playTurns.2.2.1 188 = .ok (.iload 4, 2) := by decide +kernel
theorem dX4_playTurns_190 : decode mX4_playTurns.2.2.1 190 = .ok (.iconst 1, 1) := by decide +kernel
theorem dX4_playTurns_191 : decode mX4_playTurns.2.2.1 191 = .ok (.invokevirtual 91, 3) := by decide +kernel
theorem dX4_playTurns_194 : decode mX4_playTurns.2.2.1 194 = .ok (.putfield 95, 3) := by decide +kernel
theorem dX4_playTurns_197 : decode mX4_playTurns.2.2.1 197 = .ok (.aload_n 0, 1) := by decide +kernel
theorem dX4_playTurns_198 : decode mX4_playTurns.2.2.1 198 = .ok (.aload_n 0, 1) := by decide +kernel
theorem dX4_playTurns_199 : decode mX4_playTurns.2.2.1 199 = .ok (.aload 6, 2) := by decide +kernel
theorem dX4_playTurns_201 : decode mX4_playTurns.2.2.1 201 = .ok (.iload 4, 2) := by decide +kernel
theorem dX4_playTurns_203 : decode mX4_playTurns.2.2.1 203 = .ok (.aload_n 0, 1) := by decide +kernel
theorem dX4_playTurns_204 : decode mX4_playTurns.2.2.1 204 = .ok (.getfield 95, 3) := by decide +kernel
theorem dX4_playTurns_207 : decode mX4_playTurns.2.2.1 207 = .ok (.invokevirtual 98, 3) := by decide +kernel
theorem dX4_playTurns_210 : decode mX4_playTurns.2.2.1 210 = .ok (.putfield 101, 3) := by decide +kernel
theorem dX4_playTurns_213 : decode mX4_playTurns.2.2.1 213 = .ok (.return_, 1) := by decide +kernel
set_option maxHeartbeats 100000 in
theorem kX4_playTurns_0 {d : Nat} {F : am_FT} {L : am_LT} {Q : am_QT} {l3 l4 l5 l6 l7 l8 l9 : Option Value} {x1 x2 : Int32} : wt am_S0 (d + 1) mX4_playTurns 0 [some (.ref 16), some (.int x1), some (.int x2), l3, l4, l5, l6, l7, l8, l9] [] F L Q = wc am_S0 d mX0_open [.ref 9, .int x1, .int x2] F L (fun r G K => wt am_S0 (d + 1) mX4_playTurns 9 [some (.ref 16), some (.int x1), some (.int x2), l3, l4, l5, l6, l7, l8, l9] (r.toList ++ []) G K Q) := (wt_aload_n dX4_playTurns_0 rfl rfl).trans ((wt_getfield dX4_playTurns_1 rfl rfl (v := .ref 9) rfl).trans ((wt_iload_n dX4_playTurns_4 rfl).trans ((wt_iload_n dX4_playTurns_5 rfl).trans (wt_callV dX4_playTurns_6 rfl (as := [.int x1, .int x2]) (rest := []) rfl rfl (Nat.le_of_ble_eq_true rfl) rfl (Nat.le_of_ble_eq_true rfl)))))
set_option maxHeartbeats 100000 in
theorem kX4_playTurns_9 {d : Nat} {F : am_FT} {L : am_LT} {Q : am_QT} {l1 l2 l4 l5 l6 l7 l8 l9 : Option Value} {x3 : Int32} : wt am_S0 d mX4_playTurns 9 [some (.ref 16), l1, l2, some (.int x3), l4, l5, l6, l7, l8, l9] [] F L Q = wt am_S0 d mX4_playTurns 41 [some (.ref 16), l1, l2, some (.int x3), some (.int (F 9 5)), some (.int ((1 : Int32) <<< ((F 1 2) &&& 31))), some (.ref 14), some (.ref 15), l8, l9] [] F L Q := (wt_aload_n dX4_playTurns_9 rfl rfl).trans ((wt_getfield dX4_playTurns_10 rfl rfl (v := .ref 9) rfl).trans ((wt_getfield dX4_playTurns_13 rfl rfl (v := .int (F 9 5)) rfl).trans ((wt_istore dX4_playTurns_16 (lv1 := [some (.ref 16), l1, l2, some (.int x3), some (.int (F 9 5)), l5, l6, l7, l8, l9]) (Nat.le_of_ble_eq_true rfl) rfl).trans ((wt_iconst dX4_playTurns_18 (v := 1) (by decide)).trans ((wt_aload_n dX4_playTurns_19 rfl rfl).trans ((wt_getfield dX4_playTurns_20 rfl rfl (v := .ref 1) rfl).trans ((wt_getfield dX4_playTurns_23 rfl rfl (v := .int (F 1 2)) rfl).trans ((wt_ishl dX4_playTurns_26).trans ((wt_istore dX4_playTurns_27 (lv1 := [some (.ref 16), l1, l2, some (.int x3), some (.int (F 9 5)), some (.int ((1 : Int32) <<< ((F 1 2) &&& 31))), l6, l7, l8, l9]) (Nat.le_of_ble_eq_true rfl) rfl).trans ((wt_aload_n dX4_playTurns_29 rfl rfl).trans ((wt_getfield dX4_playTurns_30 rfl rfl (v := .ref 14) rfl).trans ((wt_astore dX4_playTurns_33 (lv1 := [some (.ref 16), l1, l2, some (.int x3), some (.int (F 9 5)), some (.int ((1 : Int32) <<< ((F 1 2) &&& 31))), some (.ref 14), l7, l8, l9]) rfl (Nat.le_of_ble_eq_true rfl) rfl).trans ((wt_aload_n dX4_playTurns_35 rfl rfl).trans ((wt_getfield dX4_playTurns_36 rfl rfl (v := .ref 15) rfl).trans (wt_astore dX4_playTurns_39 (lv1 := [some (.ref 16), l1, l2, some (.int x3), some (.int (F 9 5)), some (.int ((1 : Int32) <<< ((F 1 2) &&& 31))), some (.ref 14), some (.ref 15), l8, l9]) rfl (Nat.le_of_ble_eq_true rfl) rfl)))))))))))))))
set_option maxHeartbeats 100000 in
theorem kX4_playTurns_41 {d : Nat} {F : am_FT} {L : am_LT} {Q : am_QT} {l0 l1 l2 l3 l4 l5 l6 l8 l9 : Option Value} : wt am_S0 d mX4_playTurns 41 [l0, l1, l2, l3, l4, l5, l6, some (.ref 15), l8, l9] [] F L Q = wt am_S0 d mX4_playTurns 44 [l0, l1, l2, l3, l4, l5, l6, some (.ref 15), some (.int 0), l9] [] F L Q := (wt_iconst dX4_playTurns_41 (v := 0) (by decide)).trans (wt_istore dX4_playTurns_42 (lv1 := [l0, l1, l2, l3, l4, l5, l6, some (.ref 15), some (.int 0), l9]) (Nat.le_of_ble_eq_true rfl) rfl)
set_option maxHeartbeats 100000 in
theorem kX4_playTurns_44 {d : Nat} {F : am_FT} {L : am_LT} {Q : am_QT} {l0 l1 l2 l3 l4 l6 l7 l9 : Option Value} {x8 x5 : Int32} : wt am_S0 d mX4_playTurns 44 [l0, l1, l2, l3, l4, some (.int x5), l6, l7, some (.int x8), l9] [] F L Q = if x5 ≤ x8 then wt am_S0 d mX4_playTurns 100 [l0, l1, l2, l3, l4, some (.int x5), l6, l7, some (.int x8), l9] [] F L Q else wt am_S0 d mX4_playTurns 51 [l0, l1, l2, l3, l4, some (.int x5), l6, l7, some (.int x8), l9] [] F L Q := (wt_iload dX4_playTurns_44 rfl).trans ((wt_iload dX4_playTurns_46 rfl).trans (wt_if_icmp_ge dX4_playTurns_48 (t := 100) rfl))
set_option maxHeartbeats 100000 in
theorem kX4_playTurns_51 {d : Nat} {F : am_FT} {L : am_LT} {Q : am_QT} {l0 l1 l2 l3 l5 l6 l7 l9 : Option Value} {x8 x4 : Int32} : wt am_S0 (d + 1) mX4_playTurns 51 [l0, l1, l2, l3, some (.int x4), l5, l6, l7, some (.int x8), l9] [] F L Q = wc am_S0 d mJ6_bitCount_0f7a4 [.int (x8 ^^^ x4)] F L (fun r G K => wt am_S0 (d + 1) mX4_playTurns 59 [l0, l1, l2, l3, some (.int x4), l5, l6, l7, some (.int x8), l9] (r.toList ++ []) G K Q) := (wt_iload dX4_playTurns_51 rfl).trans ((wt_iload dX4_playTurns_53 rfl).trans ((wt_ixor dX4_playTurns_55).trans (wt_callS dX4_playTurns_56 rfl (as := [.int (x8 ^^^ x4)]) (rest := []) rfl rfl (Nat.le_of_ble_eq_true rfl) (Nat.le_of_ble_eq_true rfl))))
set_option maxHeartbeats 100000 in
theorem kX4_playTurns_59 {d : Nat} {F : am_FT} {L : am_LT} {Q : am_QT} {l0 l1 l2 l4 l5 l6 l7 l8 l9 : Option Value} {s0 x3 : Int32} : wt am_S0 d mX4_playTurns 59 [l0, l1, l2, some (.int x3), l4, l5, l6, l7, l8, l9] [.int s0] F L Q = if x3 < s0 then wt am_S0 d mX4_playTurns 94 [l0, l1, l2, some (.int x3), l4, l5, l6, l7, l8, l9] [] F L Q else wt am_S0 d mX4_playTurns 63 [l0, l1, l2, some (.int x3), l4, l5, l6, l7, l8, l9] [] F L Q := (wt_iload_n dX4_playTurns_59 rfl).trans (wt_if_icmp_gt dX4_playTurns_60 (t := 94) rfl)
set_option maxHeartbeats 100000 in
theorem kX4_playTurns_63 {d : Nat} {F : am_FT} {L : am_LT} {Q : am_QT} {l1 l2 l3 l4 l5 l7 l9 : Option Value} {x8 : Int32} : wt am_S0 (d + 1) mX4_playTurns 63 [some (.ref 16), l1, l2, l3, l4, l5, some (.ref 14), l7, some (.int x8), l9] [] F L Q = wc am_S0 d mX0_passes [.ref 9, .int x8, .int (F 9 6)] F L (fun r G K => wt am_S0 (d + 1) mX4_playTurns 83 [some (.ref 16), l1, l2, l3, l4, l5, some (.ref 14), l7, some (.int x8), l9] (r.toList ++ [.int x8, .ref 14]) G K Q) := (wt_aload dX4_playTurns_63 rfl rfl).trans ((wt_iload dX4_playTurns_65 rfl).trans ((wt_aload_n dX4_playTurns_67 rfl rfl).trans ((wt_getfield dX4_playTurns_68 rfl rfl (v := .ref 9) rfl).trans ((wt_iload dX4_playTurns_71 rfl).trans ((wt_aload_n dX4_playTurns_73 rfl rfl).trans ((wt_getfield dX4_playTurns_74 rfl rfl (v := .ref 9) rfl).trans ((wt_getfield dX4_playTurns_77 rfl rfl (v := .int (F 9 6)) rfl).trans (wt_callV dX4_playTurns_80 rfl (as := [.int x8, .int (F 9 6)]) (rest := [.int x8, .ref 14]) rfl rfl (Nat.le_of_ble_eq_true rfl) rfl (Nat.le_of_ble_eq_true rfl)))))))))
set_option maxHeartbeats 100000 in
theorem kX4_playTurns_83 {d : Nat} {F : am_FT} {L : am_LT} {Q : am_QT} {l0 l1 l2 l3 l4 l5 l6 l7 l8 l9 : Option Value} {s1 s2 : Int32} : wt am_S0 d mX4_playTurns 83 [l0, l1, l2, l3, l4, l5, l6, l7, l8, l9] [.int s2, .int s1, .ref 14] F L Q = if s2 = 0 then wt am_S0 d mX4_playTurns 90 [l0, l1, l2, l3, l4, l5, l6, l7, l8, l9] [.int s1, .ref 14] F L Q else wt am_S0 d mX4_playTurns 86 [l0, l1, l2, l3, l4, l5, l6, l7, l8, l9] [.int s1, .ref 14] F L Q := wt_ifCond_eq dX4_playTurns_83 (t := 90) rfl
set_option maxHeartbeats 100000 in
theorem kX4_playTurns_86 {d : Nat} {F : am_FT} {L : am_LT} {Q : am_QT} {l0 l1 l2 l3 l4 l5 l6 l7 l8 l9 : Option Value} {s1 : Int32} : wt am_S0 d mX4_playTurns 86 [l0, l1, l2, l3, l4, l5, l6, l7, l8, l9] [.int s1, .ref 14] F L Q = wt am_S0 d mX4_playTurns 91 [l0, l1, l2, l3, l4, l5, l6, l7, l8, l9] [.int 1, .int s1, .ref 14] F L Q := (wt_iconst dX4_playTurns_86 (v := 1) (by decide)).trans (wt_goto dX4_playTurns_87 (t := 91) rfl)
set_option maxHeartbeats 100000 in
theorem kX4_playTurns_90 {d : Nat} {F : am_FT} {L : am_LT} {Q : am_QT} {l0 l1 l2 l3 l4 l5 l6 l7 l8 l9 : Option Value} {s1 : Int32} : wt am_S0 d mX4_playTurns 90 [l0, l1, l2, l3, l4, l5, l6, l7, l8, l9] [.int s1, .ref 14] F L Q = wt am_S0 d mX4_playTurns 91 [l0, l1, l2, l3, l4, l5, l6, l7, l8, l9] [.int 0, .int s1, .ref 14] F L Q := wt_iconst dX4_playTurns_90 (v := 0) (by decide)
set_option maxHeartbeats 100000 in
theorem kX4_playTurns_91 {d : Nat} {F : am_FT} {L : am_LT} {Q : am_QT} {l0 l1 l2 l3 l4 l5 l6 l7 l8 l9 : Option Value} {s1 s2 : Int32} : wt am_S0 (d + 1) mX4_playTurns 91 [l0, l1, l2, l3, l4, l5, l6, l7, l8, l9] [.int s2, .int s1, .ref 14] F L Q = wc am_S0 d mX11_lay [.ref 14, .int s1, .int s2] F L (fun r G K => wt am_S0 (d + 1) mX4_playTurns 94 [l0, l1, l2, l3, l4, l5, l6, l7, l8, l9] (r.toList ++ []) G K Q) := wt_callS dX4_playTurns_91 rfl (as := [.ref 14, .int s1, .int s2]) (rest := []) rfl rfl (Nat.le_of_ble_eq_true rfl) (Nat.le_of_ble_eq_true rfl)
set_option maxHeartbeats 100000 in
theorem kX4_playTurns_94 {d : Nat} {F : am_FT} {L : am_LT} {Q : am_QT} {l0 l1 l2 l3 l4 l5 l6 l9 : Option Value} {x8 : Int32} : wt am_S0 d mX4_playTurns 94 [l0, l1, l2, l3, l4, l5, l6, some (.ref 15), some (.int x8), l9] [] F L Q = wt am_S0 d mX4_playTurns 44 [l0, l1, l2, l3, l4, l5, l6, some (.ref 15), some (.int (x8 + 1)), l9] [] F L Q := (wt_iinc dX4_playTurns_94 (v := 1) (lv1 := [l0, l1, l2, l3, l4, l5, l6, some (.ref 15), some (.int (x8 + 1)), l9]) rfl (Nat.le_of_ble_eq_true rfl) (by decide) rfl).trans (wt_goto dX4_playTurns_97 (t := 44) rfl)
set_option maxHeartbeats 100000 in
theorem kX4_playTurns_100 {d : Nat} {F : am_FT} {L : am_LT} {Q : am_QT} {l0 l1 l2 l4 l5 l6 l8 l9 : Option Value} {x3 : Int32} : wt am_S0 d mX4_playTurns 100 [l0, l1, l2, some (.int x3), l4, l5, l6, some (.ref 15), l8, l9] [] F L Q = wt am_S0 d mX4_playTurns 105 [l0, l1, l2, some (.int x3), l4, l5, l6, some (.ref 15), some (.int (x3 - 1)), l9] [] F L Q := (wt_iload_n dX4_playTurns_100 rfl).trans ((wt_iconst dX4_playTurns_101 (v := 1) (by decide)).trans ((wt_isub dX4_playTurns_102).trans (wt_istore dX4_playTurns_103 (lv1 := [l0, l1, l2, some (.int x3), l4, l5, l6, some (.ref 15), some (.int (x3 - 1)), l9]) (Nat.le_of_ble_eq_true rfl) rfl)))
set_option maxHeartbeats 100000 in
theorem kX4_playTurns_105 {d : Nat} {F : am_FT} {L : am_LT} {Q : am_QT} {l0 l1 l2 l3 l4 l5 l6 l7 l9 : Option Value} {x8 : Int32} : wt am_S0 d mX4_playTurns 105 [l0, l1, l2, l3, l4, l5, l6, l7, some (.int x8), l9] [] F L Q = if x8 ≤ 0 then wt am_S0 d mX4_playTurns 184 [l0, l1, l2, l3, l4, l5, l6, l7, some (.int x8), l9] [] F L Q else wt am_S0 d mX4_playTurns 110 [l0, l1, l2, l3, l4, l5, l6, l7, some (.int x8), l9] [] F L Q := (wt_iload dX4_playTurns_105 rfl).trans (wt_ifCond_le dX4_playTurns_107 (t := 184) rfl)
set_option maxHeartbeats 100000 in
theorem kX4_playTurns_110 {d : Nat} {F : am_FT} {L : am_LT} {Q : am_QT} {l0 l1 l2 l3 l4 l5 l6 l7 l9 : Option Value} {x8 : Int32} : wt am_S0 d mX4_playTurns 110 [l0, l1, l2, l3, l4, l5, l6, l7, some (.int x8), l9] [] F L Q = wt am_S0 d mX4_playTurns 113 [l0, l1, l2, l3, l4, l5, l6, l7, some (.int x8), some (.int 0)] [] F L Q := (wt_iconst dX4_playTurns_110 (v := 0) (by decide)).trans (wt_istore dX4_playTurns_111 (lv1 := [l0, l1, l2, l3, l4, l5, l6, l7, some (.int x8), some (.int 0)]) (Nat.le_of_ble_eq_true rfl) rfl)
set_option maxHeartbeats 100000 in
theorem kX4_playTurns_113 {d : Nat} {F : am_FT} {L : am_LT} {Q : am_QT} {l0 l1 l2 l3 l4 l6 l7 l8 : Option Value} {x9 x5 : Int32} : wt am_S0 d mX4_playTurns 113 [l0, l1, l2, l3, l4, some (.int x5), l6, l7, l8, some (.int x9)] [] F L Q = if x5 ≤ x9 then wt am_S0 d mX4_playTurns 166 [l0, l1, l2, l3, l4, some (.int x5), l6, l7, l8, some (.int x9)] [] F L Q else wt am_S0 d mX4_playTurns 120 [l0, l1, l2, l3, l4, some (.int x5), l6, l7, l8, some (.int x9)] [] F L Q := (wt_iload dX4_playTurns_113 rfl).trans ((wt_iload dX4_playTurns_115 rfl).trans (wt_if_icmp_ge dX4_playTurns_117 (t := 166) rfl))
set_option maxHeartbeats 100000 in
theorem kX4_playTurns_120 {d : Nat} {F : am_FT} {L : am_LT} {Q : am_QT} {l0 l1 l2 l3 l5 l6 l7 l8 : Option Value} {x9 x4 : Int32} : wt am_S0 (d + 1) mX4_playTurns 120 [l0, l1, l2, l3, some (.int x4), l5, l6, l7, l8, some (.int x9)] [] F L Q = wc am_S0 d mJ6_bitCount_0f7a4 [.int (x9 ^^^ x4)] F L (fun r G K => wt am_S0 (d + 1) mX4_playTurns 128 [l0, l1, l2, l3, some (.int x4), l5, l6, l7, l8, some (.int x9)] (r.toList ++ []) G K Q) := (wt_iload dX4_playTurns_120 rfl).trans ((wt_iload dX4_playTurns_122 rfl).trans ((wt_ixor dX4_playTurns_124).trans (wt_callS dX4_playTurns_125 rfl (as := [.int (x9 ^^^ x4)]) (rest := []) rfl rfl (Nat.le_of_ble_eq_true rfl) (Nat.le_of_ble_eq_true rfl))))
set_option maxHeartbeats 100000 in
theorem kX4_playTurns_128 {d : Nat} {F : am_FT} {L : am_LT} {Q : am_QT} {l0 l1 l2 l3 l4 l5 l6 l7 l9 : Option Value} {s0 x8 : Int32} : wt am_S0 d mX4_playTurns 128 [l0, l1, l2, l3, l4, l5, l6, l7, some (.int x8), l9] [.int s0] F L Q = if x8 < s0 then wt am_S0 d mX4_playTurns 160 [l0, l1, l2, l3, l4, l5, l6, l7, some (.int x8), l9] [] F L Q else wt am_S0 d mX4_playTurns 133 [l0, l1, l2, l3, l4, l5, l6, l7, some (.int x8), l9] [] F L Q := (wt_iload dX4_playTurns_128 rfl).trans (wt_if_icmp_gt dX4_playTurns_130 (t := 160) rfl)
set_option maxHeartbeats 100000 in
theorem kX4_playTurns_133 {d : Nat} {F : am_FT} {L : am_LT} {Q : am_QT} {l1 l2 l3 l4 l5 : Option Value} {p7 p6 : Nat} {x9 x8 : Int32} : wt am_S0 d mX4_playTurns 133 [some (.ref 16), l1, l2, l3, l4, l5, some (.ref p6), some (.ref p7), some (.int x8), some (.int x9)] [] F L Q = if ¬ (x8 - x8 / 2 * 2) = 0 then wt am_S0 d mX4_playTurns 153 [some (.ref 16), l1, l2, l3, l4, l5, some (.ref p6), some (.ref p7), some (.int x8), some (.int x9)] [.int x9, .ref p6, .ref 16, .int x9, .ref p7] F L Q else wt am_S0 d mX4_playTurns 149 [some (.ref 16), l1, l2, l3, l4, l5, some (.ref p6), some (.ref p7), some (.int x8), some (.int x9)] [.int x9, .ref p6, .ref 16, .int x9, .ref p7] F L Q := (wt_aload dX4_playTurns_133 rfl rfl).trans ((wt_iload dX4_playTurns_135 rfl).trans ((wt_aload_n dX4_playTurns_137 rfl rfl).trans ((wt_aload dX4_playTurns_138 rfl rfl).trans ((wt_iload dX4_playTurns_140 rfl).trans ((wt_iload dX4_playTurns_142 rfl).trans ((wt_iconst dX4_playTurns_144 (v := 2) (by decide)).trans ((wt_irem dX4_playTurns_145 (by decide)).trans (wt_ifCond_ne dX4_playTurns_146 (t := 153) rfl))))))))
set_option maxHeartbeats 100000 in
theorem kX4_playTurns_149 {d : Nat} {F : am_FT} {L : am_LT} {Q : am_QT} {l0 l1 l2 l3 l4 l5 l6 l7 l8 l9 : Option Value} {q0 q3 : Nat} {s1 s4 : Int32} : wt am_S0 d mX4_playTurns 149 [l0, l1, l2, l3, l4, l5, l6, l7, l8, l9] [.int s4, .ref q3, .ref 16, .int s1, .ref q0] F L Q = wt am_S0 d mX4_playTurns 154 [l0, l1, l2, l3, l4, l5, l6, l7, l8, l9] [.int 1, .int s4, .ref q3, .ref 16, .int s1, .ref q0] F L Q := (wt_iconst dX4_playTurns_149 (v := 1) (by decide)).trans (wt_goto dX4_playTurns_150 (t := 154) rfl)
set_option maxHeartbeats 100000 in
theorem kX4_playTurns_153 {d : Nat} {F : am_FT} {L : am_LT} {Q : am_QT} {l0 l1 l2 l3 l4 l5 l6 l7 l8 l9 : Option Value} {q0 q3 : Nat} {s1 s4 : Int32} : wt am_S0 d mX4_playTurns 153 [l0, l1, l2, l3, l4, l5, l6, l7, l8, l9] [.int s4, .ref q3, .ref 16, .int s1, .ref q0] F L Q = wt am_S0 d mX4_playTurns 154 [l0, l1, l2, l3, l4, l5, l6, l7, l8, l9] [.int 0, .int s4, .ref q3, .ref 16, .int s1, .ref q0] F L Q := wt_iconst dX4_playTurns_153 (v := 0) (by decide)
set_option maxHeartbeats 100000 in
theorem kX4_playTurns_154 {d : Nat} {F : am_FT} {L : am_LT} {Q : am_QT} {l0 l1 l2 l3 l4 l5 l6 l7 l8 l9 : Option Value} {q0 q3 : Nat} {s1 s4 s5 : Int32} : wt am_S0 (d + 1) mX4_playTurns 154 [l0, l1, l2, l3, l4, l5, l6, l7, l8, l9] [.int s5, .int s4, .ref q3, .ref 16, .int s1, .ref q0] F L Q = wc am_S0 d mX4_bestOf [.ref 16, .ref q3, .int s4, .int s5] F L (fun r G K => wt am_S0 (d + 1) mX4_playTurns 157 [l0, l1, l2, l3, l4, l5, l6, l7, l8, l9] (r.toList ++ [.int s1, .ref q0]) G K Q) := wt_callV dX4_playTurns_154 rfl (as := [.ref q3, .int s4, .int s5]) (rest := [.int s1, .ref q0]) rfl rfl (Nat.le_of_ble_eq_true rfl) rfl (Nat.le_of_ble_eq_true rfl)
set_option maxHeartbeats 100000 in
theorem kX4_playTurns_157 {d : Nat} {F : am_FT} {L : am_LT} {Q : am_QT} {l0 l1 l2 l3 l4 l5 l6 l7 l8 l9 : Option Value} {q0 : Nat} {s1 s2 : Int32} : wt am_S0 (d + 1) mX4_playTurns 157 [l0, l1, l2, l3, l4, l5, l6, l7, l8, l9] [.int s2, .int s1, .ref q0] F L Q = wc am_S0 d mX11_lay [.ref q0, .int s1, .int s2] F L (fun r G K => wt am_S0 (d + 1) mX4_playTurns 160 [l0, l1, l2, l3, l4, l5, l6, l7, l8, l9] (r.toList ++ []) G K Q) := wt_callS dX4_playTurns_157 rfl (as := [.ref q0, .int s1, .int s2]) (rest := []) rfl rfl (Nat.le_of_ble_eq_true rfl) (Nat.le_of_ble_eq_true rfl)
set_option maxHeartbeats 100000 in
theorem kX4_playTurns_160 {d : Nat} {F : am_FT} {L : am_LT} {Q : am_QT} {l0 l1 l2 l3 l4 l5 l6 l7 : Option Value} {x9 x8 : Int32} : wt am_S0 d mX4_playTurns 160 [l0, l1, l2, l3, l4, l5, l6, l7, some (.int x8), some (.int x9)] [] F L Q = wt am_S0 d mX4_playTurns 113 [l0, l1, l2, l3, l4, l5, l6, l7, some (.int x8), some (.int (x9 + 1))] [] F L Q := (wt_iinc dX4_playTurns_160 (v := 1) (lv1 := [l0, l1, l2, l3, l4, l5, l6, l7, some (.int x8), some (.int (x9 + 1))]) rfl (Nat.le_of_ble_eq_true rfl) (by decide) rfl).trans (wt_goto dX4_playTurns_163 (t := 113) rfl)
set_option maxHeartbeats 100000 in
theorem kX4_playTurns_166 {d : Nat} {F : am_FT} {L : am_LT} {Q : am_QT} {l0 l1 l2 l3 l4 l9 : Option Value} {p6 p7 : Nat} {x8 x5 : Int32} : wt am_S0 d mX4_playTurns 166 [l0, l1, l2, l3, l4, some (.int x5), some (.ref p6), some (.ref p7), some (.int x8), l9] [] F L Q = wt am_S0 d mX4_playTurns 105 [l0, l1, l2, l3, l4, some (.int x5), some (.ref p7), some (.ref p6), some (.int (x8 + (-1))), some (.ref p6)] [] F L Q := (wt_aload dX4_playTurns_166 rfl rfl).trans ((wt_astore dX4_playTurns_168 (lv1 := [l0, l1, l2, l3, l4, some (.int x5), some (.ref p6), some (.ref p7), some (.int x8), some (.ref p6)]) rfl (Nat.le_of_ble_eq_true rfl) rfl).trans ((wt_aload dX4_playTurns_170 rfl rfl).trans ((wt_astore dX4_playTurns_172 (lv1 := [l0, l1, l2, l3, l4, some (.int x5), some (.ref p7), some (.ref p7), some (.int x8), some (.ref p6)]) rfl (Nat.le_of_ble_eq_true rfl) rfl).trans ((wt_aload dX4_playTurns_174 rfl rfl).trans ((wt_astore dX4_playTurns_176 (lv1 := [l0, l1, l2, l3, l4, some (.int x5), some (.ref p7), some (.ref p6), some (.int x8), some (.ref p6)]) rfl (Nat.le_of_ble_eq_true rfl) rfl).trans ((wt_iinc dX4_playTurns_178 (v := (-1)) (lv1 := [l0, l1, l2, l3, l4, some (.int x5), some (.ref p7), some (.ref p6), some (.int (x8 + (-1))), some (.ref p6)]) rfl (Nat.le_of_ble_eq_true rfl) (by decide) rfl).trans (wt_goto dX4_playTurns_181 (t := 105) rfl)))))))
set_option maxHeartbeats 100000 in
theorem kX4_playTurns_184 {d : Nat} {F : am_FT} {L : am_LT} {Q : am_QT} {l1 l2 l3 l5 l7 l8 l9 : Option Value} {p6 : Nat} {x4 : Int32} : wt am_S0 (d + 1) mX4_playTurns 184 [some (.ref 16), l1, l2, l3, some (.int x4), l5, some (.ref p6), l7, l8, l9] [] F L Q = wc am_S0 d mX4_bestOf [.ref 16, .ref p6, .int x4, .int 1] F L (fun r G K => wt am_S0 (d + 1) mX4_playTurns 194 [some (.ref 16), l1, l2, l3, some (.int x4), l5, some (.ref p6), l7, l8, l9] (r.toList ++ [.ref 16]) G K Q) := (wt_aload_n dX4_playTurns_184 rfl rfl).trans ((wt_aload_n dX4_playTurns_185 rfl rfl).trans ((wt_aload dX4_playTurns_186 rfl rfl).trans ((wt_iload dX4_playTurns_188 rfl).trans ((wt_iconst dX4_playTurns_190 (v := 1) (by decide)).trans (wt_callV dX4_playTurns_191 rfl (as := [.ref p6, .int x4, .int 1]) (rest := [.ref 16]) rfl rfl (Nat.le_of_ble_eq_true rfl) rfl (Nat.le_of_ble_eq_true rfl))))))
set_option maxHeartbeats 100000 in
theorem kX4_playTurns_194 {d : Nat} {F : am_FT} {L : am_LT} {Q : am_QT} {l1 l2 l3 l5 l7 l8 l9 : Option Value} {s1 x4 : Int32} {p6 : Nat} : wt am_S0 (d + 1) mX4_playTurns 194 [some (.ref 16), l1, l2, l3, some (.int x4), l5, some (.ref p6), l7, l8, l9] [.int s1, .ref 16] F L Q = wc am_S0 d mX4_leastMove [.ref 16, .ref p6, .int x4, .int s1] (am_upF F 16 4 s1) L (fun r G K => wt am_S0 (d + 1) mX4_playTurns 210 [some (.ref 16), l1, l2, l3, some (.int x4), l5, some (.ref p6), l7, l8, l9] (r.toList ++ [.ref 16]) G K Q) := (wt_putfield dX4_playTurns_194 rfl rfl ⟨rfl, rfl, rfl, rfl⟩).trans ((wt_aload_n dX4_playTurns_197 rfl rfl).trans ((wt_aload_n dX4_playTurns_198 rfl rfl).trans ((wt_aload dX4_playTurns_199 rfl rfl).trans ((wt_iload dX4_playTurns_201 rfl).trans ((wt_aload_n dX4_playTurns_203 rfl rfl).trans ((wt_getfield dX4_playTurns_204 rfl rfl (v := .int s1) (F := am_upF F 16 4 s1) (p := 16) rfl).trans (wt_callV dX4_playTurns_207 rfl (as := [.ref p6, .int x4, .int s1]) (rest := [.ref 16]) rfl rfl (Nat.le_of_ble_eq_true rfl) rfl (Nat.le_of_ble_eq_true rfl))))))))
set_option maxHeartbeats 100000 in
theorem kX4_playTurns_210 {d : Nat} {F : am_FT} {L : am_LT} {Q : am_QT} {l0 l1 l2 l3 l4 l5 l6 l7 l8 l9 : Option Value} {s1 : Int32} : wt am_S0 d mX4_playTurns 210 [l0, l1, l2, l3, l4, l5, l6, l7, l8, l9] [.int s1, .ref 16] F L Q = Q none (am_upF F 16 5 s1) L := (wt_putfield dX4_playTurns_210 rfl rfl ⟨rfl, rfl, rfl, rfl⟩).trans (wt_return dX4_playTurns_213 rfl)
theorem dX4_bestOf_0 : decode mX4_bestOf.2.2.1 0 = .ok (.aload_n 1, 1) := by decide +kernel
theorem dX4_bestOf_1 : decode mX4_bestOf.2.2.1 1 = .ok (.iload_n 2, 1) := by decide +kernel
theorem dX4_bestOf_2 : decode mX4_bestOf.2.2.1 2 = .ok (.invokestatic 68, 3) := by decide +kernel
theorem dX4_bestOf_5 : decode mX4_bestOf.2.2.1 5 = .ok (.iload_n 3, 1) := by decide +kernel
theorem dX4_bestOf_6 : decode mX4_bestOf.2.2.1 6 = .ok (.if_icmp .ne 5, 3) := by decide +kernel
theorem dX4_bestOf_9 : decode mX4_bestOf.2.2.1 9 = .ok (.iload_n 3, 1) := by decide +kernel
theorem dX4_bestOf_10 : decode mX4_bestOf.2.2.1 10 = .ok (.ireturn, 1) := by decide +kernel
theorem dX4_bestOf_11 : decode mX4_bestOf.2.2.1 11 = .ok (.iconst 0, 1) := by decide +kernel
theorem dX4_bestOf_12 : decode mX4_bestOf.2.2.1 12 = .ok (.istore 4, 2) := by decide +kernel
theorem dX4_bestOf_14 : decode mX4_bestOf.2.2.1 14 = .ok (.iload 4, 2) := by decide +kernel
theorem dX4_bestOf_16 : decode mX4_bestOf.2.2.1 16 = .ok (.aload_n 0, 1) := by decide +kernel
theorem dX4_bestOf_17 : decode mX4_bestOf.2.2.1 17 = .ok (.getfield 9, 3) := by decide +kernel
theorem dX4_bestOf_20 : decode mX4_bestOf.2.2.1 20 = .ok (.getfield 43, 3) := by decide +kernel
theorem dX4_bestOf_23 : decode mX4_bestOf.2.2.1 23 = .ok (.if_icmp .ge 25, 3) := by decide +kernel
theorem dX4_bestOf_26 : decode mX4_bestOf.2.2.1 26 = .ok (.aload_n 1, 1) := by decide +kernel
theorem dX4_bestOf_27 : decode mX4_bestOf.2.2.1 27 = .ok (.iload_n 2, 1) := by decide +kernel
theorem dX4_bestOf_28 : decode mX4_bestOf.2.2.1 28 = .ok (.iconst 1, 1) := by decide +kernel
theorem dX4_bestOf_29 : decode mX4_bestOf.2.2.1 29 = .ok (.iload 4, 2) := by decide +kernel
theorem dX4_bestOf_31 : decode mX4_bestOf.2.2.1 31 = .ok (.ishl, 1) := by decide +kernel
theorem dX4_bestOf_32 : decode mX4_bestOf.2.2.1 32 = .ok (.ixor, 1) := by decide +kernel
theorem dX4_bestOf_33 : decode mX4_bestOf.2.2.1 33 = .ok (.invokestatic 68, 3) := by decide +kernel
theorem dX4_bestOf_36 : decode mX4_bestOf.2.2.1 36 = .ok (.iload_n 3, 1) := by decide +kernel
theorem dX4_bestOf_37 : decode mX4_bestOf.2.2.1 37 = .ok (.if_icmp .ne 5, 3) := by decide +kernel
theorem dX4_bestOf_40 : decode mX4_bestOf.2.2.1 40 = .ok (.iload_n 3, 1) := by decide +kernel
theorem dX4_bestOf_41 : decode mX4_bestOf.2.2.1 41 = .ok (.ireturn, 1) := by decide +kernel
theorem dX4_bestOf_42 : decode mX4_bestOf.2.2.1 42 = .ok (.iinc 4 1, 3) := by decide +kernel
theorem dX4_bestOf_45 : decode mX4_bestOf.2.2.1 45 = .ok (.goto (-31), 3) := by decide +kernel
theorem dX4_bestOf_48 : decode mX4_bestOf.2.2.1 48 = .ok (.iconst 1, 1) := by decide +kernel
theorem dX4_bestOf_49 : decode mX4_bestOf.2.2.1 49 = .ok (.iload_n 3, 1) := by decide +kernel
theorem dX4_bestOf_50 : decode mX4_bestOf.2.2.1 50 = .ok (.isub, 1) := by decide +kernel
theorem dX4_bestOf_51 : decode mX4_bestOf.2.2.1 51 = .ok (.ireturn, 1) := by decide +kernel
set_option maxHeartbeats 100000 in
theorem kX4_bestOf_0 {d : Nat} {F : am_FT} {L : am_LT} {Q : am_QT} {l0 l3 l4 : Option Value} {p1 : Nat} {x2 : Int32} : wt am_S0 (d + 1) mX4_bestOf 0 [l0, some (.ref p1), some (.int x2), l3, l4] [] F L Q = wc am_S0 d mX11_at [.ref p1, .int x2] F L (fun r G K => wt am_S0 (d + 1) mX4_bestOf 5 [l0, some (.ref p1), some (.int x2), l3, l4] (r.toList ++ []) G K Q) := (wt_aload_n dX4_bestOf_0 rfl rfl).trans ((wt_iload_n dX4_bestOf_1 rfl).trans (wt_callS dX4_bestOf_2 rfl (as := [.ref p1, .int x2]) (rest := []) rfl rfl (Nat.le_of_ble_eq_true rfl) (Nat.le_of_ble_eq_true rfl)))
set_option maxHeartbeats 100000 in
theorem kX4_bestOf_5 {d : Nat} {F : am_FT} {L : am_LT} {Q : am_QT} {l0 l1 l2 l4 : Option Value} {s0 x3 : Int32} : wt am_S0 d mX4_bestOf 5 [l0, l1, l2, some (.int x3), l4] [.int s0] F L Q = if ¬ s0 = x3 then wt am_S0 d mX4_bestOf 11 [l0, l1, l2, some (.int x3), l4] [] F L Q else wt am_S0 d mX4_bestOf 9 [l0, l1, l2, some (.int x3), l4] [] F L Q := (wt_iload_n dX4_bestOf_5 rfl).trans (wt_if_icmp_ne dX4_bestOf_6 (t := 11) rfl)
set_option maxHeartbeats 100000 in
theorem kX4_bestOf_9 {d : Nat} {F : am_FT} {L : am_LT} {Q : am_QT} {l0 l1 l2 l4 : Option Value} {x3 : Int32} : wt am_S0 d mX4_bestOf 9 [l0, l1, l2, some (.int x3), l4] [] F L Q = Q (some (.int x3)) F L := (wt_iload_n dX4_bestOf_9 rfl).trans (wt_ireturn dX4_bestOf_10 rfl rfl)
set_option maxHeartbeats 100000 in
theorem kX4_bestOf_11 {d : Nat} {F : am_FT} {L : am_LT} {Q : am_QT} {l0 l1 l2 l4 : Option Value} {x3 : Int32} : wt am_S0 d mX4_bestOf 11 [l0, l1, l2, some (.int x3), l4] [] F L Q = wt am_S0 d mX4_bestOf 14 [l0, l1, l2, some (.int x3), some (.int 0)] [] F L Q := (wt_iconst dX4_bestOf_11 (v := 0) (by decide)).trans (wt_istore dX4_bestOf_12 (lv1 := [l0, l1, l2, some (.int x3), some (.int 0)]) (Nat.le_of_ble_eq_true rfl) rfl)
set_option maxHeartbeats 100000 in
theorem kX4_bestOf_14 {d : Nat} {F : am_FT} {L : am_LT} {Q : am_QT} {l1 l2 l3 : Option Value} {x4 : Int32} : wt am_S0 d mX4_bestOf 14 [some (.ref 16), l1, l2, l3, some (.int x4)] [] F L Q = if (F 1 2) ≤ x4 then wt am_S0 d mX4_bestOf 48 [some (.ref 16), l1, l2, l3, some (.int x4)] [] F L Q else wt am_S0 d mX4_bestOf 26 [some (.ref 16), l1, l2, l3, some (.int x4)] [] F L Q := (wt_iload dX4_bestOf_14 rfl).trans ((wt_aload_n dX4_bestOf_16 rfl rfl).trans ((wt_getfield dX4_bestOf_17 rfl rfl (v := .ref 1) rfl).trans ((wt_getfield dX4_bestOf_20 rfl rfl (v := .int (F 1 2)) rfl).trans (wt_if_icmp_ge dX4_bestOf_23 (t := 48) rfl))))
set_option maxHeartbeats 100000 in
theorem kX4_bestOf_26 {d : Nat} {F : am_FT} {L : am_LT} {Q : am_QT} {l0 l3 : Option Value} {p1 : Nat} {x2 x4 : Int32} : wt am_S0 (d + 1) mX4_bestOf 26 [l0, some (.ref p1), some (.int x2), l3, some (.int x4)] [] F L Q = wc am_S0 d mX11_at [.ref p1, .int (x2 ^^^ ((1 : Int32) <<< (x4 &&& 31)))] F L (fun r G K => wt am_S0 (d + 1) mX4_bestOf 36 [l0, some (.ref p1), some (.int x2), l3, some (.int x4)] (r.toList ++ []) G K Q) := (wt_aload_n dX4_bestOf_26 rfl rfl).trans ((wt_iload_n dX4_bestOf_27 rfl).trans ((wt_iconst dX4_bestOf_28 (v := 1) (by decide)).trans ((wt_iload dX4_bestOf_29 rfl).trans ((wt_ishl dX4_bestOf_31).trans ((wt_ixor dX4_bestOf_32).trans (wt_callS dX4_bestOf_33 rfl (as := [.ref p1, .int (x2 ^^^ ((1 : Int32) <<< (x4 &&& 31)))]) (rest := []) rfl rfl (Nat.le_of_ble_eq_true rfl) (Nat.le_of_ble_eq_true rfl)))))))
set_option maxHeartbeats 100000 in
theorem kX4_bestOf_36 {d : Nat} {F : am_FT} {L : am_LT} {Q : am_QT} {l0 l1 l2 l4 : Option Value} {s0 x3 : Int32} : wt am_S0 d mX4_bestOf 36 [l0, l1, l2, some (.int x3), l4] [.int s0] F L Q = if ¬ s0 = x3 then wt am_S0 d mX4_bestOf 42 [l0, l1, l2, some (.int x3), l4] [] F L Q else wt am_S0 d mX4_bestOf 40 [l0, l1, l2, some (.int x3), l4] [] F L Q := (wt_iload_n dX4_bestOf_36 rfl).trans (wt_if_icmp_ne dX4_bestOf_37 (t := 42) rfl)
set_option maxHeartbeats 100000 in
theorem kX4_bestOf_40 {d : Nat} {F : am_FT} {L : am_LT} {Q : am_QT} {l0 l1 l2 l4 : Option Value} {x3 : Int32} : wt am_S0 d mX4_bestOf 40 [l0, l1, l2, some (.int x3), l4] [] F L Q = Q (some (.int x3)) F L := (wt_iload_n dX4_bestOf_40 rfl).trans (wt_ireturn dX4_bestOf_41 rfl rfl)
set_option maxHeartbeats 100000 in
theorem kX4_bestOf_42 {d : Nat} {F : am_FT} {L : am_LT} {Q : am_QT} {l0 l1 l2 : Option Value} {x4 x3 : Int32} : wt am_S0 d mX4_bestOf 42 [l0, l1, l2, some (.int x3), some (.int x4)] [] F L Q = wt am_S0 d mX4_bestOf 14 [l0, l1, l2, some (.int x3), some (.int (x4 + 1))] [] F L Q := (wt_iinc dX4_bestOf_42 (v := 1) (lv1 := [l0, l1, l2, some (.int x3), some (.int (x4 + 1))]) rfl (Nat.le_of_ble_eq_true rfl) (by decide) rfl).trans (wt_goto dX4_bestOf_45 (t := 14) rfl)
set_option maxHeartbeats 100000 in
theorem kX4_bestOf_48 {d : Nat} {F : am_FT} {L : am_LT} {Q : am_QT} {l0 l1 l2 l4 : Option Value} {x3 : Int32} : wt am_S0 d mX4_bestOf 48 [l0, l1, l2, some (.int x3), l4] [] F L Q = Q (some (.int (1 - x3))) F L := (wt_iconst dX4_bestOf_48 (v := 1) (by decide)).trans ((wt_iload_n dX4_bestOf_49 rfl).trans ((wt_isub dX4_bestOf_50).trans (wt_ireturn dX4_bestOf_51 rfl rfl)))
theorem dX4_leastMove_0 : decode mX4_leastMove.2.2.1 0 = .ok (.iconst 0, 1) := by decide +kernel
theorem dX4_leastMove_1 : decode mX4_leastMove.2.2.1 1 = .ok (.istore 4, 2) := by decide +kernel
theorem dX4_leastMove_3 : decode mX4_leastMove.2.2.1 3 = .ok (.iload 4, 2) := by decide +kernel
theorem dX4_leastMove_5 : decode mX4_leastMove.2.2.1 5 = .ok (.aload_n 0, 1) := by decide +kernel
theorem dX4_leastMove_6 : decode mX4_leastMove.2.2.1 6 = .ok (.getfield 9, 3) := by decide +kernel
theorem dX4_leastMove_9 : decode mX4_leastMove.2.2.1 9 = .ok (.getfield 43, 3) := by decide +kernel
theorem dX4_leastMove_12 : decode mX4_leastMove.2.2.1 12 = .ok (.if_icmp .ge 26, 3) := by decide +kernel
theorem dX4_leastMove_15 : decode mX4_leastMove.2.2.1 15 = .ok (.aload_n 1, 1) := by decide +kernel
theorem dX4_leastMove_16 : decode mX4_leastMove.2.2.1 16 = .ok (.iload_n 2, 1) := by decide +kernel
theorem dX4_leastMove_17 : decode mX4_leastMove.2.2.1 17 = .ok (.iconst 1, 1) := by decide +kernel
theorem dX4_leastMove_18 : decode mX4_leastMove.2.2.1 18 = .ok (.iload 4, 2) := by decide +kernel
theorem dX4_leastMove_20 : decode mX4_leastMove.2.2.1 20 = .ok (.ishl, 1) := by decide +kernel
theorem dX4_leastMove_21 : decode mX4_leastMove.2.2.1 21 = .ok (.ixor, 1) := by decide +kernel
theorem dX4_leastMove_22 : decode mX4_leastMove.2.2.1 22 = .ok (.invokestatic 68, 3) := by decide +kernel
theorem dX4_leastMove_25 : decode mX4_leastMove.2.2.1 25 = .ok (.iload_n 3, 1) := by decide +kernel
theorem dX4_leastMove_26 : decode mX4_leastMove.2.2.1 26 = .ok (.if_icmp .ne 6, 3) := by decide +kernel
theorem dX4_leastMove_29 : decode mX4_leastMove.2.2.1 29 = .ok (.iload 4, 2) := by decide +kernel
theorem dX4_leastMove_31 : decode mX4_leastMove.2.2.1 31 = .ok (.ireturn, 1) := by decide +kernel
theorem dX4_leastMove_32 : decode mX4_leastMove.2.2.1 32 = .ok (.iinc 4 1, 3) := by decide +kernel
theorem dX4_leastMove_35 : decode mX4_leastMove.2.2.1 35 = .ok (.goto (-32), 3) := by decide +kernel
theorem dX4_leastMove_38 : decode mX4_leastMove.2.2.1 38 = .ok (.bipush 10, 2) := by decide +kernel
theorem dX4_leastMove_40 : decode mX4_leastMove.2.2.1 40 = .ok (.ireturn, 1) := by decide +kernel
set_option maxHeartbeats 100000 in
theorem kX4_leastMove_0 {d : Nat} {F : am_FT} {L : am_LT} {Q : am_QT} {l0 l1 l2 l4 : Option Value} {x3 : Int32} : wt am_S0 d mX4_leastMove 0 [l0, l1, l2, some (.int x3), l4] [] F L Q = wt am_S0 d mX4_leastMove 3 [l0, l1, l2, some (.int x3), some (.int 0)] [] F L Q := (wt_iconst dX4_leastMove_0 (v := 0) (by decide)).trans (wt_istore dX4_leastMove_1 (lv1 := [l0, l1, l2, some (.int x3), some (.int 0)]) (Nat.le_of_ble_eq_true rfl) rfl)
set_option maxHeartbeats 100000 in
theorem kX4_leastMove_3 {d : Nat} {F : am_FT} {L : am_LT} {Q : am_QT} {l1 l2 l3 : Option Value} {x4 : Int32} : wt am_S0 d mX4_leastMove 3 [some (.ref 16), l1, l2, l3, some (.int x4)] [] F L Q = if (F 1 2) ≤ x4 then wt am_S0 d mX4_leastMove 38 [some (.ref 16), l1, l2, l3, some (.int x4)] [] F L Q else wt am_S0 d mX4_leastMove 15 [some (.ref 16), l1, l2, l3, some (.int x4)] [] F L Q := (wt_iload dX4_leastMove_3 rfl).trans ((wt_aload_n dX4_leastMove_5 rfl rfl).trans ((wt_getfield dX4_leastMove_6 rfl rfl (v := .ref 1) rfl).trans ((wt_getfield dX4_leastMove_9 rfl rfl (v := .int (F 1 2)) rfl).trans (wt_if_icmp_ge dX4_leastMove_12 (t := 38) rfl))))
set_option maxHeartbeats 100000 in
theorem kX4_leastMove_15 {d : Nat} {F : am_FT} {L : am_LT} {Q : am_QT} {l0 l3 : Option Value} {p1 : Nat} {x2 x4 : Int32} : wt am_S0 (d + 1) mX4_leastMove 15 [l0, some (.ref p1), some (.int x2), l3, some (.int x4)] [] F L Q = wc am_S0 d mX11_at [.ref p1, .int (x2 ^^^ ((1 : Int32) <<< (x4 &&& 31)))] F L (fun r G K => wt am_S0 (d + 1) mX4_leastMove 25 [l0, some (.ref p1), some (.int x2), l3, some (.int x4)] (r.toList ++ []) G K Q) := (wt_aload_n dX4_leastMove_15 rfl rfl).trans ((wt_iload_n dX4_leastMove_16 rfl).trans ((wt_iconst dX4_leastMove_17 (v := 1) (by decide)).trans ((wt_iload dX4_leastMove_18 rfl).trans ((wt_ishl dX4_leastMove_20).trans ((wt_ixor dX4_leastMove_21).trans (wt_callS dX4_leastMove_22 rfl (as := [.ref p1, .int (x2 ^^^ ((1 : Int32) <<< (x4 &&& 31)))]) (rest := []) rfl rfl (Nat.le_of_ble_eq_true rfl) (Nat.le_of_ble_eq_true rfl)))))))
set_option maxHeartbeats 100000 in
theorem kX4_leastMove_25 {d : Nat} {F : am_FT} {L : am_LT} {Q : am_QT} {l0 l1 l2 l4 : Option Value} {s0 x3 : Int32} : wt am_S0 d mX4_leastMove 25 [l0, l1, l2, some (.int x3), l4] [.int s0] F L Q = if ¬ s0 = x3 then wt am_S0 d mX4_leastMove 32 [l0, l1, l2, some (.int x3), l4] [] F L Q else wt am_S0 d mX4_leastMove 29 [l0, l1, l2, some (.int x3), l4] [] F L Q := (wt_iload_n dX4_leastMove_25 rfl).trans (wt_if_icmp_ne dX4_leastMove_26 (t := 32) rfl)
set_option maxHeartbeats 100000 in
theorem kX4_leastMove_29 {d : Nat} {F : am_FT} {L : am_LT} {Q : am_QT} {l0 l1 l2 l3 : Option Value} {x4 : Int32} : wt am_S0 d mX4_leastMove 29 [l0, l1, l2, l3, some (.int x4)] [] F L Q = Q (some (.int x4)) F L := (wt_iload dX4_leastMove_29 rfl).trans (wt_ireturn dX4_leastMove_31 rfl rfl)
set_option maxHeartbeats 100000 in
theorem kX4_leastMove_32 {d : Nat} {F : am_FT} {L : am_LT} {Q : am_QT} {l0 l1 l2 : Option Value} {x4 x3 : Int32} : wt am_S0 d mX4_leastMove 32 [l0, l1, l2, some (.int x3), some (.int x4)] [] F L Q = wt am_S0 d mX4_leastMove 3 [l0, l1, l2, some (.int x3), some (.int (x4 + 1))] [] F L Q := (wt_iinc dX4_leastMove_32 (v := 1) (lv1 := [l0, l1, l2, some (.int x3), some (.int (x4 + 1))]) rfl (Nat.le_of_ble_eq_true rfl) (by decide) rfl).trans (wt_goto dX4_leastMove_35 (t := 3) rfl)
set_option maxHeartbeats 100000 in
theorem kX4_leastMove_38 {d : Nat} {F : am_FT} {L : am_LT} {Q : am_QT} {l0 l1 l2 l3 l4 : Option Value} : wt am_S0 d mX4_leastMove 38 [l0, l1, l2, l3, l4] [] F L Q = Q (some (.int 10)) F L := (wt_bipush dX4_leastMove_38 (v := 10) (by decide)).trans (wt_ireturn dX4_leastMove_40 rfl rfl)
