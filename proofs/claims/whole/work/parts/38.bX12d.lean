theorem dX12_left_0 : decode mX12_left.2.2.1 0 = .ok (.iload_n 1, 1) := by decide +kernel
theorem dX12_left_1 : decode mX12_left.2.2.1 1 = .ok (.i2l, 1) := by decide +kernel
theorem dX12_left_2 : decode mX12_left.2.2.1 2 = .ok (.invokestatic 90, 3) := by decide +kernel
theorem dX12_left_5 : decode mX12_left.2.2.1 5 = .ok (.ifCond .eq 15, 3) := by decide +kernel
theorem dX12_left_8 : decode mX12_left.2.2.1 8 = .ok (.iload_n 2, 1) := by decide +kernel
theorem dX12_left_9 : decode mX12_left.2.2.1 9 = .ok (.i2l, 1) := by decide +kernel
theorem dX12_left_10 : decode mX12_left.2.2.1 10 = .ok (.lconst 0, 1) := by decide +kernel
theorem dX12_left_11 : decode mX12_left.2.2.1 11 = .ok (.ldc2_w 229, 3) := by decide +kernel
theorem dX12_left_14 : decode mX12_left.2.2.1 14 = .ok (.invokestatic 75, 3) := by decide +kernel
theorem dX12_left_17 : decode mX12_left.2.2.1 17 = .ok (.ifCond .ne 5, 3) := by decide +kernel
theorem dX12_left_20 : decode mX12_left.2.2.1 20 = .ok (.iconst (-1), 1) := by decide +kernel
theorem dX12_left_21 : decode mX12_left.2.2.1 21 = .ok (.ireturn, 1) := by decide +kernel
theorem dX12_left_22 : decode mX12_left.2.2.1 22 = .ok (.aload_n 0, 1) := by decide +kernel
theorem dX12_left_23 : decode mX12_left.2.2.1 23 = .ok (.getfield 98, 3) := by decide +kernel
theorem dX12_left_26 : decode mX12_left.2.2.1 26 = .ok (.istore_n 3, 1) := by decide +kernel
theorem dX12_left_27 : decode mX12_left.2.2.1 27 = .ok (.iconst 0, 1) := by decide +kernel
theorem dX12_left_28 : decode mX12_left.2.2.1 28 = .ok (.istore 4, 2) := by decide +kernel
theorem dX12_left_30 : decode mX12_left.2.2.1 30 = .ok (.iload 4, 2) := by decide +kernel
theorem dX12_left_32 : decode mX12_left.2.2.1 32 = .ok (.iload_n 2, 1) := by decide +kernel
theorem dX12_left_33 : decode mX12_left.2.2.1 33 = .ok (.if_icmp .ge 25, 3) := by decide +kernel
theorem dX12_left_36 : decode mX12_left.2.2.1 36 = .ok (.iload_n 3, 1) := by decide +kernel
theorem dX12_left_37 : decode mX12_left.2.2.1 37 = .ok (.aload_n 0, 1) := by decide +kernel
theorem dX12_left_38 : decode mX12_left.2.2.1 38 = .ok (.iload_n 1, 1) := by decide +kernel
theorem dX12_left_39 : decode mX12_left.2.2.1 39 = .ok (.iload 4, 2) := by decide +kernel
theorem dX12_left_41 : decode mX12_left.2.2.1 41 = .ok (.iadd, 1) := by decide +kernel
theorem dX12_left_42 : decode mX12_left.2.2.1 42 = .ok (.bipush 12, 2) := by decide +kernel
theorem dX12_left_44 : decode mX12_left.2.2.1 44 = .ok (.irem, 1) := by decide +kernel
theorem dX12_left_45 : decode mX12_left.2.2.1 45 = .ok (.invokevirtual 226, 3) := by decide +kernel
theorem dX12_left_48 : decode mX12_left.2.2.1 48 = .ok (.iconst (-1), 1) := by decide +kernel
theorem dX12_left_49 : decode mX12_left.2.2.1 49 = .ok (.ixor, 1) := by decide +kernel
theorem dX12_left_50 : decode mX12_left.2.2.1 50 = .ok (.iand, 1) := by decide +kernel
theorem dX12_left_51 : decode mX12_left.2.2.1 51 = .ok (.istore_n 3, 1) := by decide +kernel
theorem dX12_left_52 : decode mX12_left.2.2.1 52 = .ok (.iinc 4 1, 3) := by decide +kernel
theorem dX12_left_55 : decode mX12_left.2.2.1 55 = .ok (.goto (-25), 3) := by decide +kernel
theorem dX12_left_58 : decode mX12_left.2.2.1 58 = .ok (.iload_n 3, 1) := by decide +kernel
theorem dX12_left_59 : decode mX12_left.2.2.1 59 = .ok (.ireturn, 1) := by decide +kernel
set_option maxHeartbeats 100000 in
theorem kX12_left_0 {d : Nat} {F : am_FT} {L : am_LT} {Q : am_QT} {l0 l2 l3 l4 : Option Value} {x1 : Int32} : wt am_S0 (d + 1) mX12_left 0 [l0, some (.int x1), l2, l3, l4] [] F L Q = wc am_S0 d mX12_isMonth [.long (Int32.toInt64 x1)] F L (fun r G K => wt am_S0 (d + 1) mX12_left 5 [l0, some (.int x1), l2, l3, l4] (r.toList ++ []) G K Q) := (wt_iload_n dX12_left_0 rfl).trans ((wt_i2l dX12_left_1).trans (wt_callS dX12_left_2 rfl (as := [.long (Int32.toInt64 x1)]) (rest := []) rfl rfl (Nat.le_of_ble_eq_true rfl) (Nat.le_of_ble_eq_true rfl)))
set_option maxHeartbeats 100000 in
theorem kX12_left_5 {d : Nat} {F : am_FT} {L : am_LT} {Q : am_QT} {l0 l1 l2 l3 l4 : Option Value} {s0 : Int32} : wt am_S0 d mX12_left 5 [l0, l1, l2, l3, l4] [.int s0] F L Q = if s0 = 0 then wt am_S0 d mX12_left 20 [l0, l1, l2, l3, l4] [] F L Q else wt am_S0 d mX12_left 8 [l0, l1, l2, l3, l4] [] F L Q := wt_ifCond_eq dX12_left_5 (t := 20) rfl
set_option maxHeartbeats 100000 in
theorem kX12_left_8 {d : Nat} {F : am_FT} {L : am_LT} {Q : am_QT} {l0 l1 l3 l4 : Option Value} {x2 : Int32} : wt am_S0 (d + 1) mX12_left 8 [l0, l1, some (.int x2), l3, l4] [] F L Q = wc am_S0 d mX12_within [.long (Int32.toInt64 x2), .long 0, .long 99] F L (fun r G K => wt am_S0 (d + 1) mX12_left 17 [l0, l1, some (.int x2), l3, l4] (r.toList ++ []) G K Q) := (wt_iload_n dX12_left_8 rfl).trans ((wt_i2l dX12_left_9).trans ((wt_lconst dX12_left_10 (v := 0) (by decide)).trans ((wt_ldc2_w dX12_left_11 (v := 99) rfl).trans (wt_callS dX12_left_14 rfl (as := [.long (Int32.toInt64 x2), .long 0, .long 99]) (rest := []) rfl rfl (Nat.le_of_ble_eq_true rfl) (Nat.le_of_ble_eq_true rfl)))))
set_option maxHeartbeats 100000 in
theorem kX12_left_17 {d : Nat} {F : am_FT} {L : am_LT} {Q : am_QT} {l0 l1 l2 l3 l4 : Option Value} {s0 : Int32} : wt am_S0 d mX12_left 17 [l0, l1, l2, l3, l4] [.int s0] F L Q = if ¬ s0 = 0 then wt am_S0 d mX12_left 22 [l0, l1, l2, l3, l4] [] F L Q else wt am_S0 d mX12_left 20 [l0, l1, l2, l3, l4] [] F L Q := wt_ifCond_ne dX12_left_17 (t := 22) rfl
set_option maxHeartbeats 100000 in
theorem kX12_left_20 {d : Nat} {F : am_FT} {L : am_LT} {Q : am_QT} {l0 l1 l2 l3 l4 : Option Value} : wt am_S0 d mX12_left 20 [l0, l1, l2, l3, l4] [] F L Q = Q (some (.int (-1))) F L := (wt_iconst dX12_left_20 (v := (-1)) (by decide)).trans (wt_ireturn dX12_left_21 rfl rfl)
set_option maxHeartbeats 100000 in
theorem kX12_left_22 {d : Nat} {F : am_FT} {L : am_LT} {Q : am_QT} {l1 l3 l4 : Option Value} {x2 : Int32} : wt am_S0 d mX12_left 22 [some (.ref 45), l1, some (.int x2), l3, l4] [] F L Q = wt am_S0 d mX12_left 30 [some (.ref 45), l1, some (.int x2), some (.int (F 45 8)), some (.int 0)] [] F L Q := (wt_aload_n dX12_left_22 rfl rfl).trans ((wt_getfield dX12_left_23 rfl rfl (v := .int (F 45 8)) rfl).trans ((wt_istore_n dX12_left_26 (lv1 := [some (.ref 45), l1, some (.int x2), some (.int (F 45 8)), l4]) (Nat.le_of_ble_eq_true rfl) rfl).trans ((wt_iconst dX12_left_27 (v := 0) (by decide)).trans (wt_istore dX12_left_28 (lv1 := [some (.ref 45), l1, some (.int x2), some (.int (F 45 8)), some (.int 0)]) (Nat.le_of_ble_eq_true rfl) rfl))))
set_option maxHeartbeats 100000 in
theorem kX12_left_30 {d : Nat} {F : am_FT} {L : am_LT} {Q : am_QT} {l0 l1 l3 : Option Value} {x4 x2 : Int32} : wt am_S0 d mX12_left 30 [l0, l1, some (.int x2), l3, some (.int x4)] [] F L Q = if x2 ≤ x4 then wt am_S0 d mX12_left 58 [l0, l1, some (.int x2), l3, some (.int x4)] [] F L Q else wt am_S0 d mX12_left 36 [l0, l1, some (.int x2), l3, some (.int x4)] [] F L Q := (wt_iload dX12_left_30 rfl).trans ((wt_iload_n dX12_left_32 rfl).trans (wt_if_icmp_ge dX12_left_33 (t := 58) rfl))
set_option maxHeartbeats 100000 in
theorem kX12_left_36 {d : Nat} {F : am_FT} {L : am_LT} {Q : am_QT} {l2 : Option Value} {x3 x1 x4 : Int32} : wt am_S0 (d + 1) mX12_left 36 [some (.ref 45), some (.int x1), l2, some (.int x3), some (.int x4)] [] F L Q = wc am_S0 d mX12_fallIn [.ref 45, .int ((x1 + x4) - (x1 + x4) / 12 * 12)] F L (fun r G K => wt am_S0 (d + 1) mX12_left 48 [some (.ref 45), some (.int x1), l2, some (.int x3), some (.int x4)] (r.toList ++ [.int x3]) G K Q) := (wt_iload_n dX12_left_36 rfl).trans ((wt_aload_n dX12_left_37 rfl rfl).trans ((wt_iload_n dX12_left_38 rfl).trans ((wt_iload dX12_left_39 rfl).trans ((wt_iadd dX12_left_41).trans ((wt_bipush dX12_left_42 (v := 12) (by decide)).trans ((wt_irem dX12_left_44 (by decide)).trans (wt_callV dX12_left_45 rfl (as := [.int ((x1 + x4) - (x1 + x4) / 12 * 12)]) (rest := [.int x3]) rfl rfl (Nat.le_of_ble_eq_true rfl) rfl (Nat.le_of_ble_eq_true rfl))))))))
set_option maxHeartbeats 100000 in
theorem kX12_left_48 {d : Nat} {F : am_FT} {L : am_LT} {Q : am_QT} {l0 l1 l3 : Option Value} {s0 s1 x2 x4 : Int32} : wt am_S0 d mX12_left 48 [l0, l1, some (.int x2), l3, some (.int x4)] [.int s1, .int s0] F L Q = wt am_S0 d mX12_left 30 [l0, l1, some (.int x2), some (.int (s0 &&& (s1 ^^^ (-1)))), some (.int (x4 + 1))] [] F L Q := (wt_iconst dX12_left_48 (v := (-1)) (by decide)).trans ((wt_ixor dX12_left_49).trans ((wt_iand dX12_left_50).trans ((wt_istore_n dX12_left_51 (lv1 := [l0, l1, some (.int x2), some (.int (s0 &&& (s1 ^^^ (-1)))), some (.int x4)]) (Nat.le_of_ble_eq_true rfl) rfl).trans ((wt_iinc dX12_left_52 (v := 1) (lv1 := [l0, l1, some (.int x2), some (.int (s0 &&& (s1 ^^^ (-1)))), some (.int (x4 + 1))]) rfl (Nat.le_of_ble_eq_true rfl) (by decide) rfl).trans (wt_goto dX12_left_55 (t := 30) rfl)))))
set_option maxHeartbeats 100000 in
theorem kX12_left_58 {d : Nat} {F : am_FT} {L : am_LT} {Q : am_QT} {l0 l1 l2 l4 : Option Value} {x3 : Int32} : wt am_S0 d mX12_left 58 [l0, l1, l2, some (.int x3), l4] [] F L Q = Q (some (.int x3)) F L := (wt_iload_n dX12_left_58 rfl).trans (wt_ireturn dX12_left_59 rfl rfl)
theorem dX12_turn_0 : decode mX12_turn.2.2.1 0 = .ok (.aload_n 0, 1) := by decide +kernel
theorem dX12_turn_1 : decode mX12_turn.2.2.1 1 = .ok (.iload_n 1, 1) := by decide +kernel
theorem dX12_turn_2 : decode mX12_turn.2.2.1 2 = .ok (.invokevirtual 212, 3) := by decide +kernel
theorem dX12_turn_5 : decode mX12_turn.2.2.1 5 = .ok (.ifCond .eq 13, 3) := by decide +kernel
theorem dX12_turn_8 : decode mX12_turn.2.2.1 8 = .ok (.iload_n 2, 1) := by decide +kernel
theorem dX12_turn_9 : decode mX12_turn.2.2.1 9 = .ok (.i2l, 1) := by decide +kernel
theorem dX12_turn_10 : decode mX12_turn.2.2.1 10 = .ok (.lconst 0, 1) := by decide +kernel
theorem dX12_turn_11 : decode mX12_turn.2.2.1 11 = .ok (.lconst 1, 1) := by decide +kernel
theorem dX12_turn_12 : decode mX12_turn.2.2.1 12 = .ok (.invokestatic 75, 3) := by decide +kernel
theorem dX12_turn_15 : decode mX12_turn.2.2.1 15 = .ok (.ifCond .ne 5, 3) := by decide +kernel
theorem dX12_turn_18 : decode mX12_turn.2.2.1 18 = .ok (.iconst (-1), 1) := by decide +kernel
theorem dX12_turn_19 : decode mX12_turn.2.2.1 19 = .ok (.ireturn, 1) := by decide +kernel
theorem dX12_turn_20 : decode mX12_turn.2.2.1 20 = .ok (.iload_n 1, 1) := by decide +kernel
theorem dX12_turn_21 : decode mX12_turn.2.2.1 21 = .ok (.bipush 100, 2) := by decide +kernel
theorem dX12_turn_23 : decode mX12_turn.2.2.1 23 = .ok (.idiv, 1) := by decide +kernel
theorem dX12_turn_24 : decode mX12_turn.2.2.1 24 = .ok (.istore_n 3, 1) := by decide +kernel
theorem dX12_turn_25 : decode mX12_turn.2.2.1 25 = .ok (.aload_n 0, 1) := by decide +kernel
theorem dX12_turn_26 : decode mX12_turn.2.2.1 26 = .ok (.getfield 98, 3) := by decide +kernel
theorem dX12_turn_29 : decode mX12_turn.2.2.1 29 = .ok (.iload_n 3, 1) := by decide +kernel
theorem dX12_turn_30 : decode mX12_turn.2.2.1 30 = .ok (.invokestatic 189, 3) := by decide +kernel
theorem dX12_turn_33 : decode mX12_turn.2.2.1 33 = .ok (.ifCond .ne 6, 3) := by decide +kernel
theorem dX12_turn_36 : decode mX12_turn.2.2.1 36 = .ok (.bipush (-2), 2) := by decide +kernel
theorem dX12_turn_38 : decode mX12_turn.2.2.1 38 = .ok (.ireturn, 1) := by decide +kernel
theorem dX12_turn_39 : decode mX12_turn.2.2.1 39 = .ok (.aload_n 0, 1) := by decide +kernel
theorem dX12_turn_40 : decode mX12_turn.2.2.1 40 = .ok (.iload_n 3, 1) := by decide +kernel
theorem dX12_turn_41 : decode mX12_turn.2.2.1 41 = .ok (.iload_n 1, 1) := by decide +kernel
theorem dX12_turn_42 : decode mX12_turn.2.2.1 42 = .ok (.bipush 100, 2) := by decide +kernel
theorem dX12_turn_44 : decode mX12_turn.2.2.1 44 = .ok (.irem, 1) := by decide +kernel
theorem dX12_turn_45 : decode mX12_turn.2.2.1 45 = .ok (.invokevirtual 192, 3) := by decide +kernel
theorem dX12_turn_48 : decode mX12_turn.2.2.1 48 = .ok (.istore 4, 2) := by decide +kernel
theorem dX12_turn_50 : decode mX12_turn.2.2.1 50 = .ok (.aload_n 0, 1) := by decide +kernel
theorem dX12_turn_51 : decode mX12_turn.2.2.1 51 = .ok (.iload_n 3, 1) := by decide +kernel
theorem dX12_turn_52 : decode mX12_turn.2.2.1 52 = .ok (.iload_n 1, 1) := by decide +kernel
theorem dX12_turn_53 : decode mX12_turn.2.2.1 53 = .ok (.bipush 100, 2) := by decide +kernel
theorem dX12_turn_55 : decode mX12_turn.2.2.1 55 = .ok (.irem, 1) := by decide +kernel
theorem dX12_turn_56 : decode mX12_turn.2.2.1 56 = .ok (.invokevirtual 218, 3) := by decide +kernel
theorem dX12_turn_59 : decode mX12_turn.2.2.1 59 = .ok (.istore 5, 2) := by decide +kernel
theorem dX12_turn_61 : decode mX12_turn.2.2.1 61 = .ok (.bipush (-2), 2) := by decide +kernel
theorem dX12_turn_63 : decode mX12_turn.2.2.1 63 = .ok (.istore 6, 2) := by decide +kernel
theorem dX12_turn_65 : decode mX12_turn.2.2.1 65 = .ok (.iconst 1, 1) := by decide +kernel
theorem dX12_turn_66 : decode mX12_turn.2.2.1 66 = .ok (.istore 7, 2) := by decide +kernel
theorem dX12_turn_68 : decode mX12_turn.2.2.1 68 = .ok (.iload 7, 2) := by decide +kernel
theorem dX12_turn_70 : decode mX12_turn.2.2.1 70 = .ok (.aload_n 0, 1) := by decide +kernel
theorem dX12_turn_71 : decode mX12_turn.2.2.1 71 = .ok (.invokevirtual 231, 3) := by decide +kernel
theorem dX12_turn_74 : decode mX12_turn.2.2.1 74 = .ok (.if_icmp .gt 55, 3) := by decide +kernel
theorem dX12_turn_77 : decode mX12_turn.2.2.1 77 = .ok (.iload 6, 2) := by decide +kernel
theorem dX12_turn_79 : decode mX12_turn.2.2.1 79 = .ok (.ifCond .lt 16, 3) := by decide +kernel
theorem dX12_turn_82 : decode mX12_turn.2.2.1 82 = .ok (.iload 7, 2) := by decide +kernel
theorem dX12_turn_84 : decode mX12_turn.2.2.1 84 = .ok (.invokestatic 195, 3) := by decide +kernel
theorem dX12_turn_87 : decode mX12_turn.2.2.1 87 = .ok (.iload 6, 2) := by decide +kernel
theorem dX12_turn_89 : decode mX12_turn.2.2.1 89 = .ok (.invokestatic 195, 3) := by decide +kernel
theorem dX12_turn_92 : decode mX12_turn.2.2.1 92 = .ok (.if_icmp .ge 31, 3) := by decide +kernel
theorem dX12_turn_95 : decode mX12_turn.2.2.1 95 = .ok (.aload_n 0, 1) := by decide +kernel
theorem dX12_turn_96 : decode mX12_turn.2.2.1 96 = .ok (.iload_n 3, 1) := by decide +kernel
theorem dX12_turn_97 : decode mX12_turn.2.2.1 97 = .ok (.iload_n 1, 1) := by decide +kernel
theorem dX12_turn_98 : decode mX12_turn.2.2.1 98 = .ok (.bipush 100, 2) := by decide +kernel
theorem dX12_turn_100 : decode mX12_turn.2.2.1 100 = .ok (.irem, 1) := by decide +kernel
theorem dX12_turn_101 : decode mX12_turn.2.2.1 101 = .ok (.iload 4, 2) := by decide +kernel
theorem dX12_turn_103 : decode mX12_turn.2.2.1 103 = .ok (.iload 7, 2) := by decide +kernel
theorem dX12_turn_105 : decode mX12_turn.2.2.1 105 = .ok (.ixor, 1) := by decide +kernel
theorem dX12_turn_106 : decode mX12_turn.2.2.1 106 = .ok (.aload_n 0, 1) := by decide +kernel
theorem dX12_turn_107 : decode mX12_turn.2.2.1 107 = .ok (.iload_n 3, 1) := by decide +kernel
theorem dX12_turn_108 : decode mX12_turn.2.2.1 108 = .ok (.invokevirtual 205, 3) := by decide +kernel
theorem dX12_turn_111 : decode mX12_turn.2.2.1 111 = .ok (.invokevirtual 208, 3) := by decide +kernel
theorem dX12_turn_114 : decode mX12_turn.2.2.1 114 = .ok (.iload 5, 2) := by decide +kernel
theorem dX12_turn_116 : decode mX12_turn.2.2.1 116 = .ok (.if_icmp .eq 7, 3) := by decide +kernel
theorem dX12_turn_119 : decode mX12_turn.2.2.1 119 = .ok (.iload 7, 2) := by decide +kernel
theorem dX12_turn_121 : decode mX12_turn.2.2.1 121 = .ok (.istore 6, 2) := by decide +kernel
theorem dX12_turn_123 : decode mX12_turn.2.2.1 123 = .ok (.iinc 7 1, 3) := by decide +kernel
theorem dX12_turn_126 : decode mX12_turn.2.2.1 126 = .ok (.goto (-58), 3) := by decide +kernel
theorem dX12_turn_129 : decode mX12_turn.2.2.1 129 = .ok (.iload 6, 2) := by decide +kernel
theorem dX12_turn_131 : decode mX12_turn.2.2.1 131 = .ok (.ifCond .lt 8, 3) := by decide +kernel
theorem dX12_turn_134 : decode mX12_turn.2.2.1 134 = .ok (.iload_n 2, 1) := by decide +kernel
theorem dX12_turn_135 : decode mX12_turn.2.2.1 135 = .ok (.iconst 1, 1) := by decide +kernel
theorem dX12_turn_136 : decode mX12_turn.2.2.1 136 = .ok (.if_icmp .ne 8, 3) := by decide +kernel
theorem dX12_turn_139 : decode mX12_turn.2.2.1 139 = .ok (.iload 6, 2) := by decide +kernel
theorem dX12_turn_141 : decode mX12_turn.2.2.1 141 = .ok (.goto 8, 3) := by decide +kernel
theorem dX12_turn_144 : decode mX12_turn.2.2.1 144 = .ok (.iload 6, 2) := by decide +kernel
theorem dX12_turn_146 : decode mX12_turn.2.2.1 146 = .ok (.invokestatic 195, 3) := by decide +kernel
theorem dX12_turn_149 : decode mX12_turn.2.2.1 149 = .ok (.ireturn, 1) := by decide +kernel
set_option maxHeartbeats 100000 in
theorem kX12_turn_0 {d : Nat} {F : am_FT} {L : am_LT} {Q : am_QT} {l2 l3 l4 l5 l6 l7 : Option Value} {x1 : Int32} : wt am_S0 (d + 1) mX12_turn 0 [some (.ref 45), some (.int x1), l2, l3, l4, l5, l6, l7] [] F L Q = wc am_S0 d mX12_isTm [.ref 45, .int x1] F L (fun r G K => wt am_S0 (d + 1) mX12_turn 5 [some (.ref 45), some (.int x1), l2, l3, l4, l5, l6, l7] (r.toList ++ []) G K Q) := (wt_aload_n dX12_turn_0 rfl rfl).trans ((wt_iload_n dX12_turn_1 rfl).trans (wt_callV dX12_turn_2 rfl (as := [.int x1]) (rest := []) rfl rfl (Nat.le_of_ble_eq_true rfl) rfl (Nat.le_of_ble_eq_true rfl)))
set_option maxHeartbeats 100000 in
theorem kX12_turn_5 {d : Nat} {F : am_FT} {L : am_LT} {Q : am_QT} {l0 l1 l2 l3 l4 l5 l6 l7 : Option Value} {s0 : Int32} : wt am_S0 d mX12_turn 5 [l0, l1, l2, l3, l4, l5, l6, l7] [.int s0] F L Q = if s0 = 0 then wt am_S0 d mX12_turn 18 [l0, l1, l2, l3, l4, l5, l6, l7] [] F L Q else wt am_S0 d mX12_turn 8 [l0, l1, l2, l3, l4, l5, l6, l7] [] F L Q := wt_ifCond_eq dX12_turn_5 (t := 18) rfl
set_option maxHeartbeats 100000 in
theorem kX12_turn_8 {d : Nat} {F : am_FT} {L : am_LT} {Q : am_QT} {l0 l1 l3 l4 l5 l6 l7 : Option Value} {x2 : Int32} : wt am_S0 (d + 1) mX12_turn 8 [l0, l1, some (.int x2), l3, l4, l5, l6, l7] [] F L Q = wc am_S0 d mX12_within [.long (Int32.toInt64 x2), .long 0, .long 1] F L (fun r G K => wt am_S0 (d + 1) mX12_turn 15 [l0, l1, some (.int x2), l3, l4, l5, l6, l7] (r.toList ++ []) G K Q) := (wt_iload_n dX12_turn_8 rfl).trans ((wt_i2l dX12_turn_9).trans ((wt_lconst dX12_turn_10 (v := 0) (by decide)).trans ((wt_lconst dX12_turn_11 (v := 1) (by decide)).trans (wt_callS dX12_turn_12 rfl (as := [.long (Int32.toInt64 x2), .long 0, .long 1]) (rest := []) rfl rfl (Nat.le_of_ble_eq_true rfl) (Nat.le_of_ble_eq_true rfl)))))
set_option maxHeartbeats 100000 in
theorem kX12_turn_15 {d : Nat} {F : am_FT} {L : am_LT} {Q : am_QT} {l0 l1 l2 l3 l4 l5 l6 l7 : Option Value} {s0 : Int32} : wt am_S0 d mX12_turn 15 [l0, l1, l2, l3, l4, l5, l6, l7] [.int s0] F L Q = if ¬ s0 = 0 then wt am_S0 d mX12_turn 20 [l0, l1, l2, l3, l4, l5, l6, l7] [] F L Q else wt am_S0 d mX12_turn 18 [l0, l1, l2, l3, l4, l5, l6, l7] [] F L Q := wt_ifCond_ne dX12_turn_15 (t := 20) rfl
set_option maxHeartbeats 100000 in
theorem kX12_turn_18 {d : Nat} {F : am_FT} {L : am_LT} {Q : am_QT} {l0 l1 l2 l3 l4 l5 l6 l7 : Option Value} : wt am_S0 d mX12_turn 18 [l0, l1, l2, l3, l4, l5, l6, l7] [] F L Q = Q (some (.int (-1))) F L := (wt_iconst dX12_turn_18 (v := (-1)) (by decide)).trans (wt_ireturn dX12_turn_19 rfl rfl)
set_option maxHeartbeats 100000 in
theorem kX12_turn_20 {d : Nat} {F : am_FT} {L : am_LT} {Q : am_QT} {l3 l4 l5 l6 l7 : Option Value} {x1 x2 : Int32} : wt am_S0 (d + 1) mX12_turn 20 [some (.ref 45), some (.int x1), some (.int x2), l3, l4, l5, l6, l7] [] F L Q = wc am_S0 d mX12_isIn [.int (F 45 8), .int (x1 / 100)] F L (fun r G K => wt am_S0 (d + 1) mX12_turn 33 [some (.ref 45), some (.int x1), some (.int x2), some (.int (x1 / 100)), l4, l5, l6, l7] (r.toList ++ []) G K Q) := (wt_iload_n dX12_turn_20 rfl).trans ((wt_bipush dX12_turn_21 (v := 100) (by decide)).trans ((wt_idiv dX12_turn_23 (by decide)).trans ((wt_istore_n dX12_turn_24 (lv1 := [some (.ref 45), some (.int x1), some (.int x2), some (.int (x1 / 100)), l4, l5, l6, l7]) (Nat.le_of_ble_eq_true rfl) rfl).trans ((wt_aload_n dX12_turn_25 rfl rfl).trans ((wt_getfield dX12_turn_26 rfl rfl (v := .int (F 45 8)) rfl).trans ((wt_iload_n dX12_turn_29 rfl).trans (wt_callS dX12_turn_30 rfl (as := [.int (F 45 8), .int (x1 / 100)]) (rest := []) rfl rfl (Nat.le_of_ble_eq_true rfl) (Nat.le_of_ble_eq_true rfl))))))))
set_option maxHeartbeats 100000 in
theorem kX12_turn_33 {d : Nat} {F : am_FT} {L : am_LT} {Q : am_QT} {l0 l1 l2 l3 l4 l5 l6 l7 : Option Value} {s0 : Int32} : wt am_S0 d mX12_turn 33 [l0, l1, l2, l3, l4, l5, l6, l7] [.int s0] F L Q = if ¬ s0 = 0 then wt am_S0 d mX12_turn 39 [l0, l1, l2, l3, l4, l5, l6, l7] [] F L Q else wt am_S0 d mX12_turn 36 [l0, l1, l2, l3, l4, l5, l6, l7] [] F L Q := wt_ifCond_ne dX12_turn_33 (t := 39) rfl
set_option maxHeartbeats 100000 in
theorem kX12_turn_36 {d : Nat} {F : am_FT} {L : am_LT} {Q : am_QT} {l0 l1 l2 l3 l4 l5 l6 l7 : Option Value} : wt am_S0 d mX12_turn 36 [l0, l1, l2, l3, l4, l5, l6, l7] [] F L Q = Q (some (.int (-2))) F L := (wt_bipush dX12_turn_36 (v := (-2)) (by decide)).trans (wt_ireturn dX12_turn_38 rfl rfl)
set_option maxHeartbeats 100000 in
theorem kX12_turn_39 {d : Nat} {F : am_FT} {L : am_LT} {Q : am_QT} {l2 l4 l5 l6 l7 : Option Value} {x3 x1 : Int32} : wt am_S0 (d + 1) mX12_turn 39 [some (.ref 45), some (.int x1), l2, some (.int x3), l4, l5, l6, l7] [] F L Q = wc am_S0 d mX12_sittersIn [.ref 45, .int x3, .int (x1 - x1 / 100 * 100)] F L (fun r G K => wt am_S0 (d + 1) mX12_turn 48 [some (.ref 45), some (.int x1), l2, some (.int x3), l4, l5, l6, l7] (r.toList ++ []) G K Q) := (wt_aload_n dX12_turn_39 rfl rfl).trans ((wt_iload_n dX12_turn_40 rfl).trans ((wt_iload_n dX12_turn_41 rfl).trans ((wt_bipush dX12_turn_42 (v := 100) (by decide)).trans ((wt_irem dX12_turn_44 (by decide)).trans (wt_callV dX12_turn_45 rfl (as := [.int x3, .int (x1 - x1 / 100 * 100)]) (rest := []) rfl rfl (Nat.le_of_ble_eq_true rfl) rfl (Nat.le_of_ble_eq_true rfl))))))
set_option maxHeartbeats 100000 in
theorem kX12_turn_48 {d : Nat} {F : am_FT} {L : am_LT} {Q : am_QT} {l2 l4 l5 l6 l7 : Option Value} {s0 x3 x1 : Int32} : wt am_S0 (d + 1) mX12_turn 48 [some (.ref 45), some (.int x1), l2, some (.int x3), l4, l5, l6, l7] [.int s0] F L Q = wc am_S0 d mX12_fallsNow [.ref 45, .int x3, .int (x1 - x1 / 100 * 100)] F L (fun r G K => wt am_S0 (d + 1) mX12_turn 59 [some (.ref 45), some (.int x1), l2, some (.int x3), some (.int s0), l5, l6, l7] (r.toList ++ []) G K Q) := (wt_istore dX12_turn_48 (lv1 := [some (.ref 45), some (.int x1), l2, some (.int x3), some (.int s0), l5, l6, l7]) (Nat.le_of_ble_eq_true rfl) rfl).trans ((wt_aload_n dX12_turn_50 rfl rfl).trans ((wt_iload_n dX12_turn_51 rfl).trans ((wt_iload_n dX12_turn_52 rfl).trans ((wt_bipush dX12_turn_53 (v := 100) (by decide)).trans ((wt_irem dX12_turn_55 (by decide)).trans (wt_callV dX12_turn_56 rfl (as := [.int x3, .int (x1 - x1 / 100 * 100)]) (rest := []) rfl rfl (Nat.le_of_ble_eq_true rfl) rfl (Nat.le_of_ble_eq_true rfl)))))))
set_option maxHeartbeats 100000 in
theorem kX12_turn_59 {d : Nat} {F : am_FT} {L : am_LT} {Q : am_QT} {l0 l1 l2 l3 l5 l6 l7 : Option Value} {s0 x4 : Int32} : wt am_S0 d mX12_turn 59 [l0, l1, l2, l3, some (.int x4), l5, l6, l7] [.int s0] F L Q = wt am_S0 d mX12_turn 68 [l0, l1, l2, l3, some (.int x4), some (.int s0), some (.int (-2)), some (.int 1)] [] F L Q := (wt_istore dX12_turn_59 (lv1 := [l0, l1, l2, l3, some (.int x4), some (.int s0), l6, l7]) (Nat.le_of_ble_eq_true rfl) rfl).trans ((wt_bipush dX12_turn_61 (v := (-2)) (by decide)).trans ((wt_istore dX12_turn_63 (lv1 := [l0, l1, l2, l3, some (.int x4), some (.int s0), some (.int (-2)), l7]) (Nat.le_of_ble_eq_true rfl) rfl).trans ((wt_iconst dX12_turn_65 (v := 1) (by decide)).trans (wt_istore dX12_turn_66 (lv1 := [l0, l1, l2, l3, some (.int x4), some (.int s0), some (.int (-2)), some (.int 1)]) (Nat.le_of_ble_eq_true rfl) rfl))))
set_option maxHeartbeats 100000 in
theorem kX12_turn_68 {d : Nat} {F : am_FT} {L : am_LT} {Q : am_QT} {l1 l2 l3 l4 l5 l6 : Option Value} {x7 : Int32} : wt am_S0 (d + 1) mX12_turn 68 [some (.ref 45), l1, l2, l3, l4, l5, l6, some (.int x7)] [] F L Q = wc am_S0 d mX12_everybody [.ref 45] F L (fun r G K => wt am_S0 (d + 1) mX12_turn 74 [some (.ref 45), l1, l2, l3, l4, l5, l6, some (.int x7)] (r.toList ++ [.int x7]) G K Q) := (wt_iload dX12_turn_68 rfl).trans ((wt_aload_n dX12_turn_70 rfl rfl).trans (wt_callV dX12_turn_71 rfl (as := []) (rest := [.int x7]) rfl rfl (Nat.le_of_ble_eq_true rfl) rfl (Nat.le_of_ble_eq_true rfl)))
set_option maxHeartbeats 100000 in
theorem kX12_turn_74 {d : Nat} {F : am_FT} {L : am_LT} {Q : am_QT} {l0 l1 l2 l3 l4 l5 l6 l7 : Option Value} {s0 s1 : Int32} : wt am_S0 d mX12_turn 74 [l0, l1, l2, l3, l4, l5, l6, l7] [.int s1, .int s0] F L Q = if s1 < s0 then wt am_S0 d mX12_turn 129 [l0, l1, l2, l3, l4, l5, l6, l7] [] F L Q else wt am_S0 d mX12_turn 77 [l0, l1, l2, l3, l4, l5, l6, l7] [] F L Q := wt_if_icmp_gt dX12_turn_74 (t := 129) rfl
set_option maxHeartbeats 100000 in
theorem kX12_turn_77 {d : Nat} {F : am_FT} {L : am_LT} {Q : am_QT} {l0 l1 l2 l3 l4 l5 l7 : Option Value} {x6 : Int32} : wt am_S0 d mX12_turn 77 [l0, l1, l2, l3, l4, l5, some (.int x6), l7] [] F L Q = if x6 < 0 then wt am_S0 d mX12_turn 95 [l0, l1, l2, l3, l4, l5, some (.int x6), l7] [] F L Q else wt am_S0 d mX12_turn 82 [l0, l1, l2, l3, l4, l5, some (.int x6), l7] [] F L Q := (wt_iload dX12_turn_77 rfl).trans (wt_ifCond_lt dX12_turn_79 (t := 95) rfl)
set_option maxHeartbeats 100000 in
theorem kX12_turn_82 {d : Nat} {F : am_FT} {L : am_LT} {Q : am_QT} {l0 l1 l2 l3 l4 l5 l6 : Option Value} {x7 : Int32} : wt am_S0 (d + 1) mX12_turn 82 [l0, l1, l2, l3, l4, l5, l6, some (.int x7)] [] F L Q = wc am_S0 d mX12_bitsOf [.int x7] F L (fun r G K => wt am_S0 (d + 1) mX12_turn 87 [l0, l1, l2, l3, l4, l5, l6, some (.int x7)] (r.toList ++ []) G K Q) := (wt_iload dX12_turn_82 rfl).trans (wt_callS dX12_turn_84 rfl (as := [.int x7]) (rest := []) rfl rfl (Nat.le_of_ble_eq_true rfl) (Nat.le_of_ble_eq_true rfl))
set_option maxHeartbeats 100000 in
theorem kX12_turn_87 {d : Nat} {F : am_FT} {L : am_LT} {Q : am_QT} {l0 l1 l2 l3 l4 l5 l7 : Option Value} {s0 x6 : Int32} : wt am_S0 (d + 1) mX12_turn 87 [l0, l1, l2, l3, l4, l5, some (.int x6), l7] [.int s0] F L Q = wc am_S0 d mX12_bitsOf [.int x6] F L (fun r G K => wt am_S0 (d + 1) mX12_turn 92 [l0, l1, l2, l3, l4, l5, some (.int x6), l7] (r.toList ++ [.int s0]) G K Q) := (wt_iload dX12_turn_87 rfl).trans (wt_callS dX12_turn_89 rfl (as := [.int x6]) (rest := [.int s0]) rfl rfl (Nat.le_of_ble_eq_true rfl) (Nat.le_of_ble_eq_true rfl))
set_option maxHeartbeats 100000 in
theorem kX12_turn_92 {d : Nat} {F : am_FT} {L : am_LT} {Q : am_QT} {l0 l1 l2 l3 l4 l5 l6 l7 : Option Value} {s0 s1 : Int32} : wt am_S0 d mX12_turn 92 [l0, l1, l2, l3, l4, l5, l6, l7] [.int s1, .int s0] F L Q = if s1 ≤ s0 then wt am_S0 d mX12_turn 123 [l0, l1, l2, l3, l4, l5, l6, l7] [] F L Q else wt am_S0 d mX12_turn 95 [l0, l1, l2, l3, l4, l5, l6, l7] [] F L Q := wt_if_icmp_ge dX12_turn_92 (t := 123) rfl
set_option maxHeartbeats 100000 in
theorem kX12_turn_95 {d : Nat} {F : am_FT} {L : am_LT} {Q : am_QT} {l2 l5 l6 : Option Value} {x3 x1 x4 x7 : Int32} : wt am_S0 (d + 1) mX12_turn 95 [some (.ref 45), some (.int x1), l2, some (.int x3), some (.int x4), l5, l6, some (.int x7)] [] F L Q = wc am_S0 d mX12_wishers [.ref 45, .int x3] F L (fun r G K => wt am_S0 (d + 1) mX12_turn 111 [some (.ref 45), some (.int x1), l2, some (.int x3), some (.int x4), l5, l6, some (.int x7)] (r.toList ++ [.int (x4 ^^^ x7), .int (x1 - x1 / 100 * 100), .int x3, .ref 45]) G K Q) := (wt_aload_n dX12_turn_95 rfl rfl).trans ((wt_iload_n dX12_turn_96 rfl).trans ((wt_iload_n dX12_turn_97 rfl).trans ((wt_bipush dX12_turn_98 (v := 100) (by decide)).trans ((wt_irem dX12_turn_100 (by decide)).trans ((wt_iload dX12_turn_101 rfl).trans ((wt_iload dX12_turn_103 rfl).trans ((wt_ixor dX12_turn_105).trans ((wt_aload_n dX12_turn_106 rfl rfl).trans ((wt_iload_n dX12_turn_107 rfl).trans (wt_callV dX12_turn_108 rfl (as := [.int x3]) (rest := [.int (x4 ^^^ x7), .int (x1 - x1 / 100 * 100), .int x3, .ref 45]) rfl rfl (Nat.le_of_ble_eq_true rfl) rfl (Nat.le_of_ble_eq_true rfl)))))))))))
set_option maxHeartbeats 100000 in
theorem kX12_turn_111 {d : Nat} {F : am_FT} {L : am_LT} {Q : am_QT} {l0 l1 l2 l3 l4 l5 l6 l7 : Option Value} {s1 s2 s3 s4 : Int32} : wt am_S0 (d + 1) mX12_turn 111 [l0, l1, l2, l3, l4, l5, l6, l7] [.int s4, .int s3, .int s2, .int s1, .ref 45] F L Q = wc am_S0 d mX12_doesFall [.ref 45, .int s1, .int s2, .int s3, .int s4] F L (fun r G K => wt am_S0 (d + 1) mX12_turn 114 [l0, l1, l2, l3, l4, l5, l6, l7] (r.toList ++ []) G K Q) := wt_callV dX12_turn_111 rfl (as := [.int s1, .int s2, .int s3, .int s4]) (rest := []) rfl rfl (Nat.le_of_ble_eq_true rfl) rfl (Nat.le_of_ble_eq_true rfl)
set_option maxHeartbeats 100000 in
theorem kX12_turn_114 {d : Nat} {F : am_FT} {L : am_LT} {Q : am_QT} {l0 l1 l2 l3 l4 l6 l7 : Option Value} {s0 x5 : Int32} : wt am_S0 d mX12_turn 114 [l0, l1, l2, l3, l4, some (.int x5), l6, l7] [.int s0] F L Q = if s0 = x5 then wt am_S0 d mX12_turn 123 [l0, l1, l2, l3, l4, some (.int x5), l6, l7] [] F L Q else wt am_S0 d mX12_turn 119 [l0, l1, l2, l3, l4, some (.int x5), l6, l7] [] F L Q := (wt_iload dX12_turn_114 rfl).trans (wt_if_icmp_eq dX12_turn_116 (t := 123) rfl)
set_option maxHeartbeats 100000 in
theorem kX12_turn_119 {d : Nat} {F : am_FT} {L : am_LT} {Q : am_QT} {l0 l1 l2 l3 l4 l6 : Option Value} {x7 x5 : Int32} : wt am_S0 d mX12_turn 119 [l0, l1, l2, l3, l4, some (.int x5), l6, some (.int x7)] [] F L Q = wt am_S0 d mX12_turn 123 [l0, l1, l2, l3, l4, some (.int x5), some (.int x7), some (.int x7)] [] F L Q := (wt_iload dX12_turn_119 rfl).trans (wt_istore dX12_turn_121 (lv1 := [l0, l1, l2, l3, l4, some (.int x5), some (.int x7), some (.int x7)]) (Nat.le_of_ble_eq_true rfl) rfl)
set_option maxHeartbeats 100000 in
theorem kX12_turn_123 {d : Nat} {F : am_FT} {L : am_LT} {Q : am_QT} {l0 l1 l2 l3 l4 l5 : Option Value} {x7 x6 : Int32} : wt am_S0 d mX12_turn 123 [l0, l1, l2, l3, l4, l5, some (.int x6), some (.int x7)] [] F L Q = wt am_S0 d mX12_turn 68 [l0, l1, l2, l3, l4, l5, some (.int x6), some (.int (x7 + 1))] [] F L Q := (wt_iinc dX12_turn_123 (v := 1) (lv1 := [l0, l1, l2, l3, l4, l5, some (.int x6), some (.int (x7 + 1))]) rfl (Nat.le_of_ble_eq_true rfl) (by decide) rfl).trans (wt_goto dX12_turn_126 (t := 68) rfl)
set_option maxHeartbeats 100000 in
theorem kX12_turn_129 {d : Nat} {F : am_FT} {L : am_LT} {Q : am_QT} {l0 l1 l2 l3 l4 l5 l7 : Option Value} {x6 : Int32} : wt am_S0 d mX12_turn 129 [l0, l1, l2, l3, l4, l5, some (.int x6), l7] [] F L Q = if x6 < 0 then wt am_S0 d mX12_turn 139 [l0, l1, l2, l3, l4, l5, some (.int x6), l7] [] F L Q else wt am_S0 d mX12_turn 134 [l0, l1, l2, l3, l4, l5, some (.int x6), l7] [] F L Q := (wt_iload dX12_turn_129 rfl).trans (wt_ifCond_lt dX12_turn_131 (t := 139) rfl)
set_option maxHeartbeats 100000 in
theorem kX12_turn_134 {d : Nat} {F : am_FT} {L : am_LT} {Q : am_QT} {l0 l1 l3 l4 l5 l6 l7 : Option Value} {x2 : Int32} : wt am_S0 d mX12_turn 134 [l0, l1, some (.int x2), l3, l4, l5, l6, l7] [] F L Q = if ¬ x2 = 1 then wt am_S0 d mX12_turn 144 [l0, l1, some (.int x2), l3, l4, l5, l6, l7] [] F L Q else wt am_S0 d mX12_turn 139 [l0, l1, some (.int x2), l3, l4, l5, l6, l7] [] F L Q := (wt_iload_n dX12_turn_134 rfl).trans ((wt_iconst dX12_turn_135 (v := 1) (by decide)).trans (wt_if_icmp_ne dX12_turn_136 (t := 144) rfl))
set_option maxHeartbeats 100000 in
theorem kX12_turn_139 {d : Nat} {F : am_FT} {L : am_LT} {Q : am_QT} {l0 l1 l2 l3 l4 l5 l7 : Option Value} {x6 : Int32} : wt am_S0 d mX12_turn 139 [l0, l1, l2, l3, l4, l5, some (.int x6), l7] [] F L Q = wt am_S0 d mX12_turn 149 [l0, l1, l2, l3, l4, l5, some (.int x6), l7] [.int x6] F L Q := (wt_iload dX12_turn_139 rfl).trans (wt_goto dX12_turn_141 (t := 149) rfl)
set_option maxHeartbeats 100000 in
theorem kX12_turn_144 {d : Nat} {F : am_FT} {L : am_LT} {Q : am_QT} {l0 l1 l2 l3 l4 l5 l7 : Option Value} {x6 : Int32} : wt am_S0 (d + 1) mX12_turn 144 [l0, l1, l2, l3, l4, l5, some (.int x6), l7] [] F L Q = wc am_S0 d mX12_bitsOf [.int x6] F L (fun r G K => wt am_S0 (d + 1) mX12_turn 149 [l0, l1, l2, l3, l4, l5, some (.int x6), l7] (r.toList ++ []) G K Q) := (wt_iload dX12_turn_144 rfl).trans (wt_callS dX12_turn_146 rfl (as := [.int x6]) (rest := []) rfl rfl (Nat.le_of_ble_eq_true rfl) (Nat.le_of_ble_eq_true rfl))
set_option maxHeartbeats 100000 in
theorem kX12_turn_149 {d : Nat} {F : am_FT} {L : am_LT} {Q : am_QT} {l0 l1 l2 l3 l4 l5 l6 l7 : Option Value} {s0 : Int32} : wt am_S0 d mX12_turn 149 [l0, l1, l2, l3, l4, l5, l6, l7] [.int s0] F L Q = Q (some (.int s0)) F L := wt_ireturn dX12_turn_149 rfl rfl
theorem dX12_everybody_0 : decode mX12_everybody.2.2.1 0 = .ok (.iconst 1, 1) := by decide +kernel
theorem dX12_everybody_1 : decode mX12_everybody.2.2.1 1 = .ok (.aload_n 0, 1) := by decide +kernel
theorem dX12_everybody_2 : decode mX12_everybody.2.2.1 2 = .ok (.getfield 79, 3) := by decide +kernel
theorem dX12_everybody_5 : decode mX12_everybody.2.2.1 5 = .ok (.ishl, 1) := by decide +kernel
theorem dX12_everybody_6 : decode mX12_everybody.2.2.1 6 = .ok (.iconst 1, 1) := by decide +kernel
theorem dX12_everybody_7 : decode mX12_everybody.2.2.1 7 = .ok (.isub, 1) := by decide +kernel
theorem dX12_everybody_8 : decode mX12_everybody.2.2.1 8 = .ok (.ireturn, 1) := by decide +kernel
set_option maxHeartbeats 100000 in
theorem kX12_everybody_0 {d : Nat} {F : am_FT} {L : am_LT} {Q : am_QT} : wt am_S0 d mX12_everybody 0 [some (.ref 45)] [] F L Q = Q (some (.int (((1 : Int32) <<< ((F 45 7) &&& 31)) - 1))) F L := (wt_iconst dX12_everybody_0 (v := 1) (by decide)).trans ((wt_aload_n dX12_everybody_1 rfl rfl).trans ((wt_getfield dX12_everybody_2 rfl rfl (v := .int (F 45 7)) rfl).trans ((wt_ishl dX12_everybody_5).trans ((wt_iconst dX12_everybody_6 (v := 1) (by decide)).trans ((wt_isub dX12_everybody_7).trans (wt_ireturn dX12_everybody_8 rfl rfl))))))
theorem dX12_chair_0 : decode mX12_chair.2.2.1 0 = .ok (.aload_n 0, 1) := by decide +kernel
theorem dX12_chair_1 : decode mX12_chair.2.2.1 1 = .ok (.iload_n 1, 1) := by decide +kernel
theorem dX12_chair_2 : decode mX12_chair.2.2.1 2 = .ok (.invokevirtual 212, 3) := by decide +kernel
theorem dX12_chair_5 : decode mX12_chair.2.2.1 5 = .ok (.ifCond .ne 5, 3) := by decide +kernel
theorem dX12_chair_8 : decode mX12_chair.2.2.1 8 = .ok (.iconst (-1), 1) := by decide +kernel
theorem dX12_chair_9 : decode mX12_chair.2.2.1 9 = .ok (.ireturn, 1) := by decide +kernel
theorem dX12_chair_10 : decode mX12_chair.2.2.1 10 = .ok (.iload_n 1, 1) := by decide +kernel
theorem dX12_chair_11 : decode mX12_chair.2.2.1 11 = .ok (.bipush 100, 2) := by decide +kernel
theorem dX12_chair_13 : decode mX12_chair.2.2.1 13 = .ok (.idiv, 1) := by decide +kernel
theorem dX12_chair_14 : decode mX12_chair.2.2.1 14 = .ok (.istore_n 2, 1) := by decide +kernel
theorem dX12_chair_15 : decode mX12_chair.2.2.1 15 = .ok (.aload_n 0, 1) := by decide +kernel
theorem dX12_chair_16 : decode mX12_chair.2.2.1 16 = .ok (.iload_n 2, 1) := by decide +kernel
theorem dX12_chair_17 : decode mX12_chair.2.2.1 17 = .ok (.iload_n 1, 1) := by decide +kernel
theorem dX12_chair_18 : decode mX12_chair.2.2.1 18 = .ok (.bipush 100, 2) := by decide +kernel
theorem dX12_chair_20 : decode mX12_chair.2.2.1 20 = .ok (.irem, 1) := by decide +kernel
theorem dX12_chair_21 : decode mX12_chair.2.2.1 21 = .ok (.invokevirtual 215, 3) := by decide +kernel
theorem dX12_chair_24 : decode mX12_chair.2.2.1 24 = .ok (.istore_n 3, 1) := by decide +kernel
theorem dX12_chair_25 : decode mX12_chair.2.2.1 25 = .ok (.iconst 0, 1) := by decide +kernel
theorem dX12_chair_26 : decode mX12_chair.2.2.1 26 = .ok (.istore 4, 2) := by decide +kernel
theorem dX12_chair_28 : decode mX12_chair.2.2.1 28 = .ok (.iconst 0, 1) := by decide +kernel
theorem dX12_chair_29 : decode mX12_chair.2.2.1 29 = .ok (.istore 5, 2) := by decide +kernel
theorem dX12_chair_31 : decode mX12_chair.2.2.1 31 = .ok (.iload 5, 2) := by decide +kernel
theorem dX12_chair_33 : decode mX12_chair.2.2.1 33 = .ok (.aload_n 0, 1) := by decide +kernel
theorem dX12_chair_34 : decode mX12_chair.2.2.1 34 = .ok (.getfield 79, 3) := by decide +kernel
theorem dX12_chair_37 : decode mX12_chair.2.2.1 37 = .ok (.if_icmp .ge 61, 3) := by decide +kernel
theorem dX12_chair_40 : decode mX12_chair.2.2.1 40 = .ok (.iload_n 3, 1) := by decide +kernel
theorem dX12_chair_41 : decode mX12_chair.2.2.1 41 = .ok (.iload 5, 2) := by decide +kernel
theorem dX12_chair_43 : decode mX12_chair.2.2.1 43 = .ok (.invokestatic 189, 3) := by decide +kernel
theorem dX12_chair_46 : decode mX12_chair.2.2.1 46 = .ok (.ifCond .eq 46, 3) := by decide +kernel
theorem dX12_chair_49 : decode mX12_chair.2.2.1 49 = .ok (.aload_n 0, 1) := by decide +kernel
theorem dX12_chair_50 : decode mX12_chair.2.2.1 50 = .ok (.iload_n 2, 1) := by decide +kernel
theorem dX12_chair_51 : decode mX12_chair.2.2.1 51 = .ok (.iload_n 1, 1) := by decide +kernel
theorem dX12_chair_52 : decode mX12_chair.2.2.1 52 = .ok (.bipush 100, 2) := by decide +kernel
theorem dX12_chair_54 : decode mX12_chair.2.2.1 54 = .ok (.irem, 1) := by decide +kernel
theorem dX12_chair_55 : decode mX12_chair.2.2.1 55 = .ok (.iload_n 3, 1) := by decide +kernel
theorem dX12_chair_56 : decode mX12_chair.2.2.1 56 = .ok (.iconst 1, 1) := by decide +kernel
theorem dX12_chair_57 : decode mX12_chair.2.2.1 57 = .ok (.iload 5, 2) := by decide +kernel
theorem dX12_chair_59 : decode mX12_chair.2.2.1 59 = .ok (.ishl, 1) := by decide +kernel
theorem dX12_chair_60 : decode mX12_chair.2.2.1 60 = .ok (.iconst (-1), 1) := by decide +kernel
theorem dX12_chair_61 : decode mX12_chair.2.2.1 61 = .ok (.ixor, 1) := by decide +kernel
theorem dX12_chair_62 : decode mX12_chair.2.2.1 62 = .ok (.iand, 1) := by decide +kernel
theorem dX12_chair_63 : decode mX12_chair.2.2.1 63 = .ok (.aload_n 0, 1) := by decide +kernel
theorem dX12_chair_64 : decode mX12_chair.2.2.1 64 = .ok (.iload_n 2, 1) := by decide +kernel
theorem dX12_chair_65 : decode mX12_chair.2.2.1 65 = .ok (.invokevirtual 205, 3) := by decide +kernel
theorem dX12_chair_68 : decode mX12_chair.2.2.1 68 = .ok (.invokevirtual 208, 3) := by decide +kernel
theorem dX12_chair_71 : decode mX12_chair.2.2.1 71 = .ok (.aload_n 0, 1) := by decide +kernel
theorem dX12_chair_72 : decode mX12_chair.2.2.1 72 = .ok (.iload_n 2, 1) := by decide +kernel
theorem dX12_chair_73 : decode mX12_chair.2.2.1 73 = .ok (.iload_n 1, 1) := by decide +kernel
theorem dX12_chair_74 : decode mX12_chair.2.2.1 74 = .ok (.bipush 100, 2) := by decide +kernel
theorem dX12_chair_76 : decode mX12_chair.2.2.1 76 = .ok (.irem, 1) := by decide +kernel
theorem dX12_chair_77 : decode mX12_chair.2.2.1 77 = .ok (.invokevirtual 218, 3) := by decide +kernel
theorem dX12_chair_80 : decode mX12_chair.2.2.1 80 = .ok (.if_icmp .eq 12, 3) := by decide +kernel
theorem dX12_chair_83 : decode mX12_chair.2.2.1 83 = .ok (.iload 4, 2) := by decide +kernel
theorem dX12_chair_85 : decode mX12_chair.2.2.1 85 = .ok (.iconst 1, 1) := by decide +kernel
theorem dX12_chair_86 : decode mX12_chair.2.2.1 86 = .ok (.iload 5, 2) := by decide +kernel
theorem dX12_chair_88 : decode mX12_chair.2.2.1 88 = .ok (.ishl, 1) := by decide +kernel
theorem dX12_chair_89 : decode mX12_chair.2.2.1 89 = .ok (.ior, 1) := by decide +kernel
theorem dX12_chair_90 : decode mX12_chair.2.2.1 90 = .ok (.istore 4, 2) := by decide +kernel
theorem dX12_chair_92 : decode mX12_chair.2.2.1 92 = .ok (.iinc 5 1, 3) := by decide +kernel
theorem dX12_chair_95 : decode mX12_chair.2.2.1 95 = .ok (.goto (-64), 3) := by decide +kernel
theorem dX12_chair_98 : decode mX12_chair.2.2.1 98 = .ok (.iload 4, 2) := by decide +kernel
theorem dX12_chair_100 : decode mX12_chair.2.2.1 100 = .ok (.ireturn, 1) := by decide +kernel
set_option maxHeartbeats 100000 in
theorem kX12_chair_0 {d : Nat} {F : am_FT} {L : am_LT} {Q : am_QT} {l2 l3 l4 l5 : Option Value} {x1 : Int32} : wt am_S0 (d + 1) mX12_chair 0 [some (.ref 45), some (.int x1), l2, l3, l4, l5] [] F L Q = wc am_S0 d mX12_isTm [.ref 45, .int x1] F L (fun r G K => wt am_S0 (d + 1) mX12_chair 5 [some (.ref 45), some (.int x1), l2, l3, l4, l5] (r.toList ++ []) G K Q) := (wt_aload_n dX12_chair_0 rfl rfl).trans ((wt_iload_n dX12_chair_1 rfl).trans (wt_callV dX12_chair_2 rfl (as := [.int x1]) (rest := []) rfl rfl (Nat.le_of_ble_eq_true rfl) rfl (Nat.le_of_ble_eq_true rfl)))
set_option maxHeartbeats 100000 in
theorem kX12_chair_5 {d : Nat} {F : am_FT} {L : am_LT} {Q : am_QT} {l0 l1 l2 l3 l4 l5 : Option Value} {s0 : Int32} : wt am_S0 d mX12_chair 5 [l0, l1, l2, l3, l4, l5] [.int s0] F L Q = if ¬ s0 = 0 then wt am_S0 d mX12_chair 10 [l0, l1, l2, l3, l4, l5] [] F L Q else wt am_S0 d mX12_chair 8 [l0, l1, l2, l3, l4, l5] [] F L Q := wt_ifCond_ne dX12_chair_5 (t := 10) rfl
set_option maxHeartbeats 100000 in
theorem kX12_chair_8 {d : Nat} {F : am_FT} {L : am_LT} {Q : am_QT} {l0 l1 l2 l3 l4 l5 : Option Value} : wt am_S0 d mX12_chair 8 [l0, l1, l2, l3, l4, l5] [] F L Q = Q (some (.int (-1))) F L := (wt_iconst dX12_chair_8 (v := (-1)) (by decide)).trans (wt_ireturn dX12_chair_9 rfl rfl)
set_option maxHeartbeats 100000 in
theorem kX12_chair_10 {d : Nat} {F : am_FT} {L : am_LT} {Q : am_QT} {l2 l3 l4 l5 : Option Value} {x1 : Int32} : wt am_S0 (d + 1) mX12_chair 10 [some (.ref 45), some (.int x1), l2, l3, l4, l5] [] F L Q = wc am_S0 d mX12_sittersNow [.ref 45, .int (x1 / 100), .int (x1 - x1 / 100 * 100)] F L (fun r G K => wt am_S0 (d + 1) mX12_chair 24 [some (.ref 45), some (.int x1), some (.int (x1 / 100)), l3, l4, l5] (r.toList ++ []) G K Q) := (wt_iload_n dX12_chair_10 rfl).trans ((wt_bipush dX12_chair_11 (v := 100) (by decide)).trans ((wt_idiv dX12_chair_13 (by decide)).trans ((wt_istore_n dX12_chair_14 (lv1 := [some (.ref 45), some (.int x1), some (.int (x1 / 100)), l3, l4, l5]) (Nat.le_of_ble_eq_true rfl) rfl).trans ((wt_aload_n dX12_chair_15 rfl rfl).trans ((wt_iload_n dX12_chair_16 rfl).trans ((wt_iload_n dX12_chair_17 rfl).trans ((wt_bipush dX12_chair_18 (v := 100) (by decide)).trans ((wt_irem dX12_chair_20 (by decide)).trans (wt_callV dX12_chair_21 rfl (as := [.int (x1 / 100), .int (x1 - x1 / 100 * 100)]) (rest := []) rfl rfl (Nat.le_of_ble_eq_true rfl) rfl (Nat.le_of_ble_eq_true rfl))))))))))
set_option maxHeartbeats 100000 in
theorem kX12_chair_24 {d : Nat} {F : am_FT} {L : am_LT} {Q : am_QT} {l0 l1 l3 l4 l5 : Option Value} {s0 x2 : Int32} : wt am_S0 d mX12_chair 24 [l0, l1, some (.int x2), l3, l4, l5] [.int s0] F L Q = wt am_S0 d mX12_chair 31 [l0, l1, some (.int x2), some (.int s0), some (.int 0), some (.int 0)] [] F L Q := (wt_istore_n dX12_chair_24 (lv1 := [l0, l1, some (.int x2), some (.int s0), l4, l5]) (Nat.le_of_ble_eq_true rfl) rfl).trans ((wt_iconst dX12_chair_25 (v := 0) (by decide)).trans ((wt_istore dX12_chair_26 (lv1 := [l0, l1, some (.int x2), some (.int s0), some (.int 0), l5]) (Nat.le_of_ble_eq_true rfl) rfl).trans ((wt_iconst dX12_chair_28 (v := 0) (by decide)).trans (wt_istore dX12_chair_29 (lv1 := [l0, l1, some (.int x2), some (.int s0), some (.int 0), some (.int 0)]) (Nat.le_of_ble_eq_true rfl) rfl))))
set_option maxHeartbeats 100000 in
theorem kX12_chair_31 {d : Nat} {F : am_FT} {L : am_LT} {Q : am_QT} {l1 l2 l3 l4 : Option Value} {x5 : Int32} : wt am_S0 d mX12_chair 31 [some (.ref 45), l1, l2, l3, l4, some (.int x5)] [] F L Q = if (F 45 7) ≤ x5 then wt am_S0 d mX12_chair 98 [some (.ref 45), l1, l2, l3, l4, some (.int x5)] [] F L Q else wt am_S0 d mX12_chair 40 [some (.ref 45), l1, l2, l3, l4, some (.int x5)] [] F L Q := (wt_iload dX12_chair_31 rfl).trans ((wt_aload_n dX12_chair_33 rfl rfl).trans ((wt_getfield dX12_chair_34 rfl rfl (v := .int (F 45 7)) rfl).trans (wt_if_icmp_ge dX12_chair_37 (t := 98) rfl)))
set_option maxHeartbeats 100000 in
theorem kX12_chair_40 {d : Nat} {F : am_FT} {L : am_LT} {Q : am_QT} {l0 l1 l2 l4 : Option Value} {x3 x5 : Int32} : wt am_S0 (d + 1) mX12_chair 40 [l0, l1, l2, some (.int x3), l4, some (.int x5)] [] F L Q = wc am_S0 d mX12_isIn [.int x3, .int x5] F L (fun r G K => wt am_S0 (d + 1) mX12_chair 46 [l0, l1, l2, some (.int x3), l4, some (.int x5)] (r.toList ++ []) G K Q) := (wt_iload_n dX12_chair_40 rfl).trans ((wt_iload dX12_chair_41 rfl).trans (wt_callS dX12_chair_43 rfl (as := [.int x3, .int x5]) (rest := []) rfl rfl (Nat.le_of_ble_eq_true rfl) (Nat.le_of_ble_eq_true rfl)))
set_option maxHeartbeats 100000 in
theorem kX12_chair_46 {d : Nat} {F : am_FT} {L : am_LT} {Q : am_QT} {l0 l1 l2 l3 l4 l5 : Option Value} {s0 : Int32} : wt am_S0 d mX12_chair 46 [l0, l1, l2, l3, l4, l5] [.int s0] F L Q = if s0 = 0 then wt am_S0 d mX12_chair 92 [l0, l1, l2, l3, l4, l5] [] F L Q else wt am_S0 d mX12_chair 49 [l0, l1, l2, l3, l4, l5] [] F L Q := wt_ifCond_eq dX12_chair_46 (t := 92) rfl
set_option maxHeartbeats 100000 in
theorem kX12_chair_49 {d : Nat} {F : am_FT} {L : am_LT} {Q : am_QT} {l4 : Option Value} {x2 x1 x3 x5 : Int32} : wt am_S0 (d + 1) mX12_chair 49 [some (.ref 45), some (.int x1), some (.int x2), some (.int x3), l4, some (.int x5)] [] F L Q = wc am_S0 d mX12_wishers [.ref 45, .int x2] F L (fun r G K => wt am_S0 (d + 1) mX12_chair 68 [some (.ref 45), some (.int x1), some (.int x2), some (.int x3), l4, some (.int x5)] (r.toList ++ [.int (x3 &&& (((1 : Int32) <<< (x5 &&& 31)) ^^^ (-1))), .int (x1 - x1 / 100 * 100), .int x2, .ref 45]) G K Q) := (wt_aload_n dX12_chair_49 rfl rfl).trans ((wt_iload_n dX12_chair_50 rfl).trans ((wt_iload_n dX12_chair_51 rfl).trans ((wt_bipush dX12_chair_52 (v := 100) (by decide)).trans ((wt_irem dX12_chair_54 (by decide)).trans ((wt_iload_n dX12_chair_55 rfl).trans ((wt_iconst dX12_chair_56 (v := 1) (by decide)).trans ((wt_iload dX12_chair_57 rfl).trans ((wt_ishl dX12_chair_59).trans ((wt_iconst dX12_chair_60 (v := (-1)) (by decide)).trans ((wt_ixor dX12_chair_61).trans ((wt_iand dX12_chair_62).trans ((wt_aload_n dX12_chair_63 rfl rfl).trans ((wt_iload_n dX12_chair_64 rfl).trans (wt_callV dX12_chair_65 rfl (as := [.int x2]) (rest := [.int (x3 &&& (((1 : Int32) <<< (x5 &&& 31)) ^^^ (-1))), .int (x1 - x1 / 100 * 100), .int x2, .ref 45]) rfl rfl (Nat.le_of_ble_eq_true rfl) rfl (Nat.le_of_ble_eq_true rfl)))))))))))))))
set_option maxHeartbeats 100000 in
theorem kX12_chair_68 {d : Nat} {F : am_FT} {L : am_LT} {Q : am_QT} {l0 l1 l2 l3 l4 l5 : Option Value} {s1 s2 s3 s4 : Int32} : wt am_S0 (d + 1) mX12_chair 68 [l0, l1, l2, l3, l4, l5] [.int s4, .int s3, .int s2, .int s1, .ref 45] F L Q = wc am_S0 d mX12_doesFall [.ref 45, .int s1, .int s2, .int s3, .int s4] F L (fun r G K => wt am_S0 (d + 1) mX12_chair 71 [l0, l1, l2, l3, l4, l5] (r.toList ++ []) G K Q) := wt_callV dX12_chair_68 rfl (as := [.int s1, .int s2, .int s3, .int s4]) (rest := []) rfl rfl (Nat.le_of_ble_eq_true rfl) rfl (Nat.le_of_ble_eq_true rfl)
set_option maxHeartbeats 100000 in
theorem kX12_chair_71 {d : Nat} {F : am_FT} {L : am_LT} {Q : am_QT} {l3 l4 l5 : Option Value} {s0 x2 x1 : Int32} : wt am_S0 (d + 1) mX12_chair 71 [some (.ref 45), some (.int x1), some (.int x2), l3, l4, l5] [.int s0] F L Q = wc am_S0 d mX12_fallsNow [.ref 45, .int x2, .int (x1 - x1 / 100 * 100)] F L (fun r G K => wt am_S0 (d + 1) mX12_chair 80 [some (.ref 45), some (.int x1), some (.int x2), l3, l4, l5] (r.toList ++ [.int s0]) G K Q) := (wt_aload_n dX12_chair_71 rfl rfl).trans ((wt_iload_n dX12_chair_72 rfl).trans ((wt_iload_n dX12_chair_73 rfl).trans ((wt_bipush dX12_chair_74 (v := 100) (by decide)).trans ((wt_irem dX12_chair_76 (by decide)).trans (wt_callV dX12_chair_77 rfl (as := [.int x2, .int (x1 - x1 / 100 * 100)]) (rest := [.int s0]) rfl rfl (Nat.le_of_ble_eq_true rfl) rfl (Nat.le_of_ble_eq_true rfl))))))
set_option maxHeartbeats 100000 in
theorem kX12_chair_80 {d : Nat} {F : am_FT} {L : am_LT} {Q : am_QT} {l0 l1 l2 l3 l4 l5 : Option Value} {s0 s1 : Int32} : wt am_S0 d mX12_chair 80 [l0, l1, l2, l3, l4, l5] [.int s1, .int s0] F L Q = if s0 = s1 then wt am_S0 d mX12_chair 92 [l0, l1, l2, l3, l4, l5] [] F L Q else wt am_S0 d mX12_chair 83 [l0, l1, l2, l3, l4, l5] [] F L Q := wt_if_icmp_eq dX12_chair_80 (t := 92) rfl
set_option maxHeartbeats 100000 in
theorem kX12_chair_83 {d : Nat} {F : am_FT} {L : am_LT} {Q : am_QT} {l0 l1 l2 : Option Value} {x4 x5 x3 : Int32} : wt am_S0 d mX12_chair 83 [l0, l1, l2, some (.int x3), some (.int x4), some (.int x5)] [] F L Q = wt am_S0 d mX12_chair 92 [l0, l1, l2, some (.int x3), some (.int (x4 ||| ((1 : Int32) <<< (x5 &&& 31)))), some (.int x5)] [] F L Q := (wt_iload dX12_chair_83 rfl).trans ((wt_iconst dX12_chair_85 (v := 1) (by decide)).trans ((wt_iload dX12_chair_86 rfl).trans ((wt_ishl dX12_chair_88).trans ((wt_ior dX12_chair_89).trans (wt_istore dX12_chair_90 (lv1 := [l0, l1, l2, some (.int x3), some (.int (x4 ||| ((1 : Int32) <<< (x5 &&& 31)))), some (.int x5)]) (Nat.le_of_ble_eq_true rfl) rfl)))))
set_option maxHeartbeats 100000 in
theorem kX12_chair_92 {d : Nat} {F : am_FT} {L : am_LT} {Q : am_QT} {l0 l1 l2 l3 : Option Value} {x5 x4 : Int32} : wt am_S0 d mX12_chair 92 [l0, l1, l2, l3, some (.int x4), some (.int x5)] [] F L Q = wt am_S0 d mX12_chair 31 [l0, l1, l2, l3, some (.int x4), some (.int (x5 + 1))] [] F L Q := (wt_iinc dX12_chair_92 (v := 1) (lv1 := [l0, l1, l2, l3, some (.int x4), some (.int (x5 + 1))]) rfl (Nat.le_of_ble_eq_true rfl) (by decide) rfl).trans (wt_goto dX12_chair_95 (t := 31) rfl)
set_option maxHeartbeats 100000 in
theorem kX12_chair_98 {d : Nat} {F : am_FT} {L : am_LT} {Q : am_QT} {l0 l1 l2 l3 l5 : Option Value} {x4 : Int32} : wt am_S0 d mX12_chair 98 [l0, l1, l2, l3, some (.int x4), l5] [] F L Q = Q (some (.int x4)) F L := (wt_iload dX12_chair_98 rfl).trans (wt_ireturn dX12_chair_100 rfl rfl)
theorem dX12_power_0 : decode mX12_power.2.2.1 0 = .ok (.aload_n 0, 1) := by decide +kernel
theorem dX12_power_1 : decode mX12_power.2.2.1 1 = .ok (.iload_n 1, 1) := by decide +kernel
theorem dX12_power_2 : decode mX12_power.2.2.1 2 = .ok (.invokevirtual 212, 3) := by decide +kernel
theorem dX12_power_5 : decode mX12_power.2.2.1 5 = .ok (.ifCond .eq 22, 3) := by decide +kernel
theorem dX12_power_8 : decode mX12_power.2.2.1 8 = .ok (.aload_n 0, 1) := by decide +kernel
theorem dX12_power_9 : decode mX12_power.2.2.1 9 = .ok (.iload_n 2, 1) := by decide +kernel
theorem dX12_power_10 : decode mX12_power.2.2.1 10 = .ok (.i2l, 1) := by decide +kernel
theorem dX12_power_11 : decode mX12_power.2.2.1 11 = .ok (.invokevirtual 115, 3) := by decide +kernel
theorem dX12_power_14 : decode mX12_power.2.2.1 14 = .ok (.ifCond .eq 13, 3) := by decide +kernel
theorem dX12_power_17 : decode mX12_power.2.2.1 17 = .ok (.iload_n 3, 1) := by decide +kernel
theorem dX12_power_18 : decode mX12_power.2.2.1 18 = .ok (.i2l, 1) := by decide +kernel
theorem dX12_power_19 : decode mX12_power.2.2.1 19 = .ok (.lconst 0, 1) := by decide +kernel
theorem dX12_power_20 : decode mX12_power.2.2.1 20 = .ok (.lconst 1, 1) := by decide +kernel
theorem dX12_power_21 : decode mX12_power.2.2.1 21 = .ok (.invokestatic 75, 3) := by decide +kernel
theorem dX12_power_24 : decode mX12_power.2.2.1 24 = .ok (.ifCond .ne 7, 3) := by decide +kernel
theorem dX12_power_27 : decode mX12_power.2.2.1 27 = .ok (.ldc2_w 236, 3) := by decide +kernel
theorem dX12_power_30 : decode mX12_power.2.2.1 30 = .ok (.lreturn, 1) := by decide +kernel
theorem dX12_power_31 : decode mX12_power.2.2.1 31 = .ok (.iload_n 1, 1) := by decide +kernel
theorem dX12_power_32 : decode mX12_power.2.2.1 32 = .ok (.bipush 100, 2) := by decide +kernel
theorem dX12_power_34 : decode mX12_power.2.2.1 34 = .ok (.idiv, 1) := by decide +kernel
theorem dX12_power_35 : decode mX12_power.2.2.1 35 = .ok (.istore 4, 2) := by decide +kernel
theorem dX12_power_37 : decode mX12_power.2.2.1 37 = .ok (.aload_n 0, 1) := by decide +kernel
theorem dX12_power_38 : decode mX12_power.2.2.1 38 = .ok (.iload 4, 2) := by decide +kernel
theorem dX12_power_40 : decode mX12_power.2.2.1 40 = .ok (.iload_n 1, 1) := by decide +kernel
theorem dX12_power_41 : decode mX12_power.2.2.1 41 = .ok (.bipush 100, 2) := by decide +kernel
theorem dX12_power_43 : decode mX12_power.2.2.1 43 = .ok (.irem, 1) := by decide +kernel
theorem dX12_power_44 : decode mX12_power.2.2.1 44 = .ok (.invokevirtual 215, 3) := by decide +kernel
theorem dX12_power_47 : decode mX12_power.2.2.1 47 = .ok (.istore 5, 2) := by decide +kernel
theorem dX12_power_49 : decode mX12_power.2.2.1 49 = .ok (.iload 5, 2) := by decide +kernel
theorem dX12_power_51 : decode mX12_power.2.2.1 51 = .ok (.iload_n 2, 1) := by decide +kernel
theorem dX12_power_52 : decode mX12_power.2.2.1 52 = .ok (.invokestatic 189, 3) := by decide +kernel
theorem dX12_power_55 : decode mX12_power.2.2.1 55 = .ok (.ifCond .ne 6, 3) := by decide +kernel
theorem dX12_power_58 : decode mX12_power.2.2.1 58 = .ok (.iload_n 3, 1) := by decide +kernel
theorem dX12_power_59 : decode mX12_power.2.2.1 59 = .ok (.i2l, 1) := by decide +kernel
theorem dX12_power_60 : decode mX12_power.2.2.1 60 = .ok (.lreturn, 1) := by decide +kernel
theorem dX12_power_61 : decode mX12_power.2.2.1 61 = .ok (.iload 5, 2) := by decide +kernel
theorem dX12_power_63 : decode mX12_power.2.2.1 63 = .ok (.iconst 1, 1) := by decide +kernel
theorem dX12_power_64 : decode mX12_power.2.2.1 64 = .ok (.iload_n 2, 1) := by decide +kernel
theorem dX12_power_65 : decode mX12_power.2.2.1 65 = .ok (.ishl, 1) := by decide +kernel
theorem dX12_power_66 : decode mX12_power.2.2.1 66 = .ok (.iconst (-1), 1) := by decide +kernel
theorem dX12_power_67 : decode mX12_power.2.2.1 67 = .ok (.ixor, 1) := by decide +kernel
theorem dX12_power_68 : decode mX12_power.2.2.1 68 = .ok (.iand, 1) := by decide +kernel
theorem dX12_power_69 : decode mX12_power.2.2.1 69 = .ok (.istore 6, 2) := by decide +kernel
theorem dX12_power_71 : decode mX12_power.2.2.1 71 = .ok (.lconst 0, 1) := by decide +kernel
theorem dX12_power_72 : decode mX12_power.2.2.1 72 = .ok (.lstore 7, 2) := by decide +kernel
theorem dX12_power_74 : decode mX12_power.2.2.1 74 = .ok (.lconst 0, 1) := by decide +kernel
theorem dX12_power_75 : decode mX12_power.2.2.1 75 = .ok (.lstore 9, 2) := by decide +kernel
theorem dX12_power_77 : decode mX12_power.2.2.1 77 = .ok (.iconst 0, 1) := by decide +kernel
theorem dX12_power_78 : decode mX12_power.2.2.1 78 = .ok (.istore 11, 2) := by decide +kernel
theorem dX12_power_80 : decode mX12_power.2.2.1 80 = .ok (.iload 11, 2) := by decide +kernel
theorem dX12_power_82 : decode mX12_power.2.2.1 82 = .ok (.aload_n 0, 1) := by decide +kernel
theorem dX12_power_83 : decode mX12_power.2.2.1 83 = .ok (.invokevirtual 231, 3) := by decide +kernel
theorem dX12_power_86 : decode mX12_power.2.2.1 86 = .ok (.if_icmp .gt 70, 3) := by decide +kernel
theorem dX12_power_89 : decode mX12_power.2.2.1 89 = .ok (.iload 11, 2) := by decide +kernel
theorem dX12_power_91 : decode mX12_power.2.2.1 91 = .ok (.iload 6, 2) := by decide +kernel
theorem dX12_power_93 : decode mX12_power.2.2.1 93 = .ok (.iconst (-1), 1) := by decide +kernel
theorem dX12_power_94 : decode mX12_power.2.2.1 94 = .ok (.ixor, 1) := by decide +kernel
theorem dX12_power_95 : decode mX12_power.2.2.1 95 = .ok (.iand, 1) := by decide +kernel
theorem dX12_power_96 : decode mX12_power.2.2.1 96 = .ok (.ifCond .ne 54, 3) := by decide +kernel
theorem dX12_power_99 : decode mX12_power.2.2.1 99 = .ok (.lload 9, 2) := by decide +kernel
theorem dX12_power_101 : decode mX12_power.2.2.1 101 = .ok (.lconst 1, 1) := by decide +kernel
theorem dX12_power_102 : decode mX12_power.2.2.1 102 = .ok (.ladd, 1) := by decide +kernel
theorem dX12_power_103 : decode mX12_power.2.2.1 103 = .ok (.lstore 9, 2) := by decide +kernel
theorem dX12_power_105 : decode mX12_power.2.2.1 105 = .ok (.lload 7, 2) := by decide +kernel
theorem dX12_power_107 : decode mX12_power.2.2.1 107 = .ok (.aload_n 0, 1) := by decide +kernel
theorem dX12_power_108 : decode mX12_power.2.2.1 108 = .ok (.iload 4, 2) := by decide +kernel
theorem dX12_power_110 : decode mX12_power.2.2.1 110 = .ok (.iload_n 1, 1) := by decide +kernel
theorem dX12_power_111 : decode mX12_power.2.2.1 111 = .ok (.bipush 100, 2) := by decide +kernel
theorem dX12_power_113 : decode mX12_power.2.2.1 113 = .ok (.irem, 1) := by decide +kernel
theorem dX12_power_114 : decode mX12_power.2.2.1 114 = .ok (.iload 5, 2) := by decide +kernel
theorem dX12_power_116 : decode mX12_power.2.2.1 116 = .ok (.iload 11, 2) := by decide +kernel
theorem dX12_power_118 : decode mX12_power.2.2.1 118 = .ok (.invokevirtual 208, 3) := by decide +kernel
theorem dX12_power_121 : decode mX12_power.2.2.1 121 = .ok (.aload_n 0, 1) := by decide +kernel
theorem dX12_power_122 : decode mX12_power.2.2.1 122 = .ok (.iload 4, 2) := by decide +kernel
theorem dX12_power_124 : decode mX12_power.2.2.1 124 = .ok (.iload_n 1, 1) := by decide +kernel
theorem dX12_power_125 : decode mX12_power.2.2.1 125 = .ok (.bipush 100, 2) := by decide +kernel
theorem dX12_power_127 : decode mX12_power.2.2.1 127 = .ok (.irem, 1) := by decide +kernel
theorem dX12_power_128 : decode mX12_power.2.2.1 128 = .ok (.iload 5, 2) := by decide +kernel
theorem dX12_power_130 : decode mX12_power.2.2.1 130 = .ok (.iload 11, 2) := by decide +kernel
theorem dX12_power_132 : decode mX12_power.2.2.1 132 = .ok (.iconst 1, 1) := by decide +kernel
theorem dX12_power_133 : decode mX12_power.2.2.1 133 = .ok (.iload_n 2, 1) := by decide +kernel
theorem dX12_power_134 : decode mX12_power.2.2.1 134 = .ok (.ishl, 1) := by decide +kernel
theorem dX12_power_135 : decode mX12_power.2.2.1 135 = .ok (.ior, 1) := by decide +kernel
theorem dX12_power_136 : decode mX12_power.2.2.1 136 = .ok (.invokevirtual 208, 3) := by decide +kernel
theorem dX12_power_139 : decode mX12_power.2.2.1 139 = .ok (.if_icmp .eq 7, 3) := by decide +kernel
theorem dX12_power_142 : decode mX12_power.2.2.1 142 = .ok (.lconst 1, 1) := by decide +kernel
theorem dX12_power_143 : decode mX12_power.2.2.1 143 = .ok (.goto 4, 3) := by decide +kernel
theorem dX12_power_146 : decode mX12_power.2.2.1 146 = .ok (.lconst 0, 1) := by decide +kernel
theorem dX12_power_147 : decode mX12_power.2.2.1 147 = .ok (.ladd, 1) := by decide +kernel
theorem dX12_power_148 : decode mX12_power.2.2.1 148 = .ok (.lstore 7, 2) := by decide +kernel
theorem dX12_power_150 : decode mX12_power.2.2.1 150 = .ok (.iinc 11 1, 3) := by decide +kernel
theorem dX12_power_153 : decode mX12_power.2.2.1 153 = .ok (.goto (-73), 3) := by decide +kernel
theorem dX12_power_156 : decode mX12_power.2.2.1 156 = .ok (.lload 7, 2) := by decide +kernel
theorem dX12_power_158 : decode mX12_power.2.2.1 158 = .ok (.lload 9, 2) := by decide +kernel
theorem dX12_power_160 : decode mX12_power.2.2.1 160 = .ok (.invokestatic 238, 3) := by decide +kernel
theorem dX12_power_163 : decode mX12_power.2.2.1 163 = .ok (.lstore 11, 2) := by decide +kernel
theorem dX12_power_165 : decode mX12_power.2.2.1 165 = .ok (.lload 7, 2) := by decide +kernel
theorem dX12_power_167 : decode mX12_power.2.2.1 167 = .ok (.lconst 0, 1) := by decide +kernel
theorem dX12_power_168 : decode mX12_power.2.2.1 168 = .ok (.lcmp, 1) := by decide +kernel
theorem dX12_power_169 : decode mX12_power.2.2.1 169 = .ok (.ifCond .ne 8, 3) := by decide +kernel
theorem dX12_power_172 : decode mX12_power.2.2.1 172 = .ok (.iload_n 3, 1) := by decide +kernel
theorem dX12_power_173 : decode mX12_power.2.2.1 173 = .ok (.i2l, 1) := by decide +kernel
theorem dX12_power_174 : decode mX12_power.2.2.1 174 = .ok (.goto 20, 3) := by decide +kernel
theorem dX12_power_177 : decode mX12_power.2.2.1 177 = .ok (.iload_n 3, 1) := by decide +kernel
theorem dX12_power_178 : decode mX12_power.2.2.1 178 = .ok (.ifCond .ne 11, 3) := by decide +kernel
theorem dX12_power_181 : decode mX12_power.2.2.1 181 = .ok (.lload 7, 2) := by decide +kernel
theorem dX12_power_183 : decode mX12_power.2.2.1 183 = .ok (.lload 11, 2) := by decide +kernel
theorem dX12_power_185 : decode mX12_power.2.2.1 185 = .ok (.ldiv, 1) := by decide +kernel
theorem dX12_power_186 : decode mX12_power.2.2.1 186 = .ok (.goto 8, 3) := by decide +kernel
theorem dX12_power_189 : decode mX12_power.2.2.1 189 = .ok (.lload 9, 2) := by decide +kernel
theorem dX12_power_191 : decode mX12_power.2.2.1 191 = .ok (.lload 11, 2) := by decide +kernel
theorem dX12_power_193 : decode mX12_power.2.2.1 193 = .ok (.ldiv, 1) := by decide +kernel
theorem dX12_power_194 : decode mX12_power.2.2.1 194 = .ok (.lreturn, 1) := by decide +kernel
set_option maxHeartbeats 100000 in
theorem kX12_power_0 {d : Nat} {F : am_FT} {L : am_LT} {Q : am_QT} {l2 l3 l4 l5 l6 l7 l8 l9 l10 l11 l12 : Option Value} {x1 : Int32} : wt am_S0 (d + 1) mX12_power 0 [some (.ref 45), some (.int x1), l2, l3, l4, l5, l6, l7, l8, l9, l10, l11, l12] [] F L Q = wc am_S0 d mX12_isTm [.ref 45, .int x1] F L (fun r G K => wt am_S0 (d + 1) mX12_power 5 [some (.ref 45), some (.int x1), l2, l3, l4, l5, l6, l7, l8, l9, l10, l11, l12] (r.toList ++ []) G K Q) := (wt_aload_n dX12_power_0 rfl rfl).trans ((wt_iload_n dX12_power_1 rfl).trans (wt_callV dX12_power_2 rfl (as := [.int x1]) (rest := []) rfl rfl (Nat.le_of_ble_eq_true rfl) rfl (Nat.le_of_ble_eq_true rfl)))
set_option maxHeartbeats 100000 in
theorem kX12_power_5 {d : Nat} {F : am_FT} {L : am_LT} {Q : am_QT} {l0 l1 l2 l3 l4 l5 l6 l7 l8 l9 l10 l11 l12 : Option Value} {s0 : Int32} : wt am_S0 d mX12_power 5 [l0, l1, l2, l3, l4, l5, l6, l7, l8, l9, l10, l11, l12] [.int s0] F L Q = if s0 = 0 then wt am_S0 d mX12_power 27 [l0, l1, l2, l3, l4, l5, l6, l7, l8, l9, l10, l11, l12] [] F L Q else wt am_S0 d mX12_power 8 [l0, l1, l2, l3, l4, l5, l6, l7, l8, l9, l10, l11, l12] [] F L Q := wt_ifCond_eq dX12_power_5 (t := 27) rfl
set_option maxHeartbeats 100000 in
theorem kX12_power_8 {d : Nat} {F : am_FT} {L : am_LT} {Q : am_QT} {l1 l3 l4 l5 l6 l7 l8 l9 l10 l11 l12 : Option Value} {x2 : Int32} : wt am_S0 (d + 1) mX12_power 8 [some (.ref 45), l1, some (.int x2), l3, l4, l5, l6, l7, l8, l9, l10, l11, l12] [] F L Q = wc am_S0 d mX12_isOne [.ref 45, .long (Int32.toInt64 x2)] F L (fun r G K => wt am_S0 (d + 1) mX12_power 14 [some (.ref 45), l1, some (.int x2), l3, l4, l5, l6, l7, l8, l9, l10, l11, l12] (r.toList ++ []) G K Q) := (wt_aload_n dX12_power_8 rfl rfl).trans ((wt_iload_n dX12_power_9 rfl).trans ((wt_i2l dX12_power_10).trans (wt_callV dX12_power_11 rfl (as := [.long (Int32.toInt64 x2)]) (rest := []) rfl rfl (Nat.le_of_ble_eq_true rfl) rfl (Nat.le_of_ble_eq_true rfl))))
set_option maxHeartbeats 100000 in
theorem kX12_power_14 {d : Nat} {F : am_FT} {L : am_LT} {Q : am_QT} {l0 l1 l2 l3 l4 l5 l6 l7 l8 l9 l10 l11 l12 : Option Value} {s0 : Int32} : wt am_S0 d mX12_power 14 [l0, l1, l2, l3, l4, l5, l6, l7, l8, l9, l10, l11, l12] [.int s0] F L Q = if s0 = 0 then wt am_S0 d mX12_power 27 [l0, l1, l2, l3, l4, l5, l6, l7, l8, l9, l10, l11, l12] [] F L Q else wt am_S0 d mX12_power 17 [l0, l1, l2, l3, l4, l5, l6, l7, l8, l9, l10, l11, l12] [] F L Q := wt_ifCond_eq dX12_power_14 (t := 27) rfl
set_option maxHeartbeats 100000 in
theorem kX12_power_17 {d : Nat} {F : am_FT} {L : am_LT} {Q : am_QT} {l0 l1 l2 l4 l5 l6 l7 l8 l9 l10 l11 l12 : Option Value} {x3 : Int32} : wt am_S0 (d + 1) mX12_power 17 [l0, l1, l2, some (.int x3), l4, l5, l6, l7, l8, l9, l10, l11, l12] [] F L Q = wc am_S0 d mX12_within [.long (Int32.toInt64 x3), .long 0, .long 1] F L (fun r G K => wt am_S0 (d + 1) mX12_power 24 [l0, l1, l2, some (.int x3), l4, l5, l6, l7, l8, l9, l10, l11, l12] (r.toList ++ []) G K Q) := (wt_iload_n dX12_power_17 rfl).trans ((wt_i2l dX12_power_18).trans ((wt_lconst dX12_power_19 (v := 0) (by decide)).trans ((wt_lconst dX12_power_20 (v := 1) (by decide)).trans (wt_callS dX12_power_21 rfl (as := [.long (Int32.toInt64 x3), .long 0, .long 1]) (rest := []) rfl rfl (Nat.le_of_ble_eq_true rfl) (Nat.le_of_ble_eq_true rfl)))))
set_option maxHeartbeats 100000 in
theorem kX12_power_24 {d : Nat} {F : am_FT} {L : am_LT} {Q : am_QT} {l0 l1 l2 l3 l4 l5 l6 l7 l8 l9 l10 l11 l12 : Option Value} {s0 : Int32} : wt am_S0 d mX12_power 24 [l0, l1, l2, l3, l4, l5, l6, l7, l8, l9, l10, l11, l12] [.int s0] F L Q = if ¬ s0 = 0 then wt am_S0 d mX12_power 31 [l0, l1, l2, l3, l4, l5, l6, l7, l8, l9, l10, l11, l12] [] F L Q else wt am_S0 d mX12_power 27 [l0, l1, l2, l3, l4, l5, l6, l7, l8, l9, l10, l11, l12] [] F L Q := wt_ifCond_ne dX12_power_24 (t := 31) rfl
set_option maxHeartbeats 100000 in
theorem kX12_power_27 {d : Nat} {F : am_FT} {L : am_LT} {Q : am_QT} {l0 l1 l2 l3 l4 l5 l6 l7 l8 l9 l10 l11 l12 : Option Value} : wt am_S0 d mX12_power 27 [l0, l1, l2, l3, l4, l5, l6, l7, l8, l9, l10, l11, l12] [] F L Q = Q (some (.long (-9223372036854775808))) F L := (wt_ldc2_w dX12_power_27 (v := -9223372036854775808) rfl).trans (wt_lreturn dX12_power_30 rfl)
set_option maxHeartbeats 100000 in
theorem kX12_power_31 {d : Nat} {F : am_FT} {L : am_LT} {Q : am_QT} {l2 l4 l5 l6 l7 l8 l9 l10 l11 l12 : Option Value} {x1 x3 : Int32} : wt am_S0 (d + 1) mX12_power 31 [some (.ref 45), some (.int x1), l2, some (.int x3), l4, l5, l6, l7, l8, l9, l10, l11, l12] [] F L Q = wc am_S0 d mX12_sittersNow [.ref 45, .int (x1 / 100), .int (x1 - x1 / 100 * 100)] F L (fun r G K => wt am_S0 (d + 1) mX12_power 47 [some (.ref 45), some (.int x1), l2, some (.int x3), some (.int (x1 / 100)), l5, l6, l7, l8, l9, l10, l11, l12] (r.toList ++ []) G K Q) := (wt_iload_n dX12_power_31 rfl).trans ((wt_bipush dX12_power_32 (v := 100) (by decide)).trans ((wt_idiv dX12_power_34 (by decide)).trans ((wt_istore dX12_power_35 (lv1 := [some (.ref 45), some (.int x1), l2, some (.int x3), some (.int (x1 / 100)), l5, l6, l7, l8, l9, l10, l11, l12]) (Nat.le_of_ble_eq_true rfl) rfl).trans ((wt_aload_n dX12_power_37 rfl rfl).trans ((wt_iload dX12_power_38 rfl).trans ((wt_iload_n dX12_power_40 rfl).trans ((wt_bipush dX12_power_41 (v := 100) (by decide)).trans ((wt_irem dX12_power_43 (by decide)).trans (wt_callV dX12_power_44 rfl (as := [.int (x1 / 100), .int (x1 - x1 / 100 * 100)]) (rest := []) rfl rfl (Nat.le_of_ble_eq_true rfl) rfl (Nat.le_of_ble_eq_true rfl))))))))))
set_option maxHeartbeats 100000 in
theorem kX12_power_47 {d : Nat} {F : am_FT} {L : am_LT} {Q : am_QT} {l0 l1 l3 l5 l6 l7 l8 l9 l10 l11 l12 : Option Value} {s0 x4 x2 : Int32} : wt am_S0 (d + 1) mX12_power 47 [l0, l1, some (.int x2), l3, some (.int x4), l5, l6, l7, l8, l9, l10, l11, l12] [.int s0] F L Q = wc am_S0 d mX12_isIn [.int s0, .int x2] F L (fun r G K => wt am_S0 (d + 1) mX12_power 55 [l0, l1, some (.int x2), l3, some (.int x4), some (.int s0), l6, l7, l8, l9, l10, l11, l12] (r.toList ++ []) G K Q) := (wt_istore dX12_power_47 (lv1 := [l0, l1, some (.int x2), l3, some (.int x4), some (.int s0), l6, l7, l8, l9, l10, l11, l12]) (Nat.le_of_ble_eq_true rfl) rfl).trans ((wt_iload dX12_power_49 rfl).trans ((wt_iload_n dX12_power_51 rfl).trans (wt_callS dX12_power_52 rfl (as := [.int s0, .int x2]) (rest := []) rfl rfl (Nat.le_of_ble_eq_true rfl) (Nat.le_of_ble_eq_true rfl))))
set_option maxHeartbeats 100000 in
theorem kX12_power_55 {d : Nat} {F : am_FT} {L : am_LT} {Q : am_QT} {l0 l1 l2 l3 l4 l5 l6 l7 l8 l9 l10 l11 l12 : Option Value} {s0 : Int32} : wt am_S0 d mX12_power 55 [l0, l1, l2, l3, l4, l5, l6, l7, l8, l9, l10, l11, l12] [.int s0] F L Q = if ¬ s0 = 0 then wt am_S0 d mX12_power 61 [l0, l1, l2, l3, l4, l5, l6, l7, l8, l9, l10, l11, l12] [] F L Q else wt am_S0 d mX12_power 58 [l0, l1, l2, l3, l4, l5, l6, l7, l8, l9, l10, l11, l12] [] F L Q := wt_ifCond_ne dX12_power_55 (t := 61) rfl
set_option maxHeartbeats 100000 in
theorem kX12_power_58 {d : Nat} {F : am_FT} {L : am_LT} {Q : am_QT} {l0 l1 l2 l4 l5 l6 l7 l8 l9 l10 l11 l12 : Option Value} {x3 : Int32} : wt am_S0 d mX12_power 58 [l0, l1, l2, some (.int x3), l4, l5, l6, l7, l8, l9, l10, l11, l12] [] F L Q = Q (some (.long (Int32.toInt64 x3))) F L := (wt_iload_n dX12_power_58 rfl).trans ((wt_i2l dX12_power_59).trans (wt_lreturn dX12_power_60 rfl))
set_option maxHeartbeats 100000 in
theorem kX12_power_61 {d : Nat} {F : am_FT} {L : am_LT} {Q : am_QT} {l0 l1 l3 l4 l6 l7 l8 l9 l10 l11 l12 : Option Value} {x5 x2 : Int32} : wt am_S0 d mX12_power 61 [l0, l1, some (.int x2), l3, l4, some (.int x5), l6, l7, l8, l9, l10, l11, l12] [] F L Q = wt am_S0 d mX12_power 80 [l0, l1, some (.int x2), l3, l4, some (.int x5), some (.int (x5 &&& (((1 : Int32) <<< (x2 &&& 31)) ^^^ (-1)))), some (.long 0), none, some (.long 0), none, some (.int 0), l12] [] F L Q := (wt_iload dX12_power_61 rfl).trans ((wt_iconst dX12_power_63 (v := 1) (by decide)).trans ((wt_iload_n dX12_power_64 rfl).trans ((wt_ishl dX12_power_65).trans ((wt_iconst dX12_power_66 (v := (-1)) (by decide)).trans ((wt_ixor dX12_power_67).trans ((wt_iand dX12_power_68).trans ((wt_istore dX12_power_69 (lv1 := [l0, l1, some (.int x2), l3, l4, some (.int x5), some (.int (x5 &&& (((1 : Int32) <<< (x2 &&& 31)) ^^^ (-1)))), l7, l8, l9, l10, l11, l12]) (Nat.le_of_ble_eq_true rfl) rfl).trans ((wt_lconst dX12_power_71 (v := 0) (by decide)).trans ((wt_lstore dX12_power_72 (lv1 := [l0, l1, some (.int x2), l3, l4, some (.int x5), some (.int (x5 &&& (((1 : Int32) <<< (x2 &&& 31)) ^^^ (-1)))), some (.long 0), none, l9, l10, l11, l12]) (Nat.le_of_ble_eq_true rfl) rfl).trans ((wt_lconst dX12_power_74 (v := 0) (by decide)).trans ((wt_lstore dX12_power_75 (lv1 := [l0, l1, some (.int x2), l3, l4, some (.int x5), some (.int (x5 &&& (((1 : Int32) <<< (x2 &&& 31)) ^^^ (-1)))), some (.long 0), none, some (.long 0), none, l11, l12]) (Nat.le_of_ble_eq_true rfl) rfl).trans ((wt_iconst dX12_power_77 (v := 0) (by decide)).trans (wt_istore dX12_power_78 (lv1 := [l0, l1, some (.int x2), l3, l4, some (.int x5), some (.int (x5 &&& (((1 : Int32) <<< (x2 &&& 31)) ^^^ (-1)))), some (.long 0), none, some (.long 0), none, some (.int 0), l12]) (Nat.le_of_ble_eq_true rfl) rfl)))))))))))))
set_option maxHeartbeats 100000 in
theorem kX12_power_80 {d : Nat} {F : am_FT} {L : am_LT} {Q : am_QT} {l1 l2 l3 l4 l5 l6 l7 l8 l9 l10 l12 : Option Value} {x11 : Int32} : wt am_S0 (d + 1) mX12_power 80 [some (.ref 45), l1, l2, l3, l4, l5, l6, l7, l8, l9, l10, some (.int x11), l12] [] F L Q = wc am_S0 d mX12_everybody [.ref 45] F L (fun r G K => wt am_S0 (d + 1) mX12_power 86 [some (.ref 45), l1, l2, l3, l4, l5, l6, l7, l8, l9, l10, some (.int x11), l12] (r.toList ++ [.int x11]) G K Q) := (wt_iload dX12_power_80 rfl).trans ((wt_aload_n dX12_power_82 rfl rfl).trans (wt_callV dX12_power_83 rfl (as := []) (rest := [.int x11]) rfl rfl (Nat.le_of_ble_eq_true rfl) rfl (Nat.le_of_ble_eq_true rfl)))
set_option maxHeartbeats 100000 in
theorem kX12_power_86 {d : Nat} {F : am_FT} {L : am_LT} {Q : am_QT} {l0 l1 l2 l3 l4 l5 l6 l7 l8 l9 l10 l11 l12 : Option Value} {s0 s1 : Int32} : wt am_S0 d mX12_power 86 [l0, l1, l2, l3, l4, l5, l6, l7, l8, l9, l10, l11, l12] [.int s1, .int s0] F L Q = if s1 < s0 then wt am_S0 d mX12_power 156 [l0, l1, l2, l3, l4, l5, l6, l7, l8, l9, l10, l11, l12] [] F L Q else wt am_S0 d mX12_power 89 [l0, l1, l2, l3, l4, l5, l6, l7, l8, l9, l10, l11, l12] [] F L Q := wt_if_icmp_gt dX12_power_86 (t := 156) rfl
set_option maxHeartbeats 100000 in
theorem kX12_power_89 {d : Nat} {F : am_FT} {L : am_LT} {Q : am_QT} {l0 l1 l2 l3 l4 l5 l7 l8 l9 l10 l12 : Option Value} {x11 x6 : Int32} : wt am_S0 d mX12_power 89 [l0, l1, l2, l3, l4, l5, some (.int x6), l7, l8, l9, l10, some (.int x11), l12] [] F L Q = if ¬ (x11 &&& (x6 ^^^ (-1))) = 0 then wt am_S0 d mX12_power 150 [l0, l1, l2, l3, l4, l5, some (.int x6), l7, l8, l9, l10, some (.int x11), l12] [] F L Q else wt am_S0 d mX12_power 99 [l0, l1, l2, l3, l4, l5, some (.int x6), l7, l8, l9, l10, some (.int x11), l12] [] F L Q := (wt_iload dX12_power_89 rfl).trans ((wt_iload dX12_power_91 rfl).trans ((wt_iconst dX12_power_93 (v := (-1)) (by decide)).trans ((wt_ixor dX12_power_94).trans ((wt_iand dX12_power_95).trans (wt_ifCond_ne dX12_power_96 (t := 150) rfl)))))
set_option maxHeartbeats 100000 in
theorem kX12_power_99 {d : Nat} {F : am_FT} {L : am_LT} {Q : am_QT} {l2 l3 l6 l10 l12 : Option Value} {x9 x7 : Int64} {x4 x1 x5 x11 : Int32} : wt am_S0 (d + 1) mX12_power 99 [some (.ref 45), some (.int x1), l2, l3, some (.int x4), some (.int x5), l6, some (.long x7), none, some (.long x9), l10, some (.int x11), l12] [] F L Q = wc am_S0 d mX12_doesFall [.ref 45, .int x4, .int (x1 - x1 / 100 * 100), .int x5, .int x11] F L (fun r G K => wt am_S0 (d + 1) mX12_power 121 [some (.ref 45), some (.int x1), l2, l3, some (.int x4), some (.int x5), l6, some (.long x7), none, some (.long (x9 + 1)), none, some (.int x11), l12] (r.toList ++ [.long x7]) G K Q) := (wt_lload dX12_power_99 rfl).trans ((wt_lconst dX12_power_101 (v := 1) (by decide)).trans ((wt_ladd dX12_power_102).trans ((wt_lstore dX12_power_103 (lv1 := [some (.ref 45), some (.int x1), l2, l3, some (.int x4), some (.int x5), l6, some (.long x7), none, some (.long (x9 + 1)), none, some (.int x11), l12]) (Nat.le_of_ble_eq_true rfl) rfl).trans ((wt_lload dX12_power_105 rfl).trans ((wt_aload_n dX12_power_107 rfl rfl).trans ((wt_iload dX12_power_108 rfl).trans ((wt_iload_n dX12_power_110 rfl).trans ((wt_bipush dX12_power_111 (v := 100) (by decide)).trans ((wt_irem dX12_power_113 (by decide)).trans ((wt_iload dX12_power_114 rfl).trans ((wt_iload dX12_power_116 rfl).trans (wt_callV dX12_power_118 rfl (as := [.int x4, .int (x1 - x1 / 100 * 100), .int x5, .int x11]) (rest := [.long x7]) rfl rfl (Nat.le_of_ble_eq_true rfl) rfl (Nat.le_of_ble_eq_true rfl)))))))))))))
set_option maxHeartbeats 100000 in
theorem kX12_power_121 {d : Nat} {F : am_FT} {L : am_LT} {Q : am_QT} {l3 l6 l7 l8 l9 l10 l12 : Option Value} {s0 : Int64} {s1 x4 x1 x5 x11 x2 : Int32} : wt am_S0 (d + 1) mX12_power 121 [some (.ref 45), some (.int x1), some (.int x2), l3, some (.int x4), some (.int x5), l6, l7, l8, l9, l10, some (.int x11), l12] [.int s1, .long s0] F L Q = wc am_S0 d mX12_doesFall [.ref 45, .int x4, .int (x1 - x1 / 100 * 100), .int x5, .int (x11 ||| ((1 : Int32) <<< (x2 &&& 31)))] F L (fun r G K => wt am_S0 (d + 1) mX12_power 139 [some (.ref 45), some (.int x1), some (.int x2), l3, some (.int x4), some (.int x5), l6, l7, l8, l9, l10, some (.int x11), l12] (r.toList ++ [.int s1, .long s0]) G K Q) := (wt_aload_n dX12_power_121 rfl rfl).trans ((wt_iload dX12_power_122 rfl).trans ((wt_iload_n dX12_power_124 rfl).trans ((wt_bipush dX12_power_125 (v := 100) (by decide)).trans ((wt_irem dX12_power_127 (by decide)).trans ((wt_iload dX12_power_128 rfl).trans ((wt_iload dX12_power_130 rfl).trans ((wt_iconst dX12_power_132 (v := 1) (by decide)).trans ((wt_iload_n dX12_power_133 rfl).trans ((wt_ishl dX12_power_134).trans ((wt_ior dX12_power_135).trans (wt_callV dX12_power_136 rfl (as := [.int x4, .int (x1 - x1 / 100 * 100), .int x5, .int (x11 ||| ((1 : Int32) <<< (x2 &&& 31)))]) (rest := [.int s1, .long s0]) rfl rfl (Nat.le_of_ble_eq_true rfl) rfl (Nat.le_of_ble_eq_true rfl))))))))))))
set_option maxHeartbeats 100000 in
theorem kX12_power_139 {d : Nat} {F : am_FT} {L : am_LT} {Q : am_QT} {l0 l1 l2 l3 l4 l5 l6 l7 l8 l9 l10 l11 l12 : Option Value} {s0 : Int64} {s1 s2 : Int32} : wt am_S0 d mX12_power 139 [l0, l1, l2, l3, l4, l5, l6, l7, l8, l9, l10, l11, l12] [.int s2, .int s1, .long s0] F L Q = if s1 = s2 then wt am_S0 d mX12_power 146 [l0, l1, l2, l3, l4, l5, l6, l7, l8, l9, l10, l11, l12] [.long s0] F L Q else wt am_S0 d mX12_power 142 [l0, l1, l2, l3, l4, l5, l6, l7, l8, l9, l10, l11, l12] [.long s0] F L Q := wt_if_icmp_eq dX12_power_139 (t := 146) rfl
set_option maxHeartbeats 100000 in
theorem kX12_power_142 {d : Nat} {F : am_FT} {L : am_LT} {Q : am_QT} {l0 l1 l2 l3 l4 l5 l6 l7 l8 l9 l10 l11 l12 : Option Value} {s0 : Int64} : wt am_S0 d mX12_power 142 [l0, l1, l2, l3, l4, l5, l6, l7, l8, l9, l10, l11, l12] [.long s0] F L Q = wt am_S0 d mX12_power 147 [l0, l1, l2, l3, l4, l5, l6, l7, l8, l9, l10, l11, l12] [.long 1, .long s0] F L Q := (wt_lconst dX12_power_142 (v := 1) (by decide)).trans (wt_goto dX12_power_143 (t := 147) rfl)
set_option maxHeartbeats 100000 in
theorem kX12_power_146 {d : Nat} {F : am_FT} {L : am_LT} {Q : am_QT} {l0 l1 l2 l3 l4 l5 l6 l7 l8 l9 l10 l11 l12 : Option Value} {s0 : Int64} : wt am_S0 d mX12_power 146 [l0, l1, l2, l3, l4, l5, l6, l7, l8, l9, l10, l11, l12] [.long s0] F L Q = wt am_S0 d mX12_power 147 [l0, l1, l2, l3, l4, l5, l6, l7, l8, l9, l10, l11, l12] [.long 0, .long s0] F L Q := wt_lconst dX12_power_146 (v := 0) (by decide)
set_option maxHeartbeats 100000 in
theorem kX12_power_147 {d : Nat} {F : am_FT} {L : am_LT} {Q : am_QT} {l0 l1 l2 l3 l4 l5 l7 l8 l9 l10 l11 l12 : Option Value} {s0 s1 : Int64} {x6 : Int32} : wt am_S0 d mX12_power 147 [l0, l1, l2, l3, l4, l5, some (.int x6), l7, l8, l9, l10, l11, l12] [.long s1, .long s0] F L Q = wt am_S0 d mX12_power 150 [l0, l1, l2, l3, l4, l5, some (.int x6), some (.long (s0 + s1)), none, l9, l10, l11, l12] [] F L Q := (wt_ladd dX12_power_147).trans (wt_lstore dX12_power_148 (lv1 := [l0, l1, l2, l3, l4, l5, some (.int x6), some (.long (s0 + s1)), none, l9, l10, l11, l12]) (Nat.le_of_ble_eq_true rfl) rfl)
set_option maxHeartbeats 100000 in
theorem kX12_power_150 {d : Nat} {F : am_FT} {L : am_LT} {Q : am_QT} {l0 l1 l2 l3 l4 l5 l6 l7 l8 l9 l12 : Option Value} {x11 : Int32} : wt am_S0 d mX12_power 150 [l0, l1, l2, l3, l4, l5, l6, l7, l8, l9, none, some (.int x11), l12] [] F L Q = wt am_S0 d mX12_power 80 [l0, l1, l2, l3, l4, l5, l6, l7, l8, l9, none, some (.int (x11 + 1)), l12] [] F L Q := (wt_iinc dX12_power_150 (v := 1) (lv1 := [l0, l1, l2, l3, l4, l5, l6, l7, l8, l9, none, some (.int (x11 + 1)), l12]) rfl (Nat.le_of_ble_eq_true rfl) (by decide) rfl).trans (wt_goto dX12_power_153 (t := 80) rfl)
set_option maxHeartbeats 100000 in
theorem kX12_power_156 {d : Nat} {F : am_FT} {L : am_LT} {Q : am_QT} {l0 l1 l2 l3 l4 l5 l6 l8 l10 l11 l12 : Option Value} {x7 x9 : Int64} : wt am_S0 (d + 1) mX12_power 156 [l0, l1, l2, l3, l4, l5, l6, some (.long x7), l8, some (.long x9), l10, l11, l12] [] F L Q = wc am_S0 d mX12_common [.long x7, .long x9] F L (fun r G K => wt am_S0 (d + 1) mX12_power 163 [l0, l1, l2, l3, l4, l5, l6, some (.long x7), l8, some (.long x9), l10, l11, l12] (r.toList ++ []) G K Q) := (wt_lload dX12_power_156 rfl).trans ((wt_lload dX12_power_158 rfl).trans (wt_callS dX12_power_160 rfl (as := [.long x7, .long x9]) (rest := []) rfl rfl (Nat.le_of_ble_eq_true rfl) (Nat.le_of_ble_eq_true rfl)))
set_option maxHeartbeats 100000 in
theorem kX12_power_163 {d : Nat} {F : am_FT} {L : am_LT} {Q : am_QT} {l0 l1 l2 l3 l4 l5 l6 l8 l9 l11 l12 : Option Value} {s0 x7 : Int64} : wt am_S0 d mX12_power 163 [l0, l1, l2, l3, l4, l5, l6, some (.long x7), l8, l9, none, l11, l12] [.long s0] F L Q = if ¬ (lg_cmp x7 0) = 0 then wt am_S0 d mX12_power 177 [l0, l1, l2, l3, l4, l5, l6, some (.long x7), l8, l9, none, some (.long s0), none] [] F L Q else wt am_S0 d mX12_power 172 [l0, l1, l2, l3, l4, l5, l6, some (.long x7), l8, l9, none, some (.long s0), none] [] F L Q := (wt_lstore dX12_power_163 (lv1 := [l0, l1, l2, l3, l4, l5, l6, some (.long x7), l8, l9, none, some (.long s0), none]) (Nat.le_of_ble_eq_true rfl) rfl).trans ((wt_lload dX12_power_165 rfl).trans ((wt_lconst dX12_power_167 (v := 0) (by decide)).trans ((wt_lcmp dX12_power_168).trans (wt_ifCond_ne dX12_power_169 (t := 177) rfl))))
set_option maxHeartbeats 100000 in
theorem kX12_power_172 {d : Nat} {F : am_FT} {L : am_LT} {Q : am_QT} {l0 l1 l2 l4 l5 l6 l7 l8 l9 l10 l11 l12 : Option Value} {x3 : Int32} : wt am_S0 d mX12_power 172 [l0, l1, l2, some (.int x3), l4, l5, l6, l7, l8, l9, l10, l11, l12] [] F L Q = wt am_S0 d mX12_power 194 [l0, l1, l2, some (.int x3), l4, l5, l6, l7, l8, l9, l10, l11, l12] [.long (Int32.toInt64 x3)] F L Q := (wt_iload_n dX12_power_172 rfl).trans ((wt_i2l dX12_power_173).trans (wt_goto dX12_power_174 (t := 194) rfl))
set_option maxHeartbeats 100000 in
theorem kX12_power_177 {d : Nat} {F : am_FT} {L : am_LT} {Q : am_QT} {l0 l1 l2 l4 l5 l6 l7 l8 l9 l10 l11 l12 : Option Value} {x3 : Int32} : wt am_S0 d mX12_power 177 [l0, l1, l2, some (.int x3), l4, l5, l6, l7, l8, l9, l10, l11, l12] [] F L Q = if ¬ x3 = 0 then wt am_S0 d mX12_power 189 [l0, l1, l2, some (.int x3), l4, l5, l6, l7, l8, l9, l10, l11, l12] [] F L Q else wt am_S0 d mX12_power 181 [l0, l1, l2, some (.int x3), l4, l5, l6, l7, l8, l9, l10, l11, l12] [] F L Q := (wt_iload_n dX12_power_177 rfl).trans (wt_ifCond_ne dX12_power_178 (t := 189) rfl)
set_option maxHeartbeats 100000 in
theorem kX12_power_181 {d : Nat} {F : am_FT} {L : am_LT} {Q : am_QT} {l0 l1 l2 l3 l4 l5 l6 l8 l9 l10 l12 : Option Value} {x7 x11 : Int64} (h1 : ¬ x11 = 0) : wt am_S0 d mX12_power 181 [l0, l1, l2, l3, l4, l5, l6, some (.long x7), l8, l9, l10, some (.long x11), l12] [] F L Q = wt am_S0 d mX12_power 194 [l0, l1, l2, l3, l4, l5, l6, some (.long x7), l8, l9, l10, some (.long x11), l12] [.long (x7 / x11)] F L Q := (wt_lload dX12_power_181 rfl).trans ((wt_lload dX12_power_183 rfl).trans ((wt_ldiv dX12_power_185 h1).trans (wt_goto dX12_power_186 (t := 194) rfl)))
set_option maxHeartbeats 100000 in
theorem kX12_power_189 {d : Nat} {F : am_FT} {L : am_LT} {Q : am_QT} {l0 l1 l2 l3 l4 l5 l6 l7 l8 l10 l12 : Option Value} {x9 x11 : Int64} (h1 : ¬ x11 = 0) : wt am_S0 d mX12_power 189 [l0, l1, l2, l3, l4, l5, l6, l7, l8, some (.long x9), l10, some (.long x11), l12] [] F L Q = wt am_S0 d mX12_power 194 [l0, l1, l2, l3, l4, l5, l6, l7, l8, some (.long x9), l10, some (.long x11), l12] [.long (x9 / x11)] F L Q := (wt_lload dX12_power_189 rfl).trans ((wt_lload dX12_power_191 rfl).trans (wt_ldiv dX12_power_193 h1))
set_option maxHeartbeats 100000 in
theorem kX12_power_194 {d : Nat} {F : am_FT} {L : am_LT} {Q : am_QT} {l0 l1 l2 l3 l4 l5 l6 l7 l8 l9 l10 l11 l12 : Option Value} {s0 : Int64} : wt am_S0 d mX12_power 194 [l0, l1, l2, l3, l4, l5, l6, l7, l8, l9, l10, l11, l12] [.long s0] F L Q = Q (some (.long s0)) F L := wt_lreturn dX12_power_194 rfl
theorem dX12_common_0 : decode mX12_common.2.2.1 0 = .ok (.lload_n 0, 1) := by decide +kernel
theorem dX12_common_1 : decode mX12_common.2.2.1 1 = .ok (.lstore 4, 2) := by decide +kernel
theorem dX12_common_3 : decode mX12_common.2.2.1 3 = .ok (.lload_n 2, 1) := by decide +kernel
theorem dX12_common_4 : decode mX12_common.2.2.1 4 = .ok (.lstore 6, 2) := by decide +kernel
theorem dX12_common_6 : decode mX12_common.2.2.1 6 = .ok (.lload 6, 2) := by decide +kernel
theorem dX12_common_8 : decode mX12_common.2.2.1 8 = .ok (.lconst 0, 1) := by decide +kernel
theorem dX12_common_9 : decode mX12_common.2.2.1 9 = .ok (.lcmp, 1) := by decide +kernel
theorem dX12_common_10 : decode mX12_common.2.2.1 10 = .ok (.ifCond .eq 21, 3) := by decide +kernel
theorem dX12_common_13 : decode mX12_common.2.2.1 13 = .ok (.lload 4, 2) := by decide +kernel
theorem dX12_common_15 : decode mX12_common.2.2.1 15 = .ok (.lload 6, 2) := by decide +kernel
theorem dX12_common_17 : decode mX12_common.2.2.1 17 = .ok (.lrem, 1) := by decide +kernel
theorem dX12_common_18 : decode mX12_common.2.2.1 18 = .ok (.lstore 8, 2) := by decide +kernel
theorem dX12_common_20 : decode mX12_common.2.2.1 20 = .ok (.lload 6, 2) := by decide +kernel
theorem dX12_common_22 : decode mX12_common.2.2.1 22 = .ok (.lstore 4, 2) := by decide +kernel
theorem dX12_common_24 : decode mX12_common.2.2.1 24 = .ok (.lload 8, 2) := by decide +kernel
theorem dX12_common_26 : decode mX12_common.2.2.1 26 = .ok (.lstore 6, 2) := by decide +kernel
theorem dX12_common_28 : decode mX12_common.2.2.1 28 = .ok (.goto (-22), 3) := by decide +kernel
theorem dX12_common_31 : decode mX12_common.2.2.1 31 = .ok (.lload 4, 2) := by decide +kernel
theorem dX12_common_33 : decode mX12_common.2.2.1 33 = .ok (.lreturn, 1) := by decide +kernel
set_option maxHeartbeats 100000 in
theorem kX12_common_0 {d : Nat} {F : am_FT} {L : am_LT} {Q : am_QT} {l1 l4 l5 l6 l7 l8 l9 : Option Value} {x0 x2 : Int64} : wt am_S0 d mX12_common 0 [some (.long x0), l1, some (.long x2), none, l4, l5, l6, l7, l8, l9] [] F L Q = wt am_S0 d mX12_common 6 [some (.long x0), l1, some (.long x2), none, some (.long x0), none, some (.long x2), none, l8, l9] [] F L Q := (wt_lload_n dX12_common_0 rfl).trans ((wt_lstore dX12_common_1 (lv1 := [some (.long x0), l1, some (.long x2), none, some (.long x0), none, l6, l7, l8, l9]) (Nat.le_of_ble_eq_true rfl) rfl).trans ((wt_lload_n dX12_common_3 rfl).trans (wt_lstore dX12_common_4 (lv1 := [some (.long x0), l1, some (.long x2), none, some (.long x0), none, some (.long x2), none, l8, l9]) (Nat.le_of_ble_eq_true rfl) rfl)))
set_option maxHeartbeats 100000 in
theorem kX12_common_6 {d : Nat} {F : am_FT} {L : am_LT} {Q : am_QT} {l0 l1 l2 l3 l4 l5 l7 l8 l9 : Option Value} {x6 : Int64} : wt am_S0 d mX12_common 6 [l0, l1, l2, l3, l4, l5, some (.long x6), l7, l8, l9] [] F L Q = if (lg_cmp x6 0) = 0 then wt am_S0 d mX12_common 31 [l0, l1, l2, l3, l4, l5, some (.long x6), l7, l8, l9] [] F L Q else wt am_S0 d mX12_common 13 [l0, l1, l2, l3, l4, l5, some (.long x6), l7, l8, l9] [] F L Q := (wt_lload dX12_common_6 rfl).trans ((wt_lconst dX12_common_8 (v := 0) (by decide)).trans ((wt_lcmp dX12_common_9).trans (wt_ifCond_eq dX12_common_10 (t := 31) rfl)))
set_option maxHeartbeats 100000 in
theorem kX12_common_13 {d : Nat} {F : am_FT} {L : am_LT} {Q : am_QT} {l0 l1 l2 l5 l8 l9 : Option Value} {x4 x6 : Int64} (h1 : ¬ x6 = 0) : wt am_S0 d mX12_common 13 [l0, l1, l2, none, some (.long x4), l5, some (.long x6), none, l8, l9] [] F L Q = wt am_S0 d mX12_common 6 [l0, l1, l2, none, some (.long x6), none, some (.long (x4 - x4 / x6 * x6)), none, some (.long (x4 - x4 / x6 * x6)), none] [] F L Q := (wt_lload dX12_common_13 rfl).trans ((wt_lload dX12_common_15 rfl).trans ((wt_lrem dX12_common_17 h1).trans ((wt_lstore dX12_common_18 (lv1 := [l0, l1, l2, none, some (.long x4), l5, some (.long x6), none, some (.long (x4 - x4 / x6 * x6)), none]) (Nat.le_of_ble_eq_true rfl) rfl).trans ((wt_lload dX12_common_20 rfl).trans ((wt_lstore dX12_common_22 (lv1 := [l0, l1, l2, none, some (.long x6), none, some (.long x6), none, some (.long (x4 - x4 / x6 * x6)), none]) (Nat.le_of_ble_eq_true rfl) rfl).trans ((wt_lload dX12_common_24 rfl).trans ((wt_lstore dX12_common_26 (lv1 := [l0, l1, l2, none, some (.long x6), none, some (.long (x4 - x4 / x6 * x6)), none, some (.long (x4 - x4 / x6 * x6)), none]) (Nat.le_of_ble_eq_true rfl) rfl).trans (wt_goto dX12_common_28 (t := 6) rfl))))))))
set_option maxHeartbeats 100000 in
theorem kX12_common_31 {d : Nat} {F : am_FT} {L : am_LT} {Q : am_QT} {l0 l1 l2 l3 l5 l6 l7 l8 l9 : Option Value} {x4 : Int64} : wt am_S0 d mX12_common 31 [l0, l1, l2, l3, some (.long x4), l5, l6, l7, l8, l9] [] F L Q = Q (some (.long x4)) F L := (wt_lload dX12_common_31 rfl).trans (wt_lreturn dX12_common_33 rfl)
theorem dX12_lop_0 : decode mX12_lop.2.2.1 0 = .ok (.aload_n 0, 1) := by decide +kernel
theorem dX12_lop_1 : decode mX12_lop.2.2.1 1 = .ok (.iload_n 1, 1) := by decide +kernel
theorem dX12_lop_2 : decode mX12_lop.2.2.1 2 = .ok (.invokevirtual 212, 3) := by decide +kernel
theorem dX12_lop_5 : decode mX12_lop.2.2.1 5 = .ok (.ifCond .eq 13, 3) := by decide +kernel
theorem dX12_lop_8 : decode mX12_lop.2.2.1 8 = .ok (.iload_n 2, 1) := by decide +kernel
theorem dX12_lop_9 : decode mX12_lop.2.2.1 9 = .ok (.i2l, 1) := by decide +kernel
theorem dX12_lop_10 : decode mX12_lop.2.2.1 10 = .ok (.lconst 0, 1) := by decide +kernel
theorem dX12_lop_11 : decode mX12_lop.2.2.1 11 = .ok (.lconst 1, 1) := by decide +kernel
theorem dX12_lop_12 : decode mX12_lop.2.2.1 12 = .ok (.invokestatic 75, 3) := by decide +kernel
theorem dX12_lop_15 : decode mX12_lop.2.2.1 15 = .ok (.ifCond .ne 5, 3) := by decide +kernel
theorem dX12_lop_18 : decode mX12_lop.2.2.1 18 = .ok (.iconst (-1), 1) := by decide +kernel
theorem dX12_lop_19 : decode mX12_lop.2.2.1 19 = .ok (.ireturn, 1) := by decide +kernel
theorem dX12_lop_20 : decode mX12_lop.2.2.1 20 = .ok (.iload_n 1, 1) := by decide +kernel
theorem dX12_lop_21 : decode mX12_lop.2.2.1 21 = .ok (.bipush 100, 2) := by decide +kernel
theorem dX12_lop_23 : decode mX12_lop.2.2.1 23 = .ok (.idiv, 1) := by decide +kernel
theorem dX12_lop_24 : decode mX12_lop.2.2.1 24 = .ok (.istore_n 3, 1) := by decide +kernel
theorem dX12_lop_25 : decode mX12_lop.2.2.1 25 = .ok (.aload_n 0, 1) := by decide +kernel
theorem dX12_lop_26 : decode mX12_lop.2.2.1 26 = .ok (.getfield 98, 3) := by decide +kernel
theorem dX12_lop_29 : decode mX12_lop.2.2.1 29 = .ok (.iload_n 3, 1) := by decide +kernel
theorem dX12_lop_30 : decode mX12_lop.2.2.1 30 = .ok (.invokestatic 189, 3) := by decide +kernel
theorem dX12_lop_33 : decode mX12_lop.2.2.1 33 = .ok (.ifCond .ne 6, 3) := by decide +kernel
theorem dX12_lop_36 : decode mX12_lop.2.2.1 36 = .ok (.bipush (-2), 2) := by decide +kernel
theorem dX12_lop_38 : decode mX12_lop.2.2.1 38 = .ok (.ireturn, 1) := by decide +kernel
theorem dX12_lop_39 : decode mX12_lop.2.2.1 39 = .ok (.aload_n 0, 1) := by decide +kernel
theorem dX12_lop_40 : decode mX12_lop.2.2.1 40 = .ok (.getfield 9, 3) := by decide +kernel
theorem dX12_lop_43 : decode mX12_lop.2.2.1 43 = .ok (.bipush 6, 2) := by decide +kernel
theorem dX12_lop_45 : decode mX12_lop.2.2.1 45 = .ok (.iload_n 3, 1) := by decide +kernel
theorem dX12_lop_46 : decode mX12_lop.2.2.1 46 = .ok (.iadd, 1) := by decide +kernel
theorem dX12_lop_47 : decode mX12_lop.2.2.1 47 = .ok (.iaload, 1) := by decide +kernel
theorem dX12_lop_48 : decode mX12_lop.2.2.1 48 = .ok (.istore 4, 2) := by decide +kernel
theorem dX12_lop_50 : decode mX12_lop.2.2.1 50 = .ok (.bipush (-2), 2) := by decide +kernel
theorem dX12_lop_52 : decode mX12_lop.2.2.1 52 = .ok (.istore 5, 2) := by decide +kernel
theorem dX12_lop_54 : decode mX12_lop.2.2.1 54 = .ok (.iconst 0, 1) := by decide +kernel
theorem dX12_lop_55 : decode mX12_lop.2.2.1 55 = .ok (.istore 6, 2) := by decide +kernel
theorem dX12_lop_57 : decode mX12_lop.2.2.1 57 = .ok (.iload 5, 2) := by decide +kernel
theorem dX12_lop_59 : decode mX12_lop.2.2.1 59 = .ok (.ifCond .ge 95, 3) := by decide +kernel
theorem dX12_lop_62 : decode mX12_lop.2.2.1 62 = .ok (.iload_n 2, 1) := by decide +kernel
theorem dX12_lop_63 : decode mX12_lop.2.2.1 63 = .ok (.ifCond .ne 12, 3) := by decide +kernel
theorem dX12_lop_66 : decode mX12_lop.2.2.1 66 = .ok (.iload 4, 2) := by decide +kernel
theorem dX12_lop_68 : decode mX12_lop.2.2.1 68 = .ok (.iload 6, 2) := by decide +kernel
theorem dX12_lop_70 : decode mX12_lop.2.2.1 70 = .ok (.isub, 1) := by decide +kernel
theorem dX12_lop_71 : decode mX12_lop.2.2.1 71 = .ok (.i2l, 1) := by decide +kernel
theorem dX12_lop_72 : decode mX12_lop.2.2.1 72 = .ok (.goto 9, 3) := by decide +kernel
theorem dX12_lop_75 : decode mX12_lop.2.2.1 75 = .ok (.iload 4, 2) := by decide +kernel
theorem dX12_lop_77 : decode mX12_lop.2.2.1 77 = .ok (.iload 6, 2) := by decide +kernel
theorem dX12_lop_79 : decode mX12_lop.2.2.1 79 = .ok (.iadd, 1) := by decide +kernel
theorem dX12_lop_80 : decode mX12_lop.2.2.1 80 = .ok (.i2l, 1) := by decide +kernel
theorem dX12_lop_81 : decode mX12_lop.2.2.1 81 = .ok (.lconst 1, 1) := by decide +kernel
theorem dX12_lop_82 : decode mX12_lop.2.2.1 82 = .ok (.ldc2_w 96, 3) := by decide +kernel
theorem dX12_lop_85 : decode mX12_lop.2.2.1 85 = .ok (.invokestatic 75, 3) := by decide +kernel
theorem dX12_lop_88 : decode mX12_lop.2.2.1 88 = .ok (.ifCond .eq 66, 3) := by decide +kernel
theorem dX12_lop_91 : decode mX12_lop.2.2.1 91 = .ok (.aload_n 0, 1) := by decide +kernel
theorem dX12_lop_92 : decode mX12_lop.2.2.1 92 = .ok (.getfield 9, 3) := by decide +kernel
theorem dX12_lop_95 : decode mX12_lop.2.2.1 95 = .ok (.bipush 6, 2) := by decide +kernel
theorem dX12_lop_97 : decode mX12_lop.2.2.1 97 = .ok (.iload_n 3, 1) := by decide +kernel
theorem dX12_lop_98 : decode mX12_lop.2.2.1 98 = .ok (.iadd, 1) := by decide +kernel
theorem dX12_lop_99 : decode mX12_lop.2.2.1 99 = .ok (.iload_n 2, 1) := by decide +kernel
theorem dX12_lop_100 : decode mX12_lop.2.2.1 100 = .ok (.ifCond .ne 11, 3) := by decide +kernel
theorem dX12_lop_103 : decode mX12_lop.2.2.1 103 = .ok (.iload 4, 2) := by decide +kernel
theorem dX12_lop_105 : decode mX12_lop.2.2.1 105 = .ok (.iload 6, 2) := by decide +kernel
theorem dX12_lop_107 : decode mX12_lop.2.2.1 107 = .ok (.isub, 1) := by decide +kernel
theorem dX12_lop_108 : decode mX12_lop.2.2.1 108 = .ok (.goto 8, 3) := by decide +kernel
theorem dX12_lop_111 : decode mX12_lop.2.2.1 111 = .ok (.iload 4, 2) := by decide +kernel
theorem dX12_lop_113 : decode mX12_lop.2.2.1 113 = .ok (.iload 6, 2) := by decide +kernel
theorem dX12_lop_115 : decode mX12_lop.2.2.1 115 = .ok (.iadd, 1) := by decide +kernel
theorem dX12_lop_116 : decode mX12_lop.2.2.1 116 = .ok (.iastore, 1) := by decide +kernel
theorem dX12_lop_117 : decode mX12_lop.2.2.1 117 = .ok (.aload_n 0, 1) := by decide +kernel
theorem dX12_lop_118 : decode mX12_lop.2.2.1 118 = .ok (.iload_n 3, 1) := by decide +kernel
theorem dX12_lop_119 : decode mX12_lop.2.2.1 119 = .ok (.iload_n 1, 1) := by decide +kernel
theorem dX12_lop_120 : decode mX12_lop.2.2.1 120 = .ok (.bipush 100, 2) := by decide +kernel
theorem dX12_lop_122 : decode mX12_lop.2.2.1 122 = .ok (.irem, 1) := by decide +kernel
theorem dX12_lop_123 : decode mX12_lop.2.2.1 123 = .ok (.invokevirtual 218, 3) := by decide +kernel
theorem dX12_lop_126 : decode mX12_lop.2.2.1 126 = .ok (.iload_n 2, 1) := by decide +kernel
theorem dX12_lop_127 : decode mX12_lop.2.2.1 127 = .ok (.iconst 1, 1) := by decide +kernel
theorem dX12_lop_128 : decode mX12_lop.2.2.1 128 = .ok (.if_icmp .ne 7, 3) := by decide +kernel
theorem dX12_lop_131 : decode mX12_lop.2.2.1 131 = .ok (.iconst 1, 1) := by decide +kernel
theorem dX12_lop_132 : decode mX12_lop.2.2.1 132 = .ok (.goto 4, 3) := by decide +kernel
theorem dX12_lop_135 : decode mX12_lop.2.2.1 135 = .ok (.iconst 0, 1) := by decide +kernel
theorem dX12_lop_136 : decode mX12_lop.2.2.1 136 = .ok (.if_icmp .ne 8, 3) := by decide +kernel
theorem dX12_lop_139 : decode mX12_lop.2.2.1 139 = .ok (.iload 6, 2) := by decide +kernel
theorem dX12_lop_141 : decode mX12_lop.2.2.1 141 = .ok (.goto 5, 3) := by decide +kernel
theorem dX12_lop_144 : decode mX12_lop.2.2.1 144 = .ok (.bipush (-2), 2) := by decide +kernel
theorem dX12_lop_146 : decode mX12_lop.2.2.1 146 = .ok (.istore 5, 2) := by decide +kernel
theorem dX12_lop_148 : decode mX12_lop.2.2.1 148 = .ok (.iinc 6 1, 3) := by decide +kernel
theorem dX12_lop_151 : decode mX12_lop.2.2.1 151 = .ok (.goto (-94), 3) := by decide +kernel
theorem dX12_lop_154 : decode mX12_lop.2.2.1 154 = .ok (.aload_n 0, 1) := by decide +kernel
theorem dX12_lop_155 : decode mX12_lop.2.2.1 155 = .ok (.getfield 9, 3) := by decide +kernel
theorem dX12_lop_158 : decode mX12_lop.2.2.1 158 = .ok (.bipush 6, 2) := by decide +kernel
theorem dX12_lop_160 : decode mX12_lop.2.2.1 160 = .ok (.iload_n 3, 1) := by decide +kernel
theorem dX12_lop_161 : decode mX12_lop.2.2.1 161 = .ok (.iadd, 1) := by decide +kernel
theorem dX12_lop_162 : decode mX12_lop.2.2.1 162 = .ok (.iload 4, 2) := by decide +kernel
theorem dX12_lop_164 : decode mX12_lop.2.2.1 164 = .ok (.iastore, 1) := by decide +kernel
theorem dX12_lop_165 : decode mX12_lop.2.2.1 165 = .ok (.iload 5, 2) := by decide +kernel
theorem dX12_lop_167 : decode mX12_lop.2.2.1 167 = .ok (.ireturn, 1) := by decide +kernel
set_option maxHeartbeats 100000 in
theorem kX12_lop_0 {d : Nat} {F : am_FT} {L : am_LT} {Q : am_QT} {l2 l3 l4 l5 l6 : Option Value} {x1 : Int32} : wt am_S0 (d + 1) mX12_lop 0 [some (.ref 45), some (.int x1), l2, l3, l4, l5, l6] [] F L Q = wc am_S0 d mX12_isTm [.ref 45, .int x1] F L (fun r G K => wt am_S0 (d + 1) mX12_lop 5 [some (.ref 45), some (.int x1), l2, l3, l4, l5, l6] (r.toList ++ []) G K Q) := (wt_aload_n dX12_lop_0 rfl rfl).trans ((wt_iload_n dX12_lop_1 rfl).trans (wt_callV dX12_lop_2 rfl (as := [.int x1]) (rest := []) rfl rfl (Nat.le_of_ble_eq_true rfl) rfl (Nat.le_of_ble_eq_true rfl)))
set_option maxHeartbeats 100000 in
theorem kX12_lop_5 {d : Nat} {F : am_FT} {L : am_LT} {Q : am_QT} {l0 l1 l2 l3 l4 l5 l6 : Option Value} {s0 : Int32} : wt am_S0 d mX12_lop 5 [l0, l1, l2, l3, l4, l5, l6] [.int s0] F L Q = if s0 = 0 then wt am_S0 d mX12_lop 18 [l0, l1, l2, l3, l4, l5, l6] [] F L Q else wt am_S0 d mX12_lop 8 [l0, l1, l2, l3, l4, l5, l6] [] F L Q := wt_ifCond_eq dX12_lop_5 (t := 18) rfl
set_option maxHeartbeats 100000 in
theorem kX12_lop_8 {d : Nat} {F : am_FT} {L : am_LT} {Q : am_QT} {l0 l1 l3 l4 l5 l6 : Option Value} {x2 : Int32} : wt am_S0 (d + 1) mX12_lop 8 [l0, l1, some (.int x2), l3, l4, l5, l6] [] F L Q = wc am_S0 d mX12_within [.long (Int32.toInt64 x2), .long 0, .long 1] F L (fun r G K => wt am_S0 (d + 1) mX12_lop 15 [l0, l1, some (.int x2), l3, l4, l5, l6] (r.toList ++ []) G K Q) := (wt_iload_n dX12_lop_8 rfl).trans ((wt_i2l dX12_lop_9).trans ((wt_lconst dX12_lop_10 (v := 0) (by decide)).trans ((wt_lconst dX12_lop_11 (v := 1) (by decide)).trans (wt_callS dX12_lop_12 rfl (as := [.long (Int32.toInt64 x2), .long 0, .long 1]) (rest := []) rfl rfl (Nat.le_of_ble_eq_true rfl) (Nat.le_of_ble_eq_true rfl)))))
set_option maxHeartbeats 100000 in
theorem kX12_lop_15 {d : Nat} {F : am_FT} {L : am_LT} {Q : am_QT} {l0 l1 l2 l3 l4 l5 l6 : Option Value} {s0 : Int32} : wt am_S0 d mX12_lop 15 [l0, l1, l2, l3, l4, l5, l6] [.int s0] F L Q = if ¬ s0 = 0 then wt am_S0 d mX12_lop 20 [l0, l1, l2, l3, l4, l5, l6] [] F L Q else wt am_S0 d mX12_lop 18 [l0, l1, l2, l3, l4, l5, l6] [] F L Q := wt_ifCond_ne dX12_lop_15 (t := 20) rfl
set_option maxHeartbeats 100000 in
theorem kX12_lop_18 {d : Nat} {F : am_FT} {L : am_LT} {Q : am_QT} {l0 l1 l2 l3 l4 l5 l6 : Option Value} : wt am_S0 d mX12_lop 18 [l0, l1, l2, l3, l4, l5, l6] [] F L Q = Q (some (.int (-1))) F L := (wt_iconst dX12_lop_18 (v := (-1)) (by decide)).trans (wt_ireturn dX12_lop_19 rfl rfl)
set_option maxHeartbeats 100000 in
theorem kX12_lop_20 {d : Nat} {F : am_FT} {L : am_LT} {Q : am_QT} {l3 l4 l5 l6 : Option Value} {x1 x2 : Int32} : wt am_S0 (d + 1) mX12_lop 20 [some (.ref 45), some (.int x1), some (.int x2), l3, l4, l5, l6] [] F L Q = wc am_S0 d mX12_isIn [.int (F 45 8), .int (x1 / 100)] F L (fun r G K => wt am_S0 (d + 1) mX12_lop 33 [some (.ref 45), some (.int x1), some (.int x2), some (.int (x1 / 100)), l4, l5, l6] (r.toList ++ []) G K Q) := (wt_iload_n dX12_lop_20 rfl).trans ((wt_bipush dX12_lop_21 (v := 100) (by decide)).trans ((wt_idiv dX12_lop_23 (by decide)).trans ((wt_istore_n dX12_lop_24 (lv1 := [some (.ref 45), some (.int x1), some (.int x2), some (.int (x1 / 100)), l4, l5, l6]) (Nat.le_of_ble_eq_true rfl) rfl).trans ((wt_aload_n dX12_lop_25 rfl rfl).trans ((wt_getfield dX12_lop_26 rfl rfl (v := .int (F 45 8)) rfl).trans ((wt_iload_n dX12_lop_29 rfl).trans (wt_callS dX12_lop_30 rfl (as := [.int (F 45 8), .int (x1 / 100)]) (rest := []) rfl rfl (Nat.le_of_ble_eq_true rfl) (Nat.le_of_ble_eq_true rfl))))))))
set_option maxHeartbeats 100000 in
theorem kX12_lop_33 {d : Nat} {F : am_FT} {L : am_LT} {Q : am_QT} {l0 l1 l2 l3 l4 l5 l6 : Option Value} {s0 : Int32} : wt am_S0 d mX12_lop 33 [l0, l1, l2, l3, l4, l5, l6] [.int s0] F L Q = if ¬ s0 = 0 then wt am_S0 d mX12_lop 39 [l0, l1, l2, l3, l4, l5, l6] [] F L Q else wt am_S0 d mX12_lop 36 [l0, l1, l2, l3, l4, l5, l6] [] F L Q := wt_ifCond_ne dX12_lop_33 (t := 39) rfl
set_option maxHeartbeats 100000 in
theorem kX12_lop_36 {d : Nat} {F : am_FT} {L : am_LT} {Q : am_QT} {l0 l1 l2 l3 l4 l5 l6 : Option Value} : wt am_S0 d mX12_lop 36 [l0, l1, l2, l3, l4, l5, l6] [] F L Q = Q (some (.int (-2))) F L := (wt_bipush dX12_lop_36 (v := (-2)) (by decide)).trans (wt_ireturn dX12_lop_38 rfl rfl)
set_option maxHeartbeats 100000 in
theorem kX12_lop_39 {d : Nat} {F : am_FT} {L : am_LT} {Q : am_QT} {l1 l2 l4 l5 l6 : Option Value} {x3 : Int32} (h1 : am_oob (6 + x3) 60 = false) : wt am_S0 d mX12_lop 39 [some (.ref 45), l1, l2, some (.int x3), l4, l5, l6] [] F L Q = wt am_S0 d mX12_lop 57 [some (.ref 45), l1, l2, some (.int x3), some (.int (F 46 (Int32.toNatClampNeg (6 + x3)))), some (.int (-2)), some (.int 0)] [] F L Q := (wt_aload_n dX12_lop_39 rfl rfl).trans ((wt_getfield dX12_lop_40 rfl rfl (v := .ref 46) rfl).trans ((wt_bipush dX12_lop_43 (v := 6) (by decide)).trans ((wt_iload_n dX12_lop_45 rfl).trans ((wt_iadd dX12_lop_46).trans ((wt_iaload dX12_lop_47 rfl (by decide) h1).trans ((wt_istore dX12_lop_48 (lv1 := [some (.ref 45), l1, l2, some (.int x3), some (.int (F 46 (Int32.toNatClampNeg (6 + x3)))), l5, l6]) (Nat.le_of_ble_eq_true rfl) rfl).trans ((wt_bipush dX12_lop_50 (v := (-2)) (by decide)).trans ((wt_istore dX12_lop_52 (lv1 := [some (.ref 45), l1, l2, some (.int x3), some (.int (F 46 (Int32.toNatClampNeg (6 + x3)))), some (.int (-2)), l6]) (Nat.le_of_ble_eq_true rfl) rfl).trans ((wt_iconst dX12_lop_54 (v := 0) (by decide)).trans (wt_istore dX12_lop_55 (lv1 := [some (.ref 45), l1, l2, some (.int x3), some (.int (F 46 (Int32.toNatClampNeg (6 + x3)))), some (.int (-2)), some (.int 0)]) (Nat.le_of_ble_eq_true rfl) rfl))))))))))
set_option maxHeartbeats 100000 in
theorem kX12_lop_57 {d : Nat} {F : am_FT} {L : am_LT} {Q : am_QT} {l0 l1 l2 l3 l4 l6 : Option Value} {x5 : Int32} : wt am_S0 d mX12_lop 57 [l0, l1, l2, l3, l4, some (.int x5), l6] [] F L Q = if 0 ≤ x5 then wt am_S0 d mX12_lop 154 [l0, l1, l2, l3, l4, some (.int x5), l6] [] F L Q else wt am_S0 d mX12_lop 62 [l0, l1, l2, l3, l4, some (.int x5), l6] [] F L Q := (wt_iload dX12_lop_57 rfl).trans (wt_ifCond_ge dX12_lop_59 (t := 154) rfl)
set_option maxHeartbeats 100000 in
theorem kX12_lop_62 {d : Nat} {F : am_FT} {L : am_LT} {Q : am_QT} {l0 l1 l3 l4 l5 l6 : Option Value} {x2 : Int32} : wt am_S0 d mX12_lop 62 [l0, l1, some (.int x2), l3, l4, l5, l6] [] F L Q = if ¬ x2 = 0 then wt am_S0 d mX12_lop 75 [l0, l1, some (.int x2), l3, l4, l5, l6] [] F L Q else wt am_S0 d mX12_lop 66 [l0, l1, some (.int x2), l3, l4, l5, l6] [] F L Q := (wt_iload_n dX12_lop_62 rfl).trans (wt_ifCond_ne dX12_lop_63 (t := 75) rfl)
set_option maxHeartbeats 100000 in
theorem kX12_lop_66 {d : Nat} {F : am_FT} {L : am_LT} {Q : am_QT} {l0 l1 l2 l3 l5 : Option Value} {x4 x6 : Int32} : wt am_S0 d mX12_lop 66 [l0, l1, l2, l3, some (.int x4), l5, some (.int x6)] [] F L Q = wt am_S0 d mX12_lop 81 [l0, l1, l2, l3, some (.int x4), l5, some (.int x6)] [.long (Int32.toInt64 (x4 - x6))] F L Q := (wt_iload dX12_lop_66 rfl).trans ((wt_iload dX12_lop_68 rfl).trans ((wt_isub dX12_lop_70).trans ((wt_i2l dX12_lop_71).trans (wt_goto dX12_lop_72 (t := 81) rfl))))
set_option maxHeartbeats 100000 in
theorem kX12_lop_75 {d : Nat} {F : am_FT} {L : am_LT} {Q : am_QT} {l0 l1 l2 l3 l5 : Option Value} {x4 x6 : Int32} : wt am_S0 d mX12_lop 75 [l0, l1, l2, l3, some (.int x4), l5, some (.int x6)] [] F L Q = wt am_S0 d mX12_lop 81 [l0, l1, l2, l3, some (.int x4), l5, some (.int x6)] [.long (Int32.toInt64 (x4 + x6))] F L Q := (wt_iload dX12_lop_75 rfl).trans ((wt_iload dX12_lop_77 rfl).trans ((wt_iadd dX12_lop_79).trans (wt_i2l dX12_lop_80)))
set_option maxHeartbeats 100000 in
theorem kX12_lop_81 {d : Nat} {F : am_FT} {L : am_LT} {Q : am_QT} {l0 l1 l2 l3 l4 l5 l6 : Option Value} {s0 : Int64} : wt am_S0 (d + 1) mX12_lop 81 [l0, l1, l2, l3, l4, l5, l6] [.long s0] F L Q = wc am_S0 d mX12_within [.long s0, .long 1, .long 9] F L (fun r G K => wt am_S0 (d + 1) mX12_lop 88 [l0, l1, l2, l3, l4, l5, l6] (r.toList ++ []) G K Q) := (wt_lconst dX12_lop_81 (v := 1) (by decide)).trans ((wt_ldc2_w dX12_lop_82 (v := 9) rfl).trans (wt_callS dX12_lop_85 rfl (as := [.long s0, .long 1, .long 9]) (rest := []) rfl rfl (Nat.le_of_ble_eq_true rfl) (Nat.le_of_ble_eq_true rfl)))
set_option maxHeartbeats 100000 in
theorem kX12_lop_88 {d : Nat} {F : am_FT} {L : am_LT} {Q : am_QT} {l0 l1 l2 l3 l4 l5 l6 : Option Value} {s0 : Int32} : wt am_S0 d mX12_lop 88 [l0, l1, l2, l3, l4, l5, l6] [.int s0] F L Q = if s0 = 0 then wt am_S0 d mX12_lop 154 [l0, l1, l2, l3, l4, l5, l6] [] F L Q else wt am_S0 d mX12_lop 91 [l0, l1, l2, l3, l4, l5, l6] [] F L Q := wt_ifCond_eq dX12_lop_88 (t := 154) rfl
set_option maxHeartbeats 100000 in
theorem kX12_lop_91 {d : Nat} {F : am_FT} {L : am_LT} {Q : am_QT} {l1 l4 l5 l6 : Option Value} {x3 x2 : Int32} : wt am_S0 d mX12_lop 91 [some (.ref 45), l1, some (.int x2), some (.int x3), l4, l5, l6] [] F L Q = if ¬ x2 = 0 then wt am_S0 d mX12_lop 111 [some (.ref 45), l1, some (.int x2), some (.int x3), l4, l5, l6] [.int (6 + x3), .ref 46] F L Q else wt am_S0 d mX12_lop 103 [some (.ref 45), l1, some (.int x2), some (.int x3), l4, l5, l6] [.int (6 + x3), .ref 46] F L Q := (wt_aload_n dX12_lop_91 rfl rfl).trans ((wt_getfield dX12_lop_92 rfl rfl (v := .ref 46) rfl).trans ((wt_bipush dX12_lop_95 (v := 6) (by decide)).trans ((wt_iload_n dX12_lop_97 rfl).trans ((wt_iadd dX12_lop_98).trans ((wt_iload_n dX12_lop_99 rfl).trans (wt_ifCond_ne dX12_lop_100 (t := 111) rfl))))))
set_option maxHeartbeats 100000 in
theorem kX12_lop_103 {d : Nat} {F : am_FT} {L : am_LT} {Q : am_QT} {l0 l1 l2 l3 l5 : Option Value} {s1 x4 x6 : Int32} : wt am_S0 d mX12_lop 103 [l0, l1, l2, l3, some (.int x4), l5, some (.int x6)] [.int s1, .ref 46] F L Q = wt am_S0 d mX12_lop 116 [l0, l1, l2, l3, some (.int x4), l5, some (.int x6)] [.int (x4 - x6), .int s1, .ref 46] F L Q := (wt_iload dX12_lop_103 rfl).trans ((wt_iload dX12_lop_105 rfl).trans ((wt_isub dX12_lop_107).trans (wt_goto dX12_lop_108 (t := 116) rfl)))
set_option maxHeartbeats 100000 in
theorem kX12_lop_111 {d : Nat} {F : am_FT} {L : am_LT} {Q : am_QT} {l0 l1 l2 l3 l5 : Option Value} {s1 x4 x6 : Int32} : wt am_S0 d mX12_lop 111 [l0, l1, l2, l3, some (.int x4), l5, some (.int x6)] [.int s1, .ref 46] F L Q = wt am_S0 d mX12_lop 116 [l0, l1, l2, l3, some (.int x4), l5, some (.int x6)] [.int (x4 + x6), .int s1, .ref 46] F L Q := (wt_iload dX12_lop_111 rfl).trans ((wt_iload dX12_lop_113 rfl).trans (wt_iadd dX12_lop_115))
set_option maxHeartbeats 100000 in
theorem kX12_lop_116 {d : Nat} {F : am_FT} {L : am_LT} {Q : am_QT} {l2 l4 l5 l6 : Option Value} {s1 s2 x3 x1 : Int32} (h1 : am_oob s1 60 = false) : wt am_S0 (d + 1) mX12_lop 116 [some (.ref 45), some (.int x1), l2, some (.int x3), l4, l5, l6] [.int s2, .int s1, .ref 46] F L Q = wc am_S0 d mX12_fallsNow [.ref 45, .int x3, .int (x1 - x1 / 100 * 100)] (am_upF F 46 (Int32.toNatClampNeg s1) s2) L (fun r G K => wt am_S0 (d + 1) mX12_lop 126 [some (.ref 45), some (.int x1), l2, some (.int x3), l4, l5, l6] (r.toList ++ []) G K Q) := (wt_iastore dX12_lop_116 rfl h1).trans ((wt_aload_n dX12_lop_117 rfl rfl).trans ((wt_iload_n dX12_lop_118 rfl).trans ((wt_iload_n dX12_lop_119 rfl).trans ((wt_bipush dX12_lop_120 (v := 100) (by decide)).trans ((wt_irem dX12_lop_122 (by decide)).trans (wt_callV dX12_lop_123 rfl (as := [.int x3, .int (x1 - x1 / 100 * 100)]) (rest := []) rfl rfl (Nat.le_of_ble_eq_true rfl) rfl (Nat.le_of_ble_eq_true rfl)))))))
set_option maxHeartbeats 100000 in
theorem kX12_lop_126 {d : Nat} {F : am_FT} {L : am_LT} {Q : am_QT} {l0 l1 l3 l4 l5 l6 : Option Value} {s0 x2 : Int32} : wt am_S0 d mX12_lop 126 [l0, l1, some (.int x2), l3, l4, l5, l6] [.int s0] F L Q = if ¬ x2 = 1 then wt am_S0 d mX12_lop 135 [l0, l1, some (.int x2), l3, l4, l5, l6] [.int s0] F L Q else wt am_S0 d mX12_lop 131 [l0, l1, some (.int x2), l3, l4, l5, l6] [.int s0] F L Q := (wt_iload_n dX12_lop_126 rfl).trans ((wt_iconst dX12_lop_127 (v := 1) (by decide)).trans (wt_if_icmp_ne dX12_lop_128 (t := 135) rfl))
set_option maxHeartbeats 100000 in
theorem kX12_lop_131 {d : Nat} {F : am_FT} {L : am_LT} {Q : am_QT} {l0 l1 l2 l3 l4 l5 l6 : Option Value} {s0 : Int32} : wt am_S0 d mX12_lop 131 [l0, l1, l2, l3, l4, l5, l6] [.int s0] F L Q = wt am_S0 d mX12_lop 136 [l0, l1, l2, l3, l4, l5, l6] [.int 1, .int s0] F L Q := (wt_iconst dX12_lop_131 (v := 1) (by decide)).trans (wt_goto dX12_lop_132 (t := 136) rfl)
set_option maxHeartbeats 100000 in
theorem kX12_lop_135 {d : Nat} {F : am_FT} {L : am_LT} {Q : am_QT} {l0 l1 l2 l3 l4 l5 l6 : Option Value} {s0 : Int32} : wt am_S0 d mX12_lop 135 [l0, l1, l2, l3, l4, l5, l6] [.int s0] F L Q = wt am_S0 d mX12_lop 136 [l0, l1, l2, l3, l4, l5, l6] [.int 0, .int s0] F L Q := wt_iconst dX12_lop_135 (v := 0) (by decide)
set_option maxHeartbeats 100000 in
theorem kX12_lop_136 {d : Nat} {F : am_FT} {L : am_LT} {Q : am_QT} {l0 l1 l2 l3 l4 l5 l6 : Option Value} {s0 s1 : Int32} : wt am_S0 d mX12_lop 136 [l0, l1, l2, l3, l4, l5, l6] [.int s1, .int s0] F L Q = if ¬ s0 = s1 then wt am_S0 d mX12_lop 144 [l0, l1, l2, l3, l4, l5, l6] [] F L Q else wt am_S0 d mX12_lop 139 [l0, l1, l2, l3, l4, l5, l6] [] F L Q := wt_if_icmp_ne dX12_lop_136 (t := 144) rfl
set_option maxHeartbeats 100000 in
theorem kX12_lop_139 {d : Nat} {F : am_FT} {L : am_LT} {Q : am_QT} {l0 l1 l2 l3 l4 l5 : Option Value} {x6 : Int32} : wt am_S0 d mX12_lop 139 [l0, l1, l2, l3, l4, l5, some (.int x6)] [] F L Q = wt am_S0 d mX12_lop 146 [l0, l1, l2, l3, l4, l5, some (.int x6)] [.int x6] F L Q := (wt_iload dX12_lop_139 rfl).trans (wt_goto dX12_lop_141 (t := 146) rfl)
set_option maxHeartbeats 100000 in
theorem kX12_lop_144 {d : Nat} {F : am_FT} {L : am_LT} {Q : am_QT} {l0 l1 l2 l3 l4 l5 l6 : Option Value} : wt am_S0 d mX12_lop 144 [l0, l1, l2, l3, l4, l5, l6] [] F L Q = wt am_S0 d mX12_lop 146 [l0, l1, l2, l3, l4, l5, l6] [.int (-2)] F L Q := wt_bipush dX12_lop_144 (v := (-2)) (by decide)
set_option maxHeartbeats 100000 in
theorem kX12_lop_146 {d : Nat} {F : am_FT} {L : am_LT} {Q : am_QT} {l0 l1 l2 l3 l5 : Option Value} {s0 x4 x6 : Int32} : wt am_S0 d mX12_lop 146 [l0, l1, l2, l3, some (.int x4), l5, some (.int x6)] [.int s0] F L Q = wt am_S0 d mX12_lop 57 [l0, l1, l2, l3, some (.int x4), some (.int s0), some (.int (x6 + 1))] [] F L Q := (wt_istore dX12_lop_146 (lv1 := [l0, l1, l2, l3, some (.int x4), some (.int s0), some (.int x6)]) (Nat.le_of_ble_eq_true rfl) rfl).trans ((wt_iinc dX12_lop_148 (v := 1) (lv1 := [l0, l1, l2, l3, some (.int x4), some (.int s0), some (.int (x6 + 1))]) rfl (Nat.le_of_ble_eq_true rfl) (by decide) rfl).trans (wt_goto dX12_lop_151 (t := 57) rfl))
set_option maxHeartbeats 100000 in
theorem kX12_lop_154 {d : Nat} {F : am_FT} {L : am_LT} {Q : am_QT} {l1 l2 l6 : Option Value} {x3 x4 x5 : Int32} (h1 : am_oob (6 + x3) 60 = false) : wt am_S0 d mX12_lop 154 [some (.ref 45), l1, l2, some (.int x3), some (.int x4), some (.int x5), l6] [] F L Q = Q (some (.int x5)) (am_upF F 46 (Int32.toNatClampNeg (6 + x3)) x4) L := (wt_aload_n dX12_lop_154 rfl rfl).trans ((wt_getfield dX12_lop_155 rfl rfl (v := .ref 46) rfl).trans ((wt_bipush dX12_lop_158 (v := 6) (by decide)).trans ((wt_iload_n dX12_lop_160 rfl).trans ((wt_iadd dX12_lop_161).trans ((wt_iload dX12_lop_162 rfl).trans ((wt_iastore dX12_lop_164 rfl h1).trans ((wt_iload dX12_lop_165 rfl).trans (wt_ireturn dX12_lop_167 rfl rfl))))))))
theorem dX12_byTurns_0 : decode mX12_byTurns.2.2.1 0 = .ok (.aload_n 0, 1) := by decide +kernel
theorem dX12_byTurns_1 : decode mX12_byTurns.2.2.1 1 = .ok (.iload_n 1, 1) := by decide +kernel
theorem dX12_byTurns_2 : decode mX12_byTurns.2.2.1 2 = .ok (.invokevirtual 212, 3) := by decide +kernel
theorem dX12_byTurns_5 : decode mX12_byTurns.2.2.1 5 = .ok (.ifCond .eq 35, 3) := by decide +kernel
theorem dX12_byTurns_8 : decode mX12_byTurns.2.2.1 8 = .ok (.iload_n 2, 1) := by decide +kernel
theorem dX12_byTurns_9 : decode mX12_byTurns.2.2.1 9 = .ok (.ifCond .lt 31, 3) := by decide +kernel
theorem dX12_byTurns_12 : decode mX12_byTurns.2.2.1 12 = .ok (.iload_n 2, 1) := by decide +kernel
theorem dX12_byTurns_13 : decode mX12_byTurns.2.2.1 13 = .ok (.bipush 10, 2) := by decide +kernel
theorem dX12_byTurns_15 : decode mX12_byTurns.2.2.1 15 = .ok (.idiv, 1) := by decide +kernel
theorem dX12_byTurns_16 : decode mX12_byTurns.2.2.1 16 = .ok (.i2l, 1) := by decide +kernel
theorem dX12_byTurns_17 : decode mX12_byTurns.2.2.1 17 = .ok (.lconst 1, 1) := by decide +kernel
theorem dX12_byTurns_18 : decode mX12_byTurns.2.2.1 18 = .ok (.ldc2_w 246, 3) := by decide +kernel
theorem dX12_byTurns_21 : decode mX12_byTurns.2.2.1 21 = .ok (.invokestatic 75, 3) := by decide +kernel
theorem dX12_byTurns_24 : decode mX12_byTurns.2.2.1 24 = .ok (.ifCond .eq 16, 3) := by decide +kernel
theorem dX12_byTurns_27 : decode mX12_byTurns.2.2.1 27 = .ok (.iload_n 2, 1) := by decide +kernel
theorem dX12_byTurns_28 : decode mX12_byTurns.2.2.1 28 = .ok (.bipush 10, 2) := by decide +kernel
theorem dX12_byTurns_30 : decode mX12_byTurns.2.2.1 30 = .ok (.irem, 1) := by decide +kernel
theorem dX12_byTurns_31 : decode mX12_byTurns.2.2.1 31 = .ok (.i2l, 1) := by decide +kernel
theorem dX12_byTurns_32 : decode mX12_byTurns.2.2.1 32 = .ok (.lconst 0, 1) := by decide +kernel
theorem dX12_byTurns_33 : decode mX12_byTurns.2.2.1 33 = .ok (.lconst 1, 1) := by decide +kernel
theorem dX12_byTurns_34 : decode mX12_byTurns.2.2.1 34 = .ok (.invokestatic 75, 3) := by decide +kernel
theorem dX12_byTurns_37 : decode mX12_byTurns.2.2.1 37 = .ok (.ifCond .ne 5, 3) := by decide +kernel
theorem dX12_byTurns_40 : decode mX12_byTurns.2.2.1 40 = .ok (.iconst (-1), 1) := by decide +kernel
theorem dX12_byTurns_41 : decode mX12_byTurns.2.2.1 41 = .ok (.ireturn, 1) := by decide +kernel
theorem dX12_byTurns_42 : decode mX12_byTurns.2.2.1 42 = .ok (.iload_n 1, 1) := by decide +kernel
theorem dX12_byTurns_43 : decode mX12_byTurns.2.2.1 43 = .ok (.bipush 100, 2) := by decide +kernel
theorem dX12_byTurns_45 : decode mX12_byTurns.2.2.1 45 = .ok (.idiv, 1) := by decide +kernel
theorem dX12_byTurns_46 : decode mX12_byTurns.2.2.1 46 = .ok (.istore_n 3, 1) := by decide +kernel
theorem dX12_byTurns_47 : decode mX12_byTurns.2.2.1 47 = .ok (.iload_n 1, 1) := by decide +kernel
theorem dX12_byTurns_48 : decode mX12_byTurns.2.2.1 48 = .ok (.bipush 100, 2) := by decide +kernel
theorem dX12_byTurns_50 : decode mX12_byTurns.2.2.1 50 = .ok (.irem, 1) := by decide +kernel
theorem dX12_byTurns_51 : decode mX12_byTurns.2.2.1 51 = .ok (.istore 4, 2) := by decide +kernel
theorem dX12_byTurns_53 : decode mX12_byTurns.2.2.1 53 = .ok (.iload_n 2, 1) := by decide +kernel
theorem dX12_byTurns_54 : decode mX12_byTurns.2.2.1 54 = .ok (.bipush 10, 2) := by decide +kernel
theorem dX12_byTurns_56 : decode mX12_byTurns.2.2.1 56 = .ok (.idiv, 1) := by decide +kernel
theorem dX12_byTurns_57 : decode mX12_byTurns.2.2.1 57 = .ok (.istore 5, 2) := by decide +kernel
theorem dX12_byTurns_59 : decode mX12_byTurns.2.2.1 59 = .ok (.aload_n 0, 1) := by decide +kernel
theorem dX12_byTurns_60 : decode mX12_byTurns.2.2.1 60 = .ok (.iload_n 3, 1) := by decide +kernel
theorem dX12_byTurns_61 : decode mX12_byTurns.2.2.1 61 = .ok (.iload 4, 2) := by decide +kernel
theorem dX12_byTurns_63 : decode mX12_byTurns.2.2.1 63 = .ok (.invokevirtual 215, 3) := by decide +kernel
theorem dX12_byTurns_66 : decode mX12_byTurns.2.2.1 66 = .ok (.istore 6, 2) := by decide +kernel
theorem dX12_byTurns_68 : decode mX12_byTurns.2.2.1 68 = .ok (.aload_n 0, 1) := by decide +kernel
theorem dX12_byTurns_69 : decode mX12_byTurns.2.2.1 69 = .ok (.iload_n 3, 1) := by decide +kernel
theorem dX12_byTurns_70 : decode mX12_byTurns.2.2.1 70 = .ok (.iload 4, 2) := by decide +kernel
theorem dX12_byTurns_72 : decode mX12_byTurns.2.2.1 72 = .ok (.iload 6, 2) := by decide +kernel
theorem dX12_byTurns_74 : decode mX12_byTurns.2.2.1 74 = .ok (.iconst 0, 1) := by decide +kernel
theorem dX12_byTurns_75 : decode mX12_byTurns.2.2.1 75 = .ok (.iload 5, 2) := by decide +kernel
theorem dX12_byTurns_77 : decode mX12_byTurns.2.2.1 77 = .ok (.invokevirtual 242, 3) := by decide +kernel
theorem dX12_byTurns_80 : decode mX12_byTurns.2.2.1 80 = .ok (.istore 7, 2) := by decide +kernel
theorem dX12_byTurns_82 : decode mX12_byTurns.2.2.1 82 = .ok (.iload_n 2, 1) := by decide +kernel
theorem dX12_byTurns_83 : decode mX12_byTurns.2.2.1 83 = .ok (.bipush 10, 2) := by decide +kernel
theorem dX12_byTurns_85 : decode mX12_byTurns.2.2.1 85 = .ok (.irem, 1) := by decide +kernel
theorem dX12_byTurns_86 : decode mX12_byTurns.2.2.1 86 = .ok (.ifCond .ne 14, 3) := by decide +kernel
theorem dX12_byTurns_89 : decode mX12_byTurns.2.2.1 89 = .ok (.iload 7, 2) := by decide +kernel
theorem dX12_byTurns_91 : decode mX12_byTurns.2.2.1 91 = .ok (.ifCond .eq 7, 3) := by decide +kernel
theorem dX12_byTurns_94 : decode mX12_byTurns.2.2.1 94 = .ok (.iconst 1, 1) := by decide +kernel
theorem dX12_byTurns_95 : decode mX12_byTurns.2.2.1 95 = .ok (.goto 4, 3) := by decide +kernel
theorem dX12_byTurns_98 : decode mX12_byTurns.2.2.1 98 = .ok (.iconst 0, 1) := by decide +kernel
theorem dX12_byTurns_99 : decode mX12_byTurns.2.2.1 99 = .ok (.ireturn, 1) := by decide +kernel
theorem dX12_byTurns_100 : decode mX12_byTurns.2.2.1 100 = .ok (.iconst 0, 1) := by decide +kernel
theorem dX12_byTurns_101 : decode mX12_byTurns.2.2.1 101 = .ok (.istore 8, 2) := by decide +kernel
theorem dX12_byTurns_103 : decode mX12_byTurns.2.2.1 103 = .ok (.iload 8, 2) := by decide +kernel
theorem dX12_byTurns_105 : decode mX12_byTurns.2.2.1 105 = .ok (.aload_n 0, 1) := by decide +kernel
theorem dX12_byTurns_106 : decode mX12_byTurns.2.2.1 106 = .ok (.getfield 79, 3) := by decide +kernel
theorem dX12_byTurns_109 : decode mX12_byTurns.2.2.1 109 = .ok (.if_icmp .ge 34, 3) := by decide +kernel
theorem dX12_byTurns_112 : decode mX12_byTurns.2.2.1 112 = .ok (.aload_n 0, 1) := by decide +kernel
theorem dX12_byTurns_113 : decode mX12_byTurns.2.2.1 113 = .ok (.iload_n 3, 1) := by decide +kernel
theorem dX12_byTurns_114 : decode mX12_byTurns.2.2.1 114 = .ok (.iload 4, 2) := by decide +kernel
theorem dX12_byTurns_116 : decode mX12_byTurns.2.2.1 116 = .ok (.iload 6, 2) := by decide +kernel
theorem dX12_byTurns_118 : decode mX12_byTurns.2.2.1 118 = .ok (.iconst 1, 1) := by decide +kernel
theorem dX12_byTurns_119 : decode mX12_byTurns.2.2.1 119 = .ok (.iload 8, 2) := by decide +kernel
theorem dX12_byTurns_121 : decode mX12_byTurns.2.2.1 121 = .ok (.ishl, 1) := by decide +kernel
theorem dX12_byTurns_122 : decode mX12_byTurns.2.2.1 122 = .ok (.ixor, 1) := by decide +kernel
theorem dX12_byTurns_123 : decode mX12_byTurns.2.2.1 123 = .ok (.iconst 1, 1) := by decide +kernel
theorem dX12_byTurns_124 : decode mX12_byTurns.2.2.1 124 = .ok (.iload 5, 2) := by decide +kernel
theorem dX12_byTurns_126 : decode mX12_byTurns.2.2.1 126 = .ok (.invokevirtual 242, 3) := by decide +kernel
theorem dX12_byTurns_129 : decode mX12_byTurns.2.2.1 129 = .ok (.iload 7, 2) := by decide +kernel
theorem dX12_byTurns_131 : decode mX12_byTurns.2.2.1 131 = .ok (.if_icmp .ne 6, 3) := by decide +kernel
theorem dX12_byTurns_134 : decode mX12_byTurns.2.2.1 134 = .ok (.iload 8, 2) := by decide +kernel
theorem dX12_byTurns_136 : decode mX12_byTurns.2.2.1 136 = .ok (.ireturn, 1) := by decide +kernel
theorem dX12_byTurns_137 : decode mX12_byTurns.2.2.1 137 = .ok (.iinc 8 1, 3) := by decide +kernel
theorem dX12_byTurns_140 : decode mX12_byTurns.2.2.1 140 = .ok (.goto (-37), 3) := by decide +kernel
theorem dX12_byTurns_143 : decode mX12_byTurns.2.2.1 143 = .ok (.bipush 10, 2) := by decide +kernel
theorem dX12_byTurns_145 : decode mX12_byTurns.2.2.1 145 = .ok (.ireturn, 1) := by decide +kernel
set_option maxHeartbeats 100000 in
theorem kX12_byTurns_0 {d : Nat} {F : am_FT} {L : am_LT} {Q : am_QT} {l2 l3 l4 l5 l6 l7 l8 : Option Value} {x1 : Int32} : wt am_S0 (d + 1) mX12_byTurns 0 [some (.ref 45), some (.int x1), l2, l3, l4, l5, l6, l7, l8] [] F L Q = wc am_S0 d mX12_isTm [.ref 45, .int x1] F L (fun r G K => wt am_S0 (d + 1) mX12_byTurns 5 [some (.ref 45), some (.int x1), l2, l3, l4, l5, l6, l7, l8] (r.toList ++ []) G K Q) := (wt_aload_n dX12_byTurns_0 rfl rfl).trans ((wt_iload_n dX12_byTurns_1 rfl).trans (wt_callV dX12_byTurns_2 rfl (as := [.int x1]) (rest := []) rfl rfl (Nat.le_of_ble_eq_true rfl) rfl (Nat.le_of_ble_eq_true rfl)))
set_option maxHeartbeats 100000 in
theorem kX12_byTurns_5 {d : Nat} {F : am_FT} {L : am_LT} {Q : am_QT} {l0 l1 l2 l3 l4 l5 l6 l7 l8 : Option Value} {s0 : Int32} : wt am_S0 d mX12_byTurns 5 [l0, l1, l2, l3, l4, l5, l6, l7, l8] [.int s0] F L Q = if s0 = 0 then wt am_S0 d mX12_byTurns 40 [l0, l1, l2, l3, l4, l5, l6, l7, l8] [] F L Q else wt am_S0 d mX12_byTurns 8 [l0, l1, l2, l3, l4, l5, l6, l7, l8] [] F L Q := wt_ifCond_eq dX12_byTurns_5 (t := 40) rfl
set_option maxHeartbeats 100000 in
theorem kX12_byTurns_8 {d : Nat} {F : am_FT} {L : am_LT} {Q : am_QT} {l0 l1 l3 l4 l5 l6 l7 l8 : Option Value} {x2 : Int32} : wt am_S0 d mX12_byTurns 8 [l0, l1, some (.int x2), l3, l4, l5, l6, l7, l8] [] F L Q = if x2 < 0 then wt am_S0 d mX12_byTurns 40 [l0, l1, some (.int x2), l3, l4, l5, l6, l7, l8] [] F L Q else wt am_S0 d mX12_byTurns 12 [l0, l1, some (.int x2), l3, l4, l5, l6, l7, l8] [] F L Q := (wt_iload_n dX12_byTurns_8 rfl).trans (wt_ifCond_lt dX12_byTurns_9 (t := 40) rfl)
set_option maxHeartbeats 100000 in
theorem kX12_byTurns_12 {d : Nat} {F : am_FT} {L : am_LT} {Q : am_QT} {l0 l1 l3 l4 l5 l6 l7 l8 : Option Value} {x2 : Int32} : wt am_S0 (d + 1) mX12_byTurns 12 [l0, l1, some (.int x2), l3, l4, l5, l6, l7, l8] [] F L Q = wc am_S0 d mX12_within [.long (Int32.toInt64 (x2 / 10)), .long 1, .long 4] F L (fun r G K => wt am_S0 (d + 1) mX12_byTurns 24 [l0, l1, some (.int x2), l3, l4, l5, l6, l7, l8] (r.toList ++ []) G K Q) := (wt_iload_n dX12_byTurns_12 rfl).trans ((wt_bipush dX12_byTurns_13 (v := 10) (by decide)).trans ((wt_idiv dX12_byTurns_15 (by decide)).trans ((wt_i2l dX12_byTurns_16).trans ((wt_lconst dX12_byTurns_17 (v := 1) (by decide)).trans ((wt_ldc2_w dX12_byTurns_18 (v := 4) rfl).trans (wt_callS dX12_byTurns_21 rfl (as := [.long (Int32.toInt64 (x2 / 10)), .long 1, .long 4]) (rest := []) rfl rfl (Nat.le_of_ble_eq_true rfl) (Nat.le_of_ble_eq_true rfl)))))))
set_option maxHeartbeats 100000 in
theorem kX12_byTurns_24 {d : Nat} {F : am_FT} {L : am_LT} {Q : am_QT} {l0 l1 l2 l3 l4 l5 l6 l7 l8 : Option Value} {s0 : Int32} : wt am_S0 d mX12_byTurns 24 [l0, l1, l2, l3, l4, l5, l6, l7, l8] [.int s0] F L Q = if s0 = 0 then wt am_S0 d mX12_byTurns 40 [l0, l1, l2, l3, l4, l5, l6, l7, l8] [] F L Q else wt am_S0 d mX12_byTurns 27 [l0, l1, l2, l3, l4, l5, l6, l7, l8] [] F L Q := wt_ifCond_eq dX12_byTurns_24 (t := 40) rfl
set_option maxHeartbeats 100000 in
theorem kX12_byTurns_27 {d : Nat} {F : am_FT} {L : am_LT} {Q : am_QT} {l0 l1 l3 l4 l5 l6 l7 l8 : Option Value} {x2 : Int32} : wt am_S0 (d + 1) mX12_byTurns 27 [l0, l1, some (.int x2), l3, l4, l5, l6, l7, l8] [] F L Q = wc am_S0 d mX12_within [.long (Int32.toInt64 (x2 - x2 / 10 * 10)), .long 0, .long 1] F L (fun r G K => wt am_S0 (d + 1) mX12_byTurns 37 [l0, l1, some (.int x2), l3, l4, l5, l6, l7, l8] (r.toList ++ []) G K Q) := (wt_iload_n dX12_byTurns_27 rfl).trans ((wt_bipush dX12_byTurns_28 (v := 10) (by decide)).trans ((wt_irem dX12_byTurns_30 (by decide)).trans ((wt_i2l dX12_byTurns_31).trans ((wt_lconst dX12_byTurns_32 (v := 0) (by decide)).trans ((wt_lconst dX12_byTurns_33 (v := 1) (by decide)).trans (wt_callS dX12_byTurns_34 rfl (as := [.long (Int32.toInt64 (x2 - x2 / 10 * 10)), .long 0, .long 1]) (rest := []) rfl rfl (Nat.le_of_ble_eq_true rfl) (Nat.le_of_ble_eq_true rfl)))))))
set_option maxHeartbeats 100000 in
theorem kX12_byTurns_37 {d : Nat} {F : am_FT} {L : am_LT} {Q : am_QT} {l0 l1 l2 l3 l4 l5 l6 l7 l8 : Option Value} {s0 : Int32} : wt am_S0 d mX12_byTurns 37 [l0, l1, l2, l3, l4, l5, l6, l7, l8] [.int s0] F L Q = if ¬ s0 = 0 then wt am_S0 d mX12_byTurns 42 [l0, l1, l2, l3, l4, l5, l6, l7, l8] [] F L Q else wt am_S0 d mX12_byTurns 40 [l0, l1, l2, l3, l4, l5, l6, l7, l8] [] F L Q := wt_ifCond_ne dX12_byTurns_37 (t := 42) rfl
set_option maxHeartbeats 100000 in
theorem kX12_byTurns_40 {d : Nat} {F : am_FT} {L : am_LT} {Q : am_QT} {l0 l1 l2 l3 l4 l5 l6 l7 l8 : Option Value} : wt am_S0 d mX12_byTurns 40 [l0, l1, l2, l3, l4, l5, l6, l7, l8] [] F L Q = Q (some (.int (-1))) F L := (wt_iconst dX12_byTurns_40 (v := (-1)) (by decide)).trans (wt_ireturn dX12_byTurns_41 rfl rfl)
set_option maxHeartbeats 100000 in
theorem kX12_byTurns_42 {d : Nat} {F : am_FT} {L : am_LT} {Q : am_QT} {l3 l4 l5 l6 l7 l8 : Option Value} {x1 x2 : Int32} : wt am_S0 (d + 1) mX12_byTurns 42 [some (.ref 45), some (.int x1), some (.int x2), l3, l4, l5, l6, l7, l8] [] F L Q = wc am_S0 d mX12_sittersNow [.ref 45, .int (x1 / 100), .int (x1 - x1 / 100 * 100)] F L (fun r G K => wt am_S0 (d + 1) mX12_byTurns 66 [some (.ref 45), some (.int x1), some (.int x2), some (.int (x1 / 100)), some (.int (x1 - x1 / 100 * 100)), some (.int (x2 / 10)), l6, l7, l8] (r.toList ++ []) G K Q) := (wt_iload_n dX12_byTurns_42 rfl).trans ((wt_bipush dX12_byTurns_43 (v := 100) (by decide)).trans ((wt_idiv dX12_byTurns_45 (by decide)).trans ((wt_istore_n dX12_byTurns_46 (lv1 := [some (.ref 45), some (.int x1), some (.int x2), some (.int (x1 / 100)), l4, l5, l6, l7, l8]) (Nat.le_of_ble_eq_true rfl) rfl).trans ((wt_iload_n dX12_byTurns_47 rfl).trans ((wt_bipush dX12_byTurns_48 (v := 100) (by decide)).trans ((wt_irem dX12_byTurns_50 (by decide)).trans ((wt_istore dX12_byTurns_51 (lv1 := [some (.ref 45), some (.int x1), some (.int x2), some (.int (x1 / 100)), some (.int (x1 - x1 / 100 * 100)), l5, l6, l7, l8]) (Nat.le_of_ble_eq_true rfl) rfl).trans ((wt_iload_n dX12_byTurns_53 rfl).trans ((wt_bipush dX12_byTurns_54 (v := 10) (by decide)).trans ((wt_idiv dX12_byTurns_56 (by decide)).trans ((wt_istore dX12_byTurns_57 (lv1 := [some (.ref 45), some (.int x1), some (.int x2), some (.int (x1 / 100)), some (.int (x1 - x1 / 100 * 100)), some (.int (x2 / 10)), l6, l7, l8]) (Nat.le_of_ble_eq_true rfl) rfl).trans ((wt_aload_n dX12_byTurns_59 rfl rfl).trans ((wt_iload_n dX12_byTurns_60 rfl).trans ((wt_iload dX12_byTurns_61 rfl).trans (wt_callV dX12_byTurns_63 rfl (as := [.int (x1 / 100), .int (x1 - x1 / 100 * 100)]) (rest := []) rfl rfl (Nat.le_of_ble_eq_true rfl) rfl (Nat.le_of_ble_eq_true rfl))))))))))))))))
set_option maxHeartbeats 100000 in
theorem kX12_byTurns_66 {d : Nat} {F : am_FT} {L : am_LT} {Q : am_QT} {l1 l2 l6 l7 l8 : Option Value} {s0 x5 x3 x4 : Int32} : wt am_S0 (d + 1) mX12_byTurns 66 [some (.ref 45), l1, l2, some (.int x3), some (.int x4), some (.int x5), l6, l7, l8] [.int s0] F L Q = wc am_S0 d mX12_fallsFrom [.ref 45, .int x3, .int x4, .int s0, .int 0, .int x5] F L (fun r G K => wt am_S0 (d + 1) mX12_byTurns 80 [some (.ref 45), l1, l2, some (.int x3), some (.int x4), some (.int x5), some (.int s0), l7, l8] (r.toList ++ []) G K Q) := (wt_istore dX12_byTurns_66 (lv1 := [some (.ref 45), l1, l2, some (.int x3), some (.int x4), some (.int x5), some (.int s0), l7, l8]) (Nat.le_of_ble_eq_true rfl) rfl).trans ((wt_aload_n dX12_byTurns_68 rfl rfl).trans ((wt_iload_n dX12_byTurns_69 rfl).trans ((wt_iload dX12_byTurns_70 rfl).trans ((wt_iload dX12_byTurns_72 rfl).trans ((wt_iconst dX12_byTurns_74 (v := 0) (by decide)).trans ((wt_iload dX12_byTurns_75 rfl).trans (wt_callV dX12_byTurns_77 rfl (as := [.int x3, .int x4, .int s0, .int 0, .int x5]) (rest := []) rfl rfl (Nat.le_of_ble_eq_true rfl) rfl (Nat.le_of_ble_eq_true rfl))))))))
set_option maxHeartbeats 100000 in
theorem kX12_byTurns_80 {d : Nat} {F : am_FT} {L : am_LT} {Q : am_QT} {l0 l1 l3 l4 l5 l7 l8 : Option Value} {s0 x6 x2 : Int32} : wt am_S0 d mX12_byTurns 80 [l0, l1, some (.int x2), l3, l4, l5, some (.int x6), l7, l8] [.int s0] F L Q = if ¬ (x2 - x2 / 10 * 10) = 0 then wt am_S0 d mX12_byTurns 100 [l0, l1, some (.int x2), l3, l4, l5, some (.int x6), some (.int s0), l8] [] F L Q else wt am_S0 d mX12_byTurns 89 [l0, l1, some (.int x2), l3, l4, l5, some (.int x6), some (.int s0), l8] [] F L Q := (wt_istore dX12_byTurns_80 (lv1 := [l0, l1, some (.int x2), l3, l4, l5, some (.int x6), some (.int s0), l8]) (Nat.le_of_ble_eq_true rfl) rfl).trans ((wt_iload_n dX12_byTurns_82 rfl).trans ((wt_bipush dX12_byTurns_83 (v := 10) (by decide)).trans ((wt_irem dX12_byTurns_85 (by decide)).trans (wt_ifCond_ne dX12_byTurns_86 (t := 100) rfl))))
set_option maxHeartbeats 100000 in
theorem kX12_byTurns_89 {d : Nat} {F : am_FT} {L : am_LT} {Q : am_QT} {l0 l1 l2 l3 l4 l5 l6 l8 : Option Value} {x7 : Int32} : wt am_S0 d mX12_byTurns 89 [l0, l1, l2, l3, l4, l5, l6, some (.int x7), l8] [] F L Q = if x7 = 0 then wt am_S0 d mX12_byTurns 98 [l0, l1, l2, l3, l4, l5, l6, some (.int x7), l8] [] F L Q else wt am_S0 d mX12_byTurns 94 [l0, l1, l2, l3, l4, l5, l6, some (.int x7), l8] [] F L Q := (wt_iload dX12_byTurns_89 rfl).trans (wt_ifCond_eq dX12_byTurns_91 (t := 98) rfl)
set_option maxHeartbeats 100000 in
theorem kX12_byTurns_94 {d : Nat} {F : am_FT} {L : am_LT} {Q : am_QT} {l0 l1 l2 l3 l4 l5 l6 l7 l8 : Option Value} : wt am_S0 d mX12_byTurns 94 [l0, l1, l2, l3, l4, l5, l6, l7, l8] [] F L Q = wt am_S0 d mX12_byTurns 99 [l0, l1, l2, l3, l4, l5, l6, l7, l8] [.int 1] F L Q := (wt_iconst dX12_byTurns_94 (v := 1) (by decide)).trans (wt_goto dX12_byTurns_95 (t := 99) rfl)
set_option maxHeartbeats 100000 in
theorem kX12_byTurns_98 {d : Nat} {F : am_FT} {L : am_LT} {Q : am_QT} {l0 l1 l2 l3 l4 l5 l6 l7 l8 : Option Value} : wt am_S0 d mX12_byTurns 98 [l0, l1, l2, l3, l4, l5, l6, l7, l8] [] F L Q = wt am_S0 d mX12_byTurns 99 [l0, l1, l2, l3, l4, l5, l6, l7, l8] [.int 0] F L Q := wt_iconst dX12_byTurns_98 (v := 0) (by decide)
set_option maxHeartbeats 100000 in
theorem kX12_byTurns_99 {d : Nat} {F : am_FT} {L : am_LT} {Q : am_QT} {l0 l1 l2 l3 l4 l5 l6 l7 l8 : Option Value} {s0 : Int32} : wt am_S0 d mX12_byTurns 99 [l0, l1, l2, l3, l4, l5, l6, l7, l8] [.int s0] F L Q = Q (some (.int s0)) F L := wt_ireturn dX12_byTurns_99 rfl rfl
set_option maxHeartbeats 100000 in
theorem kX12_byTurns_100 {d : Nat} {F : am_FT} {L : am_LT} {Q : am_QT} {l0 l1 l2 l3 l4 l5 l6 l8 : Option Value} {x7 : Int32} : wt am_S0 d mX12_byTurns 100 [l0, l1, l2, l3, l4, l5, l6, some (.int x7), l8] [] F L Q = wt am_S0 d mX12_byTurns 103 [l0, l1, l2, l3, l4, l5, l6, some (.int x7), some (.int 0)] [] F L Q := (wt_iconst dX12_byTurns_100 (v := 0) (by decide)).trans (wt_istore dX12_byTurns_101 (lv1 := [l0, l1, l2, l3, l4, l5, l6, some (.int x7), some (.int 0)]) (Nat.le_of_ble_eq_true rfl) rfl)
set_option maxHeartbeats 100000 in
theorem kX12_byTurns_103 {d : Nat} {F : am_FT} {L : am_LT} {Q : am_QT} {l1 l2 l3 l4 l5 l6 l7 : Option Value} {x8 : Int32} : wt am_S0 d mX12_byTurns 103 [some (.ref 45), l1, l2, l3, l4, l5, l6, l7, some (.int x8)] [] F L Q = if (F 45 7) ≤ x8 then wt am_S0 d mX12_byTurns 143 [some (.ref 45), l1, l2, l3, l4, l5, l6, l7, some (.int x8)] [] F L Q else wt am_S0 d mX12_byTurns 112 [some (.ref 45), l1, l2, l3, l4, l5, l6, l7, some (.int x8)] [] F L Q := (wt_iload dX12_byTurns_103 rfl).trans ((wt_aload_n dX12_byTurns_105 rfl rfl).trans ((wt_getfield dX12_byTurns_106 rfl rfl (v := .int (F 45 7)) rfl).trans (wt_if_icmp_ge dX12_byTurns_109 (t := 143) rfl)))
set_option maxHeartbeats 100000 in
theorem kX12_byTurns_112 {d : Nat} {F : am_FT} {L : am_LT} {Q : am_QT} {l1 l2 l7 : Option Value} {x3 x4 x6 x8 x5 : Int32} : wt am_S0 (d + 1) mX12_byTurns 112 [some (.ref 45), l1, l2, some (.int x3), some (.int x4), some (.int x5), some (.int x6), l7, some (.int x8)] [] F L Q = wc am_S0 d mX12_fallsFrom [.ref 45, .int x3, .int x4, .int (x6 ^^^ ((1 : Int32) <<< (x8 &&& 31))), .int 1, .int x5] F L (fun r G K => wt am_S0 (d + 1) mX12_byTurns 129 [some (.ref 45), l1, l2, some (.int x3), some (.int x4), some (.int x5), some (.int x6), l7, some (.int x8)] (r.toList ++ []) G K Q) := (wt_aload_n dX12_byTurns_112 rfl rfl).trans ((wt_iload_n dX12_byTurns_113 rfl).trans ((wt_iload dX12_byTurns_114 rfl).trans ((wt_iload dX12_byTurns_116 rfl).trans ((wt_iconst dX12_byTurns_118 (v := 1) (by decide)).trans ((wt_iload dX12_byTurns_119 rfl).trans ((wt_ishl dX12_byTurns_121).trans ((wt_ixor dX12_byTurns_122).trans ((wt_iconst dX12_byTurns_123 (v := 1) (by decide)).trans ((wt_iload dX12_byTurns_124 rfl).trans (wt_callV dX12_byTurns_126 rfl (as := [.int x3, .int x4, .int (x6 ^^^ ((1 : Int32) <<< (x8 &&& 31))), .int 1, .int x5]) (rest := []) rfl rfl (Nat.le_of_ble_eq_true rfl) rfl (Nat.le_of_ble_eq_true rfl)))))))))))
set_option maxHeartbeats 100000 in
theorem kX12_byTurns_129 {d : Nat} {F : am_FT} {L : am_LT} {Q : am_QT} {l0 l1 l2 l3 l4 l5 l6 l8 : Option Value} {s0 x7 : Int32} : wt am_S0 d mX12_byTurns 129 [l0, l1, l2, l3, l4, l5, l6, some (.int x7), l8] [.int s0] F L Q = if ¬ s0 = x7 then wt am_S0 d mX12_byTurns 137 [l0, l1, l2, l3, l4, l5, l6, some (.int x7), l8] [] F L Q else wt am_S0 d mX12_byTurns 134 [l0, l1, l2, l3, l4, l5, l6, some (.int x7), l8] [] F L Q := (wt_iload dX12_byTurns_129 rfl).trans (wt_if_icmp_ne dX12_byTurns_131 (t := 137) rfl)
set_option maxHeartbeats 100000 in
theorem kX12_byTurns_134 {d : Nat} {F : am_FT} {L : am_LT} {Q : am_QT} {l0 l1 l2 l3 l4 l5 l6 l7 : Option Value} {x8 : Int32} : wt am_S0 d mX12_byTurns 134 [l0, l1, l2, l3, l4, l5, l6, l7, some (.int x8)] [] F L Q = Q (some (.int x8)) F L := (wt_iload dX12_byTurns_134 rfl).trans (wt_ireturn dX12_byTurns_136 rfl rfl)
set_option maxHeartbeats 100000 in
theorem kX12_byTurns_137 {d : Nat} {F : am_FT} {L : am_LT} {Q : am_QT} {l0 l1 l2 l3 l4 l5 l6 : Option Value} {x8 x7 : Int32} : wt am_S0 d mX12_byTurns 137 [l0, l1, l2, l3, l4, l5, l6, some (.int x7), some (.int x8)] [] F L Q = wt am_S0 d mX12_byTurns 103 [l0, l1, l2, l3, l4, l5, l6, some (.int x7), some (.int (x8 + 1))] [] F L Q := (wt_iinc dX12_byTurns_137 (v := 1) (lv1 := [l0, l1, l2, l3, l4, l5, l6, some (.int x7), some (.int (x8 + 1))]) rfl (Nat.le_of_ble_eq_true rfl) (by decide) rfl).trans (wt_goto dX12_byTurns_140 (t := 103) rfl)
set_option maxHeartbeats 100000 in
theorem kX12_byTurns_143 {d : Nat} {F : am_FT} {L : am_LT} {Q : am_QT} {l0 l1 l2 l3 l4 l5 l6 l7 l8 : Option Value} : wt am_S0 d mX12_byTurns 143 [l0, l1, l2, l3, l4, l5, l6, l7, l8] [] F L Q = Q (some (.int 10)) F L := (wt_bipush dX12_byTurns_143 (v := 10) (by decide)).trans (wt_ireturn dX12_byTurns_145 rfl rfl)
theorem dX12_fallsFrom_0 : decode mX12_fallsFrom.2.2.1 0 = .ok (.iload 4, 2) := by decide +kernel
theorem dX12_fallsFrom_2 : decode mX12_fallsFrom.2.2.1 2 = .ok (.iload 5, 2) := by decide +kernel
theorem dX12_fallsFrom_4 : decode mX12_fallsFrom.2.2.1 4 = .ok (.if_icmp .ne 35, 3) := by decide +kernel
theorem dX12_fallsFrom_7 : decode mX12_fallsFrom.2.2.1 7 = .ok (.aload_n 0, 1) := by decide +kernel
theorem dX12_fallsFrom_8 : decode mX12_fallsFrom.2.2.1 8 = .ok (.getfield 98, 3) := by decide +kernel
theorem dX12_fallsFrom_11 : decode mX12_fallsFrom.2.2.1 11 = .ok (.iload_n 1, 1) := by decide +kernel
theorem dX12_fallsFrom_12 : decode mX12_fallsFrom.2.2.1 12 = .ok (.invokestatic 189, 3) := by decide +kernel
theorem dX12_fallsFrom_15 : decode mX12_fallsFrom.2.2.1 15 = .ok (.ifCond .eq 22, 3) := by decide +kernel
theorem dX12_fallsFrom_18 : decode mX12_fallsFrom.2.2.1 18 = .ok (.aload_n 0, 1) := by decide +kernel
theorem dX12_fallsFrom_19 : decode mX12_fallsFrom.2.2.1 19 = .ok (.iload_n 1, 1) := by decide +kernel
theorem dX12_fallsFrom_20 : decode mX12_fallsFrom.2.2.1 20 = .ok (.iload_n 2, 1) := by decide +kernel
theorem dX12_fallsFrom_21 : decode mX12_fallsFrom.2.2.1 21 = .ok (.iload_n 3, 1) := by decide +kernel
theorem dX12_fallsFrom_22 : decode mX12_fallsFrom.2.2.1 22 = .ok (.aload_n 0, 1) := by decide +kernel
theorem dX12_fallsFrom_23 : decode mX12_fallsFrom.2.2.1 23 = .ok (.iload_n 1, 1) := by decide +kernel
theorem dX12_fallsFrom_24 : decode mX12_fallsFrom.2.2.1 24 = .ok (.invokevirtual 205, 3) := by decide +kernel
theorem dX12_fallsFrom_27 : decode mX12_fallsFrom.2.2.1 27 = .ok (.invokevirtual 208, 3) := by decide +kernel
theorem dX12_fallsFrom_30 : decode mX12_fallsFrom.2.2.1 30 = .ok (.ifCond .eq 7, 3) := by decide +kernel
theorem dX12_fallsFrom_33 : decode mX12_fallsFrom.2.2.1 33 = .ok (.iconst 1, 1) := by decide +kernel
theorem dX12_fallsFrom_34 : decode mX12_fallsFrom.2.2.1 34 = .ok (.goto 4, 3) := by decide +kernel
theorem dX12_fallsFrom_37 : decode mX12_fallsFrom.2.2.1 37 = .ok (.iconst 0, 1) := by decide +kernel
theorem dX12_fallsFrom_38 : decode mX12_fallsFrom.2.2.1 38 = .ok (.ireturn, 1) := by decide +kernel
theorem dX12_fallsFrom_39 : decode mX12_fallsFrom.2.2.1 39 = .ok (.iload 4, 2) := by decide +kernel
theorem dX12_fallsFrom_41 : decode mX12_fallsFrom.2.2.1 41 = .ok (.iconst 2, 1) := by decide +kernel
theorem dX12_fallsFrom_42 : decode mX12_fallsFrom.2.2.1 42 = .ok (.irem, 1) := by decide +kernel
theorem dX12_fallsFrom_43 : decode mX12_fallsFrom.2.2.1 43 = .ok (.ifCond .ne 7, 3) := by decide +kernel
theorem dX12_fallsFrom_46 : decode mX12_fallsFrom.2.2.1 46 = .ok (.iconst 1, 1) := by decide +kernel
theorem dX12_fallsFrom_47 : decode mX12_fallsFrom.2.2.1 47 = .ok (.goto 4, 3) := by decide +kernel
theorem dX12_fallsFrom_50 : decode mX12_fallsFrom.2.2.1 50 = .ok (.iconst 0, 1) := by decide +kernel
theorem dX12_fallsFrom_51 : decode mX12_fallsFrom.2.2.1 51 = .ok (.istore 6, 2) := by decide +kernel
theorem dX12_fallsFrom_53 : decode mX12_fallsFrom.2.2.1 53 = .ok (.iconst 0, 1) := by decide +kernel
theorem dX12_fallsFrom_54 : decode mX12_fallsFrom.2.2.1 54 = .ok (.istore 7, 2) := by decide +kernel
theorem dX12_fallsFrom_56 : decode mX12_fallsFrom.2.2.1 56 = .ok (.iload 7, 2) := by decide +kernel
theorem dX12_fallsFrom_58 : decode mX12_fallsFrom.2.2.1 58 = .ok (.aload_n 0, 1) := by decide +kernel
theorem dX12_fallsFrom_59 : decode mX12_fallsFrom.2.2.1 59 = .ok (.getfield 79, 3) := by decide +kernel
theorem dX12_fallsFrom_62 : decode mX12_fallsFrom.2.2.1 62 = .ok (.if_icmp .ge 35, 3) := by decide +kernel
theorem dX12_fallsFrom_65 : decode mX12_fallsFrom.2.2.1 65 = .ok (.aload_n 0, 1) := by decide +kernel
theorem dX12_fallsFrom_66 : decode mX12_fallsFrom.2.2.1 66 = .ok (.iload_n 1, 1) := by decide +kernel
theorem dX12_fallsFrom_67 : decode mX12_fallsFrom.2.2.1 67 = .ok (.iload_n 2, 1) := by decide +kernel
theorem dX12_fallsFrom_68 : decode mX12_fallsFrom.2.2.1 68 = .ok (.iload_n 3, 1) := by decide +kernel
theorem dX12_fallsFrom_69 : decode mX12_fallsFrom.2.2.1 69 = .ok (.iconst 1, 1) := by decide +kernel
theorem dX12_fallsFrom_70 : decode mX12_fallsFrom.2.2.1 70 = .ok (.iload 7, 2) := by decide +kernel
theorem dX12_fallsFrom_72 : decode mX12_fallsFrom.2.2.1 72 = .ok (.ishl, 1) := by decide +kernel
theorem dX12_fallsFrom_73 : decode mX12_fallsFrom.2.2.1 73 = .ok (.ixor, 1) := by decide +kernel
theorem dX12_fallsFrom_74 : decode mX12_fallsFrom.2.2.1 74 = .ok (.iload 4, 2) := by decide +kernel
theorem dX12_fallsFrom_76 : decode mX12_fallsFrom.2.2.1 76 = .ok (.iconst 1, 1) := by decide +kernel
theorem dX12_fallsFrom_77 : decode mX12_fallsFrom.2.2.1 77 = .ok (.iadd, 1) := by decide +kernel
theorem dX12_fallsFrom_78 : decode mX12_fallsFrom.2.2.1 78 = .ok (.iload 5, 2) := by decide +kernel
theorem dX12_fallsFrom_80 : decode mX12_fallsFrom.2.2.1 80 = .ok (.invokevirtual 242, 3) := by decide +kernel
theorem dX12_fallsFrom_83 : decode mX12_fallsFrom.2.2.1 83 = .ok (.iload 6, 2) := by decide +kernel
theorem dX12_fallsFrom_85 : decode mX12_fallsFrom.2.2.1 85 = .ok (.if_icmp .ne 6, 3) := by decide +kernel
theorem dX12_fallsFrom_88 : decode mX12_fallsFrom.2.2.1 88 = .ok (.iload 6, 2) := by decide +kernel
theorem dX12_fallsFrom_90 : decode mX12_fallsFrom.2.2.1 90 = .ok (.ireturn, 1) := by decide +kernel
theorem dX12_fallsFrom_91 : decode mX12_fallsFrom.2.2.1 91 = .ok (.iinc 7 1, 3) := by decide +kernel
theorem dX12_fallsFrom_94 : decode mX12_fallsFrom.2.2.1 94 = .ok (.goto (-38), 3) := by decide +kernel
theorem dX12_fallsFrom_97 : decode mX12_fallsFrom.2.2.1 97 = .ok (.aload_n 0, 1) := by decide +kernel
theorem dX12_fallsFrom_98 : decode mX12_fallsFrom.2.2.1 98 = .ok (.iload_n 1, 1) := by decide +kernel
theorem dX12_fallsFrom_99 : decode mX12_fallsFrom.2.2.1 99 = .ok (.iload_n 2, 1) := by decide +kernel
theorem dX12_fallsFrom_100 : decode mX12_fallsFrom.2.2.1 100 = .ok (.iload_n 3, 1) := by decide +kernel
theorem dX12_fallsFrom_101 : decode mX12_fallsFrom.2.2.1 101 = .ok (.iload 4, 2) := by decide +kernel
theorem dX12_fallsFrom_103 : decode mX12_fallsFrom.2.2.1 103 = .ok (.iconst 1, 1) := by decide +kernel
theorem dX12_fallsFrom_104 : decode mX12_fallsFrom.2.2.1 104 = .ok (.iadd, 1) := by decide +kernel
theorem dX12_fallsFrom_105 : decode mX12_fallsFrom.2.2.1 105 = .ok (.iload 5, 2) := by decide +kernel
theorem dX12_fallsFrom_107 : decode mX12_fallsFrom.2.2.1 107 = .ok (.invokevirtual 242, 3) := by decide +kernel
theorem dX12_fallsFrom_110 : decode mX12_fallsFrom.2.2.1 110 = .ok (.ireturn, 1) := by decide +kernel
set_option maxHeartbeats 100000 in
theorem kX12_fallsFrom_0 {d : Nat} {F : am_FT} {L : am_LT} {Q : am_QT} {l0 l1 l2 l3 l6 l7 : Option Value} {x4 x5 : Int32} : wt am_S0 d mX12_fallsFrom 0 [l0, l1, l2, l3, some (.int x4), some (.int x5), l6, l7] [] F L Q = if ¬ x4 = x5 then wt am_S0 d mX12_fallsFrom 39 [l0, l1, l2, l3, some (.int x4), some (.int x5), l6, l7] [] F L Q else wt am_S0 d mX12_fallsFrom 7 [l0, l1, l2, l3, some (.int x4), some (.int x5), l6, l7] [] F L Q := (wt_iload dX12_fallsFrom_0 rfl).trans ((wt_iload dX12_fallsFrom_2 rfl).trans (wt_if_icmp_ne dX12_fallsFrom_4 (t := 39) rfl))
set_option maxHeartbeats 100000 in
theorem kX12_fallsFrom_7 {d : Nat} {F : am_FT} {L : am_LT} {Q : am_QT} {l2 l3 l4 l5 l6 l7 : Option Value} {x1 : Int32} : wt am_S0 (d + 1) mX12_fallsFrom 7 [some (.ref 45), some (.int x1), l2, l3, l4, l5, l6, l7] [] F L Q = wc am_S0 d mX12_isIn [.int (F 45 8), .int x1] F L (fun r G K => wt am_S0 (d + 1) mX12_fallsFrom 15 [some (.ref 45), some (.int x1), l2, l3, l4, l5, l6, l7] (r.toList ++ []) G K Q) := (wt_aload_n dX12_fallsFrom_7 rfl rfl).trans ((wt_getfield dX12_fallsFrom_8 rfl rfl (v := .int (F 45 8)) rfl).trans ((wt_iload_n dX12_fallsFrom_11 rfl).trans (wt_callS dX12_fallsFrom_12 rfl (as := [.int (F 45 8), .int x1]) (rest := []) rfl rfl (Nat.le_of_ble_eq_true rfl) (Nat.le_of_ble_eq_true rfl))))
set_option maxHeartbeats 100000 in
theorem kX12_fallsFrom_15 {d : Nat} {F : am_FT} {L : am_LT} {Q : am_QT} {l0 l1 l2 l3 l4 l5 l6 l7 : Option Value} {s0 : Int32} : wt am_S0 d mX12_fallsFrom 15 [l0, l1, l2, l3, l4, l5, l6, l7] [.int s0] F L Q = if s0 = 0 then wt am_S0 d mX12_fallsFrom 37 [l0, l1, l2, l3, l4, l5, l6, l7] [] F L Q else wt am_S0 d mX12_fallsFrom 18 [l0, l1, l2, l3, l4, l5, l6, l7] [] F L Q := wt_ifCond_eq dX12_fallsFrom_15 (t := 37) rfl
set_option maxHeartbeats 100000 in
theorem kX12_fallsFrom_18 {d : Nat} {F : am_FT} {L : am_LT} {Q : am_QT} {l4 l5 l6 l7 : Option Value} {x1 x2 x3 : Int32} : wt am_S0 (d + 1) mX12_fallsFrom 18 [some (.ref 45), some (.int x1), some (.int x2), some (.int x3), l4, l5, l6, l7] [] F L Q = wc am_S0 d mX12_wishers [.ref 45, .int x1] F L (fun r G K => wt am_S0 (d + 1) mX12_fallsFrom 27 [some (.ref 45), some (.int x1), some (.int x2), some (.int x3), l4, l5, l6, l7] (r.toList ++ [.int x3, .int x2, .int x1, .ref 45]) G K Q) := (wt_aload_n dX12_fallsFrom_18 rfl rfl).trans ((wt_iload_n dX12_fallsFrom_19 rfl).trans ((wt_iload_n dX12_fallsFrom_20 rfl).trans ((wt_iload_n dX12_fallsFrom_21 rfl).trans ((wt_aload_n dX12_fallsFrom_22 rfl rfl).trans ((wt_iload_n dX12_fallsFrom_23 rfl).trans (wt_callV dX12_fallsFrom_24 rfl (as := [.int x1]) (rest := [.int x3, .int x2, .int x1, .ref 45]) rfl rfl (Nat.le_of_ble_eq_true rfl) rfl (Nat.le_of_ble_eq_true rfl)))))))
set_option maxHeartbeats 100000 in
theorem kX12_fallsFrom_27 {d : Nat} {F : am_FT} {L : am_LT} {Q : am_QT} {l0 l1 l2 l3 l4 l5 l6 l7 : Option Value} {s1 s2 s3 s4 : Int32} : wt am_S0 (d + 1) mX12_fallsFrom 27 [l0, l1, l2, l3, l4, l5, l6, l7] [.int s4, .int s3, .int s2, .int s1, .ref 45] F L Q = wc am_S0 d mX12_doesFall [.ref 45, .int s1, .int s2, .int s3, .int s4] F L (fun r G K => wt am_S0 (d + 1) mX12_fallsFrom 30 [l0, l1, l2, l3, l4, l5, l6, l7] (r.toList ++ []) G K Q) := wt_callV dX12_fallsFrom_27 rfl (as := [.int s1, .int s2, .int s3, .int s4]) (rest := []) rfl rfl (Nat.le_of_ble_eq_true rfl) rfl (Nat.le_of_ble_eq_true rfl)
set_option maxHeartbeats 100000 in
theorem kX12_fallsFrom_30 {d : Nat} {F : am_FT} {L : am_LT} {Q : am_QT} {l0 l1 l2 l3 l4 l5 l6 l7 : Option Value} {s0 : Int32} : wt am_S0 d mX12_fallsFrom 30 [l0, l1, l2, l3, l4, l5, l6, l7] [.int s0] F L Q = if s0 = 0 then wt am_S0 d mX12_fallsFrom 37 [l0, l1, l2, l3, l4, l5, l6, l7] [] F L Q else wt am_S0 d mX12_fallsFrom 33 [l0, l1, l2, l3, l4, l5, l6, l7] [] F L Q := wt_ifCond_eq dX12_fallsFrom_30 (t := 37) rfl
set_option maxHeartbeats 100000 in
theorem kX12_fallsFrom_33 {d : Nat} {F : am_FT} {L : am_LT} {Q : am_QT} {l0 l1 l2 l3 l4 l5 l6 l7 : Option Value} : wt am_S0 d mX12_fallsFrom 33 [l0, l1, l2, l3, l4, l5, l6, l7] [] F L Q = wt am_S0 d mX12_fallsFrom 38 [l0, l1, l2, l3, l4, l5, l6, l7] [.int 1] F L Q := (wt_iconst dX12_fallsFrom_33 (v := 1) (by decide)).trans (wt_goto dX12_fallsFrom_34 (t := 38) rfl)
set_option maxHeartbeats 100000 in
theorem kX12_fallsFrom_37 {d : Nat} {F : am_FT} {L : am_LT} {Q : am_QT} {l0 l1 l2 l3 l4 l5 l6 l7 : Option Value} : wt am_S0 d mX12_fallsFrom 37 [l0, l1, l2, l3, l4, l5, l6, l7] [] F L Q = wt am_S0 d mX12_fallsFrom 38 [l0, l1, l2, l3, l4, l5, l6, l7] [.int 0] F L Q := wt_iconst dX12_fallsFrom_37 (v := 0) (by decide)
set_option maxHeartbeats 100000 in
theorem kX12_fallsFrom_38 {d : Nat} {F : am_FT} {L : am_LT} {Q : am_QT} {l0 l1 l2 l3 l4 l5 l6 l7 : Option Value} {s0 : Int32} (h1 : narrow .boolean (.int s0) = .int s0) : wt am_S0 d mX12_fallsFrom 38 [l0, l1, l2, l3, l4, l5, l6, l7] [.int s0] F L Q = Q (some (.int s0)) F L := wt_ireturn dX12_fallsFrom_38 rfl h1
set_option maxHeartbeats 100000 in
theorem kX12_fallsFrom_39 {d : Nat} {F : am_FT} {L : am_LT} {Q : am_QT} {l0 l1 l2 l3 l5 l6 l7 : Option Value} {x4 : Int32} : wt am_S0 d mX12_fallsFrom 39 [l0, l1, l2, l3, some (.int x4), l5, l6, l7] [] F L Q = if ¬ (x4 - x4 / 2 * 2) = 0 then wt am_S0 d mX12_fallsFrom 50 [l0, l1, l2, l3, some (.int x4), l5, l6, l7] [] F L Q else wt am_S0 d mX12_fallsFrom 46 [l0, l1, l2, l3, some (.int x4), l5, l6, l7] [] F L Q := (wt_iload dX12_fallsFrom_39 rfl).trans ((wt_iconst dX12_fallsFrom_41 (v := 2) (by decide)).trans ((wt_irem dX12_fallsFrom_42 (by decide)).trans (wt_ifCond_ne dX12_fallsFrom_43 (t := 50) rfl)))
set_option maxHeartbeats 100000 in
theorem kX12_fallsFrom_46 {d : Nat} {F : am_FT} {L : am_LT} {Q : am_QT} {l0 l1 l2 l3 l4 l5 l6 l7 : Option Value} : wt am_S0 d mX12_fallsFrom 46 [l0, l1, l2, l3, l4, l5, l6, l7] [] F L Q = wt am_S0 d mX12_fallsFrom 51 [l0, l1, l2, l3, l4, l5, l6, l7] [.int 1] F L Q := (wt_iconst dX12_fallsFrom_46 (v := 1) (by decide)).trans (wt_goto dX12_fallsFrom_47 (t := 51) rfl)
set_option maxHeartbeats 100000 in
theorem kX12_fallsFrom_50 {d : Nat} {F : am_FT} {L : am_LT} {Q : am_QT} {l0 l1 l2 l3 l4 l5 l6 l7 : Option Value} : wt am_S0 d mX12_fallsFrom 50 [l0, l1, l2, l3, l4, l5, l6, l7] [] F L Q = wt am_S0 d mX12_fallsFrom 51 [l0, l1, l2, l3, l4, l5, l6, l7] [.int 0] F L Q := wt_iconst dX12_fallsFrom_50 (v := 0) (by decide)
set_option maxHeartbeats 100000 in
theorem kX12_fallsFrom_51 {d : Nat} {F : am_FT} {L : am_LT} {Q : am_QT} {l0 l1 l2 l3 l4 l6 l7 : Option Value} {s0 x5 : Int32} : wt am_S0 d mX12_fallsFrom 51 [l0, l1, l2, l3, l4, some (.int x5), l6, l7] [.int s0] F L Q = wt am_S0 d mX12_fallsFrom 56 [l0, l1, l2, l3, l4, some (.int x5), some (.int s0), some (.int 0)] [] F L Q := (wt_istore dX12_fallsFrom_51 (lv1 := [l0, l1, l2, l3, l4, some (.int x5), some (.int s0), l7]) (Nat.le_of_ble_eq_true rfl) rfl).trans ((wt_iconst dX12_fallsFrom_53 (v := 0) (by decide)).trans (wt_istore dX12_fallsFrom_54 (lv1 := [l0, l1, l2, l3, l4, some (.int x5), some (.int s0), some (.int 0)]) (Nat.le_of_ble_eq_true rfl) rfl))
set_option maxHeartbeats 100000 in
theorem kX12_fallsFrom_56 {d : Nat} {F : am_FT} {L : am_LT} {Q : am_QT} {l1 l2 l3 l4 l5 l6 : Option Value} {x7 : Int32} : wt am_S0 d mX12_fallsFrom 56 [some (.ref 45), l1, l2, l3, l4, l5, l6, some (.int x7)] [] F L Q = if (F 45 7) ≤ x7 then wt am_S0 d mX12_fallsFrom 97 [some (.ref 45), l1, l2, l3, l4, l5, l6, some (.int x7)] [] F L Q else wt am_S0 d mX12_fallsFrom 65 [some (.ref 45), l1, l2, l3, l4, l5, l6, some (.int x7)] [] F L Q := (wt_iload dX12_fallsFrom_56 rfl).trans ((wt_aload_n dX12_fallsFrom_58 rfl rfl).trans ((wt_getfield dX12_fallsFrom_59 rfl rfl (v := .int (F 45 7)) rfl).trans (wt_if_icmp_ge dX12_fallsFrom_62 (t := 97) rfl)))
set_option maxHeartbeats 100000 in
theorem kX12_fallsFrom_65 {d : Nat} {F : am_FT} {L : am_LT} {Q : am_QT} {l6 : Option Value} {x1 x2 x3 x7 x4 x5 : Int32} : wt am_S0 (d + 1) mX12_fallsFrom 65 [some (.ref 45), some (.int x1), some (.int x2), some (.int x3), some (.int x4), some (.int x5), l6, some (.int x7)] [] F L Q = wc am_S0 d mX12_fallsFrom [.ref 45, .int x1, .int x2, .int (x3 ^^^ ((1 : Int32) <<< (x7 &&& 31))), .int (x4 + 1), .int x5] F L (fun r G K => wt am_S0 (d + 1) mX12_fallsFrom 83 [some (.ref 45), some (.int x1), some (.int x2), some (.int x3), some (.int x4), some (.int x5), l6, some (.int x7)] (r.toList ++ []) G K Q) := (wt_aload_n dX12_fallsFrom_65 rfl rfl).trans ((wt_iload_n dX12_fallsFrom_66 rfl).trans ((wt_iload_n dX12_fallsFrom_67 rfl).trans ((wt_iload_n dX12_fallsFrom_68 rfl).trans ((wt_iconst dX12_fallsFrom_69 (v := 1) (by decide)).trans ((wt_iload dX12_fallsFrom_70 rfl).trans ((wt_ishl dX12_fallsFrom_72).trans ((wt_ixor dX12_fallsFrom_73).trans ((wt_iload dX12_fallsFrom_74 rfl).trans ((wt_iconst dX12_fallsFrom_76 (v := 1) (by decide)).trans ((wt_iadd dX12_fallsFrom_77).trans ((wt_iload dX12_fallsFrom_78 rfl).trans (wt_callV dX12_fallsFrom_80 rfl (as := [.int x1, .int x2, .int (x3 ^^^ ((1 : Int32) <<< (x7 &&& 31))), .int (x4 + 1), .int x5]) (rest := []) rfl rfl (Nat.le_of_ble_eq_true rfl) rfl (Nat.le_of_ble_eq_true rfl)))))))))))))
set_option maxHeartbeats 100000 in
theorem kX12_fallsFrom_83 {d : Nat} {F : am_FT} {L : am_LT} {Q : am_QT} {l0 l1 l2 l3 l4 l5 l7 : Option Value} {s0 x6 : Int32} : wt am_S0 d mX12_fallsFrom 83 [l0, l1, l2, l3, l4, l5, some (.int x6), l7] [.int s0] F L Q = if ¬ s0 = x6 then wt am_S0 d mX12_fallsFrom 91 [l0, l1, l2, l3, l4, l5, some (.int x6), l7] [] F L Q else wt am_S0 d mX12_fallsFrom 88 [l0, l1, l2, l3, l4, l5, some (.int x6), l7] [] F L Q := (wt_iload dX12_fallsFrom_83 rfl).trans (wt_if_icmp_ne dX12_fallsFrom_85 (t := 91) rfl)
set_option maxHeartbeats 100000 in
theorem kX12_fallsFrom_88 {d : Nat} {F : am_FT} {L : am_LT} {Q : am_QT} {l0 l1 l2 l3 l4 l5 l7 : Option Value} {x6 : Int32} (h1 : narrow .boolean (.int x6) = .int x6) : wt am_S0 d mX12_fallsFrom 88 [l0, l1, l2, l3, l4, l5, some (.int x6), l7] [] F L Q = Q (some (.int x6)) F L := (wt_iload dX12_fallsFrom_88 rfl).trans (wt_ireturn dX12_fallsFrom_90 rfl h1)
set_option maxHeartbeats 100000 in
theorem kX12_fallsFrom_91 {d : Nat} {F : am_FT} {L : am_LT} {Q : am_QT} {l0 l1 l2 l3 l4 l5 : Option Value} {x7 x6 : Int32} : wt am_S0 d mX12_fallsFrom 91 [l0, l1, l2, l3, l4, l5, some (.int x6), some (.int x7)] [] F L Q = wt am_S0 d mX12_fallsFrom 56 [l0, l1, l2, l3, l4, l5, some (.int x6), some (.int (x7 + 1))] [] F L Q := (wt_iinc dX12_fallsFrom_91 (v := 1) (lv1 := [l0, l1, l2, l3, l4, l5, some (.int x6), some (.int (x7 + 1))]) rfl (Nat.le_of_ble_eq_true rfl) (by decide) rfl).trans (wt_goto dX12_fallsFrom_94 (t := 56) rfl)
set_option maxHeartbeats 100000 in
theorem kX12_fallsFrom_97 {d : Nat} {F : am_FT} {L : am_LT} {Q : am_QT} {l6 l7 : Option Value} {x1 x2 x3 x4 x5 : Int32} : wt am_S0 (d + 1) mX12_fallsFrom 97 [some (.ref 45), some (.int x1), some (.int x2), some (.int x3), some (.int x4), some (.int x5), l6, l7] [] F L Q = wc am_S0 d mX12_fallsFrom [.ref 45, .int x1, .int x2, .int x3, .int (x4 + 1), .int x5] F L (fun r G K => wt am_S0 (d + 1) mX12_fallsFrom 110 [some (.ref 45), some (.int x1), some (.int x2), some (.int x3), some (.int x4), some (.int x5), l6, l7] (r.toList ++ []) G K Q) := (wt_aload_n dX12_fallsFrom_97 rfl rfl).trans ((wt_iload_n dX12_fallsFrom_98 rfl).trans ((wt_iload_n dX12_fallsFrom_99 rfl).trans ((wt_iload_n dX12_fallsFrom_100 rfl).trans ((wt_iload dX12_fallsFrom_101 rfl).trans ((wt_iconst dX12_fallsFrom_103 (v := 1) (by decide)).trans ((wt_iadd dX12_fallsFrom_104).trans ((wt_iload dX12_fallsFrom_105 rfl).trans (wt_callV dX12_fallsFrom_107 rfl (as := [.int x1, .int x2, .int x3, .int (x4 + 1), .int x5]) (rest := []) rfl rfl (Nat.le_of_ble_eq_true rfl) rfl (Nat.le_of_ble_eq_true rfl)))))))))
set_option maxHeartbeats 100000 in
theorem kX12_fallsFrom_110 {d : Nat} {F : am_FT} {L : am_LT} {Q : am_QT} {l0 l1 l2 l3 l4 l5 l6 l7 : Option Value} {s0 : Int32} (h1 : narrow .boolean (.int s0) = .int s0) : wt am_S0 d mX12_fallsFrom 110 [l0, l1, l2, l3, l4, l5, l6, l7] [.int s0] F L Q = Q (some (.int s0)) F L := wt_ireturn dX12_fallsFrom_110 rfl h1
