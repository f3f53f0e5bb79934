theorem dX1_firstWrong_0 : decode mX1_firstWrong.2.2.1 0 = .ok (.aload_n 1, 1) := by decide +kernel
theorem dX1_firstWrong_1 : decode mX1_firstWrong.2.2.1 1 = .ok (.invokestatic 38, 3) := by decide +kernel
theorem dX1_firstWrong_4 : decode mX1_firstWrong.2.2.1 4 = .ok (.istore_n 3, 1) := by decide +kernel
theorem dX1_firstWrong_5 : decode mX1_firstWrong.2.2.1 5 = .ok (.iconst 0, 1) := by decide +kernel
theorem dX1_firstWrong_6 : decode mX1_firstWrong.2.2.1 6 = .ok (.istore 4, 2) := by decide +kernel
theorem dX1_firstWrong_8 : decode mX1_firstWrong.2.2.1 8 = .ok (.iload 4, 2) := by decide +kernel
theorem dX1_firstWrong_10 : decode mX1_firstWrong.2.2.1 10 = .ok (.iload_n 3, 1) := by decide +kernel
theorem dX1_firstWrong_11 : decode mX1_firstWrong.2.2.1 11 = .ok (.if_icmp .ge 98, 3) := by decide +kernel
theorem dX1_firstWrong_14 : decode mX1_firstWrong.2.2.1 14 = .ok (.aload_n 1, 1) := by decide +kernel
theorem dX1_firstWrong_15 : decode mX1_firstWrong.2.2.1 15 = .ok (.iload 4, 2) := by decide +kernel
theorem dX1_firstWrong_17 : decode mX1_firstWrong.2.2.1 17 = .ok (.invokestatic 42, 3) := by decide +kernel
theorem dX1_firstWrong_20 : decode mX1_firstWrong.2.2.1 20 = .ok (.ifCond .ne 6, 3) := by decide +kernel
theorem dX1_firstWrong_23 : decode mX1_firstWrong.2.2.1 23 = .ok (.iload 4, 2) := by decide +kernel
theorem dX1_firstWrong_25 : decode mX1_firstWrong.2.2.1 25 = .ok (.ireturn, 1) := by decide +kernel
theorem dX1_firstWrong_26 : decode mX1_firstWrong.2.2.1 26 = .ok (.aload_n 0, 1) := by decide +kernel
theorem dX1_firstWrong_27 : decode mX1_firstWrong.2.2.1 27 = .ok (.getfield 15, 3) := by decide +kernel
theorem dX1_firstWrong_30 : decode mX1_firstWrong.2.2.1 30 = .ok (.iload_n 2, 1) := by decide +kernel
theorem dX1_firstWrong_31 : decode mX1_firstWrong.2.2.1 31 = .ok (.aload_n 1, 1) := by decide +kernel
theorem dX1_firstWrong_32 : decode mX1_firstWrong.2.2.1 32 = .ok (.iconst 2, 1) := by decide +kernel
theorem dX1_firstWrong_33 : decode mX1_firstWrong.2.2.1 33 = .ok (.iload 4, 2) := by decide +kernel
theorem dX1_firstWrong_35 : decode mX1_firstWrong.2.2.1 35 = .ok (.imul, 1) := by decide +kernel
theorem dX1_firstWrong_36 : decode mX1_firstWrong.2.2.1 36 = .ok (.invokevirtual 32, 3) := by decide +kernel
theorem dX1_firstWrong_39 : decode mX1_firstWrong.2.2.1 39 = .ok (.l2i, 1) := by decide +kernel
theorem dX1_firstWrong_40 : decode mX1_firstWrong.2.2.1 40 = .ok (.aload_n 0, 1) := by decide +kernel
theorem dX1_firstWrong_41 : decode mX1_firstWrong.2.2.1 41 = .ok (.getfield 9, 3) := by decide +kernel
theorem dX1_firstWrong_44 : decode mX1_firstWrong.2.2.1 44 = .ok (.iload_n 2, 1) := by decide +kernel
theorem dX1_firstWrong_45 : decode mX1_firstWrong.2.2.1 45 = .ok (.iconst 1, 1) := by decide +kernel
theorem dX1_firstWrong_46 : decode mX1_firstWrong.2.2.1 46 = .ok (.invokevirtual 46, 3) := by decide +kernel
theorem dX1_firstWrong_49 : decode mX1_firstWrong.2.2.1 49 = .ok (.invokevirtual 52, 3) := by decide +kernel
theorem dX1_firstWrong_52 : decode mX1_firstWrong.2.2.1 52 = .ok (.aload_n 0, 1) := by decide +kernel
theorem dX1_firstWrong_53 : decode mX1_firstWrong.2.2.1 53 = .ok (.getfield 15, 3) := by decide +kernel
theorem dX1_firstWrong_56 : decode mX1_firstWrong.2.2.1 56 = .ok (.aload_n 0, 1) := by decide +kernel
theorem dX1_firstWrong_57 : decode mX1_firstWrong.2.2.1 57 = .ok (.getfield 15, 3) := by decide +kernel
theorem dX1_firstWrong_60 : decode mX1_firstWrong.2.2.1 60 = .ok (.getfield 58, 3) := by decide +kernel
theorem dX1_firstWrong_63 : decode mX1_firstWrong.2.2.1 63 = .ok (.aload_n 0, 1) := by decide +kernel
theorem dX1_firstWrong_64 : decode mX1_firstWrong.2.2.1 64 = .ok (.getfield 15, 3) := by decide +kernel
theorem dX1_firstWrong_67 : decode mX1_firstWrong.2.2.1 67 = .ok (.getfield 62, 3) := by decide +kernel
theorem dX1_firstWrong_70 : decode mX1_firstWrong.2.2.1 70 = .ok (.invokevirtual 65, 3) := by decide +kernel
theorem dX1_firstWrong_73 : decode mX1_firstWrong.2.2.1 73 = .ok (.istore 5, 2) := by decide +kernel
theorem dX1_firstWrong_75 : decode mX1_firstWrong.2.2.1 75 = .ok (.iload 5, 2) := by decide +kernel
theorem dX1_firstWrong_77 : decode mX1_firstWrong.2.2.1 77 = .ok (.aload_n 1, 1) := by decide +kernel
theorem dX1_firstWrong_78 : decode mX1_firstWrong.2.2.1 78 = .ok (.iconst 2, 1) := by decide +kernel
theorem dX1_firstWrong_79 : decode mX1_firstWrong.2.2.1 79 = .ok (.iload 4, 2) := by decide +kernel
theorem dX1_firstWrong_81 : decode mX1_firstWrong.2.2.1 81 = .ok (.imul, 1) := by decide +kernel
theorem dX1_firstWrong_82 : decode mX1_firstWrong.2.2.1 82 = .ok (.iconst 1, 1) := by decide +kernel
theorem dX1_firstWrong_83 : decode mX1_firstWrong.2.2.1 83 = .ok (.iadd, 1) := by decide +kernel
theorem dX1_firstWrong_84 : decode mX1_firstWrong.2.2.1 84 = .ok (.invokevirtual 32, 3) := by decide +kernel
theorem dX1_firstWrong_87 : decode mX1_firstWrong.2.2.1 87 = .ok (.lconst 1, 1) := by decide +kernel
theorem dX1_firstWrong_88 : decode mX1_firstWrong.2.2.1 88 = .ok (.lcmp, 1) := by decide +kernel
theorem dX1_firstWrong_89 : decode mX1_firstWrong.2.2.1 89 = .ok (.ifCond .ne 7, 3) := by decide +kernel
theorem dX1_firstWrong_92 : decode mX1_firstWrong.2.2.1 92 = .ok (.iconst 1, 1) := by decide +kernel
theorem dX1_firstWrong_93 : decode mX1_firstWrong.2.2.1 93 = .ok (.goto 4, 3) := by decide +kernel
theorem dX1_firstWrong_96 : decode mX1_firstWrong.2.2.1 96 = .ok (.iconst 0, 1) := by decide +kernel
theorem dX1_firstWrong_97 : decode mX1_firstWrong.2.2.1 97 = .ok (.if_icmp .eq 6, 3) := by decide +kernel
theorem dX1_firstWrong_100 : decode mX1_firstWrong.2.2.1 100 = .ok (.iload 4, 2) := by decide +kernel
theorem dX1_firstWrong_102 : decode mX1_firstWrong.2.2.1 102 = .ok (.ireturn, 1) := by decide +kernel
theorem dX1_firstWrong_103 : decode mX1_firstWrong.2.2.1 103 = .ok (.iinc 4 1, 3) := by decide +kernel
theorem dX1_firstWrong_106 : decode mX1_firstWrong.2.2.1 106 = .ok (.goto (-98), 3) := by decide +kernel
theorem dX1_firstWrong_109 : decode mX1_firstWrong.2.2.1 109 = .ok (.bipush (-2), 2) := by decide +kernel
theorem dX1_firstWrong_111 : decode mX1_firstWrong.2.2.1 111 = .ok (.ireturn, 1) := by decide +kernel
set_option maxHeartbeats 100000 in
theorem kX1_firstWrong_0 {d : Nat} {F : am_FT} {L : am_LT} {Q : am_QT} {l0 l2 l3 l4 l5 : Option Value} {p1 : Nat} : wt am_S0 (d + 1) mX1_firstWrong 0 [l0, some (.ref p1), l2, l3, l4, l5] [] F L Q = wc am_S0 d mX1_twosOf [.ref p1] F L (fun r G K => wt am_S0 (d + 1) mX1_firstWrong 4 [l0, some (.ref p1), l2, l3, l4, l5] (r.toList ++ []) G K Q) := (wt_aload_n dX1_firstWrong_0 rfl rfl).trans (wt_callS dX1_firstWrong_1 rfl (as := [.ref p1]) (rest := []) rfl rfl (Nat.le_of_ble_eq_true rfl) (Nat.le_of_ble_eq_true rfl))
set_option maxHeartbeats 100000 in
theorem kX1_firstWrong_4 {d : Nat} {F : am_FT} {L : am_LT} {Q : am_QT} {l0 l1 l3 l4 l5 : Option Value} {s0 x2 : Int32} : wt am_S0 d mX1_firstWrong 4 [l0, l1, some (.int x2), l3, l4, l5] [.int s0] F L Q = wt am_S0 d mX1_firstWrong 8 [l0, l1, some (.int x2), some (.int s0), some (.int 0), l5] [] F L Q := (wt_istore_n dX1_firstWrong_4 (lv1 := [l0, l1, some (.int x2), some (.int s0), l4, l5]) (Nat.le_of_ble_eq_true rfl) rfl).trans ((wt_iconst dX1_firstWrong_5 (v := 0) (by decide)).trans (wt_istore dX1_firstWrong_6 (lv1 := [l0, l1, some (.int x2), some (.int s0), some (.int 0), l5]) (Nat.le_of_ble_eq_true rfl) rfl))
set_option maxHeartbeats 100000 in
theorem kX1_firstWrong_8 {d : Nat} {F : am_FT} {L : am_LT} {Q : am_QT} {l0 l1 l2 l5 : Option Value} {x4 x3 : Int32} : wt am_S0 d mX1_firstWrong 8 [l0, l1, l2, some (.int x3), some (.int x4), l5] [] F L Q = if x3 ≤ x4 then wt am_S0 d mX1_firstWrong 109 [l0, l1, l2, some (.int x3), some (.int x4), l5] [] F L Q else wt am_S0 d mX1_firstWrong 14 [l0, l1, l2, some (.int x3), some (.int x4), l5] [] F L Q := (wt_iload dX1_firstWrong_8 rfl).trans ((wt_iload_n dX1_firstWrong_10 rfl).trans (wt_if_icmp_ge dX1_firstWrong_11 (t := 109) rfl))
set_option maxHeartbeats 100000 in
theorem kX1_firstWrong_14 {d : Nat} {F : am_FT} {L : am_LT} {Q : am_QT} {l0 l2 l3 l5 : Option Value} {p1 : Nat} {x4 : Int32} : wt am_S0 (d + 1) mX1_firstWrong 14 [l0, some (.ref p1), l2, l3, some (.int x4), l5] [] F L Q = wc am_S0 d mX1_isWellSaid [.ref p1, .int x4] F L (fun r G K => wt am_S0 (d + 1) mX1_firstWrong 20 [l0, some (.ref p1), l2, l3, some (.int x4), l5] (r.toList ++ []) G K Q) := (wt_aload_n dX1_firstWrong_14 rfl rfl).trans ((wt_iload dX1_firstWrong_15 rfl).trans (wt_callS dX1_firstWrong_17 rfl (as := [.ref p1, .int x4]) (rest := []) rfl rfl (Nat.le_of_ble_eq_true rfl) (Nat.le_of_ble_eq_true rfl)))
set_option maxHeartbeats 100000 in
theorem kX1_firstWrong_20 {d : Nat} {F : am_FT} {L : am_LT} {Q : am_QT} {l0 l1 l2 l3 l4 l5 : Option Value} {s0 : Int32} : wt am_S0 d mX1_firstWrong 20 [l0, l1, l2, l3, l4, l5] [.int s0] F L Q = if ¬ s0 = 0 then wt am_S0 d mX1_firstWrong 26 [l0, l1, l2, l3, l4, l5] [] F L Q else wt am_S0 d mX1_firstWrong 23 [l0, l1, l2, l3, l4, l5] [] F L Q := wt_ifCond_ne dX1_firstWrong_20 (t := 26) rfl
set_option maxHeartbeats 100000 in
theorem kX1_firstWrong_23 {d : Nat} {F : am_FT} {L : am_LT} {Q : am_QT} {l0 l1 l2 l3 l5 : Option Value} {x4 : Int32} : wt am_S0 d mX1_firstWrong 23 [l0, l1, l2, l3, some (.int x4), l5] [] F L Q = Q (some (.int x4)) F L := (wt_iload dX1_firstWrong_23 rfl).trans (wt_ireturn dX1_firstWrong_25 rfl rfl)
set_option maxHeartbeats 100000 in
theorem kX1_firstWrong_26 {d : Nat} {F : am_FT} {L : am_LT} {Q : am_QT} {l3 l5 : Option Value} {x2 x4 : Int32} {p1 e1 : Nat} (h1 : am_S0[p1]? = some (8, 4, [some e1, none, none, none])) : wt am_S0 (d + 1) mX1_firstWrong 26 [some (.ref 17), some (.ref p1), some (.int x2), l3, some (.int x4), l5] [] F L Q = wc am_S0 d mX8_valueAt [.ref p1, .int (2 * x4)] F L (fun r G K => wt am_S0 (d + 1) mX1_firstWrong 39 [some (.ref 17), some (.ref p1), some (.int x2), l3, some (.int x4), l5] (r.toList ++ [.int x2, .ref 9]) G K Q) := (wt_aload_n dX1_firstWrong_26 rfl rfl).trans ((wt_getfield dX1_firstWrong_27 rfl rfl (v := .ref 9) rfl).trans ((wt_iload_n dX1_firstWrong_30 rfl).trans ((wt_aload_n dX1_firstWrong_31 rfl rfl).trans ((wt_iconst dX1_firstWrong_32 (v := 2) (by decide)).trans ((wt_iload dX1_firstWrong_33 rfl).trans ((wt_imul dX1_firstWrong_35).trans (wt_callV dX1_firstWrong_36 rfl (as := [.int (2 * x4)]) (rest := [.int x2, .ref 9]) rfl rfl (Nat.le_of_ble_eq_true rfl) h1 (Nat.le_of_ble_eq_true rfl))))))))
set_option maxHeartbeats 100000 in
theorem kX1_firstWrong_39 {d : Nat} {F : am_FT} {L : am_LT} {Q : am_QT} {l1 l3 l4 l5 : Option Value} {s1 x2 : Int32} {s2 : Int64} : wt am_S0 (d + 1) mX1_firstWrong 39 [some (.ref 17), l1, some (.int x2), l3, l4, l5] [.long s2, .int s1, .ref 9] F L Q = wc am_S0 d mX5_read [.ref 1, .int x2, .int 1] F L (fun r G K => wt am_S0 (d + 1) mX1_firstWrong 49 [some (.ref 17), l1, some (.int x2), l3, l4, l5] (r.toList ++ [.int (Int64.toInt32 s2), .int s1, .ref 9]) G K Q) := (wt_l2i dX1_firstWrong_39).trans ((wt_aload_n dX1_firstWrong_40 rfl rfl).trans ((wt_getfield dX1_firstWrong_41 rfl rfl (v := .ref 1) rfl).trans ((wt_iload_n dX1_firstWrong_44 rfl).trans ((wt_iconst dX1_firstWrong_45 (v := 1) (by decide)).trans (wt_callV dX1_firstWrong_46 rfl (as := [.int x2, .int 1]) (rest := [.int (Int64.toInt32 s2), .int s1, .ref 9]) rfl rfl (Nat.le_of_ble_eq_true rfl) rfl (Nat.le_of_ble_eq_true rfl))))))
set_option maxHeartbeats 100000 in
theorem kX1_firstWrong_49 {d : Nat} {F : am_FT} {L : am_LT} {Q : am_QT} {l0 l1 l2 l3 l4 l5 : Option Value} {s1 s2 s3 : Int32} : wt am_S0 (d + 1) mX1_firstWrong 49 [l0, l1, l2, l3, l4, l5] [.int s3, .int s2, .int s1, .ref 9] F L Q = wc am_S0 d mX0_openAsIf [.ref 9, .int s1, .int s2, .int s3] F L (fun r G K => wt am_S0 (d + 1) mX1_firstWrong 52 [l0, l1, l2, l3, l4, l5] (r.toList ++ []) G K Q) := wt_callV dX1_firstWrong_49 rfl (as := [.int s1, .int s2, .int s3]) (rest := []) rfl rfl (Nat.le_of_ble_eq_true rfl) rfl (Nat.le_of_ble_eq_true rfl)
set_option maxHeartbeats 100000 in
theorem kX1_firstWrong_52 {d : Nat} {F : am_FT} {L : am_LT} {Q : am_QT} {l1 l2 l3 l4 l5 : Option Value} : wt am_S0 (d + 1) mX1_firstWrong 52 [some (.ref 17), l1, l2, l3, l4, l5] [] F L Q = wc am_S0 d mX0_passes [.ref 9, .int (F 9 5), .int (F 9 6)] F L (fun r G K => wt am_S0 (d + 1) mX1_firstWrong 73 [some (.ref 17), l1, l2, l3, l4, l5] (r.toList ++ []) G K Q) := (wt_aload_n dX1_firstWrong_52 rfl rfl).trans ((wt_getfield dX1_firstWrong_53 rfl rfl (v := .ref 9) rfl).trans ((wt_aload_n dX1_firstWrong_56 rfl rfl).trans ((wt_getfield dX1_firstWrong_57 rfl rfl (v := .ref 9) rfl).trans ((wt_getfield dX1_firstWrong_60 rfl rfl (v := .int (F 9 5)) rfl).trans ((wt_aload_n dX1_firstWrong_63 rfl rfl).trans ((wt_getfield dX1_firstWrong_64 rfl rfl (v := .ref 9) rfl).trans ((wt_getfield dX1_firstWrong_67 rfl rfl (v := .int (F 9 6)) rfl).trans (wt_callV dX1_firstWrong_70 rfl (as := [.int (F 9 5), .int (F 9 6)]) (rest := []) rfl rfl (Nat.le_of_ble_eq_true rfl) rfl (Nat.le_of_ble_eq_true rfl)))))))))
set_option maxHeartbeats 100000 in
theorem kX1_firstWrong_73 {d : Nat} {F : am_FT} {L : am_LT} {Q : am_QT} {l0 l2 l3 l5 : Option Value} {s0 x4 : Int32} {p1 e1 : Nat} (h1 : am_S0[p1]? = some (8, 4, [some e1, none, none, none])) : wt am_S0 (d + 1) mX1_firstWrong 73 [l0, some (.ref p1), l2, l3, some (.int x4), l5] [.int s0] F L Q = wc am_S0 d mX8_valueAt [.ref p1, .int ((2 * x4) + 1)] F L (fun r G K => wt am_S0 (d + 1) mX1_firstWrong 87 [l0, some (.ref p1), l2, l3, some (.int x4), some (.int s0)] (r.toList ++ [.int s0]) G K Q) := (wt_istore dX1_firstWrong_73 (lv1 := [l0, some (.ref p1), l2, l3, some (.int x4), some (.int s0)]) (Nat.le_of_ble_eq_true rfl) rfl).trans ((wt_iload dX1_firstWrong_75 rfl).trans ((wt_aload_n dX1_firstWrong_77 rfl rfl).trans ((wt_iconst dX1_firstWrong_78 (v := 2) (by decide)).trans ((wt_iload dX1_firstWrong_79 rfl).trans ((wt_imul dX1_firstWrong_81).trans ((wt_iconst dX1_firstWrong_82 (v := 1) (by decide)).trans ((wt_iadd dX1_firstWrong_83).trans (wt_callV dX1_firstWrong_84 rfl (as := [.int ((2 * x4) + 1)]) (rest := [.int s0]) rfl rfl (Nat.le_of_ble_eq_true rfl) h1 (Nat.le_of_ble_eq_true rfl)))))))))
set_option maxHeartbeats 100000 in
theorem kX1_firstWrong_87 {d : Nat} {F : am_FT} {L : am_LT} {Q : am_QT} {l0 l1 l2 l3 l4 l5 : Option Value} {s0 : Int32} {s1 : Int64} : wt am_S0 d mX1_firstWrong 87 [l0, l1, l2, l3, l4, l5] [.long s1, .int s0] F L Q = if ¬ (lg_cmp s1 1) = 0 then wt am_S0 d mX1_firstWrong 96 [l0, l1, l2, l3, l4, l5] [.int s0] F L Q else wt am_S0 d mX1_firstWrong 92 [l0, l1, l2, l3, l4, l5] [.int s0] F L Q := (wt_lconst dX1_firstWrong_87 (v := 1) (by decide)).trans ((wt_lcmp dX1_firstWrong_88).trans (wt_ifCond_ne dX1_firstWrong_89 (t := 96) rfl))
set_option maxHeartbeats 100000 in
theorem kX1_firstWrong_92 {d : Nat} {F : am_FT} {L : am_LT} {Q : am_QT} {l0 l1 l2 l3 l4 l5 : Option Value} {s0 : Int32} : wt am_S0 d mX1_firstWrong 92 [l0, l1, l2, l3, l4, l5] [.int s0] F L Q = wt am_S0 d mX1_firstWrong 97 [l0, l1, l2, l3, l4, l5] [.int 1, .int s0] F L Q := (wt_iconst dX1_firstWrong_92 (v := 1) (by decide)).trans (wt_goto dX1_firstWrong_93 (t := 97) rfl)
set_option maxHeartbeats 100000 in
theorem kX1_firstWrong_96 {d : Nat} {F : am_FT} {L : am_LT} {Q : am_QT} {l0 l1 l2 l3 l4 l5 : Option Value} {s0 : Int32} : wt am_S0 d mX1_firstWrong 96 [l0, l1, l2, l3, l4, l5] [.int s0] F L Q = wt am_S0 d mX1_firstWrong 97 [l0, l1, l2, l3, l4, l5] [.int 0, .int s0] F L Q := wt_iconst dX1_firstWrong_96 (v := 0) (by decide)
set_option maxHeartbeats 100000 in
theorem kX1_firstWrong_97 {d : Nat} {F : am_FT} {L : am_LT} {Q : am_QT} {l0 l1 l2 l3 l4 l5 : Option Value} {s0 s1 : Int32} : wt am_S0 d mX1_firstWrong 97 [l0, l1, l2, l3, l4, l5] [.int s1, .int s0] F L Q = if s0 = s1 then wt am_S0 d mX1_firstWrong 103 [l0, l1, l2, l3, l4, l5] [] F L Q else wt am_S0 d mX1_firstWrong 100 [l0, l1, l2, l3, l4, l5] [] F L Q := wt_if_icmp_eq dX1_firstWrong_97 (t := 103) rfl
set_option maxHeartbeats 100000 in
theorem kX1_firstWrong_100 {d : Nat} {F : am_FT} {L : am_LT} {Q : am_QT} {l0 l1 l2 l3 l5 : Option Value} {x4 : Int32} : wt am_S0 d mX1_firstWrong 100 [l0, l1, l2, l3, some (.int x4), l5] [] F L Q = Q (some (.int x4)) F L := (wt_iload dX1_firstWrong_100 rfl).trans (wt_ireturn dX1_firstWrong_102 rfl rfl)
set_option maxHeartbeats 100000 in
theorem kX1_firstWrong_103 {d : Nat} {F : am_FT} {L : am_LT} {Q : am_QT} {l0 l1 l2 l5 : Option Value} {x4 x3 : Int32} : wt am_S0 d mX1_firstWrong 103 [l0, l1, l2, some (.int x3), some (.int x4), l5] [] F L Q = wt am_S0 d mX1_firstWrong 8 [l0, l1, l2, some (.int x3), some (.int (x4 + 1)), l5] [] F L Q := (wt_iinc dX1_firstWrong_103 (v := 1) (lv1 := [l0, l1, l2, some (.int x3), some (.int (x4 + 1)), l5]) rfl (Nat.le_of_ble_eq_true rfl) (by decide) rfl).trans (wt_goto dX1_firstWrong_106 (t := 8) rfl)
set_option maxHeartbeats 100000 in
theorem kX1_firstWrong_109 {d : Nat} {F : am_FT} {L : am_LT} {Q : am_QT} {l0 l1 l2 l3 l4 l5 : Option Value} : wt am_S0 d mX1_firstWrong 109 [l0, l1, l2, l3, l4, l5] [] F L Q = Q (some (.int (-2))) F L := (wt_bipush dX1_firstWrong_109 (v := (-2)) (by decide)).trans (wt_ireturn dX1_firstWrong_111 rfl rfl)
theorem dX1_twosOf_0 : decode mX1_twosOf.2.2.1 0 = .ok (.aload_n 0, 1) := by decide +kernel
theorem dX1_twosOf_1 : decode mX1_twosOf.2.2.1 1 = .ok (.invokevirtual 26, 3) := by decide +kernel
theorem dX1_twosOf_4 : decode mX1_twosOf.2.2.1 4 = .ok (.iconst 1, 1) := by decide +kernel
theorem dX1_twosOf_5 : decode mX1_twosOf.2.2.1 5 = .ok (.iadd, 1) := by decide +kernel
theorem dX1_twosOf_6 : decode mX1_twosOf.2.2.1 6 = .ok (.iconst 2, 1) := by decide +kernel
theorem dX1_twosOf_7 : decode mX1_twosOf.2.2.1 7 = .ok (.idiv, 1) := by decide +kernel
theorem dX1_twosOf_8 : decode mX1_twosOf.2.2.1 8 = .ok (.ireturn, 1) := by decide +kernel
set_option maxHeartbeats 100000 in
theorem kX1_twosOf_0 {d : Nat} {F : am_FT} {L : am_LT} {Q : am_QT} {p0 e1 : Nat} (h1 : am_S0[p0]? = some (8, 4, [some e1, none, none, none])) : wt am_S0 (d + 1) mX1_twosOf 0 [some (.ref p0)] [] F L Q = wc am_S0 d mX8_size [.ref p0] F L (fun r G K => wt am_S0 (d + 1) mX1_twosOf 4 [some (.ref p0)] (r.toList ++ []) G K Q) := (wt_aload_n dX1_twosOf_0 rfl rfl).trans (wt_callV dX1_twosOf_1 rfl (as := []) (rest := []) rfl rfl (Nat.le_of_ble_eq_true rfl) h1 (Nat.le_of_ble_eq_true rfl))
set_option maxHeartbeats 100000 in
theorem kX1_twosOf_4 {d : Nat} {F : am_FT} {L : am_LT} {Q : am_QT} {l0 : Option Value} {s0 : Int32} : wt am_S0 d mX1_twosOf 4 [l0] [.int s0] F L Q = Q (some (.int ((s0 + 1) / 2))) F L := (wt_iconst dX1_twosOf_4 (v := 1) (by decide)).trans ((wt_iadd dX1_twosOf_5).trans ((wt_iconst dX1_twosOf_6 (v := 2) (by decide)).trans ((wt_idiv dX1_twosOf_7 (by decide)).trans (wt_ireturn dX1_twosOf_8 rfl rfl))))
theorem dX1_isWellSaid_0 : decode mX1_isWellSaid.2.2.1 0 = .ok (.iconst 2, 1) := by decide +kernel
theorem dX1_isWellSaid_1 : decode mX1_isWellSaid.2.2.1 1 = .ok (.iload_n 1, 1) := by decide +kernel
theorem dX1_isWellSaid_2 : decode mX1_isWellSaid.2.2.1 2 = .ok (.imul, 1) := by decide +kernel
theorem dX1_isWellSaid_3 : decode mX1_isWellSaid.2.2.1 3 = .ok (.iconst 1, 1) := by decide +kernel
theorem dX1_isWellSaid_4 : decode mX1_isWellSaid.2.2.1 4 = .ok (.iadd, 1) := by decide +kernel
theorem dX1_isWellSaid_5 : decode mX1_isWellSaid.2.2.1 5 = .ok (.aload_n 0, 1) := by decide +kernel
theorem dX1_isWellSaid_6 : decode mX1_isWellSaid.2.2.1 6 = .ok (.invokevirtual 26, 3) := by decide +kernel
theorem dX1_isWellSaid_9 : decode mX1_isWellSaid.2.2.1 9 = .ok (.if_icmp .lt 5, 3) := by decide +kernel
theorem dX1_isWellSaid_12 : decode mX1_isWellSaid.2.2.1 12 = .ok (.iconst 0, 1) := by decide +kernel
theorem dX1_isWellSaid_13 : decode mX1_isWellSaid.2.2.1 13 = .ok (.ireturn, 1) := by decide +kernel
theorem dX1_isWellSaid_14 : decode mX1_isWellSaid.2.2.1 14 = .ok (.aload_n 0, 1) := by decide +kernel
theorem dX1_isWellSaid_15 : decode mX1_isWellSaid.2.2.1 15 = .ok (.iconst 2, 1) := by decide +kernel
theorem dX1_isWellSaid_16 : decode mX1_isWellSaid.2.2.1 16 = .ok (.iload_n 1, 1) := by decide +kernel
theorem dX1_isWellSaid_17 : decode mX1_isWellSaid.2.2.1 17 = .ok (.imul, 1) := by decide +kernel
theorem dX1_isWellSaid_18 : decode mX1_isWellSaid.2.2.1 18 = .ok (.invokevirtual 32, 3) := by decide +kernel
theorem dX1_isWellSaid_21 : decode mX1_isWellSaid.2.2.1 21 = .ok (.lstore_n 2, 1) := by decide +kernel
theorem dX1_isWellSaid_22 : decode mX1_isWellSaid.2.2.1 22 = .ok (.aload_n 0, 1) := by decide +kernel
theorem dX1_isWellSaid_23 : decode mX1_isWellSaid.2.2.1 23 = .ok (.iconst 2, 1) := by decide +kernel
theorem dX1_isWellSaid_24 : decode mX1_isWellSaid.2.2.1 24 = .ok (.iload_n 1, 1) := by decide +kernel
theorem dX1_isWellSaid_25 : decode mX1_isWellSaid.2.2.1 25 = .ok (.imul, 1) := by decide +kernel
theorem dX1_isWellSaid_26 : decode mX1_isWellSaid.2.2.1 26 = .ok (.iconst 1, 1) := by decide +kernel
theorem dX1_isWellSaid_27 : decode mX1_isWellSaid.2.2.1 27 = .ok (.iadd, 1) := by decide +kernel
theorem dX1_isWellSaid_28 : decode mX1_isWellSaid.2.2.1 28 = .ok (.invokevirtual 32, 3) := by decide +kernel
theorem dX1_isWellSaid_31 : decode mX1_isWellSaid.2.2.1 31 = .ok (.lstore 4, 2) := by decide +kernel
theorem dX1_isWellSaid_33 : decode mX1_isWellSaid.2.2.1 33 = .ok (.lload_n 2, 1) := by decide +kernel
theorem dX1_isWellSaid_34 : decode mX1_isWellSaid.2.2.1 34 = .ok (.lconst 0, 1) := by decide +kernel
theorem dX1_isWellSaid_35 : decode mX1_isWellSaid.2.2.1 35 = .ok (.lcmp, 1) := by decide +kernel
theorem dX1_isWellSaid_36 : decode mX1_isWellSaid.2.2.1 36 = .ok (.ifCond .lt 29, 3) := by decide +kernel
theorem dX1_isWellSaid_39 : decode mX1_isWellSaid.2.2.1 39 = .ok (.lload_n 2, 1) := by decide +kernel
theorem dX1_isWellSaid_40 : decode mX1_isWellSaid.2.2.1 40 = .ok (.ldc2_w 36, 3) := by decide +kernel
theorem dX1_isWellSaid_43 : decode mX1_isWellSaid.2.2.1 43 = .ok (.lcmp, 1) := by decide +kernel
theorem dX1_isWellSaid_44 : decode mX1_isWellSaid.2.2.1 44 = .ok (.ifCond .ge 21, 3) := by decide +kernel
theorem dX1_isWellSaid_47 : decode mX1_isWellSaid.2.2.1 47 = .ok (.lload 4, 2) := by decide +kernel
theorem dX1_isWellSaid_49 : decode mX1_isWellSaid.2.2.1 49 = .ok (.lconst 0, 1) := by decide +kernel
theorem dX1_isWellSaid_50 : decode mX1_isWellSaid.2.2.1 50 = .ok (.lcmp, 1) := by decide +kernel
theorem dX1_isWellSaid_51 : decode mX1_isWellSaid.2.2.1 51 = .ok (.ifCond .eq 10, 3) := by decide +kernel
theorem dX1_isWellSaid_54 : decode mX1_isWellSaid.2.2.1 54 = .ok (.lload 4, 2) := by decide +kernel
theorem dX1_isWellSaid_56 : decode mX1_isWellSaid.2.2.1 56 = .ok (.lconst 1, 1) := by decide +kernel
theorem dX1_isWellSaid_57 : decode mX1_isWellSaid.2.2.1 57 = .ok (.lcmp, 1) := by decide +kernel
theorem dX1_isWellSaid_58 : decode mX1_isWellSaid.2.2.1 58 = .ok (.ifCond .ne 7, 3) := by decide +kernel
theorem dX1_isWellSaid_61 : decode mX1_isWellSaid.2.2.1 61 = .ok (.iconst 1, 1) := by decide +kernel
theorem dX1_isWellSaid_62 : decode mX1_isWellSaid.2.2.1 62 = .ok (.goto 4, 3) := by decide +kernel
theorem dX1_isWellSaid_65 : decode mX1_isWellSaid.2.2.1 65 = .ok (.iconst 0, 1) := by decide +kernel
theorem dX1_isWellSaid_66 : decode mX1_isWellSaid.2.2.1 66 = .ok (.ireturn, 1) := by decide +kernel
set_option maxHeartbeats 100000 in
theorem kX1_isWellSaid_0 {d : Nat} {F : am_FT} {L : am_LT} {Q : am_QT} {l2 l3 l4 l5 : Option Value} {x1 : Int32} {p0 e1 : Nat} (h1 : am_S0[p0]? = some (8, 4, [some e1, none, none, none])) : wt am_S0 (d + 1) mX1_isWellSaid 0 [some (.ref p0), some (.int x1), l2, l3, l4, l5] [] F L Q = wc am_S0 d mX8_size [.ref p0] F L (fun r G K => wt am_S0 (d + 1) mX1_isWellSaid 9 [some (.ref p0), some (.int x1), l2, l3, l4, l5] (r.toList ++ [.int ((2 * x1) + 1)]) G K Q) := (wt_iconst dX1_isWellSaid_0 (v := 2) (by decide)).trans ((wt_iload_n dX1_isWellSaid_1 rfl).trans ((wt_imul dX1_isWellSaid_2).trans ((wt_iconst dX1_isWellSaid_3 (v := 1) (by decide)).trans ((wt_iadd dX1_isWellSaid_4).trans ((wt_aload_n dX1_isWellSaid_5 rfl rfl).trans (wt_callV dX1_isWellSaid_6 rfl (as := []) (rest := [.int ((2 * x1) + 1)]) rfl rfl (Nat.le_of_ble_eq_true rfl) h1 (Nat.le_of_ble_eq_true rfl)))))))
set_option maxHeartbeats 100000 in
theorem kX1_isWellSaid_9 {d : Nat} {F : am_FT} {L : am_LT} {Q : am_QT} {l0 l1 l2 l3 l4 l5 : Option Value} {s0 s1 : Int32} : wt am_S0 d mX1_isWellSaid 9 [l0, l1, l2, l3, l4, l5] [.int s1, .int s0] F L Q = if s0 < s1 then wt am_S0 d mX1_isWellSaid 14 [l0, l1, l2, l3, l4, l5] [] F L Q else wt am_S0 d mX1_isWellSaid 12 [l0, l1, l2, l3, l4, l5] [] F L Q := wt_if_icmp_lt dX1_isWellSaid_9 (t := 14) rfl
set_option maxHeartbeats 100000 in
theorem kX1_isWellSaid_12 {d : Nat} {F : am_FT} {L : am_LT} {Q : am_QT} {l0 l1 l2 l3 l4 l5 : Option Value} : wt am_S0 d mX1_isWellSaid 12 [l0, l1, l2, l3, l4, l5] [] F L Q = Q (some (.int 0)) F L := (wt_iconst dX1_isWellSaid_12 (v := 0) (by decide)).trans (wt_ireturn dX1_isWellSaid_13 rfl (by decide))
set_option maxHeartbeats 100000 in
theorem kX1_isWellSaid_14 {d : Nat} {F : am_FT} {L : am_LT} {Q : am_QT} {l2 l3 l4 l5 : Option Value} {p0 e1 : Nat} {x1 : Int32} (h1 : am_S0[p0]? = some (8, 4, [some e1, none, none, none])) : wt am_S0 (d + 1) mX1_isWellSaid 14 [some (.ref p0), some (.int x1), l2, l3, l4, l5] [] F L Q = wc am_S0 d mX8_valueAt [.ref p0, .int (2 * x1)] F L (fun r G K => wt am_S0 (d + 1) mX1_isWellSaid 21 [some (.ref p0), some (.int x1), l2, l3, l4, l5] (r.toList ++ []) G K Q) := (wt_aload_n dX1_isWellSaid_14 rfl rfl).trans ((wt_iconst dX1_isWellSaid_15 (v := 2) (by decide)).trans ((wt_iload_n dX1_isWellSaid_16 rfl).trans ((wt_imul dX1_isWellSaid_17).trans (wt_callV dX1_isWellSaid_18 rfl (as := [.int (2 * x1)]) (rest := []) rfl rfl (Nat.le_of_ble_eq_true rfl) h1 (Nat.le_of_ble_eq_true rfl)))))
set_option maxHeartbeats 100000 in
theorem kX1_isWellSaid_21 {d : Nat} {F : am_FT} {L : am_LT} {Q : am_QT} {l2 l3 l4 l5 : Option Value} {s0 : Int64} {x1 : Int32} {p0 e1 : Nat} (h1 : am_S0[p0]? = some (8, 4, [some e1, none, none, none])) : wt am_S0 (d + 1) mX1_isWellSaid 21 [some (.ref p0), some (.int x1), l2, l3, l4, l5] [.long s0] F L Q = wc am_S0 d mX8_valueAt [.ref p0, .int ((2 * x1) + 1)] F L (fun r G K => wt am_S0 (d + 1) mX1_isWellSaid 31 [some (.ref p0), some (.int x1), some (.long s0), none, l4, l5] (r.toList ++ []) G K Q) := (wt_lstore_n dX1_isWellSaid_21 (lv1 := [some (.ref p0), some (.int x1), some (.long s0), none, l4, l5]) (Nat.le_of_ble_eq_true rfl) rfl).trans ((wt_aload_n dX1_isWellSaid_22 rfl rfl).trans ((wt_iconst dX1_isWellSaid_23 (v := 2) (by decide)).trans ((wt_iload_n dX1_isWellSaid_24 rfl).trans ((wt_imul dX1_isWellSaid_25).trans ((wt_iconst dX1_isWellSaid_26 (v := 1) (by decide)).trans ((wt_iadd dX1_isWellSaid_27).trans (wt_callV dX1_isWellSaid_28 rfl (as := [.int ((2 * x1) + 1)]) (rest := []) rfl rfl (Nat.le_of_ble_eq_true rfl) h1 (Nat.le_of_ble_eq_true rfl))))))))
set_option maxHeartbeats 100000 in
theorem kX1_isWellSaid_31 {d : Nat} {F : am_FT} {L : am_LT} {Q : am_QT} {l0 l1 l4 l5 : Option Value} {s0 x2 : Int64} : wt am_S0 d mX1_isWellSaid 31 [l0, l1, some (.long x2), none, l4, l5] [.long s0] F L Q = if (lg_cmp x2 0) < 0 then wt am_S0 d mX1_isWellSaid 65 [l0, l1, some (.long x2), none, some (.long s0), none] [] F L Q else wt am_S0 d mX1_isWellSaid 39 [l0, l1, some (.long x2), none, some (.long s0), none] [] F L Q := (wt_lstore dX1_isWellSaid_31 (lv1 := [l0, l1, some (.long x2), none, some (.long s0), none]) (Nat.le_of_ble_eq_true rfl) rfl).trans ((wt_lload_n dX1_isWellSaid_33 rfl).trans ((wt_lconst dX1_isWellSaid_34 (v := 0) (by decide)).trans ((wt_lcmp dX1_isWellSaid_35).trans (wt_ifCond_lt dX1_isWellSaid_36 (t := 65) rfl))))
set_option maxHeartbeats 100000 in
theorem kX1_isWellSaid_39 {d : Nat} {F : am_FT} {L : am_LT} {Q : am_QT} {l0 l1 l3 l4 l5 : Option Value} {x2 : Int64} : wt am_S0 d mX1_isWellSaid 39 [l0, l1, some (.long x2), l3, l4, l5] [] F L Q = if 0 ≤ (lg_cmp x2 12) then wt am_S0 d mX1_isWellSaid 65 [l0, l1, some (.long x2), l3, l4, l5] [] F L Q else wt am_S0 d mX1_isWellSaid 47 [l0, l1, some (.long x2), l3, l4, l5] [] F L Q := (wt_lload_n dX1_isWellSaid_39 rfl).trans ((wt_ldc2_w dX1_isWellSaid_40 (v := 12) rfl).trans ((wt_lcmp dX1_isWellSaid_43).trans (wt_ifCond_ge dX1_isWellSaid_44 (t := 65) rfl)))
set_option maxHeartbeats 100000 in
theorem kX1_isWellSaid_47 {d : Nat} {F : am_FT} {L : am_LT} {Q : am_QT} {l0 l1 l2 l3 l5 : Option Value} {x4 : Int64} : wt am_S0 d mX1_isWellSaid 47 [l0, l1, l2, l3, some (.long x4), l5] [] F L Q = if (lg_cmp x4 0) = 0 then wt am_S0 d mX1_isWellSaid 61 [l0, l1, l2, l3, some (.long x4), l5] [] F L Q else wt am_S0 d mX1_isWellSaid 54 [l0, l1, l2, l3, some (.long x4), l5] [] F L Q := (wt_lload dX1_isWellSaid_47 rfl).trans ((wt_lconst dX1_isWellSaid_49 (v := 0) (by decide)).trans ((wt_lcmp dX1_isWellSaid_50).trans (wt_ifCond_eq dX1_isWellSaid_51 (t := 61) rfl)))
set_option maxHeartbeats 100000 in
theorem kX1_isWellSaid_54 {d : Nat} {F : am_FT} {L : am_LT} {Q : am_QT} {l0 l1 l2 l3 l5 : Option Value} {x4 : Int64} : wt am_S0 d mX1_isWellSaid 54 [l0, l1, l2, l3, some (.long x4), l5] [] F L Q = if ¬ (lg_cmp x4 1) = 0 then wt am_S0 d mX1_isWellSaid 65 [l0, l1, l2, l3, some (.long x4), l5] [] F L Q else wt am_S0 d mX1_isWellSaid 61 [l0, l1, l2, l3, some (.long x4), l5] [] F L Q := (wt_lload dX1_isWellSaid_54 rfl).trans ((wt_lconst dX1_isWellSaid_56 (v := 1) (by decide)).trans ((wt_lcmp dX1_isWellSaid_57).trans (wt_ifCond_ne dX1_isWellSaid_58 (t := 65) rfl)))
set_option maxHeartbeats 100000 in
theorem kX1_isWellSaid_61 {d : Nat} {F : am_FT} {L : am_LT} {Q : am_QT} {l0 l1 l2 l3 l4 l5 : Option Value} : wt am_S0 d mX1_isWellSaid 61 [l0, l1, l2, l3, l4, l5] [] F L Q = wt am_S0 d mX1_isWellSaid 66 [l0, l1, l2, l3, l4, l5] [.int 1] F L Q := (wt_iconst dX1_isWellSaid_61 (v := 1) (by decide)).trans (wt_goto dX1_isWellSaid_62 (t := 66) rfl)
set_option maxHeartbeats 100000 in
theorem kX1_isWellSaid_65 {d : Nat} {F : am_FT} {L : am_LT} {Q : am_QT} {l0 l1 l2 l3 l4 l5 : Option Value} : wt am_S0 d mX1_isWellSaid 65 [l0, l1, l2, l3, l4, l5] [] F L Q = wt am_S0 d mX1_isWellSaid 66 [l0, l1, l2, l3, l4, l5] [.int 0] F L Q := wt_iconst dX1_isWellSaid_65 (v := 0) (by decide)
set_option maxHeartbeats 100000 in
theorem kX1_isWellSaid_66 {d : Nat} {F : am_FT} {L : am_LT} {Q : am_QT} {l0 l1 l2 l3 l4 l5 : Option Value} {s0 : Int32} (h1 : narrow .boolean (.int s0) = .int s0) : wt am_S0 d mX1_isWellSaid 66 [l0, l1, l2, l3, l4, l5] [.int s0] F L Q = Q (some (.int s0)) F L := wt_ireturn dX1_isWellSaid_66 rfl h1
theorem dX1_findWishers_0 : decode mX1_findWishers.2.2.1 0 = .ok (.aload_n 0, 1) := by decide +kernel
theorem dX1_findWishers_1 : decode mX1_findWishers.2.2.1 1 = .ok (.iconst 0, 1) := by decide +kernel
theorem dX1_findWishers_2 : decode mX1_findWishers.2.2.1 2 = .ok (.putfield 69, 3) := by decide +kernel
theorem dX1_findWishers_5 : decode mX1_findWishers.2.2.1 5 = .ok (.aload_n 0, 1) := by decide +kernel
theorem dX1_findWishers_6 : decode mX1_findWishers.2.2.1 6 = .ok (.iconst 0, 1) := by decide +kernel
theorem dX1_findWishers_7 : decode mX1_findWishers.2.2.1 7 = .ok (.putfield 72, 3) := by decide +kernel
theorem dX1_findWishers_10 : decode mX1_findWishers.2.2.1 10 = .ok (.aload_n 0, 1) := by decide +kernel
theorem dX1_findWishers_11 : decode mX1_findWishers.2.2.1 11 = .ok (.iconst 0, 1) := by decide +kernel
theorem dX1_findWishers_12 : decode mX1_findWishers.2.2.1 12 = .ok (.putfield 75, 3) := by decide +kernel
theorem dX1_findWishers_15 : decode mX1_findWishers.2.2.1 15 = .ok (.iconst 0, 1) := by decide +kernel
theorem dX1_findWishers_16 : decode mX1_findWishers.2.2.1 16 = .ok (.istore_n 3, 1) := by decide +kernel
theorem dX1_findWishers_17 : decode mX1_findWishers.2.2.1 17 = .ok (.iconst 0, 1) := by decide +kernel
theorem dX1_findWishers_18 : decode mX1_findWishers.2.2.1 18 = .ok (.istore 4, 2) := by decide +kernel
theorem dX1_findWishers_20 : decode mX1_findWishers.2.2.1 20 = .ok (.aload_n 1, 1) := by decide +kernel
theorem dX1_findWishers_21 : decode mX1_findWishers.2.2.1 21 = .ok (.invokestatic 38, 3) := by decide +kernel
theorem dX1_findWishers_24 : decode mX1_findWishers.2.2.1 24 = .ok (.istore 5, 2) := by decide +kernel
theorem dX1_findWishers_26 : decode mX1_findWishers.2.2.1 26 = .ok (.iconst 0, 1) := by decide +kernel
theorem dX1_findWishers_27 : decode mX1_findWishers.2.2.1 27 = .ok (.istore 6, 2) := by decide +kernel
theorem dX1_findWishers_29 : decode mX1_findWishers.2.2.1 29 = .ok (.iload 6, 2) := by decide +kernel
theorem dX1_findWishers_31 : decode mX1_findWishers.2.2.1 31 = .ok (.iload 5, 2) := by decide +kernel
theorem dX1_findWishers_33 : decode mX1_findWishers.2.2.1 33 = .ok (.if_icmp .ge 62, 3) := by decide +kernel
theorem dX1_findWishers_36 : decode mX1_findWishers.2.2.1 36 = .ok (.aload_n 1, 1) := by decide +kernel
theorem dX1_findWishers_37 : decode mX1_findWishers.2.2.1 37 = .ok (.iload 6, 2) := by decide +kernel
theorem dX1_findWishers_39 : decode mX1_findWishers.2.2.1 39 = .ok (.invokestatic 42, 3) := by decide +kernel
theorem dX1_findWishers_42 : decode mX1_findWishers.2.2.1 42 = .ok (.ifCond .ne 4, 3) := by decide +kernel
theorem dX1_findWishers_45 : decode mX1_findWishers.2.2.1 45 = .ok (.return_, 1) := by decide +kernel
theorem dX1_findWishers_46 : decode mX1_findWishers.2.2.1 46 = .ok (.iconst 1, 1) := by decide +kernel
theorem dX1_findWishers_47 : decode mX1_findWishers.2.2.1 47 = .ok (.aload_n 1, 1) := by decide +kernel
theorem dX1_findWishers_48 : decode mX1_findWishers.2.2.1 48 = .ok (.iconst 2, 1) := by decide +kernel
theorem dX1_findWishers_49 : decode mX1_findWishers.2.2.1 49 = .ok (.iload 6, 2) := by decide +kernel
theorem dX1_findWishers_51 : decode mX1_findWishers.2.2.1 51 = .ok (.imul, 1) := by decide +kernel
theorem dX1_findWishers_52 : decode mX1_findWishers.2.2.1 52 = .ok (.invokevirtual 32, 3) := by decide +kernel
theorem dX1_findWishers_55 : decode mX1_findWishers.2.2.1 55 = .ok (.l2i, 1) := by decide +kernel
theorem dX1_findWishers_56 : decode mX1_findWishers.2.2.1 56 = .ok (.ishl, 1) := by decide +kernel
theorem dX1_findWishers_57 : decode mX1_findWishers.2.2.1 57 = .ok (.istore 7, 2) := by decide +kernel
theorem dX1_findWishers_59 : decode mX1_findWishers.2.2.1 59 = .ok (.aload_n 1, 1) := by decide +kernel
theorem dX1_findWishers_60 : decode mX1_findWishers.2.2.1 60 = .ok (.iconst 2, 1) := by decide +kernel
theorem dX1_findWishers_61 : decode mX1_findWishers.2.2.1 61 = .ok (.iload 6, 2) := by decide +kernel
theorem dX1_findWishers_63 : decode mX1_findWishers.2.2.1 63 = .ok (.imul, 1) := by decide +kernel
theorem dX1_findWishers_64 : decode mX1_findWishers.2.2.1 64 = .ok (.iconst 1, 1) := by decide +kernel
theorem dX1_findWishers_65 : decode mX1_findWishers.2.2.1 65 = .ok (.iadd, 1) := by decide +kernel
theorem dX1_findWishers_66 : decode mX1_findWishers.2.2.1 66 = .ok (.invokevirtual 32, 3) := by decide +kernel
theorem dX1_findWishers_69 : decode mX1_findWishers.2.2.1 69 = .ok (.lconst 1, 1) := by decide +kernel
theorem dX1_findWishers_70 : decode mX1_findWishers.2.2.1 70 = .ok (.lcmp, 1) := by decide +kernel
theorem dX1_findWishers_71 : decode mX1_findWishers.2.2.1 71 = .ok (.ifCond .ne 11, 3) := by decide +kernel
theorem dX1_findWishers_74 : decode mX1_findWishers.2.2.1 74 = .ok (.iload_n 3, 1) := by decide +kernel
theorem dX1_findWishers_75 : decode mX1_findWishers.2.2.1 75 = .ok (.iload 7, 2) := by decide +kernel
theorem dX1_findWishers_77 : decode mX1_findWishers.2.2.1 77 = .ok (.ior, 1) := by decide +kernel
theorem dX1_findWishers_78 : decode mX1_findWishers.2.2.1 78 = .ok (.istore_n 3, 1) := by decide +kernel
theorem dX1_findWishers_79 : decode mX1_findWishers.2.2.1 79 = .ok (.goto 10, 3) := by decide +kernel
theorem dX1_findWishers_82 : decode mX1_findWishers.2.2.1 82 = .ok (.iload 4, 2) := by decide +kernel
theorem dX1_findWishers_84 : decode mX1_findWishers.2.2.1 84 = .ok (.iload 7, 2) := by decide +kernel
theorem dX1_findWishers_86 : decode mX1_findWishers.2.2.1 86 = .ok (.ior, 1) := by decide +kernel
theorem dX1_findWishers_87 : decode mX1_findWishers.2.2.1 87 = .ok (.istore 4, 2) := by decide +kernel
theorem dX1_findWishers_89 : decode mX1_findWishers.2.2.1 89 = .ok (.iinc 6 1, 3) := by decide +kernel
theorem dX1_findWishers_92 : decode mX1_findWishers.2.2.1 92 = .ok (.goto (-63), 3) := by decide +kernel
theorem dX1_findWishers_95 : decode mX1_findWishers.2.2.1 95 = .ok (.iload_n 3, 1) := by decide +kernel
theorem dX1_findWishers_96 : decode mX1_findWishers.2.2.1 96 = .ok (.iload 4, 2) := by decide +kernel
theorem dX1_findWishers_98 : decode mX1_findWishers.2.2.1 98 = .ok (.iand, 1) := by decide +kernel
theorem dX1_findWishers_99 : decode mX1_findWishers.2.2.1 99 = .ok (.ifCond .eq 4, 3) := by decide +kernel
theorem dX1_findWishers_102 : decode mX1_findWishers.2.2.1 102 = .ok (.return_, 1) := by decide +kernel
theorem dX1_findWishers_103 : decode mX1_findWishers.2.2.1 103 = .ok (.aload_n 0, 1) := by decide +kernel
theorem dX1_findWishers_104 : decode mX1_findWishers.2.2.1 104 = .ok (.iload_n 2, 1) := by decide +kernel
theorem dX1_findWishers_105 : decode mX1_findWishers.2.2.1 105 = .ok (.iload_n 3, 1) := by decide +kernel
theorem dX1_findWishers_106 : decode mX1_findWishers.2.2.1 106 = .ok (.iload 4, 2) := by decide +kernel
theorem dX1_findWishers_108 : decode mX1_findWishers.2.2.1 108 = .ok (.invokevirtual 78, 3) := by decide +kernel
theorem dX1_findWishers_111 : decode mX1_findWishers.2.2.1 111 = .ok (.aload_n 0, 1) := by decide +kernel
theorem dX1_findWishers_112 : decode mX1_findWishers.2.2.1 112 = .ok (.invokevirtual 81, 3) := by decide +kernel
theorem dX1_findWishers_115 : decode mX1_findWishers.2.2.1 115 = .ok (.return_, 1) := by decide +kernel
set_option maxHeartbeats 100000 in
theorem kX1_findWishers_0 {d : Nat} {F : am_FT} {L : am_LT} {Q : am_QT} {l3 l4 l5 l6 l7 : Option Value} {x2 : Int32} {p1 : Nat} : wt am_S0 (d + 1) mX1_findWishers 0 [some (.ref 17), some (.ref p1), some (.int x2), l3, l4, l5, l6, l7] [] F L Q = wc am_S0 d mX1_twosOf [.ref p1] (am_upF (am_upF (am_upF F 17 4 0) 17 5 0) 17 6 0) L (fun r G K => wt am_S0 (d + 1) mX1_findWishers 24 [some (.ref 17), some (.ref p1), some (.int x2), some (.int 0), some (.int 0), l5, l6, l7] (r.toList ++ []) G K Q) := (wt_aload_n dX1_findWishers_0 rfl rfl).trans ((wt_iconst dX1_findWishers_1 (v := 0) (by decide)).trans ((wt_putfield dX1_findWishers_2 rfl rfl ⟨rfl, rfl, rfl, rfl⟩).trans ((wt_aload_n dX1_findWishers_5 rfl rfl).trans ((wt_iconst dX1_findWishers_6 (v := 0) (by decide)).trans ((wt_putfield dX1_findWishers_7 rfl rfl ⟨rfl, rfl, rfl, rfl⟩).trans ((wt_aload_n dX1_findWishers_10 rfl rfl).trans ((wt_iconst dX1_findWishers_11 (v := 0) (by decide)).trans ((wt_putfield dX1_findWishers_12 rfl rfl ⟨rfl, rfl, rfl, rfl⟩).trans ((wt_iconst dX1_findWishers_15 (v := 0) (by decide)).trans ((wt_istore_n dX1_findWishers_16 (lv1 := [some (.ref 17), some (.ref p1), some (.int x2), some (.int 0), l4, l5, l6, l7]) (Nat.le_of_ble_eq_true rfl) rfl).trans ((wt_iconst dX1_findWishers_17 (v := 0) (by decide)).trans ((wt_istore dX1_findWishers_18 (lv1 := [some (.ref 17), some (.ref p1), some (.int x2), some (.int 0), some (.int 0), l5, l6, l7]) (Nat.le_of_ble_eq_true rfl) rfl).trans ((wt_aload_n dX1_findWishers_20 rfl rfl).trans (wt_callS dX1_findWishers_21 rfl (as := [.ref p1]) (rest := []) rfl rfl (Nat.le_of_ble_eq_true rfl) (Nat.le_of_ble_eq_true rfl)))))))))))))))
set_option maxHeartbeats 100000 in
theorem kX1_findWishers_24 {d : Nat} {F : am_FT} {L : am_LT} {Q : am_QT} {l0 l1 l2 l3 l5 l6 l7 : Option Value} {s0 x4 : Int32} : wt am_S0 d mX1_findWishers 24 [l0, l1, l2, l3, some (.int x4), l5, l6, l7] [.int s0] F L Q = wt am_S0 d mX1_findWishers 29 [l0, l1, l2, l3, some (.int x4), some (.int s0), some (.int 0), l7] [] F L Q := (wt_istore dX1_findWishers_24 (lv1 := [l0, l1, l2, l3, some (.int x4), some (.int s0), l6, l7]) (Nat.le_of_ble_eq_true rfl) rfl).trans ((wt_iconst dX1_findWishers_26 (v := 0) (by decide)).trans (wt_istore dX1_findWishers_27 (lv1 := [l0, l1, l2, l3, some (.int x4), some (.int s0), some (.int 0), l7]) (Nat.le_of_ble_eq_true rfl) rfl))
set_option maxHeartbeats 100000 in
theorem kX1_findWishers_29 {d : Nat} {F : am_FT} {L : am_LT} {Q : am_QT} {l0 l1 l2 l3 l4 l7 : Option Value} {x6 x5 : Int32} : wt am_S0 d mX1_findWishers 29 [l0, l1, l2, l3, l4, some (.int x5), some (.int x6), l7] [] F L Q = if x5 ≤ x6 then wt am_S0 d mX1_findWishers 95 [l0, l1, l2, l3, l4, some (.int x5), some (.int x6), l7] [] F L Q else wt am_S0 d mX1_findWishers 36 [l0, l1, l2, l3, l4, some (.int x5), some (.int x6), l7] [] F L Q := (wt_iload dX1_findWishers_29 rfl).trans ((wt_iload dX1_findWishers_31 rfl).trans (wt_if_icmp_ge dX1_findWishers_33 (t := 95) rfl))
set_option maxHeartbeats 100000 in
theorem kX1_findWishers_36 {d : Nat} {F : am_FT} {L : am_LT} {Q : am_QT} {l0 l2 l3 l4 l5 l7 : Option Value} {p1 : Nat} {x6 : Int32} : wt am_S0 (d + 1) mX1_findWishers 36 [l0, some (.ref p1), l2, l3, l4, l5, some (.int x6), l7] [] F L Q = wc am_S0 d mX1_isWellSaid [.ref p1, .int x6] F L (fun r G K => wt am_S0 (d + 1) mX1_findWishers 42 [l0, some (.ref p1), l2, l3, l4, l5, some (.int x6), l7] (r.toList ++ []) G K Q) := (wt_aload_n dX1_findWishers_36 rfl rfl).trans ((wt_iload dX1_findWishers_37 rfl).trans (wt_callS dX1_findWishers_39 rfl (as := [.ref p1, .int x6]) (rest := []) rfl rfl (Nat.le_of_ble_eq_true rfl) (Nat.le_of_ble_eq_true rfl)))
set_option maxHeartbeats 100000 in
theorem kX1_findWishers_42 {d : Nat} {F : am_FT} {L : am_LT} {Q : am_QT} {l0 l1 l2 l3 l4 l5 l6 l7 : Option Value} {s0 : Int32} : wt am_S0 d mX1_findWishers 42 [l0, l1, l2, l3, l4, l5, l6, l7] [.int s0] F L Q = if ¬ s0 = 0 then wt am_S0 d mX1_findWishers 46 [l0, l1, l2, l3, l4, l5, l6, l7] [] F L Q else wt am_S0 d mX1_findWishers 45 [l0, l1, l2, l3, l4, l5, l6, l7] [] F L Q := wt_ifCond_ne dX1_findWishers_42 (t := 46) rfl
set_option maxHeartbeats 100000 in
theorem kX1_findWishers_45 {d : Nat} {F : am_FT} {L : am_LT} {Q : am_QT} {l0 l1 l2 l3 l4 l5 l6 l7 : Option Value} : wt am_S0 d mX1_findWishers 45 [l0, l1, l2, l3, l4, l5, l6, l7] [] F L Q = Q none F L := wt_return dX1_findWishers_45 rfl
set_option maxHeartbeats 100000 in
theorem kX1_findWishers_46 {d : Nat} {F : am_FT} {L : am_LT} {Q : am_QT} {l0 l2 l3 l4 l5 l7 : Option Value} {p1 e1 : Nat} {x6 : Int32} (h1 : am_S0[p1]? = some (8, 4, [some e1, none, none, none])) : wt am_S0 (d + 1) mX1_findWishers 46 [l0, some (.ref p1), l2, l3, l4, l5, some (.int x6), l7] [] F L Q = wc am_S0 d mX8_valueAt [.ref p1, .int (2 * x6)] F L (fun r G K => wt am_S0 (d + 1) mX1_findWishers 55 [l0, some (.ref p1), l2, l3, l4, l5, some (.int x6), l7] (r.toList ++ [.int 1]) G K Q) := (wt_iconst dX1_findWishers_46 (v := 1) (by decide)).trans ((wt_aload_n dX1_findWishers_47 rfl rfl).trans ((wt_iconst dX1_findWishers_48 (v := 2) (by decide)).trans ((wt_iload dX1_findWishers_49 rfl).trans ((wt_imul dX1_findWishers_51).trans (wt_callV dX1_findWishers_52 rfl (as := [.int (2 * x6)]) (rest := [.int 1]) rfl rfl (Nat.le_of_ble_eq_true rfl) h1 (Nat.le_of_ble_eq_true rfl))))))
set_option maxHeartbeats 100000 in
theorem kX1_findWishers_55 {d : Nat} {F : am_FT} {L : am_LT} {Q : am_QT} {l0 l2 l3 l4 l5 l7 : Option Value} {s0 x6 : Int32} {s1 : Int64} {p1 e1 : Nat} (h1 : am_S0[p1]? = some (8, 4, [some e1, none, none, none])) : wt am_S0 (d + 1) mX1_findWishers 55 [l0, some (.ref p1), l2, l3, l4, l5, some (.int x6), l7] [.long s1, .int s0] F L Q = wc am_S0 d mX8_valueAt [.ref p1, .int ((2 * x6) + 1)] F L (fun r G K => wt am_S0 (d + 1) mX1_findWishers 69 [l0, some (.ref p1), l2, l3, l4, l5, some (.int x6), some (.int (s0 <<< ((Int64.toInt32 s1) &&& 31)))] (r.toList ++ []) G K Q) := (wt_l2i dX1_findWishers_55).trans ((wt_ishl dX1_findWishers_56).trans ((wt_istore dX1_findWishers_57 (lv1 := [l0, some (.ref p1), l2, l3, l4, l5, some (.int x6), some (.int (s0 <<< ((Int64.toInt32 s1) &&& 31)))]) (Nat.le_of_ble_eq_true rfl) rfl).trans ((wt_aload_n dX1_findWishers_59 rfl rfl).trans ((wt_iconst dX1_findWishers_60 (v := 2) (by decide)).trans ((wt_iload dX1_findWishers_61 rfl).trans ((wt_imul dX1_findWishers_63).trans ((wt_iconst dX1_findWishers_64 (v := 1) (by decide)).trans ((wt_iadd dX1_findWishers_65).trans (wt_callV dX1_findWishers_66 rfl (as := [.int ((2 * x6) + 1)]) (rest := []) rfl rfl (Nat.le_of_ble_eq_true rfl) h1 (Nat.le_of_ble_eq_true rfl))))))))))
set_option maxHeartbeats 100000 in
theorem kX1_findWishers_69 {d : Nat} {F : am_FT} {L : am_LT} {Q : am_QT} {l0 l1 l2 l3 l4 l5 l6 l7 : Option Value} {s0 : Int64} : wt am_S0 d mX1_findWishers 69 [l0, l1, l2, l3, l4, l5, l6, l7] [.long s0] F L Q = if ¬ (lg_cmp s0 1) = 0 then wt am_S0 d mX1_findWishers 82 [l0, l1, l2, l3, l4, l5, l6, l7] [] F L Q else wt am_S0 d mX1_findWishers 74 [l0, l1, l2, l3, l4, l5, l6, l7] [] F L Q := (wt_lconst dX1_findWishers_69 (v := 1) (by decide)).trans ((wt_lcmp dX1_findWishers_70).trans (wt_ifCond_ne dX1_findWishers_71 (t := 82) rfl))
set_option maxHeartbeats 100000 in
theorem kX1_findWishers_74 {d : Nat} {F : am_FT} {L : am_LT} {Q : am_QT} {l0 l1 l4 l5 l6 : Option Value} {x3 x7 x2 : Int32} : wt am_S0 d mX1_findWishers 74 [l0, l1, some (.int x2), some (.int x3), l4, l5, l6, some (.int x7)] [] F L Q = wt am_S0 d mX1_findWishers 89 [l0, l1, some (.int x2), some (.int (x3 ||| x7)), l4, l5, l6, some (.int x7)] [] F L Q := (wt_iload_n dX1_findWishers_74 rfl).trans ((wt_iload dX1_findWishers_75 rfl).trans ((wt_ior dX1_findWishers_77).trans ((wt_istore_n dX1_findWishers_78 (lv1 := [l0, l1, some (.int x2), some (.int (x3 ||| x7)), l4, l5, l6, some (.int x7)]) (Nat.le_of_ble_eq_true rfl) rfl).trans (wt_goto dX1_findWishers_79 (t := 89) rfl))))
set_option maxHeartbeats 100000 in
theorem kX1_findWishers_82 {d : Nat} {F : am_FT} {L : am_LT} {Q : am_QT} {l0 l1 l2 l5 l6 : Option Value} {x4 x7 x3 : Int32} : wt am_S0 d mX1_findWishers 82 [l0, l1, l2, some (.int x3), some (.int x4), l5, l6, some (.int x7)] [] F L Q = wt am_S0 d mX1_findWishers 89 [l0, l1, l2, some (.int x3), some (.int (x4 ||| x7)), l5, l6, some (.int x7)] [] F L Q := (wt_iload dX1_findWishers_82 rfl).trans ((wt_iload dX1_findWishers_84 rfl).trans ((wt_ior dX1_findWishers_86).trans (wt_istore dX1_findWishers_87 (lv1 := [l0, l1, l2, some (.int x3), some (.int (x4 ||| x7)), l5, l6, some (.int x7)]) (Nat.le_of_ble_eq_true rfl) rfl)))
set_option maxHeartbeats 100000 in
theorem kX1_findWishers_89 {d : Nat} {F : am_FT} {L : am_LT} {Q : am_QT} {l0 l1 l2 l3 l4 l7 : Option Value} {x6 x5 : Int32} : wt am_S0 d mX1_findWishers 89 [l0, l1, l2, l3, l4, some (.int x5), some (.int x6), l7] [] F L Q = wt am_S0 d mX1_findWishers 29 [l0, l1, l2, l3, l4, some (.int x5), some (.int (x6 + 1)), l7] [] F L Q := (wt_iinc dX1_findWishers_89 (v := 1) (lv1 := [l0, l1, l2, l3, l4, some (.int x5), some (.int (x6 + 1)), l7]) rfl (Nat.le_of_ble_eq_true rfl) (by decide) rfl).trans (wt_goto dX1_findWishers_92 (t := 29) rfl)
set_option maxHeartbeats 100000 in
theorem kX1_findWishers_95 {d : Nat} {F : am_FT} {L : am_LT} {Q : am_QT} {l0 l1 l2 l5 l6 l7 : Option Value} {x3 x4 : Int32} : wt am_S0 d mX1_findWishers 95 [l0, l1, l2, some (.int x3), some (.int x4), l5, l6, l7] [] F L Q = if (x3 &&& x4) = 0 then wt am_S0 d mX1_findWishers 103 [l0, l1, l2, some (.int x3), some (.int x4), l5, l6, l7] [] F L Q else wt am_S0 d mX1_findWishers 102 [l0, l1, l2, some (.int x3), some (.int x4), l5, l6, l7] [] F L Q := (wt_iload_n dX1_findWishers_95 rfl).trans ((wt_iload dX1_findWishers_96 rfl).trans ((wt_iand dX1_findWishers_98).trans (wt_ifCond_eq dX1_findWishers_99 (t := 103) rfl)))
set_option maxHeartbeats 100000 in
theorem kX1_findWishers_102 {d : Nat} {F : am_FT} {L : am_LT} {Q : am_QT} {l0 l1 l2 l3 l4 l5 l6 l7 : Option Value} : wt am_S0 d mX1_findWishers 102 [l0, l1, l2, l3, l4, l5, l6, l7] [] F L Q = Q none F L := wt_return dX1_findWishers_102 rfl
set_option maxHeartbeats 100000 in
theorem kX1_findWishers_103 {d : Nat} {F : am_FT} {L : am_LT} {Q : am_QT} {l1 l5 l6 l7 : Option Value} {x2 x3 x4 : Int32} : wt am_S0 (d + 1) mX1_findWishers 103 [some (.ref 17), l1, some (.int x2), some (.int x3), some (.int x4), l5, l6, l7] [] F L Q = wc am_S0 d mX1_ruleOut [.ref 17, .int x2, .int x3, .int x4] F L (fun r G K => wt am_S0 (d + 1) mX1_findWishers 111 [some (.ref 17), l1, some (.int x2), some (.int x3), some (.int x4), l5, l6, l7] (r.toList ++ []) G K Q) := (wt_aload_n dX1_findWishers_103 rfl rfl).trans ((wt_iload_n dX1_findWishers_104 rfl).trans ((wt_iload_n dX1_findWishers_105 rfl).trans ((wt_iload dX1_findWishers_106 rfl).trans (wt_callV dX1_findWishers_108 rfl (as := [.int x2, .int x3, .int x4]) (rest := []) rfl rfl (Nat.le_of_ble_eq_true rfl) rfl (Nat.le_of_ble_eq_true rfl)))))
set_option maxHeartbeats 100000 in
theorem kX1_findWishers_111 {d : Nat} {F : am_FT} {L : am_LT} {Q : am_QT} {l1 l2 l3 l4 l5 l6 l7 : Option Value} : wt am_S0 (d + 1) mX1_findWishers 111 [some (.ref 17), l1, l2, l3, l4, l5, l6, l7] [] F L Q = wc am_S0 d mX1_gather [.ref 17] F L (fun r G K => wt am_S0 (d + 1) mX1_findWishers 115 [some (.ref 17), l1, l2, l3, l4, l5, l6, l7] (r.toList ++ []) G K Q) := (wt_aload_n dX1_findWishers_111 rfl rfl).trans (wt_callV dX1_findWishers_112 rfl (as := []) (rest := []) rfl rfl (Nat.le_of_ble_eq_true rfl) rfl (Nat.le_of_ble_eq_true rfl))
set_option maxHeartbeats 100000 in
theorem kX1_findWishers_115 {d : Nat} {F : am_FT} {L : am_LT} {Q : am_QT} {l0 l1 l2 l3 l4 l5 l6 l7 : Option Value} : wt am_S0 d mX1_findWishers 115 [l0, l1, l2, l3, l4, l5, l6, l7] [] F L Q = Q none F L := wt_return dX1_findWishers_115 rfl
theorem dX1_ruleOut_0 : decode mX1_ruleOut.2.2.1 0 = .ok (.iconst 1, 1) := by decide +kernel
theorem dX1_ruleOut_1 : decode mX1_ruleOut.2.2.1 1 = .ok (.aload_n 0, 1) := by decide +kernel
theorem dX1_ruleOut_2 : decode mX1_ruleOut.2.2.1 2 = .ok (.getfield 9, 3) := by decide +kernel
theorem dX1_ruleOut_5 : decode mX1_ruleOut.2.2.1 5 = .ok (.getfield 84, 3) := by decide +kernel
theorem dX1_ruleOut_8 : decode mX1_ruleOut.2.2.1 8 = .ok (.ishl, 1) := by decide +kernel
theorem dX1_ruleOut_9 : decode mX1_ruleOut.2.2.1 9 = .ok (.istore 4, 2) := by decide +kernel
theorem dX1_ruleOut_11 : decode mX1_ruleOut.2.2.1 11 = .ok (.iconst 0, 1) := by decide +kernel
theorem dX1_ruleOut_12 : decode mX1_ruleOut.2.2.1 12 = .ok (.istore 5, 2) := by decide +kernel
theorem dX1_ruleOut_14 : decode mX1_ruleOut.2.2.1 14 = .ok (.iload 5, 2) := by decide +kernel
theorem dX1_ruleOut_16 : decode mX1_ruleOut.2.2.1 16 = .ok (.iload 4, 2) := by decide +kernel
theorem dX1_ruleOut_18 : decode mX1_ruleOut.2.2.1 18 = .ok (.if_icmp .ge 19, 3) := by decide +kernel
theorem dX1_ruleOut_21 : decode mX1_ruleOut.2.2.1 21 = .ok (.aload_n 0, 1) := by decide +kernel
theorem dX1_ruleOut_22 : decode mX1_ruleOut.2.2.1 22 = .ok (.getfield 23, 3) := by decide +kernel
theorem dX1_ruleOut_25 : decode mX1_ruleOut.2.2.1 25 = .ok (.iload 5, 2) := by decide +kernel
theorem dX1_ruleOut_27 : decode mX1_ruleOut.2.2.1 27 = .ok (.iconst 0, 1) := by decide +kernel
theorem dX1_ruleOut_28 : decode mX1_ruleOut.2.2.1 28 = .ok (.invokestatic 87, 3) := by decide +kernel
theorem dX1_ruleOut_31 : decode mX1_ruleOut.2.2.1 31 = .ok (.iinc 5 1, 3) := by decide +kernel
theorem dX1_ruleOut_34 : decode mX1_ruleOut.2.2.1 34 = .ok (.goto (-20), 3) := by decide +kernel
theorem dX1_ruleOut_37 : decode mX1_ruleOut.2.2.1 37 = .ok (.iconst 0, 1) := by decide +kernel
theorem dX1_ruleOut_38 : decode mX1_ruleOut.2.2.1 38 = .ok (.istore 5, 2) := by decide +kernel
theorem dX1_ruleOut_40 : decode mX1_ruleOut.2.2.1 40 = .ok (.iload 5, 2) := by decide +kernel
theorem dX1_ruleOut_42 : decode mX1_ruleOut.2.2.1 42 = .ok (.bipush 12, 2) := by decide +kernel
theorem dX1_ruleOut_44 : decode mX1_ruleOut.2.2.1 44 = .ok (.if_icmp .ge 125, 3) := by decide +kernel
theorem dX1_ruleOut_47 : decode mX1_ruleOut.2.2.1 47 = .ok (.iload_n 2, 1) := by decide +kernel
theorem dX1_ruleOut_48 : decode mX1_ruleOut.2.2.1 48 = .ok (.iload_n 3, 1) := by decide +kernel
theorem dX1_ruleOut_49 : decode mX1_ruleOut.2.2.1 49 = .ok (.ior, 1) := by decide +kernel
theorem dX1_ruleOut_50 : decode mX1_ruleOut.2.2.1 50 = .ok (.iload 5, 2) := by decide +kernel
theorem dX1_ruleOut_52 : decode mX1_ruleOut.2.2.1 52 = .ok (.invokestatic 91, 3) := by decide +kernel
theorem dX1_ruleOut_55 : decode mX1_ruleOut.2.2.1 55 = .ok (.ifCond .ne 6, 3) := by decide +kernel
theorem dX1_ruleOut_58 : decode mX1_ruleOut.2.2.1 58 = .ok (.goto 105, 3) := by decide +kernel
theorem dX1_ruleOut_61 : decode mX1_ruleOut.2.2.1 61 = .ok (.aload_n 0, 1) := by decide +kernel
theorem dX1_ruleOut_62 : decode mX1_ruleOut.2.2.1 62 = .ok (.getfield 15, 3) := by decide +kernel
theorem dX1_ruleOut_65 : decode mX1_ruleOut.2.2.1 65 = .ok (.iload_n 1, 1) := by decide +kernel
theorem dX1_ruleOut_66 : decode mX1_ruleOut.2.2.1 66 = .ok (.iload 5, 2) := by decide +kernel
theorem dX1_ruleOut_68 : decode mX1_ruleOut.2.2.1 68 = .ok (.aload_n 0, 1) := by decide +kernel
theorem dX1_ruleOut_69 : decode mX1_ruleOut.2.2.1 69 = .ok (.getfield 9, 3) := by decide +kernel
theorem dX1_ruleOut_72 : decode mX1_ruleOut.2.2.1 72 = .ok (.iload_n 1, 1) := by decide +kernel
theorem dX1_ruleOut_73 : decode mX1_ruleOut.2.2.1 73 = .ok (.iconst 1, 1) := by decide +kernel
theorem dX1_ruleOut_74 : decode mX1_ruleOut.2.2.1 74 = .ok (.invokevirtual 46, 3) := by decide +kernel
theorem dX1_ruleOut_77 : decode mX1_ruleOut.2.2.1 77 = .ok (.invokevirtual 52, 3) := by decide +kernel
theorem dX1_ruleOut_80 : decode mX1_ruleOut.2.2.1 80 = .ok (.aload_n 0, 1) := by decide +kernel
theorem dX1_ruleOut_81 : decode mX1_ruleOut.2.2.1 81 = .ok (.getfield 15, 3) := by decide +kernel
theorem dX1_ruleOut_84 : decode mX1_ruleOut.2.2.1 84 = .ok (.aload_n 0, 1) := by decide +kernel
theorem dX1_ruleOut_85 : decode mX1_ruleOut.2.2.1 85 = .ok (.getfield 19, 3) := by decide +kernel
theorem dX1_ruleOut_88 : decode mX1_ruleOut.2.2.1 88 = .ok (.invokevirtual 94, 3) := by decide +kernel
theorem dX1_ruleOut_91 : decode mX1_ruleOut.2.2.1 91 = .ok (.aload_n 0, 1) := by decide +kernel
theorem dX1_ruleOut_92 : decode mX1_ruleOut.2.2.1 92 = .ok (.getfield 15, 3) := by decide +kernel
theorem dX1_ruleOut_95 : decode mX1_ruleOut.2.2.1 95 = .ok (.aload_n 0, 1) := by decide +kernel
theorem dX1_ruleOut_96 : decode mX1_ruleOut.2.2.1 96 = .ok (.getfield 15, 3) := by decide +kernel
theorem dX1_ruleOut_99 : decode mX1_ruleOut.2.2.1 99 = .ok (.getfield 58, 3) := by decide +kernel
theorem dX1_ruleOut_102 : decode mX1_ruleOut.2.2.1 102 = .ok (.invokevirtual 98, 3) := by decide +kernel
theorem dX1_ruleOut_105 : decode mX1_ruleOut.2.2.1 105 = .ok (.istore 6, 2) := by decide +kernel
theorem dX1_ruleOut_107 : decode mX1_ruleOut.2.2.1 107 = .ok (.iconst 0, 1) := by decide +kernel
theorem dX1_ruleOut_108 : decode mX1_ruleOut.2.2.1 108 = .ok (.istore 7, 2) := by decide +kernel
theorem dX1_ruleOut_110 : decode mX1_ruleOut.2.2.1 110 = .ok (.iload 7, 2) := by decide +kernel
theorem dX1_ruleOut_112 : decode mX1_ruleOut.2.2.1 112 = .ok (.iload 4, 2) := by decide +kernel
theorem dX1_ruleOut_114 : decode mX1_ruleOut.2.2.1 114 = .ok (.if_icmp .ge 49, 3) := by decide +kernel
theorem dX1_ruleOut_117 : decode mX1_ruleOut.2.2.1 117 = .ok (.iconst 2, 1) := by decide +kernel
theorem dX1_ruleOut_118 : decode mX1_ruleOut.2.2.1 118 = .ok (.aload_n 0, 1) := by decide +kernel
theorem dX1_ruleOut_119 : decode mX1_ruleOut.2.2.1 119 = .ok (.getfield 19, 3) := by decide +kernel
theorem dX1_ruleOut_122 : decode mX1_ruleOut.2.2.1 122 = .ok (.iload 7, 2) := by decide +kernel
theorem dX1_ruleOut_124 : decode mX1_ruleOut.2.2.1 124 = .ok (.invokestatic 102, 3) := by decide +kernel
theorem dX1_ruleOut_127 : decode mX1_ruleOut.2.2.1 127 = .ok (.imul, 1) := by decide +kernel
theorem dX1_ruleOut_128 : decode mX1_ruleOut.2.2.1 128 = .ok (.iload 6, 2) := by decide +kernel
theorem dX1_ruleOut_130 : decode mX1_ruleOut.2.2.1 130 = .ok (.if_icmp .le 7, 3) := by decide +kernel
theorem dX1_ruleOut_133 : decode mX1_ruleOut.2.2.1 133 = .ok (.iconst 1, 1) := by decide +kernel
theorem dX1_ruleOut_134 : decode mX1_ruleOut.2.2.1 134 = .ok (.goto 4, 3) := by decide +kernel
theorem dX1_ruleOut_137 : decode mX1_ruleOut.2.2.1 137 = .ok (.iconst 0, 1) := by decide +kernel
theorem dX1_ruleOut_138 : decode mX1_ruleOut.2.2.1 138 = .ok (.iload_n 2, 1) := by decide +kernel
theorem dX1_ruleOut_139 : decode mX1_ruleOut.2.2.1 139 = .ok (.iload 5, 2) := by decide +kernel
theorem dX1_ruleOut_141 : decode mX1_ruleOut.2.2.1 141 = .ok (.invokestatic 91, 3) := by decide +kernel
theorem dX1_ruleOut_144 : decode mX1_ruleOut.2.2.1 144 = .ok (.if_icmp .eq 13, 3) := by decide +kernel
theorem dX1_ruleOut_147 : decode mX1_ruleOut.2.2.1 147 = .ok (.aload_n 0, 1) := by decide +kernel
theorem dX1_ruleOut_148 : decode mX1_ruleOut.2.2.1 148 = .ok (.getfield 23, 3) := by decide +kernel
theorem dX1_ruleOut_151 : decode mX1_ruleOut.2.2.1 151 = .ok (.iload 7, 2) := by decide +kernel
theorem dX1_ruleOut_153 : decode mX1_ruleOut.2.2.1 153 = .ok (.iconst 1, 1) := by decide +kernel
theorem dX1_ruleOut_154 : decode mX1_ruleOut.2.2.1 154 = .ok (.invokestatic 87, 3) := by decide +kernel
theorem dX1_ruleOut_157 : decode mX1_ruleOut.2.2.1 157 = .ok (.iinc 7 1, 3) := by decide +kernel
theorem dX1_ruleOut_160 : decode mX1_ruleOut.2.2.1 160 = .ok (.goto (-50), 3) := by decide +kernel
theorem dX1_ruleOut_163 : decode mX1_ruleOut.2.2.1 163 = .ok (.iinc 5 1, 3) := by decide +kernel
theorem dX1_ruleOut_166 : decode mX1_ruleOut.2.2.1 166 = .ok (.goto (-126), 3) := by decide +kernel
theorem dX1_ruleOut_169 : decode mX1_ruleOut.2.2.1 169 = .ok (.return_, 1) := by decide +kernel
set_option maxHeartbeats 100000 in
theorem kX1_ruleOut_0 {d : Nat} {F : am_FT} {L : am_LT} {Q : am_QT} {l1 l2 l4 l5 l6 l7 : Option Value} {x3 : Int32} : wt am_S0 d mX1_ruleOut 0 [some (.ref 17), l1, l2, some (.int x3), l4, l5, l6, l7] [] F L Q = wt am_S0 d mX1_ruleOut 14 [some (.ref 17), l1, l2, some (.int x3), some (.int ((1 : Int32) <<< ((F 1 2) &&& 31))), some (.int 0), l6, l7] [] F L Q := (wt_iconst dX1_ruleOut_0 (v := 1) (by decide)).trans ((wt_aload_n dX1_ruleOut_1 rfl rfl).trans ((wt_getfield dX1_ruleOut_2 rfl rfl (v := .ref 1) rfl).trans ((wt_getfield dX1_ruleOut_5 rfl rfl (v := .int (F 1 2)) rfl).trans ((wt_ishl dX1_ruleOut_8).trans ((wt_istore dX1_ruleOut_9 (lv1 := [some (.ref 17), l1, l2, some (.int x3), some (.int ((1 : Int32) <<< ((F 1 2) &&& 31))), l5, l6, l7]) (Nat.le_of_ble_eq_true rfl) rfl).trans ((wt_iconst dX1_ruleOut_11 (v := 0) (by decide)).trans (wt_istore dX1_ruleOut_12 (lv1 := [some (.ref 17), l1, l2, some (.int x3), some (.int ((1 : Int32) <<< ((F 1 2) &&& 31))), some (.int 0), l6, l7]) (Nat.le_of_ble_eq_true rfl) rfl)))))))
set_option maxHeartbeats 100000 in
theorem kX1_ruleOut_14 {d : Nat} {F : am_FT} {L : am_LT} {Q : am_QT} {l0 l1 l2 l3 l6 l7 : Option Value} {x5 x4 : Int32} : wt am_S0 d mX1_ruleOut 14 [l0, l1, l2, l3, some (.int x4), some (.int x5), l6, l7] [] F L Q = if x4 ≤ x5 then wt am_S0 d mX1_ruleOut 37 [l0, l1, l2, l3, some (.int x4), some (.int x5), l6, l7] [] F L Q else wt am_S0 d mX1_ruleOut 21 [l0, l1, l2, l3, some (.int x4), some (.int x5), l6, l7] [] F L Q := (wt_iload dX1_ruleOut_14 rfl).trans ((wt_iload dX1_ruleOut_16 rfl).trans (wt_if_icmp_ge dX1_ruleOut_18 (t := 37) rfl))
set_option maxHeartbeats 100000 in
theorem kX1_ruleOut_21 {d : Nat} {F : am_FT} {L : am_LT} {Q : am_QT} {l1 l2 l3 l4 l6 l7 : Option Value} {x5 : Int32} : wt am_S0 (d + 1) mX1_ruleOut 21 [some (.ref 17), l1, l2, l3, l4, some (.int x5), l6, l7] [] F L Q = wc am_S0 d mX11_lay [.ref 15, .int x5, .int 0] F L (fun r G K => wt am_S0 (d + 1) mX1_ruleOut 31 [some (.ref 17), l1, l2, l3, l4, some (.int x5), l6, l7] (r.toList ++ []) G K Q) := (wt_aload_n dX1_ruleOut_21 rfl rfl).trans ((wt_getfield dX1_ruleOut_22 rfl rfl (v := .ref 15) rfl).trans ((wt_iload dX1_ruleOut_25 rfl).trans ((wt_iconst dX1_ruleOut_27 (v := 0) (by decide)).trans (wt_callS dX1_ruleOut_28 rfl (as := [.ref 15, .int x5, .int 0]) (rest := []) rfl rfl (Nat.le_of_ble_eq_true rfl) (Nat.le_of_ble_eq_true rfl)))))
set_option maxHeartbeats 100000 in
theorem kX1_ruleOut_31 {d : Nat} {F : am_FT} {L : am_LT} {Q : am_QT} {l0 l1 l2 l3 l6 l7 : Option Value} {x5 x4 : Int32} : wt am_S0 d mX1_ruleOut 31 [l0, l1, l2, l3, some (.int x4), some (.int x5), l6, l7] [] F L Q = wt am_S0 d mX1_ruleOut 14 [l0, l1, l2, l3, some (.int x4), some (.int (x5 + 1)), l6, l7] [] F L Q := (wt_iinc dX1_ruleOut_31 (v := 1) (lv1 := [l0, l1, l2, l3, some (.int x4), some (.int (x5 + 1)), l6, l7]) rfl (Nat.le_of_ble_eq_true rfl) (by decide) rfl).trans (wt_goto dX1_ruleOut_34 (t := 14) rfl)
set_option maxHeartbeats 100000 in
theorem kX1_ruleOut_37 {d : Nat} {F : am_FT} {L : am_LT} {Q : am_QT} {l0 l1 l2 l3 l5 l6 l7 : Option Value} {x4 : Int32} : wt am_S0 d mX1_ruleOut 37 [l0, l1, l2, l3, some (.int x4), l5, l6, l7] [] F L Q = wt am_S0 d mX1_ruleOut 40 [l0, l1, l2, l3, some (.int x4), some (.int 0), l6, l7] [] F L Q := (wt_iconst dX1_ruleOut_37 (v := 0) (by decide)).trans (wt_istore dX1_ruleOut_38 (lv1 := [l0, l1, l2, l3, some (.int x4), some (.int 0), l6, l7]) (Nat.le_of_ble_eq_true rfl) rfl)
set_option maxHeartbeats 100000 in
theorem kX1_ruleOut_40 {d : Nat} {F : am_FT} {L : am_LT} {Q : am_QT} {l0 l1 l2 l3 l4 l6 l7 : Option Value} {x5 : Int32} : wt am_S0 d mX1_ruleOut 40 [l0, l1, l2, l3, l4, some (.int x5), l6, l7] [] F L Q = if 12 ≤ x5 then wt am_S0 d mX1_ruleOut 169 [l0, l1, l2, l3, l4, some (.int x5), l6, l7] [] F L Q else wt am_S0 d mX1_ruleOut 47 [l0, l1, l2, l3, l4, some (.int x5), l6, l7] [] F L Q := (wt_iload dX1_ruleOut_40 rfl).trans ((wt_bipush dX1_ruleOut_42 (v := 12) (by decide)).trans (wt_if_icmp_ge dX1_ruleOut_44 (t := 169) rfl))
set_option maxHeartbeats 100000 in
theorem kX1_ruleOut_47 {d : Nat} {F : am_FT} {L : am_LT} {Q : am_QT} {l0 l1 l4 l6 l7 : Option Value} {x2 x3 x5 : Int32} : wt am_S0 (d + 1) mX1_ruleOut 47 [l0, l1, some (.int x2), some (.int x3), l4, some (.int x5), l6, l7] [] F L Q = wc am_S0 d mX11_holds [.int (x2 ||| x3), .int x5] F L (fun r G K => wt am_S0 (d + 1) mX1_ruleOut 55 [l0, l1, some (.int x2), some (.int x3), l4, some (.int x5), l6, l7] (r.toList ++ []) G K Q) := (wt_iload_n dX1_ruleOut_47 rfl).trans ((wt_iload_n dX1_ruleOut_48 rfl).trans ((wt_ior dX1_ruleOut_49).trans ((wt_iload dX1_ruleOut_50 rfl).trans (wt_callS dX1_ruleOut_52 rfl (as := [.int (x2 ||| x3), .int x5]) (rest := []) rfl rfl (Nat.le_of_ble_eq_true rfl) (Nat.le_of_ble_eq_true rfl)))))
set_option maxHeartbeats 100000 in
theorem kX1_ruleOut_55 {d : Nat} {F : am_FT} {L : am_LT} {Q : am_QT} {l0 l1 l2 l3 l4 l5 l6 l7 : Option Value} {s0 : Int32} : wt am_S0 d mX1_ruleOut 55 [l0, l1, l2, l3, l4, l5, l6, l7] [.int s0] F L Q = if ¬ s0 = 0 then wt am_S0 d mX1_ruleOut 61 [l0, l1, l2, l3, l4, l5, l6, l7] [] F L Q else wt am_S0 d mX1_ruleOut 58 [l0, l1, l2, l3, l4, l5, l6, l7] [] F L Q := wt_ifCond_ne dX1_ruleOut_55 (t := 61) rfl
set_option maxHeartbeats 100000 in
theorem kX1_ruleOut_58 {d : Nat} {F : am_FT} {L : am_LT} {Q : am_QT} {l0 l1 l2 l3 l4 l5 l6 l7 : Option Value} : wt am_S0 d mX1_ruleOut 58 [l0, l1, l2, l3, l4, l5, l6, l7] [] F L Q = wt am_S0 d mX1_ruleOut 163 [l0, l1, l2, l3, l4, l5, l6, l7] [] F L Q := wt_goto dX1_ruleOut_58 (t := 163) rfl
set_option maxHeartbeats 100000 in
theorem kX1_ruleOut_61 {d : Nat} {F : am_FT} {L : am_LT} {Q : am_QT} {l2 l3 l4 l6 l7 : Option Value} {x1 x5 : Int32} : wt am_S0 (d + 1) mX1_ruleOut 61 [some (.ref 17), some (.int x1), l2, l3, l4, some (.int x5), l6, l7] [] F L Q = wc am_S0 d mX5_read [.ref 1, .int x1, .int 1] F L (fun r G K => wt am_S0 (d + 1) mX1_ruleOut 77 [some (.ref 17), some (.int x1), l2, l3, l4, some (.int x5), l6, l7] (r.toList ++ [.int x5, .int x1, .ref 9]) G K Q) := (wt_aload_n dX1_ruleOut_61 rfl rfl).trans ((wt_getfield dX1_ruleOut_62 rfl rfl (v := .ref 9) rfl).trans ((wt_iload_n dX1_ruleOut_65 rfl).trans ((wt_iload dX1_ruleOut_66 rfl).trans ((wt_aload_n dX1_ruleOut_68 rfl rfl).trans ((wt_getfield dX1_ruleOut_69 rfl rfl (v := .ref 1) rfl).trans ((wt_iload_n dX1_ruleOut_72 rfl).trans ((wt_iconst dX1_ruleOut_73 (v := 1) (by decide)).trans (wt_callV dX1_ruleOut_74 rfl (as := [.int x1, .int 1]) (rest := [.int x5, .int x1, .ref 9]) rfl rfl (Nat.le_of_ble_eq_true rfl) rfl (Nat.le_of_ble_eq_true rfl)))))))))
set_option maxHeartbeats 100000 in
theorem kX1_ruleOut_77 {d : Nat} {F : am_FT} {L : am_LT} {Q : am_QT} {l0 l1 l2 l3 l4 l5 l6 l7 : Option Value} {s1 s2 s3 : Int32} : wt am_S0 (d + 1) mX1_ruleOut 77 [l0, l1, l2, l3, l4, l5, l6, l7] [.int s3, .int s2, .int s1, .ref 9] F L Q = wc am_S0 d mX0_openAsIf [.ref 9, .int s1, .int s2, .int s3] F L (fun r G K => wt am_S0 (d + 1) mX1_ruleOut 80 [l0, l1, l2, l3, l4, l5, l6, l7] (r.toList ++ []) G K Q) := wt_callV dX1_ruleOut_77 rfl (as := [.int s1, .int s2, .int s3]) (rest := []) rfl rfl (Nat.le_of_ble_eq_true rfl) rfl (Nat.le_of_ble_eq_true rfl)
set_option maxHeartbeats 100000 in
theorem kX1_ruleOut_80 {d : Nat} {F : am_FT} {L : am_LT} {Q : am_QT} {l1 l2 l3 l4 l5 l6 l7 : Option Value} : wt am_S0 (d + 1) mX1_ruleOut 80 [some (.ref 17), l1, l2, l3, l4, l5, l6, l7] [] F L Q = wc am_S0 d mX0_sumSets [.ref 9, .ref 14] F L (fun r G K => wt am_S0 (d + 1) mX1_ruleOut 91 [some (.ref 17), l1, l2, l3, l4, l5, l6, l7] (r.toList ++ []) G K Q) := (wt_aload_n dX1_ruleOut_80 rfl rfl).trans ((wt_getfield dX1_ruleOut_81 rfl rfl (v := .ref 9) rfl).trans ((wt_aload_n dX1_ruleOut_84 rfl rfl).trans ((wt_getfield dX1_ruleOut_85 rfl rfl (v := .ref 14) rfl).trans (wt_callV dX1_ruleOut_88 rfl (as := [.ref 14]) (rest := []) rfl rfl (Nat.le_of_ble_eq_true rfl) rfl (Nat.le_of_ble_eq_true rfl)))))
set_option maxHeartbeats 100000 in
theorem kX1_ruleOut_91 {d : Nat} {F : am_FT} {L : am_LT} {Q : am_QT} {l1 l2 l3 l4 l5 l6 l7 : Option Value} : wt am_S0 (d + 1) mX1_ruleOut 91 [some (.ref 17), l1, l2, l3, l4, l5, l6, l7] [] F L Q = wc am_S0 d mX0_sumOf [.ref 9, .int (F 9 5)] F L (fun r G K => wt am_S0 (d + 1) mX1_ruleOut 105 [some (.ref 17), l1, l2, l3, l4, l5, l6, l7] (r.toList ++ []) G K Q) := (wt_aload_n dX1_ruleOut_91 rfl rfl).trans ((wt_getfield dX1_ruleOut_92 rfl rfl (v := .ref 9) rfl).trans ((wt_aload_n dX1_ruleOut_95 rfl rfl).trans ((wt_getfield dX1_ruleOut_96 rfl rfl (v := .ref 9) rfl).trans ((wt_getfield dX1_ruleOut_99 rfl rfl (v := .int (F 9 5)) rfl).trans (wt_callV dX1_ruleOut_102 rfl (as := [.int (F 9 5)]) (rest := []) rfl rfl (Nat.le_of_ble_eq_true rfl) rfl (Nat.le_of_ble_eq_true rfl))))))
set_option maxHeartbeats 100000 in
theorem kX1_ruleOut_105 {d : Nat} {F : am_FT} {L : am_LT} {Q : am_QT} {l0 l1 l2 l3 l4 l6 l7 : Option Value} {s0 x5 : Int32} : wt am_S0 d mX1_ruleOut 105 [l0, l1, l2, l3, l4, some (.int x5), l6, l7] [.int s0] F L Q = wt am_S0 d mX1_ruleOut 110 [l0, l1, l2, l3, l4, some (.int x5), some (.int s0), some (.int 0)] [] F L Q := (wt_istore dX1_ruleOut_105 (lv1 := [l0, l1, l2, l3, l4, some (.int x5), some (.int s0), l7]) (Nat.le_of_ble_eq_true rfl) rfl).trans ((wt_iconst dX1_ruleOut_107 (v := 0) (by decide)).trans (wt_istore dX1_ruleOut_108 (lv1 := [l0, l1, l2, l3, l4, some (.int x5), some (.int s0), some (.int 0)]) (Nat.le_of_ble_eq_true rfl) rfl))
set_option maxHeartbeats 100000 in
theorem kX1_ruleOut_110 {d : Nat} {F : am_FT} {L : am_LT} {Q : am_QT} {l0 l1 l2 l3 l5 l6 : Option Value} {x7 x4 : Int32} : wt am_S0 d mX1_ruleOut 110 [l0, l1, l2, l3, some (.int x4), l5, l6, some (.int x7)] [] F L Q = if x4 ≤ x7 then wt am_S0 d mX1_ruleOut 163 [l0, l1, l2, l3, some (.int x4), l5, l6, some (.int x7)] [] F L Q else wt am_S0 d mX1_ruleOut 117 [l0, l1, l2, l3, some (.int x4), l5, l6, some (.int x7)] [] F L Q := (wt_iload dX1_ruleOut_110 rfl).trans ((wt_iload dX1_ruleOut_112 rfl).trans (wt_if_icmp_ge dX1_ruleOut_114 (t := 163) rfl))
set_option maxHeartbeats 100000 in
theorem kX1_ruleOut_117 {d : Nat} {F : am_FT} {L : am_LT} {Q : am_QT} {l1 l2 l3 l4 l5 l6 : Option Value} {x7 : Int32} : wt am_S0 (d + 1) mX1_ruleOut 117 [some (.ref 17), l1, l2, l3, l4, l5, l6, some (.int x7)] [] F L Q = wc am_S0 d mX11_at [.ref 14, .int x7] F L (fun r G K => wt am_S0 (d + 1) mX1_ruleOut 127 [some (.ref 17), l1, l2, l3, l4, l5, l6, some (.int x7)] (r.toList ++ [.int 2]) G K Q) := (wt_iconst dX1_ruleOut_117 (v := 2) (by decide)).trans ((wt_aload_n dX1_ruleOut_118 rfl rfl).trans ((wt_getfield dX1_ruleOut_119 rfl rfl (v := .ref 14) rfl).trans ((wt_iload dX1_ruleOut_122 rfl).trans (wt_callS dX1_ruleOut_124 rfl (as := [.ref 14, .int x7]) (rest := [.int 2]) rfl rfl (Nat.le_of_ble_eq_true rfl) (Nat.le_of_ble_eq_true rfl)))))
set_option maxHeartbeats 100000 in
theorem kX1_ruleOut_127 {d : Nat} {F : am_FT} {L : am_LT} {Q : am_QT} {l0 l1 l2 l3 l4 l5 l7 : Option Value} {s0 s1 x6 : Int32} : wt am_S0 d mX1_ruleOut 127 [l0, l1, l2, l3, l4, l5, some (.int x6), l7] [.int s1, .int s0] F L Q = if (s0 * s1) ≤ x6 then wt am_S0 d mX1_ruleOut 137 [l0, l1, l2, l3, l4, l5, some (.int x6), l7] [] F L Q else wt am_S0 d mX1_ruleOut 133 [l0, l1, l2, l3, l4, l5, some (.int x6), l7] [] F L Q := (wt_imul dX1_ruleOut_127).trans ((wt_iload dX1_ruleOut_128 rfl).trans (wt_if_icmp_le dX1_ruleOut_130 (t := 137) rfl))
set_option maxHeartbeats 100000 in
theorem kX1_ruleOut_133 {d : Nat} {F : am_FT} {L : am_LT} {Q : am_QT} {l0 l1 l2 l3 l4 l5 l6 l7 : Option Value} : wt am_S0 d mX1_ruleOut 133 [l0, l1, l2, l3, l4, l5, l6, l7] [] F L Q = wt am_S0 d mX1_ruleOut 138 [l0, l1, l2, l3, l4, l5, l6, l7] [.int 1] F L Q := (wt_iconst dX1_ruleOut_133 (v := 1) (by decide)).trans (wt_goto dX1_ruleOut_134 (t := 138) rfl)
set_option maxHeartbeats 100000 in
theorem kX1_ruleOut_137 {d : Nat} {F : am_FT} {L : am_LT} {Q : am_QT} {l0 l1 l2 l3 l4 l5 l6 l7 : Option Value} : wt am_S0 d mX1_ruleOut 137 [l0, l1, l2, l3, l4, l5, l6, l7] [] F L Q = wt am_S0 d mX1_ruleOut 138 [l0, l1, l2, l3, l4, l5, l6, l7] [.int 0] F L Q := wt_iconst dX1_ruleOut_137 (v := 0) (by decide)
set_option maxHeartbeats 100000 in
theorem kX1_ruleOut_138 {d : Nat} {F : am_FT} {L : am_LT} {Q : am_QT} {l0 l1 l3 l4 l6 l7 : Option Value} {s0 x2 x5 : Int32} : wt am_S0 (d + 1) mX1_ruleOut 138 [l0, l1, some (.int x2), l3, l4, some (.int x5), l6, l7] [.int s0] F L Q = wc am_S0 d mX11_holds [.int x2, .int x5] F L (fun r G K => wt am_S0 (d + 1) mX1_ruleOut 144 [l0, l1, some (.int x2), l3, l4, some (.int x5), l6, l7] (r.toList ++ [.int s0]) G K Q) := (wt_iload_n dX1_ruleOut_138 rfl).trans ((wt_iload dX1_ruleOut_139 rfl).trans (wt_callS dX1_ruleOut_141 rfl (as := [.int x2, .int x5]) (rest := [.int s0]) rfl rfl (Nat.le_of_ble_eq_true rfl) (Nat.le_of_ble_eq_true rfl)))
set_option maxHeartbeats 100000 in
theorem kX1_ruleOut_144 {d : Nat} {F : am_FT} {L : am_LT} {Q : am_QT} {l0 l1 l2 l3 l4 l5 l6 l7 : Option Value} {s0 s1 : Int32} : wt am_S0 d mX1_ruleOut 144 [l0, l1, l2, l3, l4, l5, l6, l7] [.int s1, .int s0] F L Q = if s0 = s1 then wt am_S0 d mX1_ruleOut 157 [l0, l1, l2, l3, l4, l5, l6, l7] [] F L Q else wt am_S0 d mX1_ruleOut 147 [l0, l1, l2, l3, l4, l5, l6, l7] [] F L Q := wt_if_icmp_eq dX1_ruleOut_144 (t := 157) rfl
set_option maxHeartbeats 100000 in
theorem kX1_ruleOut_147 {d : Nat} {F : am_FT} {L : am_LT} {Q : am_QT} {l1 l2 l3 l4 l5 l6 : Option Value} {x7 : Int32} : wt am_S0 (d + 1) mX1_ruleOut 147 [some (.ref 17), l1, l2, l3, l4, l5, l6, some (.int x7)] [] F L Q = wc am_S0 d mX11_lay [.ref 15, .int x7, .int 1] F L (fun r G K => wt am_S0 (d + 1) mX1_ruleOut 157 [some (.ref 17), l1, l2, l3, l4, l5, l6, some (.int x7)] (r.toList ++ []) G K Q) := (wt_aload_n dX1_ruleOut_147 rfl rfl).trans ((wt_getfield dX1_ruleOut_148 rfl rfl (v := .ref 15) rfl).trans ((wt_iload dX1_ruleOut_151 rfl).trans ((wt_iconst dX1_ruleOut_153 (v := 1) (by decide)).trans (wt_callS dX1_ruleOut_154 rfl (as := [.ref 15, .int x7, .int 1]) (rest := []) rfl rfl (Nat.le_of_ble_eq_true rfl) (Nat.le_of_ble_eq_true rfl)))))
set_option maxHeartbeats 100000 in
theorem kX1_ruleOut_157 {d : Nat} {F : am_FT} {L : am_LT} {Q : am_QT} {l0 l1 l2 l3 l4 l5 : Option Value} {x7 x6 : Int32} : wt am_S0 d mX1_ruleOut 157 [l0, l1, l2, l3, l4, l5, some (.int x6), some (.int x7)] [] F L Q = wt am_S0 d mX1_ruleOut 110 [l0, l1, l2, l3, l4, l5, some (.int x6), some (.int (x7 + 1))] [] F L Q := (wt_iinc dX1_ruleOut_157 (v := 1) (lv1 := [l0, l1, l2, l3, l4, l5, some (.int x6), some (.int (x7 + 1))]) rfl (Nat.le_of_ble_eq_true rfl) (by decide) rfl).trans (wt_goto dX1_ruleOut_160 (t := 110) rfl)
set_option maxHeartbeats 100000 in
theorem kX1_ruleOut_163 {d : Nat} {F : am_FT} {L : am_LT} {Q : am_QT} {l0 l1 l2 l3 l6 l7 : Option Value} {x5 x4 : Int32} : wt am_S0 d mX1_ruleOut 163 [l0, l1, l2, l3, some (.int x4), some (.int x5), l6, l7] [] F L Q = wt am_S0 d mX1_ruleOut 40 [l0, l1, l2, l3, some (.int x4), some (.int (x5 + 1)), l6, l7] [] F L Q := (wt_iinc dX1_ruleOut_163 (v := 1) (lv1 := [l0, l1, l2, l3, some (.int x4), some (.int (x5 + 1)), l6, l7]) rfl (Nat.le_of_ble_eq_true rfl) (by decide) rfl).trans (wt_goto dX1_ruleOut_166 (t := 40) rfl)
set_option maxHeartbeats 100000 in
theorem kX1_ruleOut_169 {d : Nat} {F : am_FT} {L : am_LT} {Q : am_QT} {l0 l1 l2 l3 l4 l5 l6 l7 : Option Value} : wt am_S0 d mX1_ruleOut 169 [l0, l1, l2, l3, l4, l5, l6, l7] [] F L Q = Q none F L := wt_return dX1_ruleOut_169 rfl
theorem dX1_gather_0 : decode mX1_gather.2.2.1 0 = .ok (.iconst 1, 1) := by decide +kernel
theorem dX1_gather_1 : decode mX1_gather.2.2.1 1 = .ok (.aload_n 0, 1) := by decide +kernel
theorem dX1_gather_2 : decode mX1_gather.2.2.1 2 = .ok (.getfield 9, 3) := by decide +kernel
theorem dX1_gather_5 : decode mX1_gather.2.2.1 5 = .ok (.getfield 84, 3) := by decide +kernel
theorem dX1_gather_8 : decode mX1_gather.2.2.1 8 = .ok (.ishl, 1) := by decide +kernel
theorem dX1_gather_9 : decode mX1_gather.2.2.1 9 = .ok (.istore_n 1, 1) := by decide +kernel
theorem dX1_gather_10 : decode mX1_gather.2.2.1 10 = .ok (.aload_n 0, 1) := by decide +kernel
theorem dX1_gather_11 : decode mX1_gather.2.2.1 11 = .ok (.iload_n 1, 1) := by decide +kernel
theorem dX1_gather_12 : decode mX1_gather.2.2.1 12 = .ok (.iconst 1, 1) := by decide +kernel
theorem dX1_gather_13 : decode mX1_gather.2.2.1 13 = .ok (.isub, 1) := by decide +kernel
theorem dX1_gather_14 : decode mX1_gather.2.2.1 14 = .ok (.putfield 75, 3) := by decide +kernel
theorem dX1_gather_17 : decode mX1_gather.2.2.1 17 = .ok (.iconst 0, 1) := by decide +kernel
theorem dX1_gather_18 : decode mX1_gather.2.2.1 18 = .ok (.istore_n 2, 1) := by decide +kernel
theorem dX1_gather_19 : decode mX1_gather.2.2.1 19 = .ok (.iload_n 2, 1) := by decide +kernel
theorem dX1_gather_20 : decode mX1_gather.2.2.1 20 = .ok (.iload_n 1, 1) := by decide +kernel
theorem dX1_gather_21 : decode mX1_gather.2.2.1 21 = .ok (.if_icmp .ge 56, 3) := by decide +kernel
theorem dX1_gather_24 : decode mX1_gather.2.2.1 24 = .ok (.aload_n 0, 1) := by decide +kernel
theorem dX1_gather_25 : decode mX1_gather.2.2.1 25 = .ok (.getfield 23, 3) := by decide +kernel
theorem dX1_gather_28 : decode mX1_gather.2.2.1 28 = .ok (.iload_n 2, 1) := by decide +kernel
theorem dX1_gather_29 : decode mX1_gather.2.2.1 29 = .ok (.invokestatic 102, 3) := by decide +kernel
theorem dX1_gather_32 : decode mX1_gather.2.2.1 32 = .ok (.iconst 1, 1) := by decide +kernel
theorem dX1_gather_33 : decode mX1_gather.2.2.1 33 = .ok (.if_icmp .ne 6, 3) := by decide +kernel
theorem dX1_gather_36 : decode mX1_gather.2.2.1 36 = .ok (.goto 35, 3) := by decide +kernel
theorem dX1_gather_39 : decode mX1_gather.2.2.1 39 = .ok (.aload_n 0, 1) := by decide +kernel
theorem dX1_gather_40 : decode mX1_gather.2.2.1 40 = .ok (.getfield 69, 3) := by decide +kernel
theorem dX1_gather_43 : decode mX1_gather.2.2.1 43 = .ok (.ifCond .ne 8, 3) := by decide +kernel
theorem dX1_gather_46 : decode mX1_gather.2.2.1 46 = .ok (.aload_n 0, 1) := by decide +kernel
theorem dX1_gather_47 : decode mX1_gather.2.2.1 47 = .ok (.iload_n 2, 1) := by decide +kernel
theorem dX1_gather_48 : decode mX1_gather.2.2.1 48 = .ok (.putfield 72, 3) := by decide +kernel
theorem dX1_gather_51 : decode mX1_gather.2.2.1 51 = .ok (.aload_n 0, 1) := by decide +kernel
theorem dX1_gather_52 : decode mX1_gather.2.2.1 52 = .ok (.dup, 1) := by decide +kernel
theorem dX1_gather_53 : decode mX1_gather.2.2.1 53 = .ok (.getfield 69, 3) := by decide +kernel
theorem dX1_gather_56 : decode mX1_gather.2.2.1 56 = .ok (.iconst 1, 1) := by decide +kernel
theorem dX1_gather_57 : decode mX1_gather.2.2.1 57 = .ok (.iadd, 1) := by decide +kernel
theorem dX1_gather_58 : decode mX1_gather.2.2.1 58 = .ok (.putfield 69, 3) := by decide +kernel
theorem dX1_gather_61 : decode mX1_gather.2.2.1 61 = .ok (.aload_n 0, 1) := by decide +kernel
theorem dX1_gather_62 : decode mX1_gather.2.2.1 62 = .ok (.dup, 1) := by decide +kernel
theorem dX1_gather_63 : decode mX1_gather.2.2.1 63 = .ok (.getfield 75, 3) := by decide +kernel
theorem dX1_gather_66 : decode mX1_gather.2.2.1 66 = .ok (.iload_n 2, 1) := by decide +kernel
theorem dX1_gather_67 : decode mX1_gather.2.2.1 67 = .ok (.iand, 1) := by decide +kernel
theorem dX1_gather_68 : decode mX1_gather.2.2.1 68 = .ok (.putfield 75, 3) := by decide +kernel
theorem dX1_gather_71 : decode mX1_gather.2.2.1 71 = .ok (.iinc 2 1, 3) := by decide +kernel
theorem dX1_gather_74 : decode mX1_gather.2.2.1 74 = .ok (.goto (-55), 3) := by decide +kernel
theorem dX1_gather_77 : decode mX1_gather.2.2.1 77 = .ok (.return_, 1) := by decide +kernel
set_option maxHeartbeats 100000 in
theorem kX1_gather_0 {d : Nat} {F : am_FT} {L : am_LT} {Q : am_QT} {l1 l2 : Option Value} : wt am_S0 d mX1_gather 0 [some (.ref 17), l1, l2] [] F L Q = wt am_S0 d mX1_gather 19 [some (.ref 17), some (.int ((1 : Int32) <<< ((F 1 2) &&& 31))), some (.int 0)] [] (am_upF F 17 6 (((1 : Int32) <<< ((F 1 2) &&& 31)) - 1)) L Q := (wt_iconst dX1_gather_0 (v := 1) (by decide)).trans ((wt_aload_n dX1_gather_1 rfl rfl).trans ((wt_getfield dX1_gather_2 rfl rfl (v := .ref 1) rfl).trans ((wt_getfield dX1_gather_5 rfl rfl (v := .int (F 1 2)) rfl).trans ((wt_ishl dX1_gather_8).trans ((wt_istore_n dX1_gather_9 (lv1 := [some (.ref 17), some (.int ((1 : Int32) <<< ((F 1 2) &&& 31))), l2]) (Nat.le_of_ble_eq_true rfl) rfl).trans ((wt_aload_n dX1_gather_10 rfl rfl).trans ((wt_iload_n dX1_gather_11 rfl).trans ((wt_iconst dX1_gather_12 (v := 1) (by decide)).trans ((wt_isub dX1_gather_13).trans ((wt_putfield dX1_gather_14 rfl rfl ⟨rfl, rfl, rfl, rfl⟩).trans ((wt_iconst dX1_gather_17 (v := 0) (by decide)).trans (wt_istore_n dX1_gather_18 (lv1 := [some (.ref 17), some (.int ((1 : Int32) <<< ((F 1 2) &&& 31))), some (.int 0)]) (Nat.le_of_ble_eq_true rfl) rfl))))))))))))
set_option maxHeartbeats 100000 in
theorem kX1_gather_19 {d : Nat} {F : am_FT} {L : am_LT} {Q : am_QT} {l0 : Option Value} {x2 x1 : Int32} : wt am_S0 d mX1_gather 19 [l0, some (.int x1), some (.int x2)] [] F L Q = if x1 ≤ x2 then wt am_S0 d mX1_gather 77 [l0, some (.int x1), some (.int x2)] [] F L Q else wt am_S0 d mX1_gather 24 [l0, some (.int x1), some (.int x2)] [] F L Q := (wt_iload_n dX1_gather_19 rfl).trans ((wt_iload_n dX1_gather_20 rfl).trans (wt_if_icmp_ge dX1_gather_21 (t := 77) rfl))
set_option maxHeartbeats 100000 in
theorem kX1_gather_24 {d : Nat} {F : am_FT} {L : am_LT} {Q : am_QT} {l1 : Option Value} {x2 : Int32} : wt am_S0 (d + 1) mX1_gather 24 [some (.ref 17), l1, some (.int x2)] [] F L Q = wc am_S0 d mX11_at [.ref 15, .int x2] F L (fun r G K => wt am_S0 (d + 1) mX1_gather 32 [some (.ref 17), l1, some (.int x2)] (r.toList ++ []) G K Q) := (wt_aload_n dX1_gather_24 rfl rfl).trans ((wt_getfield dX1_gather_25 rfl rfl (v := .ref 15) rfl).trans ((wt_iload_n dX1_gather_28 rfl).trans (wt_callS dX1_gather_29 rfl (as := [.ref 15, .int x2]) (rest := []) rfl rfl (Nat.le_of_ble_eq_true rfl) (Nat.le_of_ble_eq_true rfl))))
set_option maxHeartbeats 100000 in
theorem kX1_gather_32 {d : Nat} {F : am_FT} {L : am_LT} {Q : am_QT} {l0 l1 l2 : Option Value} {s0 : Int32} : wt am_S0 d mX1_gather 32 [l0, l1, l2] [.int s0] F L Q = if ¬ s0 = 1 then wt am_S0 d mX1_gather 39 [l0, l1, l2] [] F L Q else wt am_S0 d mX1_gather 36 [l0, l1, l2] [] F L Q := (wt_iconst dX1_gather_32 (v := 1) (by decide)).trans (wt_if_icmp_ne dX1_gather_33 (t := 39) rfl)
set_option maxHeartbeats 100000 in
theorem kX1_gather_36 {d : Nat} {F : am_FT} {L : am_LT} {Q : am_QT} {l0 l1 l2 : Option Value} : wt am_S0 d mX1_gather 36 [l0, l1, l2] [] F L Q = wt am_S0 d mX1_gather 71 [l0, l1, l2] [] F L Q := wt_goto dX1_gather_36 (t := 71) rfl
set_option maxHeartbeats 100000 in
theorem kX1_gather_39 {d : Nat} {F : am_FT} {L : am_LT} {Q : am_QT} {l1 l2 : Option Value} : wt am_S0 d mX1_gather 39 [some (.ref 17), l1, l2] [] F L Q = if ¬ (F 17 4) = 0 then wt am_S0 d mX1_gather 51 [some (.ref 17), l1, l2] [] F L Q else wt am_S0 d mX1_gather 46 [some (.ref 17), l1, l2] [] F L Q := (wt_aload_n dX1_gather_39 rfl rfl).trans ((wt_getfield dX1_gather_40 rfl rfl (v := .int (F 17 4)) rfl).trans (wt_ifCond_ne dX1_gather_43 (t := 51) rfl))
set_option maxHeartbeats 100000 in
theorem kX1_gather_46 {d : Nat} {F : am_FT} {L : am_LT} {Q : am_QT} {l1 : Option Value} {x2 : Int32} : wt am_S0 d mX1_gather 46 [some (.ref 17), l1, some (.int x2)] [] F L Q = wt am_S0 d mX1_gather 51 [some (.ref 17), l1, some (.int x2)] [] (am_upF F 17 5 x2) L Q := (wt_aload_n dX1_gather_46 rfl rfl).trans ((wt_iload_n dX1_gather_47 rfl).trans (wt_putfield dX1_gather_48 rfl rfl ⟨rfl, rfl, rfl, rfl⟩))
set_option maxHeartbeats 100000 in
theorem kX1_gather_51 {d : Nat} {F : am_FT} {L : am_LT} {Q : am_QT} {l1 : Option Value} {x2 : Int32} : wt am_S0 d mX1_gather 51 [some (.ref 17), l1, some (.int x2)] [] F L Q = wt am_S0 d mX1_gather 71 [some (.ref 17), l1, some (.int x2)] [] (am_upF (am_upF F 17 4 ((F 17 4) + 1)) 17 6 ((F 17 6) &&& x2)) L Q := (wt_aload_n dX1_gather_51 rfl rfl).trans ((wt_dup dX1_gather_52 rfl).trans ((wt_getfield dX1_gather_53 rfl rfl (v := .int (F 17 4)) rfl).trans ((wt_iconst dX1_gather_56 (v := 1) (by decide)).trans ((wt_iadd dX1_gather_57).trans ((wt_putfield dX1_gather_58 rfl rfl ⟨rfl, rfl, rfl, rfl⟩).trans ((wt_aload_n dX1_gather_61 rfl rfl).trans ((wt_dup dX1_gather_62 rfl).trans ((wt_getfield dX1_gather_63 rfl rfl (v := .int (F 17 6)) (F := am_upF F 17 4 ((F 17 4) + 1)) (p := 17) rfl).trans ((wt_iload_n dX1_gather_66 rfl).trans ((wt_iand dX1_gather_67).trans (wt_putfield dX1_gather_68 rfl rfl ⟨rfl, rfl, rfl, rfl⟩)))))))))))
set_option maxHeartbeats 100000 in
theorem kX1_gather_71 {d : Nat} {F : am_FT} {L : am_LT} {Q : am_QT} {l0 : Option Value} {x2 x1 : Int32} : wt am_S0 d mX1_gather 71 [l0, some (.int x1), some (.int x2)] [] F L Q = wt am_S0 d mX1_gather 19 [l0, some (.int x1), some (.int (x2 + 1))] [] F L Q := (wt_iinc dX1_gather_71 (v := 1) (lv1 := [l0, some (.int x1), some (.int (x2 + 1))]) rfl (Nat.le_of_ble_eq_true rfl) (by decide) rfl).trans (wt_goto dX1_gather_74 (t := 19) rfl)
set_option maxHeartbeats 100000 in
theorem kX1_gather_77 {d : Nat} {F : am_FT} {L : am_LT} {Q : am_QT} {l0 l1 l2 : Option Value} : wt am_S0 d mX1_gather 77 [l0, l1, l2] [] F L Q = Q none F L := wt_return dX1_gather_77 rfl
