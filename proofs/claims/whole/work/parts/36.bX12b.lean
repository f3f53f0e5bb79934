theorem dX12_feed_0 : decode mX12_feed.2.2.1 0 = .ok (.iload_n 1, 1) := by decide +kernel
theorem dX12_feed_1 : decode mX12_feed.2.2.1 1 = .ok (.i2l, 1) := by decide +kernel
theorem dX12_feed_2 : decode mX12_feed.2.2.1 2 = .ok (.lconst 0, 1) := by decide +kernel
theorem dX12_feed_3 : decode mX12_feed.2.2.1 3 = .ok (.ldc2_w 82, 3) := by decide +kernel
theorem dX12_feed_6 : decode mX12_feed.2.2.1 6 = .ok (.invokestatic 75, 3) := by decide +kernel
theorem dX12_feed_9 : decode mX12_feed.2.2.1 9 = .ok (.ifCond .ne 5, 3) := by decide +kernel
theorem dX12_feed_12 : decode mX12_feed.2.2.1 12 = .ok (.iconst (-1), 1) := by decide +kernel
theorem dX12_feed_13 : decode mX12_feed.2.2.1 13 = .ok (.ireturn, 1) := by decide +kernel
theorem dX12_feed_14 : decode mX12_feed.2.2.1 14 = .ok (.aload_n 0, 1) := by decide +kernel
theorem dX12_feed_15 : decode mX12_feed.2.2.1 15 = .ok (.getfield 129, 3) := by decide +kernel
theorem dX12_feed_18 : decode mX12_feed.2.2.1 18 = .ok (.bipush 120, 2) := by decide +kernel
theorem dX12_feed_20 : decode mX12_feed.2.2.1 20 = .ok (.if_icmp .ne 6, 3) := by decide +kernel
theorem dX12_feed_23 : decode mX12_feed.2.2.1 23 = .ok (.bipush (-3), 2) := by decide +kernel
theorem dX12_feed_25 : decode mX12_feed.2.2.1 25 = .ok (.ireturn, 1) := by decide +kernel
theorem dX12_feed_26 : decode mX12_feed.2.2.1 26 = .ok (.aload_n 0, 1) := by decide +kernel
theorem dX12_feed_27 : decode mX12_feed.2.2.1 27 = .ok (.getfield 22, 3) := by decide +kernel
theorem dX12_feed_30 : decode mX12_feed.2.2.1 30 = .ok (.aload_n 0, 1) := by decide +kernel
theorem dX12_feed_31 : decode mX12_feed.2.2.1 31 = .ok (.getfield 129, 3) := by decide +kernel
theorem dX12_feed_34 : decode mX12_feed.2.2.1 34 = .ok (.iload_n 1, 1) := by decide +kernel
theorem dX12_feed_35 : decode mX12_feed.2.2.1 35 = .ok (.iastore, 1) := by decide +kernel
theorem dX12_feed_36 : decode mX12_feed.2.2.1 36 = .ok (.aload_n 0, 1) := by decide +kernel
theorem dX12_feed_37 : decode mX12_feed.2.2.1 37 = .ok (.dup, 1) := by decide +kernel
theorem dX12_feed_38 : decode mX12_feed.2.2.1 38 = .ok (.getfield 129, 3) := by decide +kernel
theorem dX12_feed_41 : decode mX12_feed.2.2.1 41 = .ok (.iconst 1, 1) := by decide +kernel
theorem dX12_feed_42 : decode mX12_feed.2.2.1 42 = .ok (.iadd, 1) := by decide +kernel
theorem dX12_feed_43 : decode mX12_feed.2.2.1 43 = .ok (.putfield 129, 3) := by decide +kernel
theorem dX12_feed_46 : decode mX12_feed.2.2.1 46 = .ok (.aload_n 0, 1) := by decide +kernel
theorem dX12_feed_47 : decode mX12_feed.2.2.1 47 = .ok (.getfield 129, 3) := by decide +kernel
theorem dX12_feed_50 : decode mX12_feed.2.2.1 50 = .ok (.ireturn, 1) := by decide +kernel
set_option maxHeartbeats 100000 in
theorem kX12_feed_0 {d : Nat} {F : am_FT} {L : am_LT} {Q : am_QT} {l0 : Option Value} {x1 : Int32} : wt am_S0 (d + 1) mX12_feed 0 [l0, some (.int x1)] [] F L Q = wc am_S0 d mX12_within [.long (Int32.toInt64 x1), .long 0, .long 255] F L (fun r G K => wt am_S0 (d + 1) mX12_feed 9 [l0, some (.int x1)] (r.toList ++ []) G K Q) := (wt_iload_n dX12_feed_0 rfl).trans ((wt_i2l dX12_feed_1).trans ((wt_lconst dX12_feed_2 (v := 0) (by decide)).trans ((wt_ldc2_w dX12_feed_3 (v := 255) rfl).trans (wt_callS dX12_feed_6 rfl (as := [.long (Int32.toInt64 x1), .long 0, .long 255]) (rest := []) rfl rfl (Nat.le_of_ble_eq_true rfl) (Nat.le_of_ble_eq_true rfl)))))
set_option maxHeartbeats 100000 in
theorem kX12_feed_9 {d : Nat} {F : am_FT} {L : am_LT} {Q : am_QT} {l0 l1 : Option Value} {s0 : Int32} : wt am_S0 d mX12_feed 9 [l0, l1] [.int s0] F L Q = if ¬ s0 = 0 then wt am_S0 d mX12_feed 14 [l0, l1] [] F L Q else wt am_S0 d mX12_feed 12 [l0, l1] [] F L Q := wt_ifCond_ne dX12_feed_9 (t := 14) rfl
set_option maxHeartbeats 100000 in
theorem kX12_feed_12 {d : Nat} {F : am_FT} {L : am_LT} {Q : am_QT} {l0 l1 : Option Value} : wt am_S0 d mX12_feed 12 [l0, l1] [] F L Q = Q (some (.int (-1))) F L := (wt_iconst dX12_feed_12 (v := (-1)) (by decide)).trans (wt_ireturn dX12_feed_13 rfl rfl)
set_option maxHeartbeats 100000 in
theorem kX12_feed_14 {d : Nat} {F : am_FT} {L : am_LT} {Q : am_QT} {l1 : Option Value} : wt am_S0 d mX12_feed 14 [some (.ref 45), l1] [] F L Q = if ¬ (F 45 10) = 120 then wt am_S0 d mX12_feed 26 [some (.ref 45), l1] [] F L Q else wt am_S0 d mX12_feed 23 [some (.ref 45), l1] [] F L Q := (wt_aload_n dX12_feed_14 rfl rfl).trans ((wt_getfield dX12_feed_15 rfl rfl (v := .int (F 45 10)) rfl).trans ((wt_bipush dX12_feed_18 (v := 120) (by decide)).trans (wt_if_icmp_ne dX12_feed_20 (t := 26) rfl)))
set_option maxHeartbeats 100000 in
theorem kX12_feed_23 {d : Nat} {F : am_FT} {L : am_LT} {Q : am_QT} {l0 l1 : Option Value} : wt am_S0 d mX12_feed 23 [l0, l1] [] F L Q = Q (some (.int (-3))) F L := (wt_bipush dX12_feed_23 (v := (-3)) (by decide)).trans (wt_ireturn dX12_feed_25 rfl rfl)
set_option maxHeartbeats 100000 in
theorem kX12_feed_26 {d : Nat} {F : am_FT} {L : am_LT} {Q : am_QT} {x1 : Int32} (h1 : am_oob (F 45 10) 120 = false) : wt am_S0 d mX12_feed 26 [some (.ref 45), some (.int x1)] [] F L Q = Q (some (.int ((F 45 10) + 1))) (am_upF (am_upF F 50 (Int32.toNatClampNeg (F 45 10)) x1) 45 10 ((F 45 10) + 1)) L := (wt_aload_n dX12_feed_26 rfl rfl).trans ((wt_getfield dX12_feed_27 rfl rfl (v := .ref 50) rfl).trans ((wt_aload_n dX12_feed_30 rfl rfl).trans ((wt_getfield dX12_feed_31 rfl rfl (v := .int (F 45 10)) rfl).trans ((wt_iload_n dX12_feed_34 rfl).trans ((wt_iastore dX12_feed_35 rfl h1).trans ((wt_aload_n dX12_feed_36 rfl rfl).trans ((wt_dup dX12_feed_37 rfl).trans ((wt_getfield dX12_feed_38 rfl rfl (v := .int (F 45 10)) (F := am_upF F 50 (Int32.toNatClampNeg (F 45 10)) x1) (p := 45) rfl).trans ((wt_iconst dX12_feed_41 (v := 1) (by decide)).trans ((wt_iadd dX12_feed_42).trans ((wt_putfield dX12_feed_43 rfl rfl ⟨rfl, rfl, rfl, rfl⟩).trans ((wt_aload_n dX12_feed_46 rfl rfl).trans ((wt_getfield dX12_feed_47 rfl rfl (v := .int ((F 45 10) + 1)) (F := am_upF (am_upF F 50 (Int32.toNatClampNeg (F 45 10)) x1) 45 10 ((F 45 10) + 1)) (p := 45) rfl).trans (wt_ireturn dX12_feed_50 rfl rfl))))))))))))))
theorem dX12_law_0 : decode mX12_law.2.2.1 0 = .ok (.aload_n 0, 1) := by decide +kernel
theorem dX12_law_1 : decode mX12_law.2.2.1 1 = .ok (.iconst (-1), 1) := by decide +kernel
theorem dX12_law_2 : decode mX12_law.2.2.1 2 = .ok (.aload_n 0, 1) := by decide +kernel
theorem dX12_law_3 : decode mX12_law.2.2.1 3 = .ok (.getfield 129, 3) := by decide +kernel
theorem dX12_law_6 : decode mX12_law.2.2.1 6 = .ok (.invokevirtual 179, 3) := by decide +kernel
theorem dX12_law_9 : decode mX12_law.2.2.1 9 = .ok (.istore_n 1, 1) := by decide +kernel
theorem dX12_law_10 : decode mX12_law.2.2.1 10 = .ok (.aload_n 0, 1) := by decide +kernel
theorem dX12_law_11 : decode mX12_law.2.2.1 11 = .ok (.getfield 129, 3) := by decide +kernel
theorem dX12_law_14 : decode mX12_law.2.2.1 14 = .ok (.istore_n 2, 1) := by decide +kernel
theorem dX12_law_15 : decode mX12_law.2.2.1 15 = .ok (.aload_n 0, 1) := by decide +kernel
theorem dX12_law_16 : decode mX12_law.2.2.1 16 = .ok (.iconst 0, 1) := by decide +kernel
theorem dX12_law_17 : decode mX12_law.2.2.1 17 = .ok (.putfield 129, 3) := by decide +kernel
theorem dX12_law_20 : decode mX12_law.2.2.1 20 = .ok (.aload_n 0, 1) := by decide +kernel
theorem dX12_law_21 : decode mX12_law.2.2.1 21 = .ok (.getfield 141, 3) := by decide +kernel
theorem dX12_law_24 : decode mX12_law.2.2.1 24 = .ok (.ifCond .lt 11, 3) := by decide +kernel
theorem dX12_law_27 : decode mX12_law.2.2.1 27 = .ok (.bipush (-100), 2) := by decide +kernel
theorem dX12_law_29 : decode mX12_law.2.2.1 29 = .ok (.aload_n 0, 1) := by decide +kernel
theorem dX12_law_30 : decode mX12_law.2.2.1 30 = .ok (.getfield 141, 3) := by decide +kernel
theorem dX12_law_33 : decode mX12_law.2.2.1 33 = .ok (.isub, 1) := by decide +kernel
theorem dX12_law_34 : decode mX12_law.2.2.1 34 = .ok (.ireturn, 1) := by decide +kernel
theorem dX12_law_35 : decode mX12_law.2.2.1 35 = .ok (.iconst 0, 1) := by decide +kernel
theorem dX12_law_36 : decode mX12_law.2.2.1 36 = .ok (.istore_n 3, 1) := by decide +kernel
theorem dX12_law_37 : decode mX12_law.2.2.1 37 = .ok (.iload_n 3, 1) := by decide +kernel
theorem dX12_law_38 : decode mX12_law.2.2.1 38 = .ok (.iload_n 2, 1) := by decide +kernel
theorem dX12_law_39 : decode mX12_law.2.2.1 39 = .ok (.if_icmp .ge 21, 3) := by decide +kernel
theorem dX12_law_42 : decode mX12_law.2.2.1 42 = .ok (.aload_n 0, 1) := by decide +kernel
theorem dX12_law_43 : decode mX12_law.2.2.1 43 = .ok (.getfield 25, 3) := by decide +kernel
theorem dX12_law_46 : decode mX12_law.2.2.1 46 = .ok (.iload_n 3, 1) := by decide +kernel
theorem dX12_law_47 : decode mX12_law.2.2.1 47 = .ok (.aload_n 0, 1) := by decide +kernel
theorem dX12_law_48 : decode mX12_law.2.2.1 48 = .ok (.getfield 22, 3) := by decide +kernel
theorem dX12_law_51 : decode mX12_law.2.2.1 51 = .ok (.iload_n 3, 1) := by decide +kernel
theorem dX12_law_52 : decode mX12_law.2.2.1 52 = .ok (.iaload, 1) := by decide +kernel
theorem dX12_law_53 : decode mX12_law.2.2.1 53 = .ok (.iastore, 1) := by decide +kernel
theorem dX12_law_54 : decode mX12_law.2.2.1 54 = .ok (.iinc 3 1, 3) := by decide +kernel
theorem dX12_law_57 : decode mX12_law.2.2.1 57 = .ok (.goto (-20), 3) := by decide +kernel
theorem dX12_law_60 : decode mX12_law.2.2.1 60 = .ok (.aload_n 0, 1) := by decide +kernel
theorem dX12_law_61 : decode mX12_law.2.2.1 61 = .ok (.iload_n 2, 1) := by decide +kernel
theorem dX12_law_62 : decode mX12_law.2.2.1 62 = .ok (.putfield 62, 3) := by decide +kernel
theorem dX12_law_65 : decode mX12_law.2.2.1 65 = .ok (.iconst 1, 1) := by decide +kernel
theorem dX12_law_66 : decode mX12_law.2.2.1 66 = .ok (.ireturn, 1) := by decide +kernel
set_option maxHeartbeats 100000 in
theorem kX12_law_0 {d : Nat} {F : am_FT} {L : am_LT} {Q : am_QT} {l1 l2 l3 : Option Value} : wt am_S0 (d + 1) mX12_law 0 [some (.ref 45), l1, l2, l3] [] F L Q = wc am_S0 d mX12_workOut [.ref 45, .int (-1), .int (F 45 10)] F L (fun r G K => wt am_S0 (d + 1) mX12_law 9 [some (.ref 45), l1, l2, l3] (r.toList ++ []) G K Q) := (wt_aload_n dX12_law_0 rfl rfl).trans ((wt_iconst dX12_law_1 (v := (-1)) (by decide)).trans ((wt_aload_n dX12_law_2 rfl rfl).trans ((wt_getfield dX12_law_3 rfl rfl (v := .int (F 45 10)) rfl).trans (wt_callV dX12_law_6 rfl (as := [.int (-1), .int (F 45 10)]) (rest := []) rfl rfl (Nat.le_of_ble_eq_true rfl) rfl (Nat.le_of_ble_eq_true rfl)))))
set_option maxHeartbeats 100000 in
theorem kX12_law_9 {d : Nat} {F : am_FT} {L : am_LT} {Q : am_QT} {l1 l2 l3 : Option Value} {s0 : Int32} : wt am_S0 d mX12_law 9 [some (.ref 45), l1, l2, l3] [.int s0] F L Q = if (F 45 16) < 0 then wt am_S0 d mX12_law 35 [some (.ref 45), some (.int s0), some (.int (F 45 10)), l3] [] (am_upF F 45 10 0) L Q else wt am_S0 d mX12_law 27 [some (.ref 45), some (.int s0), some (.int (F 45 10)), l3] [] (am_upF F 45 10 0) L Q := (wt_istore_n dX12_law_9 (lv1 := [some (.ref 45), some (.int s0), l2, l3]) (Nat.le_of_ble_eq_true rfl) rfl).trans ((wt_aload_n dX12_law_10 rfl rfl).trans ((wt_getfield dX12_law_11 rfl rfl (v := .int (F 45 10)) rfl).trans ((wt_istore_n dX12_law_14 (lv1 := [some (.ref 45), some (.int s0), some (.int (F 45 10)), l3]) (Nat.le_of_ble_eq_true rfl) rfl).trans ((wt_aload_n dX12_law_15 rfl rfl).trans ((wt_iconst dX12_law_16 (v := 0) (by decide)).trans ((wt_putfield dX12_law_17 rfl rfl ⟨rfl, rfl, rfl, rfl⟩).trans ((wt_aload_n dX12_law_20 rfl rfl).trans ((wt_getfield dX12_law_21 rfl rfl (v := .int (F 45 16)) (F := am_upF F 45 10 0) (p := 45) rfl).trans (wt_ifCond_lt dX12_law_24 (t := 35) rfl)))))))))
set_option maxHeartbeats 100000 in
theorem kX12_law_27 {d : Nat} {F : am_FT} {L : am_LT} {Q : am_QT} {l1 l2 l3 : Option Value} : wt am_S0 d mX12_law 27 [some (.ref 45), l1, l2, l3] [] F L Q = Q (some (.int ((-100) - (F 45 16)))) F L := (wt_bipush dX12_law_27 (v := (-100)) (by decide)).trans ((wt_aload_n dX12_law_29 rfl rfl).trans ((wt_getfield dX12_law_30 rfl rfl (v := .int (F 45 16)) rfl).trans ((wt_isub dX12_law_33).trans (wt_ireturn dX12_law_34 rfl rfl))))
set_option maxHeartbeats 100000 in
theorem kX12_law_35 {d : Nat} {F : am_FT} {L : am_LT} {Q : am_QT} {l0 l1 l3 : Option Value} {x2 : Int32} : wt am_S0 d mX12_law 35 [l0, l1, some (.int x2), l3] [] F L Q = wt am_S0 d mX12_law 37 [l0, l1, some (.int x2), some (.int 0)] [] F L Q := (wt_iconst dX12_law_35 (v := 0) (by decide)).trans (wt_istore_n dX12_law_36 (lv1 := [l0, l1, some (.int x2), some (.int 0)]) (Nat.le_of_ble_eq_true rfl) rfl)
set_option maxHeartbeats 100000 in
theorem kX12_law_37 {d : Nat} {F : am_FT} {L : am_LT} {Q : am_QT} {l0 l1 : Option Value} {x3 x2 : Int32} : wt am_S0 d mX12_law 37 [l0, l1, some (.int x2), some (.int x3)] [] F L Q = if x2 ≤ x3 then wt am_S0 d mX12_law 60 [l0, l1, some (.int x2), some (.int x3)] [] F L Q else wt am_S0 d mX12_law 42 [l0, l1, some (.int x2), some (.int x3)] [] F L Q := (wt_iload_n dX12_law_37 rfl).trans ((wt_iload_n dX12_law_38 rfl).trans (wt_if_icmp_ge dX12_law_39 (t := 60) rfl))
set_option maxHeartbeats 100000 in
theorem kX12_law_42 {d : Nat} {F : am_FT} {L : am_LT} {Q : am_QT} {l1 : Option Value} {x3 x2 : Int32} (h1 : am_oob x3 120 = false) : wt am_S0 d mX12_law 42 [some (.ref 45), l1, some (.int x2), some (.int x3)] [] F L Q = wt am_S0 d mX12_law 37 [some (.ref 45), l1, some (.int x2), some (.int (x3 + 1))] [] (am_upF F 51 (Int32.toNatClampNeg x3) (F 50 (Int32.toNatClampNeg x3))) L Q := (wt_aload_n dX12_law_42 rfl rfl).trans ((wt_getfield dX12_law_43 rfl rfl (v := .ref 51) rfl).trans ((wt_iload_n dX12_law_46 rfl).trans ((wt_aload_n dX12_law_47 rfl rfl).trans ((wt_getfield dX12_law_48 rfl rfl (v := .ref 50) rfl).trans ((wt_iload_n dX12_law_51 rfl).trans ((wt_iaload dX12_law_52 rfl (by decide) h1).trans ((wt_iastore dX12_law_53 rfl h1).trans ((wt_iinc dX12_law_54 (v := 1) (lv1 := [some (.ref 45), l1, some (.int x2), some (.int (x3 + 1))]) rfl (Nat.le_of_ble_eq_true rfl) (by decide) rfl).trans (wt_goto dX12_law_57 (t := 37) rfl)))))))))
set_option maxHeartbeats 100000 in
theorem kX12_law_60 {d : Nat} {F : am_FT} {L : am_LT} {Q : am_QT} {l1 l3 : Option Value} {x2 : Int32} : wt am_S0 d mX12_law 60 [some (.ref 45), l1, some (.int x2), l3] [] F L Q = Q (some (.int 1)) (am_upF F 45 12 x2) L := (wt_aload_n dX12_law_60 rfl rfl).trans ((wt_iload_n dX12_law_61 rfl).trans ((wt_putfield dX12_law_62 rfl rfl ⟨rfl, rfl, rfl, rfl⟩).trans ((wt_iconst dX12_law_65 (v := 1) (by decide)).trans (wt_ireturn dX12_law_66 rfl rfl))))
theorem dX12_workOut_0 : decode mX12_workOut.2.2.1 0 = .ok (.aload_n 0, 1) := by decide +kernel
theorem dX12_workOut_1 : decode mX12_workOut.2.2.1 1 = .ok (.iload_n 1, 1) := by decide +kernel
theorem dX12_workOut_2 : decode mX12_workOut.2.2.1 2 = .ok (.putfield 138, 3) := by decide +kernel
theorem dX12_workOut_5 : decode mX12_workOut.2.2.1 5 = .ok (.aload_n 0, 1) := by decide +kernel
theorem dX12_workOut_6 : decode mX12_workOut.2.2.1 6 = .ok (.iconst 0, 1) := by decide +kernel
theorem dX12_workOut_7 : decode mX12_workOut.2.2.1 7 = .ok (.putfield 132, 3) := by decide +kernel
theorem dX12_workOut_10 : decode mX12_workOut.2.2.1 10 = .ok (.aload_n 0, 1) := by decide +kernel
theorem dX12_workOut_11 : decode mX12_workOut.2.2.1 11 = .ok (.iload_n 2, 1) := by decide +kernel
theorem dX12_workOut_12 : decode mX12_workOut.2.2.1 12 = .ok (.putfield 135, 3) := by decide +kernel
theorem dX12_workOut_15 : decode mX12_workOut.2.2.1 15 = .ok (.aload_n 0, 1) := by decide +kernel
theorem dX12_workOut_16 : decode mX12_workOut.2.2.1 16 = .ok (.iconst (-1), 1) := by decide +kernel
theorem dX12_workOut_17 : decode mX12_workOut.2.2.1 17 = .ok (.putfield 141, 3) := by decide +kernel
theorem dX12_workOut_20 : decode mX12_workOut.2.2.1 20 = .ok (.aload_n 0, 1) := by decide +kernel
theorem dX12_workOut_21 : decode mX12_workOut.2.2.1 21 = .ok (.iconst 0, 1) := by decide +kernel
theorem dX12_workOut_22 : decode mX12_workOut.2.2.1 22 = .ok (.putfield 166, 3) := by decide +kernel
theorem dX12_workOut_25 : decode mX12_workOut.2.2.1 25 = .ok (.iconst 0, 1) := by decide +kernel
theorem dX12_workOut_26 : decode mX12_workOut.2.2.1 26 = .ok (.istore_n 3, 1) := by decide +kernel
theorem dX12_workOut_27 : decode mX12_workOut.2.2.1 27 = .ok (.iconst 0, 1) := by decide +kernel
theorem dX12_workOut_28 : decode mX12_workOut.2.2.1 28 = .ok (.istore 4, 2) := by decide +kernel
theorem dX12_workOut_30 : decode mX12_workOut.2.2.1 30 = .ok (.iconst 1, 1) := by decide +kernel
theorem dX12_workOut_31 : decode mX12_workOut.2.2.1 31 = .ok (.istore 5, 2) := by decide +kernel
theorem dX12_workOut_33 : decode mX12_workOut.2.2.1 33 = .ok (.iload 5, 2) := by decide +kernel
theorem dX12_workOut_35 : decode mX12_workOut.2.2.1 35 = .ok (.ifCond .eq 72, 3) := by decide +kernel
theorem dX12_workOut_38 : decode mX12_workOut.2.2.1 38 = .ok (.aload_n 0, 1) := by decide +kernel
theorem dX12_workOut_39 : decode mX12_workOut.2.2.1 39 = .ok (.invokevirtual 172, 3) := by decide +kernel
theorem dX12_workOut_42 : decode mX12_workOut.2.2.1 42 = .ok (.istore 6, 2) := by decide +kernel
theorem dX12_workOut_44 : decode mX12_workOut.2.2.1 44 = .ok (.iconst 1, 1) := by decide +kernel
theorem dX12_workOut_45 : decode mX12_workOut.2.2.1 45 = .ok (.istore 7, 2) := by decide +kernel
theorem dX12_workOut_47 : decode mX12_workOut.2.2.1 47 = .ok (.aload_n 0, 1) := by decide +kernel
theorem dX12_workOut_48 : decode mX12_workOut.2.2.1 48 = .ok (.bipush 63, 2) := by decide +kernel
theorem dX12_workOut_50 : decode mX12_workOut.2.2.1 50 = .ok (.invokevirtual 151, 3) := by decide +kernel
theorem dX12_workOut_53 : decode mX12_workOut.2.2.1 53 = .ok (.ifCond .eq 21, 3) := by decide +kernel
theorem dX12_workOut_56 : decode mX12_workOut.2.2.1 56 = .ok (.iload 6, 2) := by decide +kernel
theorem dX12_workOut_58 : decode mX12_workOut.2.2.1 58 = .ok (.ifCond .eq 7, 3) := by decide +kernel
theorem dX12_workOut_61 : decode mX12_workOut.2.2.1 61 = .ok (.iconst 1, 1) := by decide +kernel
theorem dX12_workOut_62 : decode mX12_workOut.2.2.1 62 = .ok (.goto 4, 3) := by decide +kernel
theorem dX12_workOut_65 : decode mX12_workOut.2.2.1 65 = .ok (.iconst 0, 1) := by decide +kernel
theorem dX12_workOut_66 : decode mX12_workOut.2.2.1 66 = .ok (.istore 7, 2) := by decide +kernel
theorem dX12_workOut_68 : decode mX12_workOut.2.2.1 68 = .ok (.aload_n 0, 1) := by decide +kernel
theorem dX12_workOut_69 : decode mX12_workOut.2.2.1 69 = .ok (.invokevirtual 172, 3) := by decide +kernel
theorem dX12_workOut_72 : decode mX12_workOut.2.2.1 72 = .ok (.istore 6, 2) := by decide +kernel
theorem dX12_workOut_74 : decode mX12_workOut.2.2.1 74 = .ok (.aload_n 0, 1) := by decide +kernel
theorem dX12_workOut_75 : decode mX12_workOut.2.2.1 75 = .ok (.getfield 141, 3) := by decide +kernel
theorem dX12_workOut_78 : decode mX12_workOut.2.2.1 78 = .ok (.ifCond .ge 18, 3) := by decide +kernel
theorem dX12_workOut_81 : decode mX12_workOut.2.2.1 81 = .ok (.iload 7, 2) := by decide +kernel
theorem dX12_workOut_83 : decode mX12_workOut.2.2.1 83 = .ok (.ifCond .eq 13, 3) := by decide +kernel
theorem dX12_workOut_86 : decode mX12_workOut.2.2.1 86 = .ok (.iload_n 3, 1) := by decide +kernel
theorem dX12_workOut_87 : decode mX12_workOut.2.2.1 87 = .ok (.ifCond .ne 9, 3) := by decide +kernel
theorem dX12_workOut_90 : decode mX12_workOut.2.2.1 90 = .ok (.iconst 1, 1) := by decide +kernel
theorem dX12_workOut_91 : decode mX12_workOut.2.2.1 91 = .ok (.istore_n 3, 1) := by decide +kernel
theorem dX12_workOut_92 : decode mX12_workOut.2.2.1 92 = .ok (.iload 6, 2) := by decide +kernel
theorem dX12_workOut_94 : decode mX12_workOut.2.2.1 94 = .ok (.istore 4, 2) := by decide +kernel
theorem dX12_workOut_96 : decode mX12_workOut.2.2.1 96 = .ok (.aload_n 0, 1) := by decide +kernel
theorem dX12_workOut_97 : decode mX12_workOut.2.2.1 97 = .ok (.bipush 59, 2) := by decide +kernel
theorem dX12_workOut_99 : decode mX12_workOut.2.2.1 99 = .ok (.invokevirtual 151, 3) := by decide +kernel
theorem dX12_workOut_102 : decode mX12_workOut.2.2.1 102 = .ok (.istore 5, 2) := by decide +kernel
theorem dX12_workOut_104 : decode mX12_workOut.2.2.1 104 = .ok (.goto (-71), 3) := by decide +kernel
theorem dX12_workOut_107 : decode mX12_workOut.2.2.1 107 = .ok (.aload_n 0, 1) := by decide +kernel
theorem dX12_workOut_108 : decode mX12_workOut.2.2.1 108 = .ok (.getfield 141, 3) := by decide +kernel
theorem dX12_workOut_111 : decode mX12_workOut.2.2.1 111 = .ok (.ifCond .ge 19, 3) := by decide +kernel
theorem dX12_workOut_114 : decode mX12_workOut.2.2.1 114 = .ok (.aload_n 0, 1) := by decide +kernel
theorem dX12_workOut_115 : decode mX12_workOut.2.2.1 115 = .ok (.getfield 132, 3) := by decide +kernel
theorem dX12_workOut_118 : decode mX12_workOut.2.2.1 118 = .ok (.aload_n 0, 1) := by decide +kernel
theorem dX12_workOut_119 : decode mX12_workOut.2.2.1 119 = .ok (.getfield 135, 3) := by decide +kernel
theorem dX12_workOut_122 : decode mX12_workOut.2.2.1 122 = .ok (.if_icmp .ge 8, 3) := by decide +kernel
theorem dX12_workOut_125 : decode mX12_workOut.2.2.1 125 = .ok (.aload_n 0, 1) := by decide +kernel
theorem dX12_workOut_126 : decode mX12_workOut.2.2.1 126 = .ok (.invokevirtual 169, 3) := by decide +kernel
theorem dX12_workOut_129 : decode mX12_workOut.2.2.1 129 = .ok (.ireturn, 1) := by decide +kernel
theorem dX12_workOut_130 : decode mX12_workOut.2.2.1 130 = .ok (.iload 4, 2) := by decide +kernel
theorem dX12_workOut_132 : decode mX12_workOut.2.2.1 132 = .ok (.ireturn, 1) := by decide +kernel
set_option maxHeartbeats 100000 in
theorem kX12_workOut_0 {d : Nat} {F : am_FT} {L : am_LT} {Q : am_QT} {l3 l4 l5 l6 l7 : Option Value} {x1 x2 : Int32} : wt am_S0 d mX12_workOut 0 [some (.ref 45), some (.int x1), some (.int x2), l3, l4, l5, l6, l7] [] F L Q = wt am_S0 d mX12_workOut 26 [some (.ref 45), some (.int x1), some (.int x2), l3, l4, l5, l6, l7] [.int 0] (am_upF (am_upF (am_upF (am_upF (am_upF F 45 13 x1) 45 14 0) 45 15 x2) 45 16 (-1)) 45 17 0) L Q := (wt_aload_n dX12_workOut_0 rfl rfl).trans ((wt_iload_n dX12_workOut_1 rfl).trans ((wt_putfield dX12_workOut_2 rfl rfl ⟨rfl, rfl, rfl, rfl⟩).trans ((wt_aload_n dX12_workOut_5 rfl rfl).trans ((wt_iconst dX12_workOut_6 (v := 0) (by decide)).trans ((wt_putfield dX12_workOut_7 rfl rfl ⟨rfl, rfl, rfl, rfl⟩).trans ((wt_aload_n dX12_workOut_10 rfl rfl).trans ((wt_iload_n dX12_workOut_11 rfl).trans ((wt_putfield dX12_workOut_12 rfl rfl ⟨rfl, rfl, rfl, rfl⟩).trans ((wt_aload_n dX12_workOut_15 rfl rfl).trans ((wt_iconst dX12_workOut_16 (v := (-1)) (by decide)).trans ((wt_putfield dX12_workOut_17 rfl rfl ⟨rfl, rfl, rfl, rfl⟩).trans ((wt_aload_n dX12_workOut_20 rfl rfl).trans ((wt_iconst dX12_workOut_21 (v := 0) (by decide)).trans ((wt_putfield dX12_workOut_22 rfl rfl ⟨rfl, rfl, rfl, rfl⟩).trans (wt_iconst dX12_workOut_25 (v := 0) (by decide))))))))))))))))
set_option maxHeartbeats 100000 in
theorem kX12_workOut_26 {d : Nat} {F : am_FT} {L : am_LT} {Q : am_QT} {l0 l1 l3 l4 l5 l6 l7 : Option Value} {s0 x2 : Int32} : wt am_S0 d mX12_workOut 26 [l0, l1, some (.int x2), l3, l4, l5, l6, l7] [.int s0] F L Q = wt am_S0 d mX12_workOut 33 [l0, l1, some (.int x2), some (.int s0), some (.int 0), some (.int 1), l6, l7] [] F L Q := (wt_istore_n dX12_workOut_26 (lv1 := [l0, l1, some (.int x2), some (.int s0), l4, l5, l6, l7]) (Nat.le_of_ble_eq_true rfl) rfl).trans ((wt_iconst dX12_workOut_27 (v := 0) (by decide)).trans ((wt_istore dX12_workOut_28 (lv1 := [l0, l1, some (.int x2), some (.int s0), some (.int 0), l5, l6, l7]) (Nat.le_of_ble_eq_true rfl) rfl).trans ((wt_iconst dX12_workOut_30 (v := 1) (by decide)).trans (wt_istore dX12_workOut_31 (lv1 := [l0, l1, some (.int x2), some (.int s0), some (.int 0), some (.int 1), l6, l7]) (Nat.le_of_ble_eq_true rfl) rfl))))
set_option maxHeartbeats 100000 in
theorem kX12_workOut_33 {d : Nat} {F : am_FT} {L : am_LT} {Q : am_QT} {l0 l1 l2 l3 l4 l6 l7 : Option Value} {x5 : Int32} : wt am_S0 d mX12_workOut 33 [l0, l1, l2, l3, l4, some (.int x5), l6, l7] [] F L Q = if x5 = 0 then wt am_S0 d mX12_workOut 107 [l0, l1, l2, l3, l4, some (.int x5), l6, l7] [] F L Q else wt am_S0 d mX12_workOut 38 [l0, l1, l2, l3, l4, some (.int x5), l6, l7] [] F L Q := (wt_iload dX12_workOut_33 rfl).trans (wt_ifCond_eq dX12_workOut_35 (t := 107) rfl)
set_option maxHeartbeats 100000 in
theorem kX12_workOut_38 {d : Nat} {F : am_FT} {L : am_LT} {Q : am_QT} {l1 l2 l3 l4 l5 l6 l7 : Option Value} : wt am_S0 (d + 1) mX12_workOut 38 [some (.ref 45), l1, l2, l3, l4, l5, l6, l7] [] F L Q = wc am_S0 d mX12_either [.ref 45] F L (fun r G K => wt am_S0 (d + 1) mX12_workOut 42 [some (.ref 45), l1, l2, l3, l4, l5, l6, l7] (r.toList ++ []) G K Q) := (wt_aload_n dX12_workOut_38 rfl rfl).trans (wt_callV dX12_workOut_39 rfl (as := []) (rest := []) rfl rfl (Nat.le_of_ble_eq_true rfl) rfl (Nat.le_of_ble_eq_true rfl))
set_option maxHeartbeats 100000 in
theorem kX12_workOut_42 {d : Nat} {F : am_FT} {L : am_LT} {Q : am_QT} {l1 l2 l3 l4 l6 l7 : Option Value} {s0 x5 : Int32} : wt am_S0 (d + 1) mX12_workOut 42 [some (.ref 45), l1, l2, l3, l4, some (.int x5), l6, l7] [.int s0] F L Q = wc am_S0 d mX12_takes [.ref 45, .int 63] F L (fun r G K => wt am_S0 (d + 1) mX12_workOut 53 [some (.ref 45), l1, l2, l3, l4, some (.int x5), some (.int s0), some (.int 1)] (r.toList ++ []) G K Q) := (wt_istore dX12_workOut_42 (lv1 := [some (.ref 45), l1, l2, l3, l4, some (.int x5), some (.int s0), l7]) (Nat.le_of_ble_eq_true rfl) rfl).trans ((wt_iconst dX12_workOut_44 (v := 1) (by decide)).trans ((wt_istore dX12_workOut_45 (lv1 := [some (.ref 45), l1, l2, l3, l4, some (.int x5), some (.int s0), some (.int 1)]) (Nat.le_of_ble_eq_true rfl) rfl).trans ((wt_aload_n dX12_workOut_47 rfl rfl).trans ((wt_bipush dX12_workOut_48 (v := 63) (by decide)).trans (wt_callV dX12_workOut_50 rfl (as := [.int 63]) (rest := []) rfl rfl (Nat.le_of_ble_eq_true rfl) rfl (Nat.le_of_ble_eq_true rfl))))))
set_option maxHeartbeats 100000 in
theorem kX12_workOut_53 {d : Nat} {F : am_FT} {L : am_LT} {Q : am_QT} {l0 l1 l2 l3 l4 l5 l6 l7 : Option Value} {s0 : Int32} : wt am_S0 d mX12_workOut 53 [l0, l1, l2, l3, l4, l5, l6, l7] [.int s0] F L Q = if s0 = 0 then wt am_S0 d mX12_workOut 74 [l0, l1, l2, l3, l4, l5, l6, l7] [] F L Q else wt am_S0 d mX12_workOut 56 [l0, l1, l2, l3, l4, l5, l6, l7] [] F L Q := wt_ifCond_eq dX12_workOut_53 (t := 74) rfl
set_option maxHeartbeats 100000 in
theorem kX12_workOut_56 {d : Nat} {F : am_FT} {L : am_LT} {Q : am_QT} {l0 l1 l2 l3 l4 l5 l7 : Option Value} {x6 : Int32} : wt am_S0 d mX12_workOut 56 [l0, l1, l2, l3, l4, l5, some (.int x6), l7] [] F L Q = if x6 = 0 then wt am_S0 d mX12_workOut 65 [l0, l1, l2, l3, l4, l5, some (.int x6), l7] [] F L Q else wt am_S0 d mX12_workOut 61 [l0, l1, l2, l3, l4, l5, some (.int x6), l7] [] F L Q := (wt_iload dX12_workOut_56 rfl).trans (wt_ifCond_eq dX12_workOut_58 (t := 65) rfl)
set_option maxHeartbeats 100000 in
theorem kX12_workOut_61 {d : Nat} {F : am_FT} {L : am_LT} {Q : am_QT} {l0 l1 l2 l3 l4 l5 l6 l7 : Option Value} : wt am_S0 d mX12_workOut 61 [l0, l1, l2, l3, l4, l5, l6, l7] [] F L Q = wt am_S0 d mX12_workOut 66 [l0, l1, l2, l3, l4, l5, l6, l7] [.int 1] F L Q := (wt_iconst dX12_workOut_61 (v := 1) (by decide)).trans (wt_goto dX12_workOut_62 (t := 66) rfl)
set_option maxHeartbeats 100000 in
theorem kX12_workOut_65 {d : Nat} {F : am_FT} {L : am_LT} {Q : am_QT} {l0 l1 l2 l3 l4 l5 l6 l7 : Option Value} : wt am_S0 d mX12_workOut 65 [l0, l1, l2, l3, l4, l5, l6, l7] [] F L Q = wt am_S0 d mX12_workOut 66 [l0, l1, l2, l3, l4, l5, l6, l7] [.int 0] F L Q := wt_iconst dX12_workOut_65 (v := 0) (by decide)
set_option maxHeartbeats 100000 in
theorem kX12_workOut_66 {d : Nat} {F : am_FT} {L : am_LT} {Q : am_QT} {l1 l2 l3 l4 l5 l7 : Option Value} {s0 x6 : Int32} : wt am_S0 (d + 1) mX12_workOut 66 [some (.ref 45), l1, l2, l3, l4, l5, some (.int x6), l7] [.int s0] F L Q = wc am_S0 d mX12_either [.ref 45] F L (fun r G K => wt am_S0 (d + 1) mX12_workOut 72 [some (.ref 45), l1, l2, l3, l4, l5, some (.int x6), some (.int s0)] (r.toList ++ []) G K Q) := (wt_istore dX12_workOut_66 (lv1 := [some (.ref 45), l1, l2, l3, l4, l5, some (.int x6), some (.int s0)]) (Nat.le_of_ble_eq_true rfl) rfl).trans ((wt_aload_n dX12_workOut_68 rfl rfl).trans (wt_callV dX12_workOut_69 rfl (as := []) (rest := []) rfl rfl (Nat.le_of_ble_eq_true rfl) rfl (Nat.le_of_ble_eq_true rfl)))
set_option maxHeartbeats 100000 in
theorem kX12_workOut_72 {d : Nat} {F : am_FT} {L : am_LT} {Q : am_QT} {l0 l1 l2 l3 l4 l6 l7 : Option Value} {s0 x5 : Int32} : wt am_S0 d mX12_workOut 72 [l0, l1, l2, l3, l4, some (.int x5), l6, l7] [.int s0] F L Q = wt am_S0 d mX12_workOut 74 [l0, l1, l2, l3, l4, some (.int x5), some (.int s0), l7] [] F L Q := wt_istore dX12_workOut_72 (lv1 := [l0, l1, l2, l3, l4, some (.int x5), some (.int s0), l7]) (Nat.le_of_ble_eq_true rfl) rfl
set_option maxHeartbeats 100000 in
theorem kX12_workOut_74 {d : Nat} {F : am_FT} {L : am_LT} {Q : am_QT} {l1 l2 l3 l4 l5 l6 l7 : Option Value} : wt am_S0 d mX12_workOut 74 [some (.ref 45), l1, l2, l3, l4, l5, l6, l7] [] F L Q = if 0 ≤ (F 45 16) then wt am_S0 d mX12_workOut 96 [some (.ref 45), l1, l2, l3, l4, l5, l6, l7] [] F L Q else wt am_S0 d mX12_workOut 81 [some (.ref 45), l1, l2, l3, l4, l5, l6, l7] [] F L Q := (wt_aload_n dX12_workOut_74 rfl rfl).trans ((wt_getfield dX12_workOut_75 rfl rfl (v := .int (F 45 16)) rfl).trans (wt_ifCond_ge dX12_workOut_78 (t := 96) rfl))
set_option maxHeartbeats 100000 in
theorem kX12_workOut_81 {d : Nat} {F : am_FT} {L : am_LT} {Q : am_QT} {l0 l1 l2 l3 l4 l5 l6 : Option Value} {x7 : Int32} : wt am_S0 d mX12_workOut 81 [l0, l1, l2, l3, l4, l5, l6, some (.int x7)] [] F L Q = if x7 = 0 then wt am_S0 d mX12_workOut 96 [l0, l1, l2, l3, l4, l5, l6, some (.int x7)] [] F L Q else wt am_S0 d mX12_workOut 86 [l0, l1, l2, l3, l4, l5, l6, some (.int x7)] [] F L Q := (wt_iload dX12_workOut_81 rfl).trans (wt_ifCond_eq dX12_workOut_83 (t := 96) rfl)
set_option maxHeartbeats 100000 in
theorem kX12_workOut_86 {d : Nat} {F : am_FT} {L : am_LT} {Q : am_QT} {l0 l1 l2 l4 l5 l6 l7 : Option Value} {x3 : Int32} : wt am_S0 d mX12_workOut 86 [l0, l1, l2, some (.int x3), l4, l5, l6, l7] [] F L Q = if ¬ x3 = 0 then wt am_S0 d mX12_workOut 96 [l0, l1, l2, some (.int x3), l4, l5, l6, l7] [] F L Q else wt am_S0 d mX12_workOut 90 [l0, l1, l2, some (.int x3), l4, l5, l6, l7] [] F L Q := (wt_iload_n dX12_workOut_86 rfl).trans (wt_ifCond_ne dX12_workOut_87 (t := 96) rfl)
set_option maxHeartbeats 100000 in
theorem kX12_workOut_90 {d : Nat} {F : am_FT} {L : am_LT} {Q : am_QT} {l0 l1 l3 l4 l5 l7 : Option Value} {x2 x6 : Int32} : wt am_S0 d mX12_workOut 90 [l0, l1, some (.int x2), l3, l4, l5, some (.int x6), l7] [] F L Q = wt am_S0 d mX12_workOut 96 [l0, l1, some (.int x2), some (.int 1), some (.int x6), l5, some (.int x6), l7] [] F L Q := (wt_iconst dX12_workOut_90 (v := 1) (by decide)).trans ((wt_istore_n dX12_workOut_91 (lv1 := [l0, l1, some (.int x2), some (.int 1), l4, l5, some (.int x6), l7]) (Nat.le_of_ble_eq_true rfl) rfl).trans ((wt_iload dX12_workOut_92 rfl).trans (wt_istore dX12_workOut_94 (lv1 := [l0, l1, some (.int x2), some (.int 1), some (.int x6), l5, some (.int x6), l7]) (Nat.le_of_ble_eq_true rfl) rfl)))
set_option maxHeartbeats 100000 in
theorem kX12_workOut_96 {d : Nat} {F : am_FT} {L : am_LT} {Q : am_QT} {l1 l2 l3 l4 l5 l6 l7 : Option Value} : wt am_S0 (d + 1) mX12_workOut 96 [some (.ref 45), l1, l2, l3, l4, l5, l6, l7] [] F L Q = wc am_S0 d mX12_takes [.ref 45, .int 59] F L (fun r G K => wt am_S0 (d + 1) mX12_workOut 102 [some (.ref 45), l1, l2, l3, l4, l5, l6, l7] (r.toList ++ []) G K Q) := (wt_aload_n dX12_workOut_96 rfl rfl).trans ((wt_bipush dX12_workOut_97 (v := 59) (by decide)).trans (wt_callV dX12_workOut_99 rfl (as := [.int 59]) (rest := []) rfl rfl (Nat.le_of_ble_eq_true rfl) rfl (Nat.le_of_ble_eq_true rfl)))
set_option maxHeartbeats 100000 in
theorem kX12_workOut_102 {d : Nat} {F : am_FT} {L : am_LT} {Q : am_QT} {l0 l1 l2 l3 l5 l6 l7 : Option Value} {s0 x4 : Int32} : wt am_S0 d mX12_workOut 102 [l0, l1, l2, l3, some (.int x4), l5, l6, l7] [.int s0] F L Q = wt am_S0 d mX12_workOut 33 [l0, l1, l2, l3, some (.int x4), some (.int s0), l6, l7] [] F L Q := (wt_istore dX12_workOut_102 (lv1 := [l0, l1, l2, l3, some (.int x4), some (.int s0), l6, l7]) (Nat.le_of_ble_eq_true rfl) rfl).trans (wt_goto dX12_workOut_104 (t := 33) rfl)
set_option maxHeartbeats 100000 in
theorem kX12_workOut_107 {d : Nat} {F : am_FT} {L : am_LT} {Q : am_QT} {l1 l2 l3 l4 l5 l6 l7 : Option Value} : wt am_S0 d mX12_workOut 107 [some (.ref 45), l1, l2, l3, l4, l5, l6, l7] [] F L Q = if 0 ≤ (F 45 16) then wt am_S0 d mX12_workOut 130 [some (.ref 45), l1, l2, l3, l4, l5, l6, l7] [] F L Q else wt am_S0 d mX12_workOut 114 [some (.ref 45), l1, l2, l3, l4, l5, l6, l7] [] F L Q := (wt_aload_n dX12_workOut_107 rfl rfl).trans ((wt_getfield dX12_workOut_108 rfl rfl (v := .int (F 45 16)) rfl).trans (wt_ifCond_ge dX12_workOut_111 (t := 130) rfl))
set_option maxHeartbeats 100000 in
theorem kX12_workOut_114 {d : Nat} {F : am_FT} {L : am_LT} {Q : am_QT} {l1 l2 l3 l4 l5 l6 l7 : Option Value} : wt am_S0 d mX12_workOut 114 [some (.ref 45), l1, l2, l3, l4, l5, l6, l7] [] F L Q = if (F 45 15) ≤ (F 45 14) then wt am_S0 d mX12_workOut 130 [some (.ref 45), l1, l2, l3, l4, l5, l6, l7] [] F L Q else wt am_S0 d mX12_workOut 125 [some (.ref 45), l1, l2, l3, l4, l5, l6, l7] [] F L Q := (wt_aload_n dX12_workOut_114 rfl rfl).trans ((wt_getfield dX12_workOut_115 rfl rfl (v := .int (F 45 14)) rfl).trans ((wt_aload_n dX12_workOut_118 rfl rfl).trans ((wt_getfield dX12_workOut_119 rfl rfl (v := .int (F 45 15)) rfl).trans (wt_if_icmp_ge dX12_workOut_122 (t := 130) rfl))))
set_option maxHeartbeats 100000 in
theorem kX12_workOut_125 {d : Nat} {F : am_FT} {L : am_LT} {Q : am_QT} {l1 l2 l3 l4 l5 l6 l7 : Option Value} : wt am_S0 (d + 1) mX12_workOut 125 [some (.ref 45), l1, l2, l3, l4, l5, l6, l7] [] F L Q = wc am_S0 d mX12_wrong [.ref 45] F L (fun r G K => wt am_S0 (d + 1) mX12_workOut 129 [some (.ref 45), l1, l2, l3, l4, l5, l6, l7] (r.toList ++ []) G K Q) := (wt_aload_n dX12_workOut_125 rfl rfl).trans (wt_callV dX12_workOut_126 rfl (as := []) (rest := []) rfl rfl (Nat.le_of_ble_eq_true rfl) rfl (Nat.le_of_ble_eq_true rfl))
set_option maxHeartbeats 100000 in
theorem kX12_workOut_129 {d : Nat} {F : am_FT} {L : am_LT} {Q : am_QT} {l0 l1 l2 l3 l4 l5 l6 l7 : Option Value} {s0 : Int32} : wt am_S0 d mX12_workOut 129 [l0, l1, l2, l3, l4, l5, l6, l7] [.int s0] F L Q = Q (some (.int s0)) F L := wt_ireturn dX12_workOut_129 rfl rfl
set_option maxHeartbeats 100000 in
theorem kX12_workOut_130 {d : Nat} {F : am_FT} {L : am_LT} {Q : am_QT} {l0 l1 l2 l3 l5 l6 l7 : Option Value} {x4 : Int32} : wt am_S0 d mX12_workOut 130 [l0, l1, l2, l3, some (.int x4), l5, l6, l7] [] F L Q = Q (some (.int x4)) F L := (wt_iload dX12_workOut_130 rfl).trans (wt_ireturn dX12_workOut_132 rfl rfl)
theorem dX12_either_0 : decode mX12_either.2.2.1 0 = .ok (.aload_n 0, 1) := by decide +kernel
theorem dX12_either_1 : decode mX12_either.2.2.1 1 = .ok (.invokevirtual 148, 3) := by decide +kernel
theorem dX12_either_4 : decode mX12_either.2.2.1 4 = .ok (.istore_n 1, 1) := by decide +kernel
theorem dX12_either_5 : decode mX12_either.2.2.1 5 = .ok (.aload_n 0, 1) := by decide +kernel
theorem dX12_either_6 : decode mX12_either.2.2.1 6 = .ok (.bipush 124, 2) := by decide +kernel
theorem dX12_either_8 : decode mX12_either.2.2.1 8 = .ok (.invokevirtual 151, 3) := by decide +kernel
theorem dX12_either_11 : decode mX12_either.2.2.1 11 = .ok (.ifCond .eq 25, 3) := by decide +kernel
theorem dX12_either_14 : decode mX12_either.2.2.1 14 = .ok (.aload_n 0, 1) := by decide +kernel
theorem dX12_either_15 : decode mX12_either.2.2.1 15 = .ok (.invokevirtual 148, 3) := by decide +kernel
theorem dX12_either_18 : decode mX12_either.2.2.1 18 = .ok (.istore_n 2, 1) := by decide +kernel
theorem dX12_either_19 : decode mX12_either.2.2.1 19 = .ok (.iload_n 1, 1) := by decide +kernel
theorem dX12_either_20 : decode mX12_either.2.2.1 20 = .ok (.ifCond .ne 7, 3) := by decide +kernel
theorem dX12_either_23 : decode mX12_either.2.2.1 23 = .ok (.iload_n 2, 1) := by decide +kernel
theorem dX12_either_24 : decode mX12_either.2.2.1 24 = .ok (.ifCond .eq 7, 3) := by decide +kernel
theorem dX12_either_27 : decode mX12_either.2.2.1 27 = .ok (.iconst 1, 1) := by decide +kernel
theorem dX12_either_28 : decode mX12_either.2.2.1 28 = .ok (.goto 4, 3) := by decide +kernel
theorem dX12_either_31 : decode mX12_either.2.2.1 31 = .ok (.iconst 0, 1) := by decide +kernel
theorem dX12_either_32 : decode mX12_either.2.2.1 32 = .ok (.istore_n 1, 1) := by decide +kernel
theorem dX12_either_33 : decode mX12_either.2.2.1 33 = .ok (.goto (-28), 3) := by decide +kernel
theorem dX12_either_36 : decode mX12_either.2.2.1 36 = .ok (.iload_n 1, 1) := by decide +kernel
theorem dX12_either_37 : decode mX12_either.2.2.1 37 = .ok (.ireturn, 1) := by decide +kernel
set_option maxHeartbeats 100000 in
theorem kX12_either_0 {d : Nat} {F : am_FT} {L : am_LT} {Q : am_QT} {l1 l2 : Option Value} : wt am_S0 (d + 1) mX12_either 0 [some (.ref 45), l1, l2] [] F L Q = wc am_S0 d mX12_both [.ref 45] F L (fun r G K => wt am_S0 (d + 1) mX12_either 4 [some (.ref 45), l1, l2] (r.toList ++ []) G K Q) := (wt_aload_n dX12_either_0 rfl rfl).trans (wt_callV dX12_either_1 rfl (as := []) (rest := []) rfl rfl (Nat.le_of_ble_eq_true rfl) rfl (Nat.le_of_ble_eq_true rfl))
set_option maxHeartbeats 100000 in
theorem kX12_either_4 {d : Nat} {F : am_FT} {L : am_LT} {Q : am_QT} {l1 l2 : Option Value} {s0 : Int32} : wt am_S0 d mX12_either 4 [some (.ref 45), l1, l2] [.int s0] F L Q = wt am_S0 d mX12_either 5 [some (.ref 45), some (.int s0), l2] [] F L Q := wt_istore_n dX12_either_4 (lv1 := [some (.ref 45), some (.int s0), l2]) (Nat.le_of_ble_eq_true rfl) rfl
set_option maxHeartbeats 100000 in
theorem kX12_either_5 {d : Nat} {F : am_FT} {L : am_LT} {Q : am_QT} {l1 l2 : Option Value} : wt am_S0 (d + 1) mX12_either 5 [some (.ref 45), l1, l2] [] F L Q = wc am_S0 d mX12_takes [.ref 45, .int 124] F L (fun r G K => wt am_S0 (d + 1) mX12_either 11 [some (.ref 45), l1, l2] (r.toList ++ []) G K Q) := (wt_aload_n dX12_either_5 rfl rfl).trans ((wt_bipush dX12_either_6 (v := 124) (by decide)).trans (wt_callV dX12_either_8 rfl (as := [.int 124]) (rest := []) rfl rfl (Nat.le_of_ble_eq_true rfl) rfl (Nat.le_of_ble_eq_true rfl)))
set_option maxHeartbeats 100000 in
theorem kX12_either_11 {d : Nat} {F : am_FT} {L : am_LT} {Q : am_QT} {l0 l1 l2 : Option Value} {s0 : Int32} : wt am_S0 d mX12_either 11 [l0, l1, l2] [.int s0] F L Q = if s0 = 0 then wt am_S0 d mX12_either 36 [l0, l1, l2] [] F L Q else wt am_S0 d mX12_either 14 [l0, l1, l2] [] F L Q := wt_ifCond_eq dX12_either_11 (t := 36) rfl
set_option maxHeartbeats 100000 in
theorem kX12_either_14 {d : Nat} {F : am_FT} {L : am_LT} {Q : am_QT} {l1 l2 : Option Value} : wt am_S0 (d + 1) mX12_either 14 [some (.ref 45), l1, l2] [] F L Q = wc am_S0 d mX12_both [.ref 45] F L (fun r G K => wt am_S0 (d + 1) mX12_either 18 [some (.ref 45), l1, l2] (r.toList ++ []) G K Q) := (wt_aload_n dX12_either_14 rfl rfl).trans (wt_callV dX12_either_15 rfl (as := []) (rest := []) rfl rfl (Nat.le_of_ble_eq_true rfl) rfl (Nat.le_of_ble_eq_true rfl))
set_option maxHeartbeats 100000 in
theorem kX12_either_18 {d : Nat} {F : am_FT} {L : am_LT} {Q : am_QT} {l0 l2 : Option Value} {s0 x1 : Int32} : wt am_S0 d mX12_either 18 [l0, some (.int x1), l2] [.int s0] F L Q = if ¬ x1 = 0 then wt am_S0 d mX12_either 27 [l0, some (.int x1), some (.int s0)] [] F L Q else wt am_S0 d mX12_either 23 [l0, some (.int x1), some (.int s0)] [] F L Q := (wt_istore_n dX12_either_18 (lv1 := [l0, some (.int x1), some (.int s0)]) (Nat.le_of_ble_eq_true rfl) rfl).trans ((wt_iload_n dX12_either_19 rfl).trans (wt_ifCond_ne dX12_either_20 (t := 27) rfl))
set_option maxHeartbeats 100000 in
theorem kX12_either_23 {d : Nat} {F : am_FT} {L : am_LT} {Q : am_QT} {l0 l1 : Option Value} {x2 : Int32} : wt am_S0 d mX12_either 23 [l0, l1, some (.int x2)] [] F L Q = if x2 = 0 then wt am_S0 d mX12_either 31 [l0, l1, some (.int x2)] [] F L Q else wt am_S0 d mX12_either 27 [l0, l1, some (.int x2)] [] F L Q := (wt_iload_n dX12_either_23 rfl).trans (wt_ifCond_eq dX12_either_24 (t := 31) rfl)
set_option maxHeartbeats 100000 in
theorem kX12_either_27 {d : Nat} {F : am_FT} {L : am_LT} {Q : am_QT} {l0 l1 l2 : Option Value} : wt am_S0 d mX12_either 27 [l0, l1, l2] [] F L Q = wt am_S0 d mX12_either 32 [l0, l1, l2] [.int 1] F L Q := (wt_iconst dX12_either_27 (v := 1) (by decide)).trans (wt_goto dX12_either_28 (t := 32) rfl)
set_option maxHeartbeats 100000 in
theorem kX12_either_31 {d : Nat} {F : am_FT} {L : am_LT} {Q : am_QT} {l0 l1 l2 : Option Value} : wt am_S0 d mX12_either 31 [l0, l1, l2] [] F L Q = wt am_S0 d mX12_either 32 [l0, l1, l2] [.int 0] F L Q := wt_iconst dX12_either_31 (v := 0) (by decide)
set_option maxHeartbeats 100000 in
theorem kX12_either_32 {d : Nat} {F : am_FT} {L : am_LT} {Q : am_QT} {l1 l2 : Option Value} {s0 : Int32} : wt am_S0 d mX12_either 32 [some (.ref 45), l1, l2] [.int s0] F L Q = wt am_S0 d mX12_either 5 [some (.ref 45), some (.int s0), l2] [] F L Q := (wt_istore_n dX12_either_32 (lv1 := [some (.ref 45), some (.int s0), l2]) (Nat.le_of_ble_eq_true rfl) rfl).trans (wt_goto dX12_either_33 (t := 5) rfl)
set_option maxHeartbeats 100000 in
theorem kX12_either_36 {d : Nat} {F : am_FT} {L : am_LT} {Q : am_QT} {l0 l2 : Option Value} {x1 : Int32} : wt am_S0 d mX12_either 36 [l0, some (.int x1), l2] [] F L Q = Q (some (.int x1)) F L := (wt_iload_n dX12_either_36 rfl).trans (wt_ireturn dX12_either_37 rfl rfl)
theorem dX12_both_0 : decode mX12_both.2.2.1 0 = .ok (.aload_n 0, 1) := by decide +kernel
theorem dX12_both_1 : decode mX12_both.2.2.1 1 = .ok (.invokevirtual 154, 3) := by decide +kernel
theorem dX12_both_4 : decode mX12_both.2.2.1 4 = .ok (.istore_n 1, 1) := by decide +kernel
theorem dX12_both_5 : decode mX12_both.2.2.1 5 = .ok (.aload_n 0, 1) := by decide +kernel
theorem dX12_both_6 : decode mX12_both.2.2.1 6 = .ok (.bipush 38, 2) := by decide +kernel
theorem dX12_both_8 : decode mX12_both.2.2.1 8 = .ok (.invokevirtual 151, 3) := by decide +kernel
theorem dX12_both_11 : decode mX12_both.2.2.1 11 = .ok (.ifCond .eq 25, 3) := by decide +kernel
theorem dX12_both_14 : decode mX12_both.2.2.1 14 = .ok (.aload_n 0, 1) := by decide +kernel
theorem dX12_both_15 : decode mX12_both.2.2.1 15 = .ok (.invokevirtual 154, 3) := by decide +kernel
theorem dX12_both_18 : decode mX12_both.2.2.1 18 = .ok (.istore_n 2, 1) := by decide +kernel
theorem dX12_both_19 : decode mX12_both.2.2.1 19 = .ok (.iload_n 1, 1) := by decide +kernel
theorem dX12_both_20 : decode mX12_both.2.2.1 20 = .ok (.ifCond .eq 11, 3) := by decide +kernel
theorem dX12_both_23 : decode mX12_both.2.2.1 23 = .ok (.iload_n 2, 1) := by decide +kernel
theorem dX12_both_24 : decode mX12_both.2.2.1 24 = .ok (.ifCond .eq 7, 3) := by decide +kernel
theorem dX12_both_27 : decode mX12_both.2.2.1 27 = .ok (.iconst 1, 1) := by decide +kernel
theorem dX12_both_28 : decode mX12_both.2.2.1 28 = .ok (.goto 4, 3) := by decide +kernel
theorem dX12_both_31 : decode mX12_both.2.2.1 31 = .ok (.iconst 0, 1) := by decide +kernel
theorem dX12_both_32 : decode mX12_both.2.2.1 32 = .ok (.istore_n 1, 1) := by decide +kernel
theorem dX12_both_33 : decode mX12_both.2.2.1 33 = .ok (.goto (-28), 3) := by decide +kernel
theorem dX12_both_36 : decode mX12_both.2.2.1 36 = .ok (.iload_n 1, 1) := by decide +kernel
theorem dX12_both_37 : decode mX12_both.2.2.1 37 = .ok (.ireturn, 1) := by decide +kernel
set_option maxHeartbeats 100000 in
theorem kX12_both_0 {d : Nat} {F : am_FT} {L : am_LT} {Q : am_QT} {l1 l2 : Option Value} : wt am_S0 (d + 1) mX12_both 0 [some (.ref 45), l1, l2] [] F L Q = wc am_S0 d mX12_compared [.ref 45] F L (fun r G K => wt am_S0 (d + 1) mX12_both 4 [some (.ref 45), l1, l2] (r.toList ++ []) G K Q) := (wt_aload_n dX12_both_0 rfl rfl).trans (wt_callV dX12_both_1 rfl (as := []) (rest := []) rfl rfl (Nat.le_of_ble_eq_true rfl) rfl (Nat.le_of_ble_eq_true rfl))
set_option maxHeartbeats 100000 in
theorem kX12_both_4 {d : Nat} {F : am_FT} {L : am_LT} {Q : am_QT} {l1 l2 : Option Value} {s0 : Int32} : wt am_S0 d mX12_both 4 [some (.ref 45), l1, l2] [.int s0] F L Q = wt am_S0 d mX12_both 5 [some (.ref 45), some (.int s0), l2] [] F L Q := wt_istore_n dX12_both_4 (lv1 := [some (.ref 45), some (.int s0), l2]) (Nat.le_of_ble_eq_true rfl) rfl
set_option maxHeartbeats 100000 in
theorem kX12_both_5 {d : Nat} {F : am_FT} {L : am_LT} {Q : am_QT} {l1 l2 : Option Value} : wt am_S0 (d + 1) mX12_both 5 [some (.ref 45), l1, l2] [] F L Q = wc am_S0 d mX12_takes [.ref 45, .int 38] F L (fun r G K => wt am_S0 (d + 1) mX12_both 11 [some (.ref 45), l1, l2] (r.toList ++ []) G K Q) := (wt_aload_n dX12_both_5 rfl rfl).trans ((wt_bipush dX12_both_6 (v := 38) (by decide)).trans (wt_callV dX12_both_8 rfl (as := [.int 38]) (rest := []) rfl rfl (Nat.le_of_ble_eq_true rfl) rfl (Nat.le_of_ble_eq_true rfl)))
set_option maxHeartbeats 100000 in
theorem kX12_both_11 {d : Nat} {F : am_FT} {L : am_LT} {Q : am_QT} {l0 l1 l2 : Option Value} {s0 : Int32} : wt am_S0 d mX12_both 11 [l0, l1, l2] [.int s0] F L Q = if s0 = 0 then wt am_S0 d mX12_both 36 [l0, l1, l2] [] F L Q else wt am_S0 d mX12_both 14 [l0, l1, l2] [] F L Q := wt_ifCond_eq dX12_both_11 (t := 36) rfl
set_option maxHeartbeats 100000 in
theorem kX12_both_14 {d : Nat} {F : am_FT} {L : am_LT} {Q : am_QT} {l1 l2 : Option Value} : wt am_S0 (d + 1) mX12_both 14 [some (.ref 45), l1, l2] [] F L Q = wc am_S0 d mX12_compared [.ref 45] F L (fun r G K => wt am_S0 (d + 1) mX12_both 18 [some (.ref 45), l1, l2] (r.toList ++ []) G K Q) := (wt_aload_n dX12_both_14 rfl rfl).trans (wt_callV dX12_both_15 rfl (as := []) (rest := []) rfl rfl (Nat.le_of_ble_eq_true rfl) rfl (Nat.le_of_ble_eq_true rfl))
set_option maxHeartbeats 100000 in
theorem kX12_both_18 {d : Nat} {F : am_FT} {L : am_LT} {Q : am_QT} {l0 l2 : Option Value} {s0 x1 : Int32} : wt am_S0 d mX12_both 18 [l0, some (.int x1), l2] [.int s0] F L Q = if x1 = 0 then wt am_S0 d mX12_both 31 [l0, some (.int x1), some (.int s0)] [] F L Q else wt am_S0 d mX12_both 23 [l0, some (.int x1), some (.int s0)] [] F L Q := (wt_istore_n dX12_both_18 (lv1 := [l0, some (.int x1), some (.int s0)]) (Nat.le_of_ble_eq_true rfl) rfl).trans ((wt_iload_n dX12_both_19 rfl).trans (wt_ifCond_eq dX12_both_20 (t := 31) rfl))
set_option maxHeartbeats 100000 in
theorem kX12_both_23 {d : Nat} {F : am_FT} {L : am_LT} {Q : am_QT} {l0 l1 : Option Value} {x2 : Int32} : wt am_S0 d mX12_both 23 [l0, l1, some (.int x2)] [] F L Q = if x2 = 0 then wt am_S0 d mX12_both 31 [l0, l1, some (.int x2)] [] F L Q else wt am_S0 d mX12_both 27 [l0, l1, some (.int x2)] [] F L Q := (wt_iload_n dX12_both_23 rfl).trans (wt_ifCond_eq dX12_both_24 (t := 31) rfl)
set_option maxHeartbeats 100000 in
theorem kX12_both_27 {d : Nat} {F : am_FT} {L : am_LT} {Q : am_QT} {l0 l1 l2 : Option Value} : wt am_S0 d mX12_both 27 [l0, l1, l2] [] F L Q = wt am_S0 d mX12_both 32 [l0, l1, l2] [.int 1] F L Q := (wt_iconst dX12_both_27 (v := 1) (by decide)).trans (wt_goto dX12_both_28 (t := 32) rfl)
set_option maxHeartbeats 100000 in
theorem kX12_both_31 {d : Nat} {F : am_FT} {L : am_LT} {Q : am_QT} {l0 l1 l2 : Option Value} : wt am_S0 d mX12_both 31 [l0, l1, l2] [] F L Q = wt am_S0 d mX12_both 32 [l0, l1, l2] [.int 0] F L Q := wt_iconst dX12_both_31 (v := 0) (by decide)
set_option maxHeartbeats 100000 in
theorem kX12_both_32 {d : Nat} {F : am_FT} {L : am_LT} {Q : am_QT} {l1 l2 : Option Value} {s0 : Int32} : wt am_S0 d mX12_both 32 [some (.ref 45), l1, l2] [.int s0] F L Q = wt am_S0 d mX12_both 5 [some (.ref 45), some (.int s0), l2] [] F L Q := (wt_istore_n dX12_both_32 (lv1 := [some (.ref 45), some (.int s0), l2]) (Nat.le_of_ble_eq_true rfl) rfl).trans (wt_goto dX12_both_33 (t := 5) rfl)
set_option maxHeartbeats 100000 in
theorem kX12_both_36 {d : Nat} {F : am_FT} {L : am_LT} {Q : am_QT} {l0 l2 : Option Value} {x1 : Int32} : wt am_S0 d mX12_both 36 [l0, some (.int x1), l2] [] F L Q = Q (some (.int x1)) F L := (wt_iload_n dX12_both_36 rfl).trans (wt_ireturn dX12_both_37 rfl rfl)
theorem dX12_compared_0 : decode mX12_compared.2.2.1 0 = .ok (.aload_n 0, 1) := by decide +kernel
theorem dX12_compared_1 : decode mX12_compared.2.2.1 1 = .ok (.invokevirtual 157, 3) := by decide +kernel
theorem dX12_compared_4 : decode mX12_compared.2.2.1 4 = .ok (.istore_n 1, 1) := by decide +kernel
theorem dX12_compared_5 : decode mX12_compared.2.2.1 5 = .ok (.aload_n 0, 1) := by decide +kernel
theorem dX12_compared_6 : decode mX12_compared.2.2.1 6 = .ok (.invokevirtual 144, 3) := by decide +kernel
theorem dX12_compared_9 : decode mX12_compared.2.2.1 9 = .ok (.istore_n 2, 1) := by decide +kernel
theorem dX12_compared_10 : decode mX12_compared.2.2.1 10 = .ok (.aload_n 0, 1) := by decide +kernel
theorem dX12_compared_11 : decode mX12_compared.2.2.1 11 = .ok (.getfield 141, 3) := by decide +kernel
theorem dX12_compared_14 : decode mX12_compared.2.2.1 14 = .ok (.ifCond .ge 21, 3) := by decide +kernel
theorem dX12_compared_17 : decode mX12_compared.2.2.1 17 = .ok (.iload_n 2, 1) := by decide +kernel
theorem dX12_compared_18 : decode mX12_compared.2.2.1 18 = .ok (.bipush 60, 2) := by decide +kernel
theorem dX12_compared_20 : decode mX12_compared.2.2.1 20 = .ok (.if_icmp .eq 17, 3) := by decide +kernel
theorem dX12_compared_23 : decode mX12_compared.2.2.1 23 = .ok (.iload_n 2, 1) := by decide +kernel
theorem dX12_compared_24 : decode mX12_compared.2.2.1 24 = .ok (.bipush 61, 2) := by decide +kernel
theorem dX12_compared_26 : decode mX12_compared.2.2.1 26 = .ok (.if_icmp .eq 11, 3) := by decide +kernel
theorem dX12_compared_29 : decode mX12_compared.2.2.1 29 = .ok (.iload_n 2, 1) := by decide +kernel
theorem dX12_compared_30 : decode mX12_compared.2.2.1 30 = .ok (.bipush 62, 2) := by decide +kernel
theorem dX12_compared_32 : decode mX12_compared.2.2.1 32 = .ok (.if_icmp .eq 5, 3) := by decide +kernel
theorem dX12_compared_35 : decode mX12_compared.2.2.1 35 = .ok (.iload_n 1, 1) := by decide +kernel
theorem dX12_compared_36 : decode mX12_compared.2.2.1 36 = .ok (.ireturn, 1) := by decide +kernel
theorem dX12_compared_37 : decode mX12_compared.2.2.1 37 = .ok (.aload_n 0, 1) := by decide +kernel
theorem dX12_compared_38 : decode mX12_compared.2.2.1 38 = .ok (.dup, 1) := by decide +kernel
theorem dX12_compared_39 : decode mX12_compared.2.2.1 39 = .ok (.getfield 132, 3) := by decide +kernel
theorem dX12_compared_42 : decode mX12_compared.2.2.1 42 = .ok (.iconst 1, 1) := by decide +kernel
theorem dX12_compared_43 : decode mX12_compared.2.2.1 43 = .ok (.iadd, 1) := by decide +kernel
theorem dX12_compared_44 : decode mX12_compared.2.2.1 44 = .ok (.putfield 132, 3) := by decide +kernel
theorem dX12_compared_47 : decode mX12_compared.2.2.1 47 = .ok (.aload_n 0, 1) := by decide +kernel
theorem dX12_compared_48 : decode mX12_compared.2.2.1 48 = .ok (.invokevirtual 157, 3) := by decide +kernel
theorem dX12_compared_51 : decode mX12_compared.2.2.1 51 = .ok (.istore_n 3, 1) := by decide +kernel
theorem dX12_compared_52 : decode mX12_compared.2.2.1 52 = .ok (.iload_n 2, 1) := by decide +kernel
theorem dX12_compared_53 : decode mX12_compared.2.2.1 53 = .ok (.bipush 60, 2) := by decide +kernel
theorem dX12_compared_55 : decode mX12_compared.2.2.1 55 = .ok (.if_icmp .ne 11, 3) := by decide +kernel
theorem dX12_compared_58 : decode mX12_compared.2.2.1 58 = .ok (.iload_n 1, 1) := by decide +kernel
theorem dX12_compared_59 : decode mX12_compared.2.2.1 59 = .ok (.iload_n 3, 1) := by decide +kernel
theorem dX12_compared_60 : decode mX12_compared.2.2.1 60 = .ok (.if_icmp .ge 29, 3) := by decide +kernel
theorem dX12_compared_63 : decode mX12_compared.2.2.1 63 = .ok (.goto 22, 3) := by decide +kernel
theorem dX12_compared_66 : decode mX12_compared.2.2.1 66 = .ok (.iload_n 2, 1) := by decide +kernel
theorem dX12_compared_67 : decode mX12_compared.2.2.1 67 = .ok (.bipush 61, 2) := by decide +kernel
theorem dX12_compared_69 : decode mX12_compared.2.2.1 69 = .ok (.if_icmp .ne 11, 3) := by decide +kernel
theorem dX12_compared_72 : decode mX12_compared.2.2.1 72 = .ok (.iload_n 1, 1) := by decide +kernel
theorem dX12_compared_73 : decode mX12_compared.2.2.1 73 = .ok (.iload_n 3, 1) := by decide +kernel
theorem dX12_compared_74 : decode mX12_compared.2.2.1 74 = .ok (.if_icmp .ne 15, 3) := by decide +kernel
theorem dX12_compared_77 : decode mX12_compared.2.2.1 77 = .ok (.goto 8, 3) := by decide +kernel
theorem dX12_compared_80 : decode mX12_compared.2.2.1 80 = .ok (.iload_n 1, 1) := by decide +kernel
theorem dX12_compared_81 : decode mX12_compared.2.2.1 81 = .ok (.iload_n 3, 1) := by decide +kernel
theorem dX12_compared_82 : decode mX12_compared.2.2.1 82 = .ok (.if_icmp .le 7, 3) := by decide +kernel
theorem dX12_compared_85 : decode mX12_compared.2.2.1 85 = .ok (.iconst 1, 1) := by decide +kernel
theorem dX12_compared_86 : decode mX12_compared.2.2.1 86 = .ok (.goto 4, 3) := by decide +kernel
theorem dX12_compared_89 : decode mX12_compared.2.2.1 89 = .ok (.iconst 0, 1) := by decide +kernel
theorem dX12_compared_90 : decode mX12_compared.2.2.1 90 = .ok (.ireturn, 1) := by decide +kernel
set_option maxHeartbeats 100000 in
theorem kX12_compared_0 {d : Nat} {F : am_FT} {L : am_LT} {Q : am_QT} {l1 l2 l3 : Option Value} : wt am_S0 (d + 1) mX12_compared 0 [some (.ref 45), l1, l2, l3] [] F L Q = wc am_S0 d mX12_sums [.ref 45] F L (fun r G K => wt am_S0 (d + 1) mX12_compared 4 [some (.ref 45), l1, l2, l3] (r.toList ++ []) G K Q) := (wt_aload_n dX12_compared_0 rfl rfl).trans (wt_callV dX12_compared_1 rfl (as := []) (rest := []) rfl rfl (Nat.le_of_ble_eq_true rfl) rfl (Nat.le_of_ble_eq_true rfl))
set_option maxHeartbeats 100000 in
theorem kX12_compared_4 {d : Nat} {F : am_FT} {L : am_LT} {Q : am_QT} {l1 l2 l3 : Option Value} {s0 : Int32} : wt am_S0 (d + 1) mX12_compared 4 [some (.ref 45), l1, l2, l3] [.int s0] F L Q = wc am_S0 d mX12_byteAt [.ref 45] F L (fun r G K => wt am_S0 (d + 1) mX12_compared 9 [some (.ref 45), some (.int s0), l2, l3] (r.toList ++ []) G K Q) := (wt_istore_n dX12_compared_4 (lv1 := [some (.ref 45), some (.int s0), l2, l3]) (Nat.le_of_ble_eq_true rfl) rfl).trans ((wt_aload_n dX12_compared_5 rfl rfl).trans (wt_callV dX12_compared_6 rfl (as := []) (rest := []) rfl rfl (Nat.le_of_ble_eq_true rfl) rfl (Nat.le_of_ble_eq_true rfl)))
set_option maxHeartbeats 100000 in
theorem kX12_compared_9 {d : Nat} {F : am_FT} {L : am_LT} {Q : am_QT} {l2 l3 : Option Value} {s0 x1 : Int32} : wt am_S0 d mX12_compared 9 [some (.ref 45), some (.int x1), l2, l3] [.int s0] F L Q = if 0 ≤ (F 45 16) then wt am_S0 d mX12_compared 35 [some (.ref 45), some (.int x1), some (.int s0), l3] [] F L Q else wt am_S0 d mX12_compared 17 [some (.ref 45), some (.int x1), some (.int s0), l3] [] F L Q := (wt_istore_n dX12_compared_9 (lv1 := [some (.ref 45), some (.int x1), some (.int s0), l3]) (Nat.le_of_ble_eq_true rfl) rfl).trans ((wt_aload_n dX12_compared_10 rfl rfl).trans ((wt_getfield dX12_compared_11 rfl rfl (v := .int (F 45 16)) rfl).trans (wt_ifCond_ge dX12_compared_14 (t := 35) rfl)))
set_option maxHeartbeats 100000 in
theorem kX12_compared_17 {d : Nat} {F : am_FT} {L : am_LT} {Q : am_QT} {l0 l1 l3 : Option Value} {x2 : Int32} : wt am_S0 d mX12_compared 17 [l0, l1, some (.int x2), l3] [] F L Q = if x2 = 60 then wt am_S0 d mX12_compared 37 [l0, l1, some (.int x2), l3] [] F L Q else wt am_S0 d mX12_compared 23 [l0, l1, some (.int x2), l3] [] F L Q := (wt_iload_n dX12_compared_17 rfl).trans ((wt_bipush dX12_compared_18 (v := 60) (by decide)).trans (wt_if_icmp_eq dX12_compared_20 (t := 37) rfl))
set_option maxHeartbeats 100000 in
theorem kX12_compared_23 {d : Nat} {F : am_FT} {L : am_LT} {Q : am_QT} {l0 l1 l3 : Option Value} {x2 : Int32} : wt am_S0 d mX12_compared 23 [l0, l1, some (.int x2), l3] [] F L Q = if x2 = 61 then wt am_S0 d mX12_compared 37 [l0, l1, some (.int x2), l3] [] F L Q else wt am_S0 d mX12_compared 29 [l0, l1, some (.int x2), l3] [] F L Q := (wt_iload_n dX12_compared_23 rfl).trans ((wt_bipush dX12_compared_24 (v := 61) (by decide)).trans (wt_if_icmp_eq dX12_compared_26 (t := 37) rfl))
set_option maxHeartbeats 100000 in
theorem kX12_compared_29 {d : Nat} {F : am_FT} {L : am_LT} {Q : am_QT} {l0 l1 l3 : Option Value} {x2 : Int32} : wt am_S0 d mX12_compared 29 [l0, l1, some (.int x2), l3] [] F L Q = if x2 = 62 then wt am_S0 d mX12_compared 37 [l0, l1, some (.int x2), l3] [] F L Q else wt am_S0 d mX12_compared 35 [l0, l1, some (.int x2), l3] [] F L Q := (wt_iload_n dX12_compared_29 rfl).trans ((wt_bipush dX12_compared_30 (v := 62) (by decide)).trans (wt_if_icmp_eq dX12_compared_32 (t := 37) rfl))
set_option maxHeartbeats 100000 in
theorem kX12_compared_35 {d : Nat} {F : am_FT} {L : am_LT} {Q : am_QT} {l0 l2 l3 : Option Value} {x1 : Int32} : wt am_S0 d mX12_compared 35 [l0, some (.int x1), l2, l3] [] F L Q = Q (some (.int x1)) F L := (wt_iload_n dX12_compared_35 rfl).trans (wt_ireturn dX12_compared_36 rfl rfl)
set_option maxHeartbeats 100000 in
theorem kX12_compared_37 {d : Nat} {F : am_FT} {L : am_LT} {Q : am_QT} {l1 l2 l3 : Option Value} : wt am_S0 (d + 1) mX12_compared 37 [some (.ref 45), l1, l2, l3] [] F L Q = wc am_S0 d mX12_sums [.ref 45] (am_upF F 45 14 ((F 45 14) + 1)) L (fun r G K => wt am_S0 (d + 1) mX12_compared 51 [some (.ref 45), l1, l2, l3] (r.toList ++ []) G K Q) := (wt_aload_n dX12_compared_37 rfl rfl).trans ((wt_dup dX12_compared_38 rfl).trans ((wt_getfield dX12_compared_39 rfl rfl (v := .int (F 45 14)) rfl).trans ((wt_iconst dX12_compared_42 (v := 1) (by decide)).trans ((wt_iadd dX12_compared_43).trans ((wt_putfield dX12_compared_44 rfl rfl ⟨rfl, rfl, rfl, rfl⟩).trans ((wt_aload_n dX12_compared_47 rfl rfl).trans (wt_callV dX12_compared_48 rfl (as := []) (rest := []) rfl rfl (Nat.le_of_ble_eq_true rfl) rfl (Nat.le_of_ble_eq_true rfl))))))))
set_option maxHeartbeats 100000 in
theorem kX12_compared_51 {d : Nat} {F : am_FT} {L : am_LT} {Q : am_QT} {l0 l1 l3 : Option Value} {s0 x2 : Int32} : wt am_S0 d mX12_compared 51 [l0, l1, some (.int x2), l3] [.int s0] F L Q = if ¬ x2 = 60 then wt am_S0 d mX12_compared 66 [l0, l1, some (.int x2), some (.int s0)] [] F L Q else wt am_S0 d mX12_compared 58 [l0, l1, some (.int x2), some (.int s0)] [] F L Q := (wt_istore_n dX12_compared_51 (lv1 := [l0, l1, some (.int x2), some (.int s0)]) (Nat.le_of_ble_eq_true rfl) rfl).trans ((wt_iload_n dX12_compared_52 rfl).trans ((wt_bipush dX12_compared_53 (v := 60) (by decide)).trans (wt_if_icmp_ne dX12_compared_55 (t := 66) rfl)))
set_option maxHeartbeats 100000 in
theorem kX12_compared_58 {d : Nat} {F : am_FT} {L : am_LT} {Q : am_QT} {l0 l2 : Option Value} {x1 x3 : Int32} : wt am_S0 d mX12_compared 58 [l0, some (.int x1), l2, some (.int x3)] [] F L Q = if x3 ≤ x1 then wt am_S0 d mX12_compared 89 [l0, some (.int x1), l2, some (.int x3)] [] F L Q else wt am_S0 d mX12_compared 63 [l0, some (.int x1), l2, some (.int x3)] [] F L Q := (wt_iload_n dX12_compared_58 rfl).trans ((wt_iload_n dX12_compared_59 rfl).trans (wt_if_icmp_ge dX12_compared_60 (t := 89) rfl))
set_option maxHeartbeats 100000 in
theorem kX12_compared_63 {d : Nat} {F : am_FT} {L : am_LT} {Q : am_QT} {l0 l1 l2 l3 : Option Value} : wt am_S0 d mX12_compared 63 [l0, l1, l2, l3] [] F L Q = wt am_S0 d mX12_compared 85 [l0, l1, l2, l3] [] F L Q := wt_goto dX12_compared_63 (t := 85) rfl
set_option maxHeartbeats 100000 in
theorem kX12_compared_66 {d : Nat} {F : am_FT} {L : am_LT} {Q : am_QT} {l0 l1 l3 : Option Value} {x2 : Int32} : wt am_S0 d mX12_compared 66 [l0, l1, some (.int x2), l3] [] F L Q = if ¬ x2 = 61 then wt am_S0 d mX12_compared 80 [l0, l1, some (.int x2), l3] [] F L Q else wt am_S0 d mX12_compared 72 [l0, l1, some (.int x2), l3] [] F L Q := (wt_iload_n dX12_compared_66 rfl).trans ((wt_bipush dX12_compared_67 (v := 61) (by decide)).trans (wt_if_icmp_ne dX12_compared_69 (t := 80) rfl))
set_option maxHeartbeats 100000 in
theorem kX12_compared_72 {d : Nat} {F : am_FT} {L : am_LT} {Q : am_QT} {l0 l2 : Option Value} {x1 x3 : Int32} : wt am_S0 d mX12_compared 72 [l0, some (.int x1), l2, some (.int x3)] [] F L Q = if ¬ x1 = x3 then wt am_S0 d mX12_compared 89 [l0, some (.int x1), l2, some (.int x3)] [] F L Q else wt am_S0 d mX12_compared 77 [l0, some (.int x1), l2, some (.int x3)] [] F L Q := (wt_iload_n dX12_compared_72 rfl).trans ((wt_iload_n dX12_compared_73 rfl).trans (wt_if_icmp_ne dX12_compared_74 (t := 89) rfl))
set_option maxHeartbeats 100000 in
theorem kX12_compared_77 {d : Nat} {F : am_FT} {L : am_LT} {Q : am_QT} {l0 l1 l2 l3 : Option Value} : wt am_S0 d mX12_compared 77 [l0, l1, l2, l3] [] F L Q = wt am_S0 d mX12_compared 85 [l0, l1, l2, l3] [] F L Q := wt_goto dX12_compared_77 (t := 85) rfl
set_option maxHeartbeats 100000 in
theorem kX12_compared_80 {d : Nat} {F : am_FT} {L : am_LT} {Q : am_QT} {l0 l2 : Option Value} {x1 x3 : Int32} : wt am_S0 d mX12_compared 80 [l0, some (.int x1), l2, some (.int x3)] [] F L Q = if x1 ≤ x3 then wt am_S0 d mX12_compared 89 [l0, some (.int x1), l2, some (.int x3)] [] F L Q else wt am_S0 d mX12_compared 85 [l0, some (.int x1), l2, some (.int x3)] [] F L Q := (wt_iload_n dX12_compared_80 rfl).trans ((wt_iload_n dX12_compared_81 rfl).trans (wt_if_icmp_le dX12_compared_82 (t := 89) rfl))
set_option maxHeartbeats 100000 in
theorem kX12_compared_85 {d : Nat} {F : am_FT} {L : am_LT} {Q : am_QT} {l0 l1 l2 l3 : Option Value} : wt am_S0 d mX12_compared 85 [l0, l1, l2, l3] [] F L Q = wt am_S0 d mX12_compared 90 [l0, l1, l2, l3] [.int 1] F L Q := (wt_iconst dX12_compared_85 (v := 1) (by decide)).trans (wt_goto dX12_compared_86 (t := 90) rfl)
set_option maxHeartbeats 100000 in
theorem kX12_compared_89 {d : Nat} {F : am_FT} {L : am_LT} {Q : am_QT} {l0 l1 l2 l3 : Option Value} : wt am_S0 d mX12_compared 89 [l0, l1, l2, l3] [] F L Q = wt am_S0 d mX12_compared 90 [l0, l1, l2, l3] [.int 0] F L Q := wt_iconst dX12_compared_89 (v := 0) (by decide)
set_option maxHeartbeats 100000 in
theorem kX12_compared_90 {d : Nat} {F : am_FT} {L : am_LT} {Q : am_QT} {l0 l1 l2 l3 : Option Value} {s0 : Int32} : wt am_S0 d mX12_compared 90 [l0, l1, l2, l3] [.int s0] F L Q = Q (some (.int s0)) F L := wt_ireturn dX12_compared_90 rfl rfl
theorem dX12_sums_0 : decode mX12_sums.2.2.1 0 = .ok (.aload_n 0, 1) := by decide +kernel
theorem dX12_sums_1 : decode mX12_sums.2.2.1 1 = .ok (.invokevirtual 160, 3) := by decide +kernel
theorem dX12_sums_4 : decode mX12_sums.2.2.1 4 = .ok (.istore_n 1, 1) := by decide +kernel
theorem dX12_sums_5 : decode mX12_sums.2.2.1 5 = .ok (.aload_n 0, 1) := by decide +kernel
theorem dX12_sums_6 : decode mX12_sums.2.2.1 6 = .ok (.getfield 141, 3) := by decide +kernel
theorem dX12_sums_9 : decode mX12_sums.2.2.1 9 = .ok (.ifCond .ge 68, 3) := by decide +kernel
theorem dX12_sums_12 : decode mX12_sums.2.2.1 12 = .ok (.aload_n 0, 1) := by decide +kernel
theorem dX12_sums_13 : decode mX12_sums.2.2.1 13 = .ok (.invokevirtual 144, 3) := by decide +kernel
theorem dX12_sums_16 : decode mX12_sums.2.2.1 16 = .ok (.bipush 43, 2) := by decide +kernel
theorem dX12_sums_18 : decode mX12_sums.2.2.1 18 = .ok (.if_icmp .eq 12, 3) := by decide +kernel
theorem dX12_sums_21 : decode mX12_sums.2.2.1 21 = .ok (.aload_n 0, 1) := by decide +kernel
theorem dX12_sums_22 : decode mX12_sums.2.2.1 22 = .ok (.invokevirtual 144, 3) := by decide +kernel
theorem dX12_sums_25 : decode mX12_sums.2.2.1 25 = .ok (.bipush 45, 2) := by decide +kernel
theorem dX12_sums_27 : decode mX12_sums.2.2.1 27 = .ok (.if_icmp .ne 50, 3) := by decide +kernel
theorem dX12_sums_30 : decode mX12_sums.2.2.1 30 = .ok (.aload_n 0, 1) := by decide +kernel
theorem dX12_sums_31 : decode mX12_sums.2.2.1 31 = .ok (.invokevirtual 144, 3) := by decide +kernel
theorem dX12_sums_34 : decode mX12_sums.2.2.1 34 = .ok (.bipush 43, 2) := by decide +kernel
theorem dX12_sums_36 : decode mX12_sums.2.2.1 36 = .ok (.if_icmp .ne 7, 3) := by decide +kernel
theorem dX12_sums_39 : decode mX12_sums.2.2.1 39 = .ok (.iconst 1, 1) := by decide +kernel
theorem dX12_sums_40 : decode mX12_sums.2.2.1 40 = .ok (.goto 4, 3) := by decide +kernel
theorem dX12_sums_43 : decode mX12_sums.2.2.1 43 = .ok (.iconst 0, 1) := by decide +kernel
theorem dX12_sums_44 : decode mX12_sums.2.2.1 44 = .ok (.istore_n 2, 1) := by decide +kernel
theorem dX12_sums_45 : decode mX12_sums.2.2.1 45 = .ok (.aload_n 0, 1) := by decide +kernel
theorem dX12_sums_46 : decode mX12_sums.2.2.1 46 = .ok (.dup, 1) := by decide +kernel
theorem dX12_sums_47 : decode mX12_sums.2.2.1 47 = .ok (.getfield 132, 3) := by decide +kernel
theorem dX12_sums_50 : decode mX12_sums.2.2.1 50 = .ok (.iconst 1, 1) := by decide +kernel
theorem dX12_sums_51 : decode mX12_sums.2.2.1 51 = .ok (.iadd, 1) := by decide +kernel
theorem dX12_sums_52 : decode mX12_sums.2.2.1 52 = .ok (.putfield 132, 3) := by decide +kernel
theorem dX12_sums_55 : decode mX12_sums.2.2.1 55 = .ok (.aload_n 0, 1) := by decide +kernel
theorem dX12_sums_56 : decode mX12_sums.2.2.1 56 = .ok (.invokevirtual 160, 3) := by decide +kernel
theorem dX12_sums_59 : decode mX12_sums.2.2.1 59 = .ok (.istore_n 3, 1) := by decide +kernel
theorem dX12_sums_60 : decode mX12_sums.2.2.1 60 = .ok (.iload_n 2, 1) := by decide +kernel
theorem dX12_sums_61 : decode mX12_sums.2.2.1 61 = .ok (.ifCond .eq 9, 3) := by decide +kernel
theorem dX12_sums_64 : decode mX12_sums.2.2.1 64 = .ok (.iload_n 1, 1) := by decide +kernel
theorem dX12_sums_65 : decode mX12_sums.2.2.1 65 = .ok (.iload_n 3, 1) := by decide +kernel
theorem dX12_sums_66 : decode mX12_sums.2.2.1 66 = .ok (.iadd, 1) := by decide +kernel
theorem dX12_sums_67 : decode mX12_sums.2.2.1 67 = .ok (.goto 6, 3) := by decide +kernel
theorem dX12_sums_70 : decode mX12_sums.2.2.1 70 = .ok (.iload_n 1, 1) := by decide +kernel
theorem dX12_sums_71 : decode mX12_sums.2.2.1 71 = .ok (.iload_n 3, 1) := by decide +kernel
theorem dX12_sums_72 : decode mX12_sums.2.2.1 72 = .ok (.isub, 1) := by decide +kernel
theorem dX12_sums_73 : decode mX12_sums.2.2.1 73 = .ok (.istore_n 1, 1) := by decide +kernel
theorem dX12_sums_74 : decode mX12_sums.2.2.1 74 = .ok (.goto (-69), 3) := by decide +kernel
theorem dX12_sums_77 : decode mX12_sums.2.2.1 77 = .ok (.iload_n 1, 1) := by decide +kernel
theorem dX12_sums_78 : decode mX12_sums.2.2.1 78 = .ok (.ireturn, 1) := by decide +kernel
set_option maxHeartbeats 100000 in
theorem kX12_sums_0 {d : Nat} {F : am_FT} {L : am_LT} {Q : am_QT} {l1 l2 l3 : Option Value} : wt am_S0 (d + 1) mX12_sums 0 [some (.ref 45), l1, l2, l3] [] F L Q = wc am_S0 d mX12_product [.ref 45] F L (fun r G K => wt am_S0 (d + 1) mX12_sums 4 [some (.ref 45), l1, l2, l3] (r.toList ++ []) G K Q) := (wt_aload_n dX12_sums_0 rfl rfl).trans (wt_callV dX12_sums_1 rfl (as := []) (rest := []) rfl rfl (Nat.le_of_ble_eq_true rfl) rfl (Nat.le_of_ble_eq_true rfl))
set_option maxHeartbeats 100000 in
theorem kX12_sums_4 {d : Nat} {F : am_FT} {L : am_LT} {Q : am_QT} {l1 l2 l3 : Option Value} {s0 : Int32} : wt am_S0 d mX12_sums 4 [some (.ref 45), l1, l2, l3] [.int s0] F L Q = wt am_S0 d mX12_sums 5 [some (.ref 45), some (.int s0), l2, l3] [] F L Q := wt_istore_n dX12_sums_4 (lv1 := [some (.ref 45), some (.int s0), l2, l3]) (Nat.le_of_ble_eq_true rfl) rfl
set_option maxHeartbeats 100000 in
theorem kX12_sums_5 {d : Nat} {F : am_FT} {L : am_LT} {Q : am_QT} {l1 l2 l3 : Option Value} : wt am_S0 d mX12_sums 5 [some (.ref 45), l1, l2, l3] [] F L Q = if 0 ≤ (F 45 16) then wt am_S0 d mX12_sums 77 [some (.ref 45), l1, l2, l3] [] F L Q else wt am_S0 d mX12_sums 12 [some (.ref 45), l1, l2, l3] [] F L Q := (wt_aload_n dX12_sums_5 rfl rfl).trans ((wt_getfield dX12_sums_6 rfl rfl (v := .int (F 45 16)) rfl).trans (wt_ifCond_ge dX12_sums_9 (t := 77) rfl))
set_option maxHeartbeats 100000 in
theorem kX12_sums_12 {d : Nat} {F : am_FT} {L : am_LT} {Q : am_QT} {l1 l2 l3 : Option Value} : wt am_S0 (d + 1) mX12_sums 12 [some (.ref 45), l1, l2, l3] [] F L Q = wc am_S0 d mX12_byteAt [.ref 45] F L (fun r G K => wt am_S0 (d + 1) mX12_sums 16 [some (.ref 45), l1, l2, l3] (r.toList ++ []) G K Q) := (wt_aload_n dX12_sums_12 rfl rfl).trans (wt_callV dX12_sums_13 rfl (as := []) (rest := []) rfl rfl (Nat.le_of_ble_eq_true rfl) rfl (Nat.le_of_ble_eq_true rfl))
set_option maxHeartbeats 100000 in
theorem kX12_sums_16 {d : Nat} {F : am_FT} {L : am_LT} {Q : am_QT} {l0 l1 l2 l3 : Option Value} {s0 : Int32} : wt am_S0 d mX12_sums 16 [l0, l1, l2, l3] [.int s0] F L Q = if s0 = 43 then wt am_S0 d mX12_sums 30 [l0, l1, l2, l3] [] F L Q else wt am_S0 d mX12_sums 21 [l0, l1, l2, l3] [] F L Q := (wt_bipush dX12_sums_16 (v := 43) (by decide)).trans (wt_if_icmp_eq dX12_sums_18 (t := 30) rfl)
set_option maxHeartbeats 100000 in
theorem kX12_sums_21 {d : Nat} {F : am_FT} {L : am_LT} {Q : am_QT} {l1 l2 l3 : Option Value} : wt am_S0 (d + 1) mX12_sums 21 [some (.ref 45), l1, l2, l3] [] F L Q = wc am_S0 d mX12_byteAt [.ref 45] F L (fun r G K => wt am_S0 (d + 1) mX12_sums 25 [some (.ref 45), l1, l2, l3] (r.toList ++ []) G K Q) := (wt_aload_n dX12_sums_21 rfl rfl).trans (wt_callV dX12_sums_22 rfl (as := []) (rest := []) rfl rfl (Nat.le_of_ble_eq_true rfl) rfl (Nat.le_of_ble_eq_true rfl))
set_option maxHeartbeats 100000 in
theorem kX12_sums_25 {d : Nat} {F : am_FT} {L : am_LT} {Q : am_QT} {l0 l1 l2 l3 : Option Value} {s0 : Int32} : wt am_S0 d mX12_sums 25 [l0, l1, l2, l3] [.int s0] F L Q = if ¬ s0 = 45 then wt am_S0 d mX12_sums 77 [l0, l1, l2, l3] [] F L Q else wt am_S0 d mX12_sums 30 [l0, l1, l2, l3] [] F L Q := (wt_bipush dX12_sums_25 (v := 45) (by decide)).trans (wt_if_icmp_ne dX12_sums_27 (t := 77) rfl)
set_option maxHeartbeats 100000 in
theorem kX12_sums_30 {d : Nat} {F : am_FT} {L : am_LT} {Q : am_QT} {l1 l2 l3 : Option Value} : wt am_S0 (d + 1) mX12_sums 30 [some (.ref 45), l1, l2, l3] [] F L Q = wc am_S0 d mX12_byteAt [.ref 45] F L (fun r G K => wt am_S0 (d + 1) mX12_sums 34 [some (.ref 45), l1, l2, l3] (r.toList ++ []) G K Q) := (wt_aload_n dX12_sums_30 rfl rfl).trans (wt_callV dX12_sums_31 rfl (as := []) (rest := []) rfl rfl (Nat.le_of_ble_eq_true rfl) rfl (Nat.le_of_ble_eq_true rfl))
set_option maxHeartbeats 100000 in
theorem kX12_sums_34 {d : Nat} {F : am_FT} {L : am_LT} {Q : am_QT} {l0 l1 l2 l3 : Option Value} {s0 : Int32} : wt am_S0 d mX12_sums 34 [l0, l1, l2, l3] [.int s0] F L Q = if ¬ s0 = 43 then wt am_S0 d mX12_sums 43 [l0, l1, l2, l3] [] F L Q else wt am_S0 d mX12_sums 39 [l0, l1, l2, l3] [] F L Q := (wt_bipush dX12_sums_34 (v := 43) (by decide)).trans (wt_if_icmp_ne dX12_sums_36 (t := 43) rfl)
set_option maxHeartbeats 100000 in
theorem kX12_sums_39 {d : Nat} {F : am_FT} {L : am_LT} {Q : am_QT} {l0 l1 l2 l3 : Option Value} : wt am_S0 d mX12_sums 39 [l0, l1, l2, l3] [] F L Q = wt am_S0 d mX12_sums 44 [l0, l1, l2, l3] [.int 1] F L Q := (wt_iconst dX12_sums_39 (v := 1) (by decide)).trans (wt_goto dX12_sums_40 (t := 44) rfl)
set_option maxHeartbeats 100000 in
theorem kX12_sums_43 {d : Nat} {F : am_FT} {L : am_LT} {Q : am_QT} {l0 l1 l2 l3 : Option Value} : wt am_S0 d mX12_sums 43 [l0, l1, l2, l3] [] F L Q = wt am_S0 d mX12_sums 44 [l0, l1, l2, l3] [.int 0] F L Q := wt_iconst dX12_sums_43 (v := 0) (by decide)
set_option maxHeartbeats 100000 in
theorem kX12_sums_44 {d : Nat} {F : am_FT} {L : am_LT} {Q : am_QT} {l2 l3 : Option Value} {s0 x1 : Int32} : wt am_S0 (d + 1) mX12_sums 44 [some (.ref 45), some (.int x1), l2, l3] [.int s0] F L Q = wc am_S0 d mX12_product [.ref 45] (am_upF F 45 14 ((F 45 14) + 1)) L (fun r G K => wt am_S0 (d + 1) mX12_sums 59 [some (.ref 45), some (.int x1), some (.int s0), l3] (r.toList ++ []) G K Q) := (wt_istore_n dX12_sums_44 (lv1 := [some (.ref 45), some (.int x1), some (.int s0), l3]) (Nat.le_of_ble_eq_true rfl) rfl).trans ((wt_aload_n dX12_sums_45 rfl rfl).trans ((wt_dup dX12_sums_46 rfl).trans ((wt_getfield dX12_sums_47 rfl rfl (v := .int (F 45 14)) rfl).trans ((wt_iconst dX12_sums_50 (v := 1) (by decide)).trans ((wt_iadd dX12_sums_51).trans ((wt_putfield dX12_sums_52 rfl rfl ⟨rfl, rfl, rfl, rfl⟩).trans ((wt_aload_n dX12_sums_55 rfl rfl).trans (wt_callV dX12_sums_56 rfl (as := []) (rest := []) rfl rfl (Nat.le_of_ble_eq_true rfl) rfl (Nat.le_of_ble_eq_true rfl)))))))))
set_option maxHeartbeats 100000 in
theorem kX12_sums_59 {d : Nat} {F : am_FT} {L : am_LT} {Q : am_QT} {l0 l1 l3 : Option Value} {s0 x2 : Int32} : wt am_S0 d mX12_sums 59 [l0, l1, some (.int x2), l3] [.int s0] F L Q = if x2 = 0 then wt am_S0 d mX12_sums 70 [l0, l1, some (.int x2), some (.int s0)] [] F L Q else wt am_S0 d mX12_sums 64 [l0, l1, some (.int x2), some (.int s0)] [] F L Q := (wt_istore_n dX12_sums_59 (lv1 := [l0, l1, some (.int x2), some (.int s0)]) (Nat.le_of_ble_eq_true rfl) rfl).trans ((wt_iload_n dX12_sums_60 rfl).trans (wt_ifCond_eq dX12_sums_61 (t := 70) rfl))
set_option maxHeartbeats 100000 in
theorem kX12_sums_64 {d : Nat} {F : am_FT} {L : am_LT} {Q : am_QT} {l0 l2 : Option Value} {x1 x3 : Int32} : wt am_S0 d mX12_sums 64 [l0, some (.int x1), l2, some (.int x3)] [] F L Q = wt am_S0 d mX12_sums 73 [l0, some (.int x1), l2, some (.int x3)] [.int (x1 + x3)] F L Q := (wt_iload_n dX12_sums_64 rfl).trans ((wt_iload_n dX12_sums_65 rfl).trans ((wt_iadd dX12_sums_66).trans (wt_goto dX12_sums_67 (t := 73) rfl)))
set_option maxHeartbeats 100000 in
theorem kX12_sums_70 {d : Nat} {F : am_FT} {L : am_LT} {Q : am_QT} {l0 l2 : Option Value} {x1 x3 : Int32} : wt am_S0 d mX12_sums 70 [l0, some (.int x1), l2, some (.int x3)] [] F L Q = wt am_S0 d mX12_sums 73 [l0, some (.int x1), l2, some (.int x3)] [.int (x1 - x3)] F L Q := (wt_iload_n dX12_sums_70 rfl).trans ((wt_iload_n dX12_sums_71 rfl).trans (wt_isub dX12_sums_72))
set_option maxHeartbeats 100000 in
theorem kX12_sums_73 {d : Nat} {F : am_FT} {L : am_LT} {Q : am_QT} {l1 l2 l3 : Option Value} {s0 : Int32} : wt am_S0 d mX12_sums 73 [some (.ref 45), l1, l2, l3] [.int s0] F L Q = wt am_S0 d mX12_sums 5 [some (.ref 45), some (.int s0), l2, l3] [] F L Q := (wt_istore_n dX12_sums_73 (lv1 := [some (.ref 45), some (.int s0), l2, l3]) (Nat.le_of_ble_eq_true rfl) rfl).trans (wt_goto dX12_sums_74 (t := 5) rfl)
set_option maxHeartbeats 100000 in
theorem kX12_sums_77 {d : Nat} {F : am_FT} {L : am_LT} {Q : am_QT} {l0 l2 l3 : Option Value} {x1 : Int32} : wt am_S0 d mX12_sums 77 [l0, some (.int x1), l2, l3] [] F L Q = Q (some (.int x1)) F L := (wt_iload_n dX12_sums_77 rfl).trans (wt_ireturn dX12_sums_78 rfl rfl)
theorem dX12_product_0 : decode mX12_product.2.2.1 0 = .ok (.aload_n 0, 1) := by decide +kernel
theorem dX12_product_1 : decode mX12_product.2.2.1 1 = .ok (.invokevirtual 163, 3) := by decide +kernel
theorem dX12_product_4 : decode mX12_product.2.2.1 4 = .ok (.istore_n 1, 1) := by decide +kernel
theorem dX12_product_5 : decode mX12_product.2.2.1 5 = .ok (.aload_n 0, 1) := by decide +kernel
theorem dX12_product_6 : decode mX12_product.2.2.1 6 = .ok (.invokevirtual 144, 3) := by decide +kernel
theorem dX12_product_9 : decode mX12_product.2.2.1 9 = .ok (.istore_n 2, 1) := by decide +kernel
theorem dX12_product_10 : decode mX12_product.2.2.1 10 = .ok (.aload_n 0, 1) := by decide +kernel
theorem dX12_product_11 : decode mX12_product.2.2.1 11 = .ok (.getfield 141, 3) := by decide +kernel
theorem dX12_product_14 : decode mX12_product.2.2.1 14 = .ok (.ifCond .ge 80, 3) := by decide +kernel
theorem dX12_product_17 : decode mX12_product.2.2.1 17 = .ok (.iload_n 2, 1) := by decide +kernel
theorem dX12_product_18 : decode mX12_product.2.2.1 18 = .ok (.bipush 42, 2) := by decide +kernel
theorem dX12_product_20 : decode mX12_product.2.2.1 20 = .ok (.if_icmp .eq 15, 3) := by decide +kernel
theorem dX12_product_23 : decode mX12_product.2.2.1 23 = .ok (.iload_n 2, 1) := by decide +kernel
theorem dX12_product_24 : decode mX12_product.2.2.1 24 = .ok (.bipush 47, 2) := by decide +kernel
theorem dX12_product_26 : decode mX12_product.2.2.1 26 = .ok (.if_icmp .eq 9, 3) := by decide +kernel
theorem dX12_product_29 : decode mX12_product.2.2.1 29 = .ok (.iload_n 2, 1) := by decide +kernel
theorem dX12_product_30 : decode mX12_product.2.2.1 30 = .ok (.bipush 37, 2) := by decide +kernel
theorem dX12_product_32 : decode mX12_product.2.2.1 32 = .ok (.if_icmp .ne 62, 3) := by decide +kernel
theorem dX12_product_35 : decode mX12_product.2.2.1 35 = .ok (.aload_n 0, 1) := by decide +kernel
theorem dX12_product_36 : decode mX12_product.2.2.1 36 = .ok (.dup, 1) := by decide +kernel
theorem dX12_product_37 : decode mX12_product.2.2.1 37 = .ok (.getfield 132, 3) := by decide +kernel
theorem dX12_product_40 : decode mX12_product.2.2.1 40 = .ok (.iconst 1, 1) := by decide +kernel
theorem dX12_product_41 : decode mX12_product.2.2.1 41 = .ok (.iadd, 1) := by decide +kernel
theorem dX12_product_42 : decode mX12_product.2.2.1 42 = .ok (.putfield 132, 3) := by decide +kernel
theorem dX12_product_45 : decode mX12_product.2.2.1 45 = .ok (.aload_n 0, 1) := by decide +kernel
theorem dX12_product_46 : decode mX12_product.2.2.1 46 = .ok (.invokevirtual 163, 3) := by decide +kernel
theorem dX12_product_49 : decode mX12_product.2.2.1 49 = .ok (.istore_n 3, 1) := by decide +kernel
theorem dX12_product_50 : decode mX12_product.2.2.1 50 = .ok (.iload_n 2, 1) := by decide +kernel
theorem dX12_product_51 : decode mX12_product.2.2.1 51 = .ok (.bipush 42, 2) := by decide +kernel
theorem dX12_product_53 : decode mX12_product.2.2.1 53 = .ok (.if_icmp .ne 9, 3) := by decide +kernel
theorem dX12_product_56 : decode mX12_product.2.2.1 56 = .ok (.iload_n 1, 1) := by decide +kernel
theorem dX12_product_57 : decode mX12_product.2.2.1 57 = .ok (.iload_n 3, 1) := by decide +kernel
theorem dX12_product_58 : decode mX12_product.2.2.1 58 = .ok (.imul, 1) := by decide +kernel
theorem dX12_product_59 : decode mX12_product.2.2.1 59 = .ok (.goto 26, 3) := by decide +kernel
theorem dX12_product_62 : decode mX12_product.2.2.1 62 = .ok (.iload_n 3, 1) := by decide +kernel
theorem dX12_product_63 : decode mX12_product.2.2.1 63 = .ok (.ifCond .ne 7, 3) := by decide +kernel
theorem dX12_product_66 : decode mX12_product.2.2.1 66 = .ok (.iconst 0, 1) := by decide +kernel
theorem dX12_product_67 : decode mX12_product.2.2.1 67 = .ok (.goto 18, 3) := by decide +kernel
theorem dX12_product_70 : decode mX12_product.2.2.1 70 = .ok (.iload_n 2, 1) := by decide +kernel
theorem dX12_product_71 : decode mX12_product.2.2.1 71 = .ok (.bipush 47, 2) := by decide +kernel
theorem dX12_product_73 : decode mX12_product.2.2.1 73 = .ok (.if_icmp .ne 9, 3) := by decide +kernel
theorem dX12_product_76 : decode mX12_product.2.2.1 76 = .ok (.iload_n 1, 1) := by decide +kernel
theorem dX12_product_77 : decode mX12_product.2.2.1 77 = .ok (.iload_n 3, 1) := by decide +kernel
theorem dX12_product_78 : decode mX12_product.2.2.1 78 = .ok (.idiv, 1) := by decide +kernel
theorem dX12_product_79 : decode mX12_product.2.2.1 79 = .ok (.goto 6, 3) := by decide +kernel
theorem dX12_product_82 : decode mX12_product.2.2.1 82 = .ok (.iload_n 1, 1) := by decide +kernel
theorem dX12_product_83 : decode mX12_product.2.2.1 83 = .ok (.iload_n 3, 1) := by decide +kernel
theorem dX12_product_84 : decode mX12_product.2.2.1 84 = .ok (.irem, 1) := by decide +kernel
theorem dX12_product_85 : decode mX12_product.2.2.1 85 = .ok (.istore_n 1, 1) := by decide +kernel
theorem dX12_product_86 : decode mX12_product.2.2.1 86 = .ok (.aload_n 0, 1) := by decide +kernel
theorem dX12_product_87 : decode mX12_product.2.2.1 87 = .ok (.invokevirtual 144, 3) := by decide +kernel
theorem dX12_product_90 : decode mX12_product.2.2.1 90 = .ok (.istore_n 2, 1) := by decide +kernel
theorem dX12_product_91 : decode mX12_product.2.2.1 91 = .ok (.goto (-81), 3) := by decide +kernel
theorem dX12_product_94 : decode mX12_product.2.2.1 94 = .ok (.iload_n 1, 1) := by decide +kernel
theorem dX12_product_95 : decode mX12_product.2.2.1 95 = .ok (.ireturn, 1) := by decide +kernel
set_option maxHeartbeats 100000 in
theorem kX12_product_0 {d : Nat} {F : am_FT} {L : am_LT} {Q : am_QT} {l1 l2 l3 : Option Value} : wt am_S0 (d + 1) mX12_product 0 [some (.ref 45), l1, l2, l3] [] F L Q = wc am_S0 d mX12_one [.ref 45] F L (fun r G K => wt am_S0 (d + 1) mX12_product 4 [some (.ref 45), l1, l2, l3] (r.toList ++ []) G K Q) := (wt_aload_n dX12_product_0 rfl rfl).trans (wt_callV dX12_product_1 rfl (as := []) (rest := []) rfl rfl (Nat.le_of_ble_eq_true rfl) rfl (Nat.le_of_ble_eq_true rfl))
set_option maxHeartbeats 100000 in
theorem kX12_product_4 {d : Nat} {F : am_FT} {L : am_LT} {Q : am_QT} {l1 l2 l3 : Option Value} {s0 : Int32} : wt am_S0 (d + 1) mX12_product 4 [some (.ref 45), l1, l2, l3] [.int s0] F L Q = wc am_S0 d mX12_byteAt [.ref 45] F L (fun r G K => wt am_S0 (d + 1) mX12_product 9 [some (.ref 45), some (.int s0), l2, l3] (r.toList ++ []) G K Q) := (wt_istore_n dX12_product_4 (lv1 := [some (.ref 45), some (.int s0), l2, l3]) (Nat.le_of_ble_eq_true rfl) rfl).trans ((wt_aload_n dX12_product_5 rfl rfl).trans (wt_callV dX12_product_6 rfl (as := []) (rest := []) rfl rfl (Nat.le_of_ble_eq_true rfl) rfl (Nat.le_of_ble_eq_true rfl)))
set_option maxHeartbeats 100000 in
theorem kX12_product_9 {d : Nat} {F : am_FT} {L : am_LT} {Q : am_QT} {l0 l2 l3 : Option Value} {s0 x1 : Int32} : wt am_S0 d mX12_product 9 [l0, some (.int x1), l2, l3] [.int s0] F L Q = wt am_S0 d mX12_product 10 [l0, some (.int x1), some (.int s0), l3] [] F L Q := wt_istore_n dX12_product_9 (lv1 := [l0, some (.int x1), some (.int s0), l3]) (Nat.le_of_ble_eq_true rfl) rfl
set_option maxHeartbeats 100000 in
theorem kX12_product_10 {d : Nat} {F : am_FT} {L : am_LT} {Q : am_QT} {l1 l2 l3 : Option Value} : wt am_S0 d mX12_product 10 [some (.ref 45), l1, l2, l3] [] F L Q = if 0 ≤ (F 45 16) then wt am_S0 d mX12_product 94 [some (.ref 45), l1, l2, l3] [] F L Q else wt am_S0 d mX12_product 17 [some (.ref 45), l1, l2, l3] [] F L Q := (wt_aload_n dX12_product_10 rfl rfl).trans ((wt_getfield dX12_product_11 rfl rfl (v := .int (F 45 16)) rfl).trans (wt_ifCond_ge dX12_product_14 (t := 94) rfl))
set_option maxHeartbeats 100000 in
theorem kX12_product_17 {d : Nat} {F : am_FT} {L : am_LT} {Q : am_QT} {l0 l1 l3 : Option Value} {x2 : Int32} : wt am_S0 d mX12_product 17 [l0, l1, some (.int x2), l3] [] F L Q = if x2 = 42 then wt am_S0 d mX12_product 35 [l0, l1, some (.int x2), l3] [] F L Q else wt am_S0 d mX12_product 23 [l0, l1, some (.int x2), l3] [] F L Q := (wt_iload_n dX12_product_17 rfl).trans ((wt_bipush dX12_product_18 (v := 42) (by decide)).trans (wt_if_icmp_eq dX12_product_20 (t := 35) rfl))
set_option maxHeartbeats 100000 in
theorem kX12_product_23 {d : Nat} {F : am_FT} {L : am_LT} {Q : am_QT} {l0 l1 l3 : Option Value} {x2 : Int32} : wt am_S0 d mX12_product 23 [l0, l1, some (.int x2), l3] [] F L Q = if x2 = 47 then wt am_S0 d mX12_product 35 [l0, l1, some (.int x2), l3] [] F L Q else wt am_S0 d mX12_product 29 [l0, l1, some (.int x2), l3] [] F L Q := (wt_iload_n dX12_product_23 rfl).trans ((wt_bipush dX12_product_24 (v := 47) (by decide)).trans (wt_if_icmp_eq dX12_product_26 (t := 35) rfl))
set_option maxHeartbeats 100000 in
theorem kX12_product_29 {d : Nat} {F : am_FT} {L : am_LT} {Q : am_QT} {l0 l1 l3 : Option Value} {x2 : Int32} : wt am_S0 d mX12_product 29 [l0, l1, some (.int x2), l3] [] F L Q = if ¬ x2 = 37 then wt am_S0 d mX12_product 94 [l0, l1, some (.int x2), l3] [] F L Q else wt am_S0 d mX12_product 35 [l0, l1, some (.int x2), l3] [] F L Q := (wt_iload_n dX12_product_29 rfl).trans ((wt_bipush dX12_product_30 (v := 37) (by decide)).trans (wt_if_icmp_ne dX12_product_32 (t := 94) rfl))
set_option maxHeartbeats 100000 in
theorem kX12_product_35 {d : Nat} {F : am_FT} {L : am_LT} {Q : am_QT} {l1 l2 l3 : Option Value} : wt am_S0 (d + 1) mX12_product 35 [some (.ref 45), l1, l2, l3] [] F L Q = wc am_S0 d mX12_one [.ref 45] (am_upF F 45 14 ((F 45 14) + 1)) L (fun r G K => wt am_S0 (d + 1) mX12_product 49 [some (.ref 45), l1, l2, l3] (r.toList ++ []) G K Q) := (wt_aload_n dX12_product_35 rfl rfl).trans ((wt_dup dX12_product_36 rfl).trans ((wt_getfield dX12_product_37 rfl rfl (v := .int (F 45 14)) rfl).trans ((wt_iconst dX12_product_40 (v := 1) (by decide)).trans ((wt_iadd dX12_product_41).trans ((wt_putfield dX12_product_42 rfl rfl ⟨rfl, rfl, rfl, rfl⟩).trans ((wt_aload_n dX12_product_45 rfl rfl).trans (wt_callV dX12_product_46 rfl (as := []) (rest := []) rfl rfl (Nat.le_of_ble_eq_true rfl) rfl (Nat.le_of_ble_eq_true rfl))))))))
set_option maxHeartbeats 100000 in
theorem kX12_product_49 {d : Nat} {F : am_FT} {L : am_LT} {Q : am_QT} {l0 l1 l3 : Option Value} {s0 x2 : Int32} : wt am_S0 d mX12_product 49 [l0, l1, some (.int x2), l3] [.int s0] F L Q = if ¬ x2 = 42 then wt am_S0 d mX12_product 62 [l0, l1, some (.int x2), some (.int s0)] [] F L Q else wt am_S0 d mX12_product 56 [l0, l1, some (.int x2), some (.int s0)] [] F L Q := (wt_istore_n dX12_product_49 (lv1 := [l0, l1, some (.int x2), some (.int s0)]) (Nat.le_of_ble_eq_true rfl) rfl).trans ((wt_iload_n dX12_product_50 rfl).trans ((wt_bipush dX12_product_51 (v := 42) (by decide)).trans (wt_if_icmp_ne dX12_product_53 (t := 62) rfl)))
set_option maxHeartbeats 100000 in
theorem kX12_product_56 {d : Nat} {F : am_FT} {L : am_LT} {Q : am_QT} {l0 l2 : Option Value} {x1 x3 : Int32} : wt am_S0 d mX12_product 56 [l0, some (.int x1), l2, some (.int x3)] [] F L Q = wt am_S0 d mX12_product 85 [l0, some (.int x1), l2, some (.int x3)] [.int (x1 * x3)] F L Q := (wt_iload_n dX12_product_56 rfl).trans ((wt_iload_n dX12_product_57 rfl).trans ((wt_imul dX12_product_58).trans (wt_goto dX12_product_59 (t := 85) rfl)))
set_option maxHeartbeats 100000 in
theorem kX12_product_62 {d : Nat} {F : am_FT} {L : am_LT} {Q : am_QT} {l0 l1 l2 : Option Value} {x3 : Int32} : wt am_S0 d mX12_product 62 [l0, l1, l2, some (.int x3)] [] F L Q = if ¬ x3 = 0 then wt am_S0 d mX12_product 70 [l0, l1, l2, some (.int x3)] [] F L Q else wt am_S0 d mX12_product 66 [l0, l1, l2, some (.int x3)] [] F L Q := (wt_iload_n dX12_product_62 rfl).trans (wt_ifCond_ne dX12_product_63 (t := 70) rfl)
set_option maxHeartbeats 100000 in
theorem kX12_product_66 {d : Nat} {F : am_FT} {L : am_LT} {Q : am_QT} {l0 l1 l2 l3 : Option Value} : wt am_S0 d mX12_product 66 [l0, l1, l2, l3] [] F L Q = wt am_S0 d mX12_product 85 [l0, l1, l2, l3] [.int 0] F L Q := (wt_iconst dX12_product_66 (v := 0) (by decide)).trans (wt_goto dX12_product_67 (t := 85) rfl)
set_option maxHeartbeats 100000 in
theorem kX12_product_70 {d : Nat} {F : am_FT} {L : am_LT} {Q : am_QT} {l0 l1 l3 : Option Value} {x2 : Int32} : wt am_S0 d mX12_product 70 [l0, l1, some (.int x2), l3] [] F L Q = if ¬ x2 = 47 then wt am_S0 d mX12_product 82 [l0, l1, some (.int x2), l3] [] F L Q else wt am_S0 d mX12_product 76 [l0, l1, some (.int x2), l3] [] F L Q := (wt_iload_n dX12_product_70 rfl).trans ((wt_bipush dX12_product_71 (v := 47) (by decide)).trans (wt_if_icmp_ne dX12_product_73 (t := 82) rfl))
set_option maxHeartbeats 100000 in
theorem kX12_product_76 {d : Nat} {F : am_FT} {L : am_LT} {Q : am_QT} {l0 l2 : Option Value} {x1 x3 : Int32} (h1 : ¬ x3 = 0) : wt am_S0 d mX12_product 76 [l0, some (.int x1), l2, some (.int x3)] [] F L Q = wt am_S0 d mX12_product 85 [l0, some (.int x1), l2, some (.int x3)] [.int (x1 / x3)] F L Q := (wt_iload_n dX12_product_76 rfl).trans ((wt_iload_n dX12_product_77 rfl).trans ((wt_idiv dX12_product_78 h1).trans (wt_goto dX12_product_79 (t := 85) rfl)))
set_option maxHeartbeats 100000 in
theorem kX12_product_82 {d : Nat} {F : am_FT} {L : am_LT} {Q : am_QT} {l0 l2 : Option Value} {x1 x3 : Int32} (h1 : ¬ x3 = 0) : wt am_S0 d mX12_product 82 [l0, some (.int x1), l2, some (.int x3)] [] F L Q = wt am_S0 d mX12_product 85 [l0, some (.int x1), l2, some (.int x3)] [.int (x1 - x1 / x3 * x3)] F L Q := (wt_iload_n dX12_product_82 rfl).trans ((wt_iload_n dX12_product_83 rfl).trans (wt_irem dX12_product_84 h1))
set_option maxHeartbeats 100000 in
theorem kX12_product_85 {d : Nat} {F : am_FT} {L : am_LT} {Q : am_QT} {l1 l2 l3 : Option Value} {s0 : Int32} : wt am_S0 (d + 1) mX12_product 85 [some (.ref 45), l1, l2, l3] [.int s0] F L Q = wc am_S0 d mX12_byteAt [.ref 45] F L (fun r G K => wt am_S0 (d + 1) mX12_product 90 [some (.ref 45), some (.int s0), l2, l3] (r.toList ++ []) G K Q) := (wt_istore_n dX12_product_85 (lv1 := [some (.ref 45), some (.int s0), l2, l3]) (Nat.le_of_ble_eq_true rfl) rfl).trans ((wt_aload_n dX12_product_86 rfl rfl).trans (wt_callV dX12_product_87 rfl (as := []) (rest := []) rfl rfl (Nat.le_of_ble_eq_true rfl) rfl (Nat.le_of_ble_eq_true rfl)))
set_option maxHeartbeats 100000 in
theorem kX12_product_90 {d : Nat} {F : am_FT} {L : am_LT} {Q : am_QT} {l0 l2 l3 : Option Value} {s0 x1 : Int32} : wt am_S0 d mX12_product 90 [l0, some (.int x1), l2, l3] [.int s0] F L Q = wt am_S0 d mX12_product 10 [l0, some (.int x1), some (.int s0), l3] [] F L Q := (wt_istore_n dX12_product_90 (lv1 := [l0, some (.int x1), some (.int s0), l3]) (Nat.le_of_ble_eq_true rfl) rfl).trans (wt_goto dX12_product_91 (t := 10) rfl)
set_option maxHeartbeats 100000 in
theorem kX12_product_94 {d : Nat} {F : am_FT} {L : am_LT} {Q : am_QT} {l0 l2 l3 : Option Value} {x1 : Int32} : wt am_S0 d mX12_product 94 [l0, some (.int x1), l2, l3] [] F L Q = Q (some (.int x1)) F L := (wt_iload_n dX12_product_94 rfl).trans (wt_ireturn dX12_product_95 rfl rfl)
theorem dX12_one_0 : decode mX12_one.2.2.1 0 = .ok (.aload_n 0, 1) := by decide +kernel
theorem dX12_one_1 : decode mX12_one.2.2.1 1 = .ok (.getfield 141, 3) := by decide +kernel
theorem dX12_one_4 : decode mX12_one.2.2.1 4 = .ok (.ifCond .lt 5, 3) := by decide +kernel
theorem dX12_one_7 : decode mX12_one.2.2.1 7 = .ok (.iconst 0, 1) := by decide +kernel
theorem dX12_one_8 : decode mX12_one.2.2.1 8 = .ok (.ireturn, 1) := by decide +kernel
theorem dX12_one_9 : decode mX12_one.2.2.1 9 = .ok (.aload_n 0, 1) := by decide +kernel
theorem dX12_one_10 : decode mX12_one.2.2.1 10 = .ok (.invokevirtual 144, 3) := by decide +kernel
theorem dX12_one_13 : decode mX12_one.2.2.1 13 = .ok (.istore_n 1, 1) := by decide +kernel
theorem dX12_one_14 : decode mX12_one.2.2.1 14 = .ok (.iload_n 1, 1) := by decide +kernel
theorem dX12_one_15 : decode mX12_one.2.2.1 15 = .ok (.bipush 33, 2) := by decide +kernel
theorem dX12_one_17 : decode mX12_one.2.2.1 17 = .ok (.if_icmp .eq 15, 3) := by decide +kernel
theorem dX12_one_20 : decode mX12_one.2.2.1 20 = .ok (.iload_n 1, 1) := by decide +kernel
theorem dX12_one_21 : decode mX12_one.2.2.1 21 = .ok (.bipush 45, 2) := by decide +kernel
theorem dX12_one_23 : decode mX12_one.2.2.1 23 = .ok (.if_icmp .eq 9, 3) := by decide +kernel
theorem dX12_one_26 : decode mX12_one.2.2.1 26 = .ok (.iload_n 1, 1) := by decide +kernel
theorem dX12_one_27 : decode mX12_one.2.2.1 27 = .ok (.bipush 40, 2) := by decide +kernel
theorem dX12_one_29 : decode mX12_one.2.2.1 29 = .ok (.if_icmp .ne 116, 3) := by decide +kernel
theorem dX12_one_32 : decode mX12_one.2.2.1 32 = .ok (.aload_n 0, 1) := by decide +kernel
theorem dX12_one_33 : decode mX12_one.2.2.1 33 = .ok (.getfield 166, 3) := by decide +kernel
theorem dX12_one_36 : decode mX12_one.2.2.1 36 = .ok (.bipush 6, 2) := by decide +kernel
theorem dX12_one_38 : decode mX12_one.2.2.1 38 = .ok (.if_icmp .ne 8, 3) := by decide +kernel
theorem dX12_one_41 : decode mX12_one.2.2.1 41 = .ok (.aload_n 0, 1) := by decide +kernel
theorem dX12_one_42 : decode mX12_one.2.2.1 42 = .ok (.invokevirtual 169, 3) := by decide +kernel
theorem dX12_one_45 : decode mX12_one.2.2.1 45 = .ok (.ireturn, 1) := by decide +kernel
theorem dX12_one_46 : decode mX12_one.2.2.1 46 = .ok (.aload_n 0, 1) := by decide +kernel
theorem dX12_one_47 : decode mX12_one.2.2.1 47 = .ok (.dup, 1) := by decide +kernel
theorem dX12_one_48 : decode mX12_one.2.2.1 48 = .ok (.getfield 166, 3) := by decide +kernel
theorem dX12_one_51 : decode mX12_one.2.2.1 51 = .ok (.iconst 1, 1) := by decide +kernel
theorem dX12_one_52 : decode mX12_one.2.2.1 52 = .ok (.iadd, 1) := by decide +kernel
theorem dX12_one_53 : decode mX12_one.2.2.1 53 = .ok (.putfield 166, 3) := by decide +kernel
theorem dX12_one_56 : decode mX12_one.2.2.1 56 = .ok (.aload_n 0, 1) := by decide +kernel
theorem dX12_one_57 : decode mX12_one.2.2.1 57 = .ok (.dup, 1) := by decide +kernel
theorem dX12_one_58 : decode mX12_one.2.2.1 58 = .ok (.getfield 132, 3) := by decide +kernel
theorem dX12_one_61 : decode mX12_one.2.2.1 61 = .ok (.iconst 1, 1) := by decide +kernel
theorem dX12_one_62 : decode mX12_one.2.2.1 62 = .ok (.iadd, 1) := by decide +kernel
theorem dX12_one_63 : decode mX12_one.2.2.1 63 = .ok (.putfield 132, 3) := by decide +kernel
theorem dX12_one_66 : decode mX12_one.2.2.1 66 = .ok (.iload_n 1, 1) := by decide +kernel
theorem dX12_one_67 : decode mX12_one.2.2.1 67 = .ok (.bipush 40, 2) := by decide +kernel
theorem dX12_one_69 : decode mX12_one.2.2.1 69 = .ok (.if_icmp .ne 10, 3) := by decide +kernel
theorem dX12_one_72 : decode mX12_one.2.2.1 72 = .ok (.aload_n 0, 1) := by decide +kernel
theorem dX12_one_73 : decode mX12_one.2.2.1 73 = .ok (.invokevirtual 172, 3) := by decide +kernel
theorem dX12_one_76 : decode mX12_one.2.2.1 76 = .ok (.goto 7, 3) := by decide +kernel
theorem dX12_one_79 : decode mX12_one.2.2.1 79 = .ok (.aload_n 0, 1) := by decide +kernel
theorem dX12_one_80 : decode mX12_one.2.2.1 80 = .ok (.invokevirtual 163, 3) := by decide +kernel
theorem dX12_one_83 : decode mX12_one.2.2.1 83 = .ok (.istore_n 2, 1) := by decide +kernel
theorem dX12_one_84 : decode mX12_one.2.2.1 84 = .ok (.iload_n 1, 1) := by decide +kernel
theorem dX12_one_85 : decode mX12_one.2.2.1 85 = .ok (.bipush 40, 2) := by decide +kernel
theorem dX12_one_87 : decode mX12_one.2.2.1 87 = .ok (.if_icmp .ne 17, 3) := by decide +kernel
theorem dX12_one_90 : decode mX12_one.2.2.1 90 = .ok (.aload_n 0, 1) := by decide +kernel
theorem dX12_one_91 : decode mX12_one.2.2.1 91 = .ok (.bipush 41, 2) := by decide +kernel
theorem dX12_one_93 : decode mX12_one.2.2.1 93 = .ok (.invokevirtual 151, 3) := by decide +kernel
theorem dX12_one_96 : decode mX12_one.2.2.1 96 = .ok (.ifCond .ne 8, 3) := by decide +kernel
theorem dX12_one_99 : decode mX12_one.2.2.1 99 = .ok (.aload_n 0, 1) := by decide +kernel
theorem dX12_one_100 : decode mX12_one.2.2.1 100 = .ok (.invokevirtual 169, 3) := by decide +kernel
theorem dX12_one_103 : decode mX12_one.2.2.1 103 = .ok (.ireturn, 1) := by decide +kernel
theorem dX12_one_104 : decode mX12_one.2.2.1 104 = .ok (.aload_n 0, 1) := by decide +kernel
theorem dX12_one_105 : decode mX12_one.2.2.1 105 = .ok (.dup, 1) := by decide +kernel
theorem dX12_one_106 : decode mX12_one.2.2.1 106 = .ok (.getfield 166, 3) := by decide +kernel
theorem dX12_one_109 : decode mX12_one.2.2.1 109 = .ok (.iconst 1, 1) := by decide +kernel
theorem dX12_one_110 : decode mX12_one.2.2.1 110 = .ok (.isub, 1) := by decide +kernel
theorem dX12_one_111 : decode mX12_one.2.2.1 111 = .ok (.putfield 166, 3) := by decide +kernel
theorem dX12_one_114 : decode mX12_one.2.2.1 114 = .ok (.iload_n 1, 1) := by decide +kernel
theorem dX12_one_115 : decode mX12_one.2.2.1 115 = .ok (.bipush 40, 2) := by decide +kernel
theorem dX12_one_117 : decode mX12_one.2.2.1 117 = .ok (.if_icmp .ne 7, 3) := by decide +kernel
theorem dX12_one_120 : decode mX12_one.2.2.1 120 = .ok (.iload_n 2, 1) := by decide +kernel
theorem dX12_one_121 : decode mX12_one.2.2.1 121 = .ok (.goto 23, 3) := by decide +kernel
theorem dX12_one_124 : decode mX12_one.2.2.1 124 = .ok (.iload_n 1, 1) := by decide +kernel
theorem dX12_one_125 : decode mX12_one.2.2.1 125 = .ok (.bipush 45, 2) := by decide +kernel
theorem dX12_one_127 : decode mX12_one.2.2.1 127 = .ok (.if_icmp .ne 8, 3) := by decide +kernel
theorem dX12_one_130 : decode mX12_one.2.2.1 130 = .ok (.iload_n 2, 1) := by decide +kernel
theorem dX12_one_131 : decode mX12_one.2.2.1 131 = .ok (.ineg, 1) := by decide +kernel
theorem dX12_one_132 : decode mX12_one.2.2.1 132 = .ok (.goto 12, 3) := by decide +kernel
theorem dX12_one_135 : decode mX12_one.2.2.1 135 = .ok (.iload_n 2, 1) := by decide +kernel
theorem dX12_one_136 : decode mX12_one.2.2.1 136 = .ok (.ifCond .ne 7, 3) := by decide +kernel
theorem dX12_one_139 : decode mX12_one.2.2.1 139 = .ok (.iconst 1, 1) := by decide +kernel
theorem dX12_one_140 : decode mX12_one.2.2.1 140 = .ok (.goto 4, 3) := by decide +kernel
theorem dX12_one_143 : decode mX12_one.2.2.1 143 = .ok (.iconst 0, 1) := by decide +kernel
theorem dX12_one_144 : decode mX12_one.2.2.1 144 = .ok (.ireturn, 1) := by decide +kernel
theorem dX12_one_145 : decode mX12_one.2.2.1 145 = .ok (.iload_n 1, 1) := by decide +kernel
theorem dX12_one_146 : decode mX12_one.2.2.1 146 = .ok (.invokestatic 175, 3) := by decide +kernel
theorem dX12_one_149 : decode mX12_one.2.2.1 149 = .ok (.istore_n 2, 1) := by decide +kernel
theorem dX12_one_150 : decode mX12_one.2.2.1 150 = .ok (.iload_n 2, 1) := by decide +kernel
theorem dX12_one_151 : decode mX12_one.2.2.1 151 = .ok (.ifCond .lt 20, 3) := by decide +kernel
theorem dX12_one_154 : decode mX12_one.2.2.1 154 = .ok (.aload_n 0, 1) := by decide +kernel
theorem dX12_one_155 : decode mX12_one.2.2.1 155 = .ok (.dup, 1) := by decide +kernel
theorem dX12_one_156 : decode mX12_one.2.2.1 156 = .ok (.getfield 132, 3) := by decide +kernel
theorem dX12_one_159 : decode mX12_one.2.2.1 159 = .ok (.iconst 1, 1) := by decide +kernel
theorem dX12_one_160 : decode mX12_one.2.2.1 160 = .ok (.iadd, 1) := by decide +kernel
theorem dX12_one_161 : decode mX12_one.2.2.1 161 = .ok (.putfield 132, 3) := by decide +kernel
theorem dX12_one_164 : decode mX12_one.2.2.1 164 = .ok (.aload_n 0, 1) := by decide +kernel
theorem dX12_one_165 : decode mX12_one.2.2.1 165 = .ok (.getfield 28, 3) := by decide +kernel
theorem dX12_one_168 : decode mX12_one.2.2.1 168 = .ok (.iload_n 2, 1) := by decide +kernel
theorem dX12_one_169 : decode mX12_one.2.2.1 169 = .ok (.iaload, 1) := by decide +kernel
theorem dX12_one_170 : decode mX12_one.2.2.1 170 = .ok (.ireturn, 1) := by decide +kernel
theorem dX12_one_171 : decode mX12_one.2.2.1 171 = .ok (.iconst 0, 1) := by decide +kernel
theorem dX12_one_172 : decode mX12_one.2.2.1 172 = .ok (.istore_n 3, 1) := by decide +kernel
theorem dX12_one_173 : decode mX12_one.2.2.1 173 = .ok (.iconst 0, 1) := by decide +kernel
theorem dX12_one_174 : decode mX12_one.2.2.1 174 = .ok (.istore 4, 2) := by decide +kernel
theorem dX12_one_176 : decode mX12_one.2.2.1 176 = .ok (.iload 4, 2) := by decide +kernel
theorem dX12_one_178 : decode mX12_one.2.2.1 178 = .ok (.iconst 4, 1) := by decide +kernel
theorem dX12_one_179 : decode mX12_one.2.2.1 179 = .ok (.if_icmp .ge 50, 3) := by decide +kernel
theorem dX12_one_182 : decode mX12_one.2.2.1 182 = .ok (.aload_n 0, 1) := by decide +kernel
theorem dX12_one_183 : decode mX12_one.2.2.1 183 = .ok (.invokevirtual 144, 3) := by decide +kernel
theorem dX12_one_186 : decode mX12_one.2.2.1 186 = .ok (.bipush 48, 2) := by decide +kernel
theorem dX12_one_188 : decode mX12_one.2.2.1 188 = .ok (.if_icmp .lt 41, 3) := by decide +kernel
theorem dX12_one_191 : decode mX12_one.2.2.1 191 = .ok (.aload_n 0, 1) := by decide +kernel
theorem dX12_one_192 : decode mX12_one.2.2.1 192 = .ok (.invokevirtual 144, 3) := by decide +kernel
theorem dX12_one_195 : decode mX12_one.2.2.1 195 = .ok (.bipush 57, 2) := by decide +kernel
theorem dX12_one_197 : decode mX12_one.2.2.1 197 = .ok (.if_icmp .gt 32, 3) := by decide +kernel
theorem dX12_one_200 : decode mX12_one.2.2.1 200 = .ok (.bipush 10, 2) := by decide +kernel
theorem dX12_one_202 : decode mX12_one.2.2.1 202 = .ok (.iload_n 3, 1) := by decide +kernel
theorem dX12_one_203 : decode mX12_one.2.2.1 203 = .ok (.imul, 1) := by decide +kernel
theorem dX12_one_204 : decode mX12_one.2.2.1 204 = .ok (.aload_n 0, 1) := by decide +kernel
theorem dX12_one_205 : decode mX12_one.2.2.1 205 = .ok (.invokevirtual 144, 3) := by decide +kernel
theorem dX12_one_208 : decode mX12_one.2.2.1 208 = .ok (.iadd, 1) := by decide +kernel
theorem dX12_one_209 : decode mX12_one.2.2.1 209 = .ok (.bipush 48, 2) := by decide +kernel
theorem dX12_one_211 : decode mX12_one.2.2.1 211 = .ok (.isub, 1) := by decide +kernel
theorem dX12_one_212 : decode mX12_one.2.2.1 212 = .ok (.istore_n 3, 1) := by decide +kernel
theorem dX12_one_213 : decode mX12_one.2.2.1 213 = .ok (.iinc 4 1, 3) := by decide +kernel
theorem dX12_one_216 : decode mX12_one.2.2.1 216 = .ok (.aload_n 0, 1) := by decide +kernel
theorem dX12_one_217 : decode mX12_one.2.2.1 217 = .ok (.dup, 1) := by decide +kernel
theorem dX12_one_218 : decode mX12_one.2.2.1 218 = .ok (.getfield 132, 3) := by decide +kernel
theorem dX12_one_221 : decode mX12_one.2.2.1 221 = .ok (.iconst 1, 1) := by decide +kernel
theorem dX12_one_222 : decode mX12_one.2.2.1 222 = .ok (.iadd, 1) := by decide +kernel
theorem dX12_one_223 : decode mX12_one.2.2.1 223 = .ok (.putfield 132, 3) := by decide +kernel
theorem dX12_one_226 : decode mX12_one.2.2.1 226 = .ok (.goto (-50), 3) := by decide +kernel
theorem dX12_one_229 : decode mX12_one.2.2.1 229 = .ok (.iload 4, 2) := by decide +kernel
theorem dX12_one_231 : decode mX12_one.2.2.1 231 = .ok (.ifCond .ne 10, 3) := by decide +kernel
theorem dX12_one_234 : decode mX12_one.2.2.1 234 = .ok (.aload_n 0, 1) := by decide +kernel
theorem dX12_one_235 : decode mX12_one.2.2.1 235 = .ok (.invokevirtual 169, 3) := by decide +kernel
theorem dX12_one_238 : decode mX12_one.2.2.1 238 = .ok (.goto 4, 3) := by decide +kernel
theorem dX12_one_241 : decode mX12_one.2.2.1 241 = .ok (.iload_n 3, 1) := by decide +kernel
theorem dX12_one_242 : decode mX12_one.2.2.1 242 = .ok (.ireturn, 1) := by decide +kernel
set_option maxHeartbeats 100000 in
theorem kX12_one_0 {d : Nat} {F : am_FT} {L : am_LT} {Q : am_QT} {l1 l2 l3 l4 : Option Value} : wt am_S0 d mX12_one 0 [some (.ref 45), l1, l2, l3, l4] [] F L Q = if (F 45 16) < 0 then wt am_S0 d mX12_one 9 [some (.ref 45), l1, l2, l3, l4] [] F L Q else wt am_S0 d mX12_one 7 [some (.ref 45), l1, l2, l3, l4] [] F L Q := (wt_aload_n dX12_one_0 rfl rfl).trans ((wt_getfield dX12_one_1 rfl rfl (v := .int (F 45 16)) rfl).trans (wt_ifCond_lt dX12_one_4 (t := 9) rfl))
set_option maxHeartbeats 100000 in
theorem kX12_one_7 {d : Nat} {F : am_FT} {L : am_LT} {Q : am_QT} {l0 l1 l2 l3 l4 : Option Value} : wt am_S0 d mX12_one 7 [l0, l1, l2, l3, l4] [] F L Q = Q (some (.int 0)) F L := (wt_iconst dX12_one_7 (v := 0) (by decide)).trans (wt_ireturn dX12_one_8 rfl rfl)
set_option maxHeartbeats 100000 in
theorem kX12_one_9 {d : Nat} {F : am_FT} {L : am_LT} {Q : am_QT} {l1 l2 l3 l4 : Option Value} : wt am_S0 (d + 1) mX12_one 9 [some (.ref 45), l1, l2, l3, l4] [] F L Q = wc am_S0 d mX12_byteAt [.ref 45] F L (fun r G K => wt am_S0 (d + 1) mX12_one 13 [some (.ref 45), l1, l2, l3, l4] (r.toList ++ []) G K Q) := (wt_aload_n dX12_one_9 rfl rfl).trans (wt_callV dX12_one_10 rfl (as := []) (rest := []) rfl rfl (Nat.le_of_ble_eq_true rfl) rfl (Nat.le_of_ble_eq_true rfl))
set_option maxHeartbeats 100000 in
theorem kX12_one_13 {d : Nat} {F : am_FT} {L : am_LT} {Q : am_QT} {l1 l2 l3 l4 : Option Value} {s0 : Int32} : wt am_S0 d mX12_one 13 [some (.ref 45), l1, l2, l3, l4] [.int s0] F L Q = if s0 = 33 then wt am_S0 d mX12_one 32 [some (.ref 45), some (.int s0), l2, l3, l4] [] F L Q else wt am_S0 d mX12_one 20 [some (.ref 45), some (.int s0), l2, l3, l4] [] F L Q := (wt_istore_n dX12_one_13 (lv1 := [some (.ref 45), some (.int s0), l2, l3, l4]) (Nat.le_of_ble_eq_true rfl) rfl).trans ((wt_iload_n dX12_one_14 rfl).trans ((wt_bipush dX12_one_15 (v := 33) (by decide)).trans (wt_if_icmp_eq dX12_one_17 (t := 32) rfl)))
set_option maxHeartbeats 100000 in
theorem kX12_one_20 {d : Nat} {F : am_FT} {L : am_LT} {Q : am_QT} {l0 l2 l3 l4 : Option Value} {x1 : Int32} : wt am_S0 d mX12_one 20 [l0, some (.int x1), l2, l3, l4] [] F L Q = if x1 = 45 then wt am_S0 d mX12_one 32 [l0, some (.int x1), l2, l3, l4] [] F L Q else wt am_S0 d mX12_one 26 [l0, some (.int x1), l2, l3, l4] [] F L Q := (wt_iload_n dX12_one_20 rfl).trans ((wt_bipush dX12_one_21 (v := 45) (by decide)).trans (wt_if_icmp_eq dX12_one_23 (t := 32) rfl))
set_option maxHeartbeats 100000 in
theorem kX12_one_26 {d : Nat} {F : am_FT} {L : am_LT} {Q : am_QT} {l0 l2 l3 l4 : Option Value} {x1 : Int32} : wt am_S0 d mX12_one 26 [l0, some (.int x1), l2, l3, l4] [] F L Q = if ¬ x1 = 40 then wt am_S0 d mX12_one 145 [l0, some (.int x1), l2, l3, l4] [] F L Q else wt am_S0 d mX12_one 32 [l0, some (.int x1), l2, l3, l4] [] F L Q := (wt_iload_n dX12_one_26 rfl).trans ((wt_bipush dX12_one_27 (v := 40) (by decide)).trans (wt_if_icmp_ne dX12_one_29 (t := 145) rfl))
set_option maxHeartbeats 100000 in
theorem kX12_one_32 {d : Nat} {F : am_FT} {L : am_LT} {Q : am_QT} {l1 l2 l3 l4 : Option Value} : wt am_S0 d mX12_one 32 [some (.ref 45), l1, l2, l3, l4] [] F L Q = if ¬ (F 45 17) = 6 then wt am_S0 d mX12_one 46 [some (.ref 45), l1, l2, l3, l4] [] F L Q else wt am_S0 d mX12_one 41 [some (.ref 45), l1, l2, l3, l4] [] F L Q := (wt_aload_n dX12_one_32 rfl rfl).trans ((wt_getfield dX12_one_33 rfl rfl (v := .int (F 45 17)) rfl).trans ((wt_bipush dX12_one_36 (v := 6) (by decide)).trans (wt_if_icmp_ne dX12_one_38 (t := 46) rfl)))
set_option maxHeartbeats 100000 in
theorem kX12_one_41 {d : Nat} {F : am_FT} {L : am_LT} {Q : am_QT} {l1 l2 l3 l4 : Option Value} : wt am_S0 (d + 1) mX12_one 41 [some (.ref 45), l1, l2, l3, l4] [] F L Q = wc am_S0 d mX12_wrong [.ref 45] F L (fun r G K => wt am_S0 (d + 1) mX12_one 45 [some (.ref 45), l1, l2, l3, l4] (r.toList ++ []) G K Q) := (wt_aload_n dX12_one_41 rfl rfl).trans (wt_callV dX12_one_42 rfl (as := []) (rest := []) rfl rfl (Nat.le_of_ble_eq_true rfl) rfl (Nat.le_of_ble_eq_true rfl))
set_option maxHeartbeats 100000 in
theorem kX12_one_45 {d : Nat} {F : am_FT} {L : am_LT} {Q : am_QT} {l0 l1 l2 l3 l4 : Option Value} {s0 : Int32} : wt am_S0 d mX12_one 45 [l0, l1, l2, l3, l4] [.int s0] F L Q = Q (some (.int s0)) F L := wt_ireturn dX12_one_45 rfl rfl
set_option maxHeartbeats 100000 in
theorem kX12_one_46 {d : Nat} {F : am_FT} {L : am_LT} {Q : am_QT} {l2 l3 l4 : Option Value} {x1 : Int32} : wt am_S0 d mX12_one 46 [some (.ref 45), some (.int x1), l2, l3, l4] [] F L Q = if ¬ x1 = 40 then wt am_S0 d mX12_one 79 [some (.ref 45), some (.int x1), l2, l3, l4] [] (am_upF (am_upF F 45 17 ((F 45 17) + 1)) 45 14 ((F 45 14) + 1)) L Q else wt am_S0 d mX12_one 72 [some (.ref 45), some (.int x1), l2, l3, l4] [] (am_upF (am_upF F 45 17 ((F 45 17) + 1)) 45 14 ((F 45 14) + 1)) L Q := (wt_aload_n dX12_one_46 rfl rfl).trans ((wt_dup dX12_one_47 rfl).trans ((wt_getfield dX12_one_48 rfl rfl (v := .int (F 45 17)) rfl).trans ((wt_iconst dX12_one_51 (v := 1) (by decide)).trans ((wt_iadd dX12_one_52).trans ((wt_putfield dX12_one_53 rfl rfl ⟨rfl, rfl, rfl, rfl⟩).trans ((wt_aload_n dX12_one_56 rfl rfl).trans ((wt_dup dX12_one_57 rfl).trans ((wt_getfield dX12_one_58 rfl rfl (v := .int (F 45 14)) (F := am_upF F 45 17 ((F 45 17) + 1)) (p := 45) rfl).trans ((wt_iconst dX12_one_61 (v := 1) (by decide)).trans ((wt_iadd dX12_one_62).trans ((wt_putfield dX12_one_63 rfl rfl ⟨rfl, rfl, rfl, rfl⟩).trans ((wt_iload_n dX12_one_66 rfl).trans ((wt_bipush dX12_one_67 (v := 40) (by decide)).trans (wt_if_icmp_ne dX12_one_69 (t := 79) rfl))))))))))))))
set_option maxHeartbeats 100000 in
theorem kX12_one_72 {d : Nat} {F : am_FT} {L : am_LT} {Q : am_QT} {l1 l2 l3 l4 : Option Value} : wt am_S0 (d + 1) mX12_one 72 [some (.ref 45), l1, l2, l3, l4] [] F L Q = wc am_S0 d mX12_either [.ref 45] F L (fun r G K => wt am_S0 (d + 1) mX12_one 76 [some (.ref 45), l1, l2, l3, l4] (r.toList ++ []) G K Q) := (wt_aload_n dX12_one_72 rfl rfl).trans (wt_callV dX12_one_73 rfl (as := []) (rest := []) rfl rfl (Nat.le_of_ble_eq_true rfl) rfl (Nat.le_of_ble_eq_true rfl))
set_option maxHeartbeats 100000 in
theorem kX12_one_76 {d : Nat} {F : am_FT} {L : am_LT} {Q : am_QT} {l0 l1 l2 l3 l4 : Option Value} {s0 : Int32} : wt am_S0 d mX12_one 76 [l0, l1, l2, l3, l4] [.int s0] F L Q = wt am_S0 d mX12_one 83 [l0, l1, l2, l3, l4] [.int s0] F L Q := wt_goto dX12_one_76 (t := 83) rfl
set_option maxHeartbeats 100000 in
theorem kX12_one_79 {d : Nat} {F : am_FT} {L : am_LT} {Q : am_QT} {l1 l2 l3 l4 : Option Value} : wt am_S0 (d + 1) mX12_one 79 [some (.ref 45), l1, l2, l3, l4] [] F L Q = wc am_S0 d mX12_one [.ref 45] F L (fun r G K => wt am_S0 (d + 1) mX12_one 83 [some (.ref 45), l1, l2, l3, l4] (r.toList ++ []) G K Q) := (wt_aload_n dX12_one_79 rfl rfl).trans (wt_callV dX12_one_80 rfl (as := []) (rest := []) rfl rfl (Nat.le_of_ble_eq_true rfl) rfl (Nat.le_of_ble_eq_true rfl))
set_option maxHeartbeats 100000 in
theorem kX12_one_83 {d : Nat} {F : am_FT} {L : am_LT} {Q : am_QT} {l0 l2 l3 l4 : Option Value} {s0 x1 : Int32} : wt am_S0 d mX12_one 83 [l0, some (.int x1), l2, l3, l4] [.int s0] F L Q = if ¬ x1 = 40 then wt am_S0 d mX12_one 104 [l0, some (.int x1), some (.int s0), l3, l4] [] F L Q else wt am_S0 d mX12_one 90 [l0, some (.int x1), some (.int s0), l3, l4] [] F L Q := (wt_istore_n dX12_one_83 (lv1 := [l0, some (.int x1), some (.int s0), l3, l4]) (Nat.le_of_ble_eq_true rfl) rfl).trans ((wt_iload_n dX12_one_84 rfl).trans ((wt_bipush dX12_one_85 (v := 40) (by decide)).trans (wt_if_icmp_ne dX12_one_87 (t := 104) rfl)))
set_option maxHeartbeats 100000 in
theorem kX12_one_90 {d : Nat} {F : am_FT} {L : am_LT} {Q : am_QT} {l1 l2 l3 l4 : Option Value} : wt am_S0 (d + 1) mX12_one 90 [some (.ref 45), l1, l2, l3, l4] [] F L Q = wc am_S0 d mX12_takes [.ref 45, .int 41] F L (fun r G K => wt am_S0 (d + 1) mX12_one 96 [some (.ref 45), l1, l2, l3, l4] (r.toList ++ []) G K Q) := (wt_aload_n dX12_one_90 rfl rfl).trans ((wt_bipush dX12_one_91 (v := 41) (by decide)).trans (wt_callV dX12_one_93 rfl (as := [.int 41]) (rest := []) rfl rfl (Nat.le_of_ble_eq_true rfl) rfl (Nat.le_of_ble_eq_true rfl)))
set_option maxHeartbeats 100000 in
theorem kX12_one_96 {d : Nat} {F : am_FT} {L : am_LT} {Q : am_QT} {l0 l1 l2 l3 l4 : Option Value} {s0 : Int32} : wt am_S0 d mX12_one 96 [l0, l1, l2, l3, l4] [.int s0] F L Q = if ¬ s0 = 0 then wt am_S0 d mX12_one 104 [l0, l1, l2, l3, l4] [] F L Q else wt am_S0 d mX12_one 99 [l0, l1, l2, l3, l4] [] F L Q := wt_ifCond_ne dX12_one_96 (t := 104) rfl
set_option maxHeartbeats 100000 in
theorem kX12_one_99 {d : Nat} {F : am_FT} {L : am_LT} {Q : am_QT} {l1 l2 l3 l4 : Option Value} : wt am_S0 (d + 1) mX12_one 99 [some (.ref 45), l1, l2, l3, l4] [] F L Q = wc am_S0 d mX12_wrong [.ref 45] F L (fun r G K => wt am_S0 (d + 1) mX12_one 103 [some (.ref 45), l1, l2, l3, l4] (r.toList ++ []) G K Q) := (wt_aload_n dX12_one_99 rfl rfl).trans (wt_callV dX12_one_100 rfl (as := []) (rest := []) rfl rfl (Nat.le_of_ble_eq_true rfl) rfl (Nat.le_of_ble_eq_true rfl))
set_option maxHeartbeats 100000 in
theorem kX12_one_103 {d : Nat} {F : am_FT} {L : am_LT} {Q : am_QT} {l0 l1 l2 l3 l4 : Option Value} {s0 : Int32} : wt am_S0 d mX12_one 103 [l0, l1, l2, l3, l4] [.int s0] F L Q = Q (some (.int s0)) F L := wt_ireturn dX12_one_103 rfl rfl
set_option maxHeartbeats 100000 in
theorem kX12_one_104 {d : Nat} {F : am_FT} {L : am_LT} {Q : am_QT} {l2 l3 l4 : Option Value} {x1 : Int32} : wt am_S0 d mX12_one 104 [some (.ref 45), some (.int x1), l2, l3, l4] [] F L Q = if ¬ x1 = 40 then wt am_S0 d mX12_one 124 [some (.ref 45), some (.int x1), l2, l3, l4] [] (am_upF F 45 17 ((F 45 17) - 1)) L Q else wt am_S0 d mX12_one 120 [some (.ref 45), some (.int x1), l2, l3, l4] [] (am_upF F 45 17 ((F 45 17) - 1)) L Q := (wt_aload_n dX12_one_104 rfl rfl).trans ((wt_dup dX12_one_105 rfl).trans ((wt_getfield dX12_one_106 rfl rfl (v := .int (F 45 17)) rfl).trans ((wt_iconst dX12_one_109 (v := 1) (by decide)).trans ((wt_isub dX12_one_110).trans ((wt_putfield dX12_one_111 rfl rfl ⟨rfl, rfl, rfl, rfl⟩).trans ((wt_iload_n dX12_one_114 rfl).trans ((wt_bipush dX12_one_115 (v := 40) (by decide)).trans (wt_if_icmp_ne dX12_one_117 (t := 124) rfl))))))))
set_option maxHeartbeats 100000 in
theorem kX12_one_120 {d : Nat} {F : am_FT} {L : am_LT} {Q : am_QT} {l0 l1 l3 l4 : Option Value} {x2 : Int32} : wt am_S0 d mX12_one 120 [l0, l1, some (.int x2), l3, l4] [] F L Q = wt am_S0 d mX12_one 144 [l0, l1, some (.int x2), l3, l4] [.int x2] F L Q := (wt_iload_n dX12_one_120 rfl).trans (wt_goto dX12_one_121 (t := 144) rfl)
set_option maxHeartbeats 100000 in
theorem kX12_one_124 {d : Nat} {F : am_FT} {L : am_LT} {Q : am_QT} {l0 l2 l3 l4 : Option Value} {x1 : Int32} : wt am_S0 d mX12_one 124 [l0, some (.int x1), l2, l3, l4] [] F L Q = if ¬ x1 = 45 then wt am_S0 d mX12_one 135 [l0, some (.int x1), l2, l3, l4] [] F L Q else wt am_S0 d mX12_one 130 [l0, some (.int x1), l2, l3, l4] [] F L Q := (wt_iload_n dX12_one_124 rfl).trans ((wt_bipush dX12_one_125 (v := 45) (by decide)).trans (wt_if_icmp_ne dX12_one_127 (t := 135) rfl))
set_option maxHeartbeats 100000 in
theorem kX12_one_130 {d : Nat} {F : am_FT} {L : am_LT} {Q : am_QT} {l0 l1 l3 l4 : Option Value} {x2 : Int32} : wt am_S0 d mX12_one 130 [l0, l1, some (.int x2), l3, l4] [] F L Q = wt am_S0 d mX12_one 144 [l0, l1, some (.int x2), l3, l4] [.int (-x2)] F L Q := (wt_iload_n dX12_one_130 rfl).trans ((wt_ineg dX12_one_131).trans (wt_goto dX12_one_132 (t := 144) rfl))
set_option maxHeartbeats 100000 in
theorem kX12_one_135 {d : Nat} {F : am_FT} {L : am_LT} {Q : am_QT} {l0 l1 l3 l4 : Option Value} {x2 : Int32} : wt am_S0 d mX12_one 135 [l0, l1, some (.int x2), l3, l4] [] F L Q = if ¬ x2 = 0 then wt am_S0 d mX12_one 143 [l0, l1, some (.int x2), l3, l4] [] F L Q else wt am_S0 d mX12_one 139 [l0, l1, some (.int x2), l3, l4] [] F L Q := (wt_iload_n dX12_one_135 rfl).trans (wt_ifCond_ne dX12_one_136 (t := 143) rfl)
set_option maxHeartbeats 100000 in
theorem kX12_one_139 {d : Nat} {F : am_FT} {L : am_LT} {Q : am_QT} {l0 l1 l2 l3 l4 : Option Value} : wt am_S0 d mX12_one 139 [l0, l1, l2, l3, l4] [] F L Q = wt am_S0 d mX12_one 144 [l0, l1, l2, l3, l4] [.int 1] F L Q := (wt_iconst dX12_one_139 (v := 1) (by decide)).trans (wt_goto dX12_one_140 (t := 144) rfl)
set_option maxHeartbeats 100000 in
theorem kX12_one_143 {d : Nat} {F : am_FT} {L : am_LT} {Q : am_QT} {l0 l1 l2 l3 l4 : Option Value} : wt am_S0 d mX12_one 143 [l0, l1, l2, l3, l4] [] F L Q = wt am_S0 d mX12_one 144 [l0, l1, l2, l3, l4] [.int 0] F L Q := wt_iconst dX12_one_143 (v := 0) (by decide)
set_option maxHeartbeats 100000 in
theorem kX12_one_144 {d : Nat} {F : am_FT} {L : am_LT} {Q : am_QT} {l0 l1 l2 l3 l4 : Option Value} {s0 : Int32} : wt am_S0 d mX12_one 144 [l0, l1, l2, l3, l4] [.int s0] F L Q = Q (some (.int s0)) F L := wt_ireturn dX12_one_144 rfl rfl
set_option maxHeartbeats 100000 in
theorem kX12_one_145 {d : Nat} {F : am_FT} {L : am_LT} {Q : am_QT} {l0 l2 l3 l4 : Option Value} {x1 : Int32} : wt am_S0 (d + 1) mX12_one 145 [l0, some (.int x1), l2, l3, l4] [] F L Q = wc am_S0 d mX12_nameOf [.int x1] F L (fun r G K => wt am_S0 (d + 1) mX12_one 149 [l0, some (.int x1), l2, l3, l4] (r.toList ++ []) G K Q) := (wt_iload_n dX12_one_145 rfl).trans (wt_callS dX12_one_146 rfl (as := [.int x1]) (rest := []) rfl rfl (Nat.le_of_ble_eq_true rfl) (Nat.le_of_ble_eq_true rfl))
set_option maxHeartbeats 100000 in
theorem kX12_one_149 {d : Nat} {F : am_FT} {L : am_LT} {Q : am_QT} {l0 l2 l3 l4 : Option Value} {s0 x1 : Int32} : wt am_S0 d mX12_one 149 [l0, some (.int x1), l2, l3, l4] [.int s0] F L Q = if s0 < 0 then wt am_S0 d mX12_one 171 [l0, some (.int x1), some (.int s0), l3, l4] [] F L Q else wt am_S0 d mX12_one 154 [l0, some (.int x1), some (.int s0), l3, l4] [] F L Q := (wt_istore_n dX12_one_149 (lv1 := [l0, some (.int x1), some (.int s0), l3, l4]) (Nat.le_of_ble_eq_true rfl) rfl).trans ((wt_iload_n dX12_one_150 rfl).trans (wt_ifCond_lt dX12_one_151 (t := 171) rfl))
set_option maxHeartbeats 100000 in
theorem kX12_one_154 {d : Nat} {F : am_FT} {L : am_LT} {Q : am_QT} {l1 l3 l4 : Option Value} {x2 : Int32} (h1 : am_oob x2 6 = false) : wt am_S0 d mX12_one 154 [some (.ref 45), l1, some (.int x2), l3, l4] [] F L Q = Q (some (.int (F 52 (Int32.toNatClampNeg x2)))) (am_upF F 45 14 ((F 45 14) + 1)) L := (wt_aload_n dX12_one_154 rfl rfl).trans ((wt_dup dX12_one_155 rfl).trans ((wt_getfield dX12_one_156 rfl rfl (v := .int (F 45 14)) rfl).trans ((wt_iconst dX12_one_159 (v := 1) (by decide)).trans ((wt_iadd dX12_one_160).trans ((wt_putfield dX12_one_161 rfl rfl ⟨rfl, rfl, rfl, rfl⟩).trans ((wt_aload_n dX12_one_164 rfl rfl).trans ((wt_getfield dX12_one_165 rfl rfl (v := .ref 52) rfl).trans ((wt_iload_n dX12_one_168 rfl).trans ((wt_iaload dX12_one_169 rfl (by decide) h1).trans (wt_ireturn dX12_one_170 rfl rfl))))))))))
set_option maxHeartbeats 100000 in
theorem kX12_one_171 {d : Nat} {F : am_FT} {L : am_LT} {Q : am_QT} {l0 l1 l3 l4 : Option Value} {x2 : Int32} : wt am_S0 d mX12_one 171 [l0, l1, some (.int x2), l3, l4] [] F L Q = wt am_S0 d mX12_one 176 [l0, l1, some (.int x2), some (.int 0), some (.int 0)] [] F L Q := (wt_iconst dX12_one_171 (v := 0) (by decide)).trans ((wt_istore_n dX12_one_172 (lv1 := [l0, l1, some (.int x2), some (.int 0), l4]) (Nat.le_of_ble_eq_true rfl) rfl).trans ((wt_iconst dX12_one_173 (v := 0) (by decide)).trans (wt_istore dX12_one_174 (lv1 := [l0, l1, some (.int x2), some (.int 0), some (.int 0)]) (Nat.le_of_ble_eq_true rfl) rfl)))
set_option maxHeartbeats 100000 in
theorem kX12_one_176 {d : Nat} {F : am_FT} {L : am_LT} {Q : am_QT} {l0 l1 l2 l3 : Option Value} {x4 : Int32} : wt am_S0 d mX12_one 176 [l0, l1, l2, l3, some (.int x4)] [] F L Q = if 4 ≤ x4 then wt am_S0 d mX12_one 229 [l0, l1, l2, l3, some (.int x4)] [] F L Q else wt am_S0 d mX12_one 182 [l0, l1, l2, l3, some (.int x4)] [] F L Q := (wt_iload dX12_one_176 rfl).trans ((wt_iconst dX12_one_178 (v := 4) (by decide)).trans (wt_if_icmp_ge dX12_one_179 (t := 229) rfl))
set_option maxHeartbeats 100000 in
theorem kX12_one_182 {d : Nat} {F : am_FT} {L : am_LT} {Q : am_QT} {l1 l2 l3 l4 : Option Value} : wt am_S0 (d + 1) mX12_one 182 [some (.ref 45), l1, l2, l3, l4] [] F L Q = wc am_S0 d mX12_byteAt [.ref 45] F L (fun r G K => wt am_S0 (d + 1) mX12_one 186 [some (.ref 45), l1, l2, l3, l4] (r.toList ++ []) G K Q) := (wt_aload_n dX12_one_182 rfl rfl).trans (wt_callV dX12_one_183 rfl (as := []) (rest := []) rfl rfl (Nat.le_of_ble_eq_true rfl) rfl (Nat.le_of_ble_eq_true rfl))
set_option maxHeartbeats 100000 in
theorem kX12_one_186 {d : Nat} {F : am_FT} {L : am_LT} {Q : am_QT} {l0 l1 l2 l3 l4 : Option Value} {s0 : Int32} : wt am_S0 d mX12_one 186 [l0, l1, l2, l3, l4] [.int s0] F L Q = if s0 < 48 then wt am_S0 d mX12_one 229 [l0, l1, l2, l3, l4] [] F L Q else wt am_S0 d mX12_one 191 [l0, l1, l2, l3, l4] [] F L Q := (wt_bipush dX12_one_186 (v := 48) (by decide)).trans (wt_if_icmp_lt dX12_one_188 (t := 229) rfl)
set_option maxHeartbeats 100000 in
theorem kX12_one_191 {d : Nat} {F : am_FT} {L : am_LT} {Q : am_QT} {l1 l2 l3 l4 : Option Value} : wt am_S0 (d + 1) mX12_one 191 [some (.ref 45), l1, l2, l3, l4] [] F L Q = wc am_S0 d mX12_byteAt [.ref 45] F L (fun r G K => wt am_S0 (d + 1) mX12_one 195 [some (.ref 45), l1, l2, l3, l4] (r.toList ++ []) G K Q) := (wt_aload_n dX12_one_191 rfl rfl).trans (wt_callV dX12_one_192 rfl (as := []) (rest := []) rfl rfl (Nat.le_of_ble_eq_true rfl) rfl (Nat.le_of_ble_eq_true rfl))
set_option maxHeartbeats 100000 in
theorem kX12_one_195 {d : Nat} {F : am_FT} {L : am_LT} {Q : am_QT} {l0 l1 l2 l3 l4 : Option Value} {s0 : Int32} : wt am_S0 d mX12_one 195 [l0, l1, l2, l3, l4] [.int s0] F L Q = if 57 < s0 then wt am_S0 d mX12_one 229 [l0, l1, l2, l3, l4] [] F L Q else wt am_S0 d mX12_one 200 [l0, l1, l2, l3, l4] [] F L Q := (wt_bipush dX12_one_195 (v := 57) (by decide)).trans (wt_if_icmp_gt dX12_one_197 (t := 229) rfl)
set_option maxHeartbeats 100000 in
theorem kX12_one_200 {d : Nat} {F : am_FT} {L : am_LT} {Q : am_QT} {l1 l2 l4 : Option Value} {x3 : Int32} : wt am_S0 (d + 1) mX12_one 200 [some (.ref 45), l1, l2, some (.int x3), l4] [] F L Q = wc am_S0 d mX12_byteAt [.ref 45] F L (fun r G K => wt am_S0 (d + 1) mX12_one 208 [some (.ref 45), l1, l2, some (.int x3), l4] (r.toList ++ [.int (10 * x3)]) G K Q) := (wt_bipush dX12_one_200 (v := 10) (by decide)).trans ((wt_iload_n dX12_one_202 rfl).trans ((wt_imul dX12_one_203).trans ((wt_aload_n dX12_one_204 rfl rfl).trans (wt_callV dX12_one_205 rfl (as := []) (rest := [.int (10 * x3)]) rfl rfl (Nat.le_of_ble_eq_true rfl) rfl (Nat.le_of_ble_eq_true rfl)))))
set_option maxHeartbeats 100000 in
theorem kX12_one_208 {d : Nat} {F : am_FT} {L : am_LT} {Q : am_QT} {l1 l3 : Option Value} {s0 s1 x2 x4 : Int32} : wt am_S0 d mX12_one 208 [some (.ref 45), l1, some (.int x2), l3, some (.int x4)] [.int s1, .int s0] F L Q = wt am_S0 d mX12_one 176 [some (.ref 45), l1, some (.int x2), some (.int ((s0 + s1) - 48)), some (.int (x4 + 1))] [] (am_upF F 45 14 ((F 45 14) + 1)) L Q := (wt_iadd dX12_one_208).trans ((wt_bipush dX12_one_209 (v := 48) (by decide)).trans ((wt_isub dX12_one_211).trans ((wt_istore_n dX12_one_212 (lv1 := [some (.ref 45), l1, some (.int x2), some (.int ((s0 + s1) - 48)), some (.int x4)]) (Nat.le_of_ble_eq_true rfl) rfl).trans ((wt_iinc dX12_one_213 (v := 1) (lv1 := [some (.ref 45), l1, some (.int x2), some (.int ((s0 + s1) - 48)), some (.int (x4 + 1))]) rfl (Nat.le_of_ble_eq_true rfl) (by decide) rfl).trans ((wt_aload_n dX12_one_216 rfl rfl).trans ((wt_dup dX12_one_217 rfl).trans ((wt_getfield dX12_one_218 rfl rfl (v := .int (F 45 14)) rfl).trans ((wt_iconst dX12_one_221 (v := 1) (by decide)).trans ((wt_iadd dX12_one_222).trans ((wt_putfield dX12_one_223 rfl rfl ⟨rfl, rfl, rfl, rfl⟩).trans (wt_goto dX12_one_226 (t := 176) rfl)))))))))))
set_option maxHeartbeats 100000 in
theorem kX12_one_229 {d : Nat} {F : am_FT} {L : am_LT} {Q : am_QT} {l0 l1 l2 l3 : Option Value} {x4 : Int32} : wt am_S0 d mX12_one 229 [l0, l1, l2, l3, some (.int x4)] [] F L Q = if ¬ x4 = 0 then wt am_S0 d mX12_one 241 [l0, l1, l2, l3, some (.int x4)] [] F L Q else wt am_S0 d mX12_one 234 [l0, l1, l2, l3, some (.int x4)] [] F L Q := (wt_iload dX12_one_229 rfl).trans (wt_ifCond_ne dX12_one_231 (t := 241) rfl)
set_option maxHeartbeats 100000 in
theorem kX12_one_234 {d : Nat} {F : am_FT} {L : am_LT} {Q : am_QT} {l1 l2 l3 l4 : Option Value} : wt am_S0 (d + 1) mX12_one 234 [some (.ref 45), l1, l2, l3, l4] [] F L Q = wc am_S0 d mX12_wrong [.ref 45] F L (fun r G K => wt am_S0 (d + 1) mX12_one 238 [some (.ref 45), l1, l2, l3, l4] (r.toList ++ []) G K Q) := (wt_aload_n dX12_one_234 rfl rfl).trans (wt_callV dX12_one_235 rfl (as := []) (rest := []) rfl rfl (Nat.le_of_ble_eq_true rfl) rfl (Nat.le_of_ble_eq_true rfl))
set_option maxHeartbeats 100000 in
theorem kX12_one_238 {d : Nat} {F : am_FT} {L : am_LT} {Q : am_QT} {l0 l1 l2 l3 l4 : Option Value} {s0 : Int32} : wt am_S0 d mX12_one 238 [l0, l1, l2, l3, l4] [.int s0] F L Q = wt am_S0 d mX12_one 242 [l0, l1, l2, l3, l4] [.int s0] F L Q := wt_goto dX12_one_238 (t := 242) rfl
set_option maxHeartbeats 100000 in
theorem kX12_one_241 {d : Nat} {F : am_FT} {L : am_LT} {Q : am_QT} {l0 l1 l2 l4 : Option Value} {x3 : Int32} : wt am_S0 d mX12_one 241 [l0, l1, l2, some (.int x3), l4] [] F L Q = wt am_S0 d mX12_one 242 [l0, l1, l2, some (.int x3), l4] [.int x3] F L Q := wt_iload_n dX12_one_241 rfl
set_option maxHeartbeats 100000 in
theorem kX12_one_242 {d : Nat} {F : am_FT} {L : am_LT} {Q : am_QT} {l0 l1 l2 l3 l4 : Option Value} {s0 : Int32} : wt am_S0 d mX12_one 242 [l0, l1, l2, l3, l4] [.int s0] F L Q = Q (some (.int s0)) F L := wt_ireturn dX12_one_242 rfl rfl
theorem dX12_byteAt_0 : decode mX12_byteAt.2.2.1 0 = .ok (.aload_n 0, 1) := by decide +kernel
theorem dX12_byteAt_1 : decode mX12_byteAt.2.2.1 1 = .ok (.getfield 132, 3) := by decide +kernel
theorem dX12_byteAt_4 : decode mX12_byteAt.2.2.1 4 = .ok (.aload_n 0, 1) := by decide +kernel
theorem dX12_byteAt_5 : decode mX12_byteAt.2.2.1 5 = .ok (.getfield 135, 3) := by decide +kernel
theorem dX12_byteAt_8 : decode mX12_byteAt.2.2.1 8 = .ok (.if_icmp .ge 39, 3) := by decide +kernel
theorem dX12_byteAt_11 : decode mX12_byteAt.2.2.1 11 = .ok (.aload_n 0, 1) := by decide +kernel
theorem dX12_byteAt_12 : decode mX12_byteAt.2.2.1 12 = .ok (.getfield 138, 3) := by decide +kernel
theorem dX12_byteAt_15 : decode mX12_byteAt.2.2.1 15 = .ok (.ifCond .ge 15, 3) := by decide +kernel
theorem dX12_byteAt_18 : decode mX12_byteAt.2.2.1 18 = .ok (.aload_n 0, 1) := by decide +kernel
theorem dX12_byteAt_19 : decode mX12_byteAt.2.2.1 19 = .ok (.getfield 22, 3) := by decide +kernel
theorem dX12_byteAt_22 : decode mX12_byteAt.2.2.1 22 = .ok (.aload_n 0, 1) := by decide +kernel
theorem dX12_byteAt_23 : decode mX12_byteAt.2.2.1 23 = .ok (.getfield 132, 3) := by decide +kernel
theorem dX12_byteAt_26 : decode mX12_byteAt.2.2.1 26 = .ok (.iaload, 1) := by decide +kernel
theorem dX12_byteAt_27 : decode mX12_byteAt.2.2.1 27 = .ok (.goto 21, 3) := by decide +kernel
theorem dX12_byteAt_30 : decode mX12_byteAt.2.2.1 30 = .ok (.aload_n 0, 1) := by decide +kernel
theorem dX12_byteAt_31 : decode mX12_byteAt.2.2.1 31 = .ok (.getfield 25, 3) := by decide +kernel
theorem dX12_byteAt_34 : decode mX12_byteAt.2.2.1 34 = .ok (.aload_n 0, 1) := by decide +kernel
theorem dX12_byteAt_35 : decode mX12_byteAt.2.2.1 35 = .ok (.getfield 138, 3) := by decide +kernel
theorem dX12_byteAt_38 : decode mX12_byteAt.2.2.1 38 = .ok (.aload_n 0, 1) := by decide +kernel
theorem dX12_byteAt_39 : decode mX12_byteAt.2.2.1 39 = .ok (.getfield 132, 3) := by decide +kernel
theorem dX12_byteAt_42 : decode mX12_byteAt.2.2.1 42 = .ok (.iadd, 1) := by decide +kernel
theorem dX12_byteAt_43 : decode mX12_byteAt.2.2.1 43 = .ok (.iaload, 1) := by decide +kernel
theorem dX12_byteAt_44 : decode mX12_byteAt.2.2.1 44 = .ok (.goto 4, 3) := by decide +kernel
theorem dX12_byteAt_47 : decode mX12_byteAt.2.2.1 47 = .ok (.iconst 0, 1) := by decide +kernel
theorem dX12_byteAt_48 : decode mX12_byteAt.2.2.1 48 = .ok (.ireturn, 1) := by decide +kernel
set_option maxHeartbeats 100000 in
theorem kX12_byteAt_0 {d : Nat} {F : am_FT} {L : am_LT} {Q : am_QT} : wt am_S0 d mX12_byteAt 0 [some (.ref 45)] [] F L Q = if (F 45 15) ≤ (F 45 14) then wt am_S0 d mX12_byteAt 47 [some (.ref 45)] [] F L Q else wt am_S0 d mX12_byteAt 11 [some (.ref 45)] [] F L Q := (wt_aload_n dX12_byteAt_0 rfl rfl).trans ((wt_getfield dX12_byteAt_1 rfl rfl (v := .int (F 45 14)) rfl).trans ((wt_aload_n dX12_byteAt_4 rfl rfl).trans ((wt_getfield dX12_byteAt_5 rfl rfl (v := .int (F 45 15)) rfl).trans (wt_if_icmp_ge dX12_byteAt_8 (t := 47) rfl))))
set_option maxHeartbeats 100000 in
theorem kX12_byteAt_11 {d : Nat} {F : am_FT} {L : am_LT} {Q : am_QT} : wt am_S0 d mX12_byteAt 11 [some (.ref 45)] [] F L Q = if 0 ≤ (F 45 13) then wt am_S0 d mX12_byteAt 30 [some (.ref 45)] [] F L Q else wt am_S0 d mX12_byteAt 18 [some (.ref 45)] [] F L Q := (wt_aload_n dX12_byteAt_11 rfl rfl).trans ((wt_getfield dX12_byteAt_12 rfl rfl (v := .int (F 45 13)) rfl).trans (wt_ifCond_ge dX12_byteAt_15 (t := 30) rfl))
set_option maxHeartbeats 100000 in
theorem kX12_byteAt_18 {d : Nat} {F : am_FT} {L : am_LT} {Q : am_QT} (h1 : am_oob (F 45 14) 120 = false) : wt am_S0 d mX12_byteAt 18 [some (.ref 45)] [] F L Q = wt am_S0 d mX12_byteAt 48 [some (.ref 45)] [.int (F 50 (Int32.toNatClampNeg (F 45 14)))] F L Q := (wt_aload_n dX12_byteAt_18 rfl rfl).trans ((wt_getfield dX12_byteAt_19 rfl rfl (v := .ref 50) rfl).trans ((wt_aload_n dX12_byteAt_22 rfl rfl).trans ((wt_getfield dX12_byteAt_23 rfl rfl (v := .int (F 45 14)) rfl).trans ((wt_iaload dX12_byteAt_26 rfl (by decide) h1).trans (wt_goto dX12_byteAt_27 (t := 48) rfl)))))
set_option maxHeartbeats 100000 in
theorem kX12_byteAt_30 {d : Nat} {F : am_FT} {L : am_LT} {Q : am_QT} (h1 : am_oob ((F 45 13) + (F 45 14)) 120 = false) : wt am_S0 d mX12_byteAt 30 [some (.ref 45)] [] F L Q = wt am_S0 d mX12_byteAt 48 [some (.ref 45)] [.int (F 51 (Int32.toNatClampNeg ((F 45 13) + (F 45 14))))] F L Q := (wt_aload_n dX12_byteAt_30 rfl rfl).trans ((wt_getfield dX12_byteAt_31 rfl rfl (v := .ref 51) rfl).trans ((wt_aload_n dX12_byteAt_34 rfl rfl).trans ((wt_getfield dX12_byteAt_35 rfl rfl (v := .int (F 45 13)) rfl).trans ((wt_aload_n dX12_byteAt_38 rfl rfl).trans ((wt_getfield dX12_byteAt_39 rfl rfl (v := .int (F 45 14)) rfl).trans ((wt_iadd dX12_byteAt_42).trans ((wt_iaload dX12_byteAt_43 rfl (by decide) h1).trans (wt_goto dX12_byteAt_44 (t := 48) rfl))))))))
set_option maxHeartbeats 100000 in
theorem kX12_byteAt_47 {d : Nat} {F : am_FT} {L : am_LT} {Q : am_QT} {l0 : Option Value} : wt am_S0 d mX12_byteAt 47 [l0] [] F L Q = wt am_S0 d mX12_byteAt 48 [l0] [.int 0] F L Q := wt_iconst dX12_byteAt_47 (v := 0) (by decide)
set_option maxHeartbeats 100000 in
theorem kX12_byteAt_48 {d : Nat} {F : am_FT} {L : am_LT} {Q : am_QT} {l0 : Option Value} {s0 : Int32} : wt am_S0 d mX12_byteAt 48 [l0] [.int s0] F L Q = Q (some (.int s0)) F L := wt_ireturn dX12_byteAt_48 rfl rfl
theorem dX12_wrong_0 : decode mX12_wrong.2.2.1 0 = .ok (.aload_n 0, 1) := by decide +kernel
theorem dX12_wrong_1 : decode mX12_wrong.2.2.1 1 = .ok (.aload_n 0, 1) := by decide +kernel
theorem dX12_wrong_2 : decode mX12_wrong.2.2.1 2 = .ok (.getfield 141, 3) := by decide +kernel
theorem dX12_wrong_5 : decode mX12_wrong.2.2.1 5 = .ok (.ifCond .ge 10, 3) := by decide +kernel
theorem dX12_wrong_8 : decode mX12_wrong.2.2.1 8 = .ok (.aload_n 0, 1) := by decide +kernel
theorem dX12_wrong_9 : decode mX12_wrong.2.2.1 9 = .ok (.getfield 132, 3) := by decide +kernel
theorem dX12_wrong_12 : decode mX12_wrong.2.2.1 12 = .ok (.goto 7, 3) := by decide +kernel
theorem dX12_wrong_15 : decode mX12_wrong.2.2.1 15 = .ok (.aload_n 0, 1) := by decide +kernel
theorem dX12_wrong_16 : decode mX12_wrong.2.2.1 16 = .ok (.getfield 141, 3) := by decide +kernel
theorem dX12_wrong_19 : decode mX12_wrong.2.2.1 19 = .ok (.putfield 141, 3) := by decide +kernel
theorem dX12_wrong_22 : decode mX12_wrong.2.2.1 22 = .ok (.iconst 0, 1) := by decide +kernel
theorem dX12_wrong_23 : decode mX12_wrong.2.2.1 23 = .ok (.ireturn, 1) := by decide +kernel
set_option maxHeartbeats 100000 in
theorem kX12_wrong_0 {d : Nat} {F : am_FT} {L : am_LT} {Q : am_QT} : wt am_S0 d mX12_wrong 0 [some (.ref 45)] [] F L Q = if 0 ≤ (F 45 16) then wt am_S0 d mX12_wrong 15 [some (.ref 45)] [.ref 45] F L Q else wt am_S0 d mX12_wrong 8 [some (.ref 45)] [.ref 45] F L Q := (wt_aload_n dX12_wrong_0 rfl rfl).trans ((wt_aload_n dX12_wrong_1 rfl rfl).trans ((wt_getfield dX12_wrong_2 rfl rfl (v := .int (F 45 16)) rfl).trans (wt_ifCond_ge dX12_wrong_5 (t := 15) rfl)))
set_option maxHeartbeats 100000 in
theorem kX12_wrong_8 {d : Nat} {F : am_FT} {L : am_LT} {Q : am_QT} : wt am_S0 d mX12_wrong 8 [some (.ref 45)] [.ref 45] F L Q = wt am_S0 d mX12_wrong 19 [some (.ref 45)] [.int (F 45 14), .ref 45] F L Q := (wt_aload_n dX12_wrong_8 rfl rfl).trans ((wt_getfield dX12_wrong_9 rfl rfl (v := .int (F 45 14)) rfl).trans (wt_goto dX12_wrong_12 (t := 19) rfl))
set_option maxHeartbeats 100000 in
theorem kX12_wrong_15 {d : Nat} {F : am_FT} {L : am_LT} {Q : am_QT} : wt am_S0 d mX12_wrong 15 [some (.ref 45)] [.ref 45] F L Q = wt am_S0 d mX12_wrong 19 [some (.ref 45)] [.int (F 45 16), .ref 45] F L Q := (wt_aload_n dX12_wrong_15 rfl rfl).trans (wt_getfield dX12_wrong_16 rfl rfl (v := .int (F 45 16)) rfl)
set_option maxHeartbeats 100000 in
theorem kX12_wrong_19 {d : Nat} {F : am_FT} {L : am_LT} {Q : am_QT} {l0 : Option Value} {s1 : Int32} : wt am_S0 d mX12_wrong 19 [l0] [.int s1, .ref 45] F L Q = Q (some (.int 0)) (am_upF F 45 16 s1) L := (wt_putfield dX12_wrong_19 rfl rfl ⟨rfl, rfl, rfl, rfl⟩).trans ((wt_iconst dX12_wrong_22 (v := 0) (by decide)).trans (wt_ireturn dX12_wrong_23 rfl rfl))
theorem dX12_takes_0 : decode mX12_takes.2.2.1 0 = .ok (.aload_n 0, 1) := by decide +kernel
theorem dX12_takes_1 : decode mX12_takes.2.2.1 1 = .ok (.getfield 141, 3) := by decide +kernel
theorem dX12_takes_4 : decode mX12_takes.2.2.1 4 = .ok (.ifCond .ge 11, 3) := by decide +kernel
theorem dX12_takes_7 : decode mX12_takes.2.2.1 7 = .ok (.aload_n 0, 1) := by decide +kernel
theorem dX12_takes_8 : decode mX12_takes.2.2.1 8 = .ok (.invokevirtual 144, 3) := by decide +kernel
theorem dX12_takes_11 : decode mX12_takes.2.2.1 11 = .ok (.iload_n 1, 1) := by decide +kernel
theorem dX12_takes_12 : decode mX12_takes.2.2.1 12 = .ok (.if_icmp .eq 5, 3) := by decide +kernel
theorem dX12_takes_15 : decode mX12_takes.2.2.1 15 = .ok (.iconst 0, 1) := by decide +kernel
theorem dX12_takes_16 : decode mX12_takes.2.2.1 16 = .ok (.ireturn, 1) := by decide +kernel
theorem dX12_takes_17 : decode mX12_takes.2.2.1 17 = .ok (.aload_n 0, 1) := by decide +kernel
theorem dX12_takes_18 : decode mX12_takes.2.2.1 18 = .ok (.dup, 1) := by decide +kernel
theorem dX12_takes_19 : decode mX12_takes.2.2.1 19 = .ok (.getfield 132, 3) := by decide +kernel
theorem dX12_takes_22 : decode mX12_takes.2.2.1 22 = .ok (.iconst 1, 1) := by decide +kernel
theorem dX12_takes_23 : decode mX12_takes.2.2.1 23 = .ok (.iadd, 1) := by decide +kernel
theorem dX12_takes_24 : decode mX12_takes.2.2.1 24 = .ok (.putfield 132, 3) := by decide +kernel
theorem dX12_takes_27 : decode mX12_takes.2.2.1 27 = .ok (.iconst 1, 1) := by decide +kernel
theorem dX12_takes_28 : decode mX12_takes.2.2.1 28 = .ok (.ireturn, 1) := by decide +kernel
set_option maxHeartbeats 100000 in
theorem kX12_takes_0 {d : Nat} {F : am_FT} {L : am_LT} {Q : am_QT} {l1 : Option Value} : wt am_S0 d mX12_takes 0 [some (.ref 45), l1] [] F L Q = if 0 ≤ (F 45 16) then wt am_S0 d mX12_takes 15 [some (.ref 45), l1] [] F L Q else wt am_S0 d mX12_takes 7 [some (.ref 45), l1] [] F L Q := (wt_aload_n dX12_takes_0 rfl rfl).trans ((wt_getfield dX12_takes_1 rfl rfl (v := .int (F 45 16)) rfl).trans (wt_ifCond_ge dX12_takes_4 (t := 15) rfl))
set_option maxHeartbeats 100000 in
theorem kX12_takes_7 {d : Nat} {F : am_FT} {L : am_LT} {Q : am_QT} {l1 : Option Value} : wt am_S0 (d + 1) mX12_takes 7 [some (.ref 45), l1] [] F L Q = wc am_S0 d mX12_byteAt [.ref 45] F L (fun r G K => wt am_S0 (d + 1) mX12_takes 11 [some (.ref 45), l1] (r.toList ++ []) G K Q) := (wt_aload_n dX12_takes_7 rfl rfl).trans (wt_callV dX12_takes_8 rfl (as := []) (rest := []) rfl rfl (Nat.le_of_ble_eq_true rfl) rfl (Nat.le_of_ble_eq_true rfl))
set_option maxHeartbeats 100000 in
theorem kX12_takes_11 {d : Nat} {F : am_FT} {L : am_LT} {Q : am_QT} {l0 : Option Value} {s0 x1 : Int32} : wt am_S0 d mX12_takes 11 [l0, some (.int x1)] [.int s0] F L Q = if s0 = x1 then wt am_S0 d mX12_takes 17 [l0, some (.int x1)] [] F L Q else wt am_S0 d mX12_takes 15 [l0, some (.int x1)] [] F L Q := (wt_iload_n dX12_takes_11 rfl).trans (wt_if_icmp_eq dX12_takes_12 (t := 17) rfl)
set_option maxHeartbeats 100000 in
theorem kX12_takes_15 {d : Nat} {F : am_FT} {L : am_LT} {Q : am_QT} {l0 l1 : Option Value} : wt am_S0 d mX12_takes 15 [l0, l1] [] F L Q = Q (some (.int 0)) F L := (wt_iconst dX12_takes_15 (v := 0) (by decide)).trans (wt_ireturn dX12_takes_16 rfl (by decide))
set_option maxHeartbeats 100000 in
theorem kX12_takes_17 {d : Nat} {F : am_FT} {L : am_LT} {Q : am_QT} {l1 : Option Value} : wt am_S0 d mX12_takes 17 [some (.ref 45), l1] [] F L Q = Q (some (.int 1)) (am_upF F 45 14 ((F 45 14) + 1)) L := (wt_aload_n dX12_takes_17 rfl rfl).trans ((wt_dup dX12_takes_18 rfl).trans ((wt_getfield dX12_takes_19 rfl rfl (v := .int (F 45 14)) rfl).trans ((wt_iconst dX12_takes_22 (v := 1) (by decide)).trans ((wt_iadd dX12_takes_23).trans ((wt_putfield dX12_takes_24 rfl rfl ⟨rfl, rfl, rfl, rfl⟩).trans ((wt_iconst dX12_takes_27 (v := 1) (by decide)).trans (wt_ireturn dX12_takes_28 rfl (by decide))))))))
