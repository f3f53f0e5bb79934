theorem dX7_take_0 : decode mX7_take.2.2.1 0 = .ok (.aload_n 0, 1) := by decide +kernel
theorem dX7_take_1 : decode mX7_take.2.2.1 1 = .ok (.getfield 18, 3) := by decide +kernel
theorem dX7_take_4 : decode mX7_take.2.2.1 4 = .ok (.bipush 120, 2) := by decide +kernel
theorem dX7_take_6 : decode mX7_take.2.2.1 6 = .ok (.if_icmp .lt 6, 3) := by decide +kernel
theorem dX7_take_9 : decode mX7_take.2.2.1 9 = .ok (.bipush (-3), 2) := by decide +kernel
theorem dX7_take_11 : decode mX7_take.2.2.1 11 = .ok (.ireturn, 1) := by decide +kernel
theorem dX7_take_12 : decode mX7_take.2.2.1 12 = .ok (.aload_n 0, 1) := by decide +kernel
theorem dX7_take_13 : decode mX7_take.2.2.1 13 = .ok (.getfield 11, 3) := by decide +kernel
theorem dX7_take_16 : decode mX7_take.2.2.1 16 = .ok (.aload_n 0, 1) := by decide +kernel
theorem dX7_take_17 : decode mX7_take.2.2.1 17 = .ok (.getfield 18, 3) := by decide +kernel
theorem dX7_take_20 : decode mX7_take.2.2.1 20 = .ok (.iload_n 1, 1) := by decide +kernel
theorem dX7_take_21 : decode mX7_take.2.2.1 21 = .ok (.invokestatic 22, 3) := by decide +kernel
theorem dX7_take_24 : decode mX7_take.2.2.1 24 = .ok (.aload_n 0, 1) := by decide +kernel
theorem dX7_take_25 : decode mX7_take.2.2.1 25 = .ok (.dup, 1) := by decide +kernel
theorem dX7_take_26 : decode mX7_take.2.2.1 26 = .ok (.getfield 18, 3) := by decide +kernel
theorem dX7_take_29 : decode mX7_take.2.2.1 29 = .ok (.iconst 1, 1) := by decide +kernel
theorem dX7_take_30 : decode mX7_take.2.2.1 30 = .ok (.iadd, 1) := by decide +kernel
theorem dX7_take_31 : decode mX7_take.2.2.1 31 = .ok (.putfield 18, 3) := by decide +kernel
theorem dX7_take_34 : decode mX7_take.2.2.1 34 = .ok (.aload_n 0, 1) := by decide +kernel
theorem dX7_take_35 : decode mX7_take.2.2.1 35 = .ok (.getfield 18, 3) := by decide +kernel
theorem dX7_take_38 : decode mX7_take.2.2.1 38 = .ok (.ireturn, 1) := by decide +kernel
set_option maxHeartbeats 100000 in
theorem kX7_take_0 {d : Nat} {F : am_FT} {L : am_LT} {Q : am_QT} {l1 : Option Value} : wt am_S0 d mX7_take 0 [some (.ref 3), l1] [] F L Q = if (F 3 2) < 120 then wt am_S0 d mX7_take 12 [some (.ref 3), l1] [] F L Q else wt am_S0 d mX7_take 9 [some (.ref 3), l1] [] F L Q := (wt_aload_n dX7_take_0 rfl rfl).trans ((wt_getfield dX7_take_1 rfl rfl (v := .int (F 3 2)) rfl).trans ((wt_bipush dX7_take_4 (v := 120) (by decide)).trans (wt_if_icmp_lt dX7_take_6 (t := 12) rfl)))
set_option maxHeartbeats 100000 in
theorem kX7_take_9 {d : Nat} {F : am_FT} {L : am_LT} {Q : am_QT} {l0 l1 : Option Value} : wt am_S0 d mX7_take 9 [l0, l1] [] F L Q = Q (some (.int (-3))) F L := (wt_bipush dX7_take_9 (v := (-3)) (by decide)).trans (wt_ireturn dX7_take_11 rfl rfl)
set_option maxHeartbeats 100000 in
theorem kX7_take_12 {d : Nat} {F : am_FT} {L : am_LT} {Q : am_QT} {x1 : Int32} : wt am_S0 (d + 1) mX7_take 12 [some (.ref 3), some (.int x1)] [] F L Q = wc am_S0 d mX11_lay [.ref 4, .int (F 3 2), .int x1] F L (fun r G K => wt am_S0 (d + 1) mX7_take 24 [some (.ref 3), some (.int x1)] (r.toList ++ []) G K Q) := (wt_aload_n dX7_take_12 rfl rfl).trans ((wt_getfield dX7_take_13 rfl rfl (v := .ref 4) rfl).trans ((wt_aload_n dX7_take_16 rfl rfl).trans ((wt_getfield dX7_take_17 rfl rfl (v := .int (F 3 2)) rfl).trans ((wt_iload_n dX7_take_20 rfl).trans (wt_callS dX7_take_21 rfl (as := [.ref 4, .int (F 3 2), .int x1]) (rest := []) rfl rfl (Nat.le_of_ble_eq_true rfl) (Nat.le_of_ble_eq_true rfl))))))
set_option maxHeartbeats 100000 in
theorem kX7_take_24 {d : Nat} {F : am_FT} {L : am_LT} {Q : am_QT} {l1 : Option Value} : wt am_S0 d mX7_take 24 [some (.ref 3), l1] [] F L Q = Q (some (.int ((F 3 2) + 1))) (am_upF F 3 2 ((F 3 2) + 1)) L := (wt_aload_n dX7_take_24 rfl rfl).trans ((wt_dup dX7_take_25 rfl).trans ((wt_getfield dX7_take_26 rfl rfl (v := .int (F 3 2)) rfl).trans ((wt_iconst dX7_take_29 (v := 1) (by decide)).trans ((wt_iadd dX7_take_30).trans ((wt_putfield dX7_take_31 rfl rfl ⟨rfl, rfl, rfl, rfl⟩).trans ((wt_aload_n dX7_take_34 rfl rfl).trans ((wt_getfield dX7_take_35 rfl rfl (v := .int ((F 3 2) + 1)) (F := am_upF F 3 2 ((F 3 2) + 1)) (p := 3) rfl).trans (wt_ireturn dX7_take_38 rfl rfl))))))))
theorem dX7_findFault_0 : decode mX7_findFault.2.2.1 0 = .ok (.aload_n 0, 1) := by decide +kernel
theorem dX7_findFault_1 : decode mX7_findFault.2.2.1 1 = .ok (.iconst 0, 1) := by decide +kernel
theorem dX7_findFault_2 : decode mX7_findFault.2.2.1 2 = .ok (.putfield 26, 3) := by decide +kernel
theorem dX7_findFault_5 : decode mX7_findFault.2.2.1 5 = .ok (.aload_n 0, 1) := by decide +kernel
theorem dX7_findFault_6 : decode mX7_findFault.2.2.1 6 = .ok (.iconst 0, 1) := by decide +kernel
theorem dX7_findFault_7 : decode mX7_findFault.2.2.1 7 = .ok (.putfield 29, 3) := by decide +kernel
theorem dX7_findFault_10 : decode mX7_findFault.2.2.1 10 = .ok (.iconst 0, 1) := by decide +kernel
theorem dX7_findFault_11 : decode mX7_findFault.2.2.1 11 = .ok (.istore_n 1, 1) := by decide +kernel
theorem dX7_findFault_12 : decode mX7_findFault.2.2.1 12 = .ok (.iload_n 1, 1) := by decide +kernel
theorem dX7_findFault_13 : decode mX7_findFault.2.2.1 13 = .ok (.bipush 120, 2) := by decide +kernel
theorem dX7_findFault_15 : decode mX7_findFault.2.2.1 15 = .ok (.if_icmp .gt 58, 3) := by decide +kernel
theorem dX7_findFault_18 : decode mX7_findFault.2.2.1 18 = .ok (.aload_n 0, 1) := by decide +kernel
theorem dX7_findFault_19 : decode mX7_findFault.2.2.1 19 = .ok (.invokevirtual 32, 3) := by decide +kernel
theorem dX7_findFault_22 : decode mX7_findFault.2.2.1 22 = .ok (.ifCond .ne 8, 3) := by decide +kernel
theorem dX7_findFault_25 : decode mX7_findFault.2.2.1 25 = .ok (.aload_n 0, 1) := by decide +kernel
theorem dX7_findFault_26 : decode mX7_findFault.2.2.1 26 = .ok (.getfield 26, 3) := by decide +kernel
theorem dX7_findFault_29 : decode mX7_findFault.2.2.1 29 = .ok (.ireturn, 1) := by decide +kernel
theorem dX7_findFault_30 : decode mX7_findFault.2.2.1 30 = .ok (.aload_n 0, 1) := by decide +kernel
theorem dX7_findFault_31 : decode mX7_findFault.2.2.1 31 = .ok (.getfield 26, 3) := by decide +kernel
theorem dX7_findFault_34 : decode mX7_findFault.2.2.1 34 = .ok (.aload_n 0, 1) := by decide +kernel
theorem dX7_findFault_35 : decode mX7_findFault.2.2.1 35 = .ok (.getfield 18, 3) := by decide +kernel
theorem dX7_findFault_38 : decode mX7_findFault.2.2.1 38 = .ok (.if_icmp .lt 5, 3) := by decide +kernel
theorem dX7_findFault_41 : decode mX7_findFault.2.2.1 41 = .ok (.iconst (-1), 1) := by decide +kernel
theorem dX7_findFault_42 : decode mX7_findFault.2.2.1 42 = .ok (.ireturn, 1) := by decide +kernel
theorem dX7_findFault_43 : decode mX7_findFault.2.2.1 43 = .ok (.aload_n 0, 1) := by decide +kernel
theorem dX7_findFault_44 : decode mX7_findFault.2.2.1 44 = .ok (.invokevirtual 36, 3) := by decide +kernel
theorem dX7_findFault_47 : decode mX7_findFault.2.2.1 47 = .ok (.bipush 59, 2) := by decide +kernel
theorem dX7_findFault_49 : decode mX7_findFault.2.2.1 49 = .ok (.if_icmp .eq 8, 3) := by decide +kernel
theorem dX7_findFault_52 : decode mX7_findFault.2.2.1 52 = .ok (.aload_n 0, 1) := by decide +kernel
theorem dX7_findFault_53 : decode mX7_findFault.2.2.1 53 = .ok (.getfield 26, 3) := by decide +kernel
theorem dX7_findFault_56 : decode mX7_findFault.2.2.1 56 = .ok (.ireturn, 1) := by decide +kernel
theorem dX7_findFault_57 : decode mX7_findFault.2.2.1 57 = .ok (.aload_n 0, 1) := by decide +kernel
theorem dX7_findFault_58 : decode mX7_findFault.2.2.1 58 = .ok (.dup, 1) := by decide +kernel
theorem dX7_findFault_59 : decode mX7_findFault.2.2.1 59 = .ok (.getfield 26, 3) := by decide +kernel
theorem dX7_findFault_62 : decode mX7_findFault.2.2.1 62 = .ok (.iconst 1, 1) := by decide +kernel
theorem dX7_findFault_63 : decode mX7_findFault.2.2.1 63 = .ok (.iadd, 1) := by decide +kernel
theorem dX7_findFault_64 : decode mX7_findFault.2.2.1 64 = .ok (.putfield 26, 3) := by decide +kernel
theorem dX7_findFault_67 : decode mX7_findFault.2.2.1 67 = .ok (.iinc 1 1, 3) := by decide +kernel
theorem dX7_findFault_70 : decode mX7_findFault.2.2.1 70 = .ok (.goto (-58), 3) := by decide +kernel
theorem dX7_findFault_73 : decode mX7_findFault.2.2.1 73 = .ok (.aload_n 0, 1) := by decide +kernel
theorem dX7_findFault_74 : decode mX7_findFault.2.2.1 74 = .ok (.getfield 26, 3) := by decide +kernel
theorem dX7_findFault_77 : decode mX7_findFault.2.2.1 77 = .ok (.ireturn, 1) := by decide +kernel
set_option maxHeartbeats 100000 in
theorem kX7_findFault_0 {d : Nat} {F : am_FT} {L : am_LT} {Q : am_QT} {l1 : Option Value} : wt am_S0 d mX7_findFault 0 [some (.ref 3), l1] [] F L Q = wt am_S0 d mX7_findFault 12 [some (.ref 3), some (.int 0)] [] (am_upF (am_upF F 3 3 0) 3 4 0) L Q := (wt_aload_n dX7_findFault_0 rfl rfl).trans ((wt_iconst dX7_findFault_1 (v := 0) (by decide)).trans ((wt_putfield dX7_findFault_2 rfl rfl ⟨rfl, rfl, rfl, rfl⟩).trans ((wt_aload_n dX7_findFault_5 rfl rfl).trans ((wt_iconst dX7_findFault_6 (v := 0) (by decide)).trans ((wt_putfield dX7_findFault_7 rfl rfl ⟨rfl, rfl, rfl, rfl⟩).trans ((wt_iconst dX7_findFault_10 (v := 0) (by decide)).trans (wt_istore_n dX7_findFault_11 (lv1 := [some (.ref 3), some (.int 0)]) (Nat.le_of_ble_eq_true rfl) rfl)))))))
set_option maxHeartbeats 100000 in
theorem kX7_findFault_12 {d : Nat} {F : am_FT} {L : am_LT} {Q : am_QT} {l0 : Option Value} {x1 : Int32} : wt am_S0 d mX7_findFault 12 [l0, some (.int x1)] [] F L Q = if 120 < x1 then wt am_S0 d mX7_findFault 73 [l0, some (.int x1)] [] F L Q else wt am_S0 d mX7_findFault 18 [l0, some (.int x1)] [] F L Q := (wt_iload_n dX7_findFault_12 rfl).trans ((wt_bipush dX7_findFault_13 (v := 120) (by decide)).trans (wt_if_icmp_gt dX7_findFault_15 (t := 73) rfl))
set_option maxHeartbeats 100000 in
theorem kX7_findFault_18 {d : Nat} {F : am_FT} {L : am_LT} {Q : am_QT} {l1 : Option Value} : wt am_S0 (d + 1) mX7_findFault 18 [some (.ref 3), l1] [] F L Q = wc am_S0 d mX7_readLine [.ref 3] F L (fun r G K => wt am_S0 (d + 1) mX7_findFault 22 [some (.ref 3), l1] (r.toList ++ []) G K Q) := (wt_aload_n dX7_findFault_18 rfl rfl).trans (wt_callV dX7_findFault_19 rfl (as := []) (rest := []) rfl rfl (Nat.le_of_ble_eq_true rfl) rfl (Nat.le_of_ble_eq_true rfl))
set_option maxHeartbeats 100000 in
theorem kX7_findFault_22 {d : Nat} {F : am_FT} {L : am_LT} {Q : am_QT} {l0 l1 : Option Value} {s0 : Int32} : wt am_S0 d mX7_findFault 22 [l0, l1] [.int s0] F L Q = if ¬ s0 = 0 then wt am_S0 d mX7_findFault 30 [l0, l1] [] F L Q else wt am_S0 d mX7_findFault 25 [l0, l1] [] F L Q := wt_ifCond_ne dX7_findFault_22 (t := 30) rfl
set_option maxHeartbeats 100000 in
theorem kX7_findFault_25 {d : Nat} {F : am_FT} {L : am_LT} {Q : am_QT} {l1 : Option Value} : wt am_S0 d mX7_findFault 25 [some (.ref 3), l1] [] F L Q = Q (some (.int (F 3 3))) F L := (wt_aload_n dX7_findFault_25 rfl rfl).trans ((wt_getfield dX7_findFault_26 rfl rfl (v := .int (F 3 3)) rfl).trans (wt_ireturn dX7_findFault_29 rfl rfl))
set_option maxHeartbeats 100000 in
theorem kX7_findFault_30 {d : Nat} {F : am_FT} {L : am_LT} {Q : am_QT} {l1 : Option Value} : wt am_S0 d mX7_findFault 30 [some (.ref 3), l1] [] F L Q = if (F 3 3) < (F 3 2) then wt am_S0 d mX7_findFault 43 [some (.ref 3), l1] [] F L Q else wt am_S0 d mX7_findFault 41 [some (.ref 3), l1] [] F L Q := (wt_aload_n dX7_findFault_30 rfl rfl).trans ((wt_getfield dX7_findFault_31 rfl rfl (v := .int (F 3 3)) rfl).trans ((wt_aload_n dX7_findFault_34 rfl rfl).trans ((wt_getfield dX7_findFault_35 rfl rfl (v := .int (F 3 2)) rfl).trans (wt_if_icmp_lt dX7_findFault_38 (t := 43) rfl))))
set_option maxHeartbeats 100000 in
theorem kX7_findFault_41 {d : Nat} {F : am_FT} {L : am_LT} {Q : am_QT} {l0 l1 : Option Value} : wt am_S0 d mX7_findFault 41 [l0, l1] [] F L Q = Q (some (.int (-1))) F L := (wt_iconst dX7_findFault_41 (v := (-1)) (by decide)).trans (wt_ireturn dX7_findFault_42 rfl rfl)
set_option maxHeartbeats 100000 in
theorem kX7_findFault_43 {d : Nat} {F : am_FT} {L : am_LT} {Q : am_QT} {l1 : Option Value} : wt am_S0 (d + 1) mX7_findFault 43 [some (.ref 3), l1] [] F L Q = wc am_S0 d mX7_next [.ref 3] F L (fun r G K => wt am_S0 (d + 1) mX7_findFault 47 [some (.ref 3), l1] (r.toList ++ []) G K Q) := (wt_aload_n dX7_findFault_43 rfl rfl).trans (wt_callV dX7_findFault_44 rfl (as := []) (rest := []) rfl rfl (Nat.le_of_ble_eq_true rfl) rfl (Nat.le_of_ble_eq_true rfl))
set_option maxHeartbeats 100000 in
theorem kX7_findFault_47 {d : Nat} {F : am_FT} {L : am_LT} {Q : am_QT} {l0 l1 : Option Value} {s0 : Int32} : wt am_S0 d mX7_findFault 47 [l0, l1] [.int s0] F L Q = if s0 = 59 then wt am_S0 d mX7_findFault 57 [l0, l1] [] F L Q else wt am_S0 d mX7_findFault 52 [l0, l1] [] F L Q := (wt_bipush dX7_findFault_47 (v := 59) (by decide)).trans (wt_if_icmp_eq dX7_findFault_49 (t := 57) rfl)
set_option maxHeartbeats 100000 in
theorem kX7_findFault_52 {d : Nat} {F : am_FT} {L : am_LT} {Q : am_QT} {l1 : Option Value} : wt am_S0 d mX7_findFault 52 [some (.ref 3), l1] [] F L Q = Q (some (.int (F 3 3))) F L := (wt_aload_n dX7_findFault_52 rfl rfl).trans ((wt_getfield dX7_findFault_53 rfl rfl (v := .int (F 3 3)) rfl).trans (wt_ireturn dX7_findFault_56 rfl rfl))
set_option maxHeartbeats 100000 in
theorem kX7_findFault_57 {d : Nat} {F : am_FT} {L : am_LT} {Q : am_QT} {x1 : Int32} : wt am_S0 d mX7_findFault 57 [some (.ref 3), some (.int x1)] [] F L Q = wt am_S0 d mX7_findFault 12 [some (.ref 3), some (.int (x1 + 1))] [] (am_upF F 3 3 ((F 3 3) + 1)) L Q := (wt_aload_n dX7_findFault_57 rfl rfl).trans ((wt_dup dX7_findFault_58 rfl).trans ((wt_getfield dX7_findFault_59 rfl rfl (v := .int (F 3 3)) rfl).trans ((wt_iconst dX7_findFault_62 (v := 1) (by decide)).trans ((wt_iadd dX7_findFault_63).trans ((wt_putfield dX7_findFault_64 rfl rfl ⟨rfl, rfl, rfl, rfl⟩).trans ((wt_iinc dX7_findFault_67 (v := 1) (lv1 := [some (.ref 3), some (.int (x1 + 1))]) rfl (Nat.le_of_ble_eq_true rfl) (by decide) rfl).trans (wt_goto dX7_findFault_70 (t := 12) rfl)))))))
set_option maxHeartbeats 100000 in
theorem kX7_findFault_73 {d : Nat} {F : am_FT} {L : am_LT} {Q : am_QT} {l1 : Option Value} : wt am_S0 d mX7_findFault 73 [some (.ref 3), l1] [] F L Q = Q (some (.int (F 3 3))) F L := (wt_aload_n dX7_findFault_73 rfl rfl).trans ((wt_getfield dX7_findFault_74 rfl rfl (v := .int (F 3 3)) rfl).trans (wt_ireturn dX7_findFault_77 rfl rfl))
theorem dX7_readLine_0 : decode mX7_readLine.2.2.1 0 = .ok (.aload_n 0, 1) := by decide +kernel
theorem dX7_readLine_1 : decode mX7_readLine.2.2.1 1 = .ok (.iconst 0, 1) := by decide +kernel
theorem dX7_readLine_2 : decode mX7_readLine.2.2.1 2 = .ok (.iconst 0, 1) := by decide +kernel
theorem dX7_readLine_3 : decode mX7_readLine.2.2.1 3 = .ok (.invokevirtual 44, 3) := by decide +kernel
theorem dX7_readLine_6 : decode mX7_readLine.2.2.1 6 = .ok (.ifCond .ne 5, 3) := by decide +kernel
theorem dX7_readLine_9 : decode mX7_readLine.2.2.1 9 = .ok (.iconst 0, 1) := by decide +kernel
theorem dX7_readLine_10 : decode mX7_readLine.2.2.1 10 = .ok (.ireturn, 1) := by decide +kernel
theorem dX7_readLine_11 : decode mX7_readLine.2.2.1 11 = .ok (.aload_n 0, 1) := by decide +kernel
theorem dX7_readLine_12 : decode mX7_readLine.2.2.1 12 = .ok (.invokevirtual 36, 3) := by decide +kernel
theorem dX7_readLine_15 : decode mX7_readLine.2.2.1 15 = .ok (.bipush 63, 2) := by decide +kernel
theorem dX7_readLine_17 : decode mX7_readLine.2.2.1 17 = .ok (.if_icmp .ne 30, 3) := by decide +kernel
theorem dX7_readLine_20 : decode mX7_readLine.2.2.1 20 = .ok (.aload_n 0, 1) := by decide +kernel
theorem dX7_readLine_21 : decode mX7_readLine.2.2.1 21 = .ok (.dup, 1) := by decide +kernel
theorem dX7_readLine_22 : decode mX7_readLine.2.2.1 22 = .ok (.getfield 26, 3) := by decide +kernel
theorem dX7_readLine_25 : decode mX7_readLine.2.2.1 25 = .ok (.iconst 1, 1) := by decide +kernel
theorem dX7_readLine_26 : decode mX7_readLine.2.2.1 26 = .ok (.iadd, 1) := by decide +kernel
theorem dX7_readLine_27 : decode mX7_readLine.2.2.1 27 = .ok (.putfield 26, 3) := by decide +kernel
theorem dX7_readLine_30 : decode mX7_readLine.2.2.1 30 = .ok (.aload_n 0, 1) := by decide +kernel
theorem dX7_readLine_31 : decode mX7_readLine.2.2.1 31 = .ok (.bipush 63, 2) := by decide +kernel
theorem dX7_readLine_33 : decode mX7_readLine.2.2.1 33 = .ok (.invokevirtual 48, 3) := by decide +kernel
theorem dX7_readLine_36 : decode mX7_readLine.2.2.1 36 = .ok (.aload_n 0, 1) := by decide +kernel
theorem dX7_readLine_37 : decode mX7_readLine.2.2.1 37 = .ok (.iconst 0, 1) := by decide +kernel
theorem dX7_readLine_38 : decode mX7_readLine.2.2.1 38 = .ok (.iconst 0, 1) := by decide +kernel
theorem dX7_readLine_39 : decode mX7_readLine.2.2.1 39 = .ok (.invokevirtual 44, 3) := by decide +kernel
theorem dX7_readLine_42 : decode mX7_readLine.2.2.1 42 = .ok (.ifCond .ne 5, 3) := by decide +kernel
theorem dX7_readLine_45 : decode mX7_readLine.2.2.1 45 = .ok (.iconst 0, 1) := by decide +kernel
theorem dX7_readLine_46 : decode mX7_readLine.2.2.1 46 = .ok (.ireturn, 1) := by decide +kernel
theorem dX7_readLine_47 : decode mX7_readLine.2.2.1 47 = .ok (.aload_n 0, 1) := by decide +kernel
theorem dX7_readLine_48 : decode mX7_readLine.2.2.1 48 = .ok (.bipush 59, 2) := by decide +kernel
theorem dX7_readLine_50 : decode mX7_readLine.2.2.1 50 = .ok (.invokevirtual 48, 3) := by decide +kernel
theorem dX7_readLine_53 : decode mX7_readLine.2.2.1 53 = .ok (.iconst 1, 1) := by decide +kernel
theorem dX7_readLine_54 : decode mX7_readLine.2.2.1 54 = .ok (.ireturn, 1) := by decide +kernel
set_option maxHeartbeats 100000 in
theorem kX7_readLine_0 {d : Nat} {F : am_FT} {L : am_LT} {Q : am_QT} : wt am_S0 (d + 1) mX7_readLine 0 [some (.ref 3)] [] F L Q = wc am_S0 d mX7_readChain [.ref 3, .int 0, .int 0] F L (fun r G K => wt am_S0 (d + 1) mX7_readLine 6 [some (.ref 3)] (r.toList ++ []) G K Q) := (wt_aload_n dX7_readLine_0 rfl rfl).trans ((wt_iconst dX7_readLine_1 (v := 0) (by decide)).trans ((wt_iconst dX7_readLine_2 (v := 0) (by decide)).trans (wt_callV dX7_readLine_3 rfl (as := [.int 0, .int 0]) (rest := []) rfl rfl (Nat.le_of_ble_eq_true rfl) rfl (Nat.le_of_ble_eq_true rfl))))
set_option maxHeartbeats 100000 in
theorem kX7_readLine_6 {d : Nat} {F : am_FT} {L : am_LT} {Q : am_QT} {l0 : Option Value} {s0 : Int32} : wt am_S0 d mX7_readLine 6 [l0] [.int s0] F L Q = if ¬ s0 = 0 then wt am_S0 d mX7_readLine 11 [l0] [] F L Q else wt am_S0 d mX7_readLine 9 [l0] [] F L Q := wt_ifCond_ne dX7_readLine_6 (t := 11) rfl
set_option maxHeartbeats 100000 in
theorem kX7_readLine_9 {d : Nat} {F : am_FT} {L : am_LT} {Q : am_QT} {l0 : Option Value} : wt am_S0 d mX7_readLine 9 [l0] [] F L Q = Q (some (.int 0)) F L := (wt_iconst dX7_readLine_9 (v := 0) (by decide)).trans (wt_ireturn dX7_readLine_10 rfl (by decide))
set_option maxHeartbeats 100000 in
theorem kX7_readLine_11 {d : Nat} {F : am_FT} {L : am_LT} {Q : am_QT} : wt am_S0 (d + 1) mX7_readLine 11 [some (.ref 3)] [] F L Q = wc am_S0 d mX7_next [.ref 3] F L (fun r G K => wt am_S0 (d + 1) mX7_readLine 15 [some (.ref 3)] (r.toList ++ []) G K Q) := (wt_aload_n dX7_readLine_11 rfl rfl).trans (wt_callV dX7_readLine_12 rfl (as := []) (rest := []) rfl rfl (Nat.le_of_ble_eq_true rfl) rfl (Nat.le_of_ble_eq_true rfl))
set_option maxHeartbeats 100000 in
theorem kX7_readLine_15 {d : Nat} {F : am_FT} {L : am_LT} {Q : am_QT} {l0 : Option Value} {s0 : Int32} : wt am_S0 d mX7_readLine 15 [l0] [.int s0] F L Q = if ¬ s0 = 63 then wt am_S0 d mX7_readLine 47 [l0] [] F L Q else wt am_S0 d mX7_readLine 20 [l0] [] F L Q := (wt_bipush dX7_readLine_15 (v := 63) (by decide)).trans (wt_if_icmp_ne dX7_readLine_17 (t := 47) rfl)
set_option maxHeartbeats 100000 in
theorem kX7_readLine_20 {d : Nat} {F : am_FT} {L : am_LT} {Q : am_QT} : wt am_S0 (d + 1) mX7_readLine 20 [some (.ref 3)] [] F L Q = wc am_S0 d mX7_emit [.ref 3, .int 63] (am_upF F 3 3 ((F 3 3) + 1)) L (fun r G K => wt am_S0 (d + 1) mX7_readLine 36 [some (.ref 3)] (r.toList ++ []) G K Q) := (wt_aload_n dX7_readLine_20 rfl rfl).trans ((wt_dup dX7_readLine_21 rfl).trans ((wt_getfield dX7_readLine_22 rfl rfl (v := .int (F 3 3)) rfl).trans ((wt_iconst dX7_readLine_25 (v := 1) (by decide)).trans ((wt_iadd dX7_readLine_26).trans ((wt_putfield dX7_readLine_27 rfl rfl ⟨rfl, rfl, rfl, rfl⟩).trans ((wt_aload_n dX7_readLine_30 rfl rfl).trans ((wt_bipush dX7_readLine_31 (v := 63) (by decide)).trans (wt_callV dX7_readLine_33 rfl (as := [.int 63]) (rest := []) rfl rfl (Nat.le_of_ble_eq_true rfl) rfl (Nat.le_of_ble_eq_true rfl)))))))))
set_option maxHeartbeats 100000 in
theorem kX7_readLine_36 {d : Nat} {F : am_FT} {L : am_LT} {Q : am_QT} : wt am_S0 (d + 1) mX7_readLine 36 [some (.ref 3)] [] F L Q = wc am_S0 d mX7_readChain [.ref 3, .int 0, .int 0] F L (fun r G K => wt am_S0 (d + 1) mX7_readLine 42 [some (.ref 3)] (r.toList ++ []) G K Q) := (wt_aload_n dX7_readLine_36 rfl rfl).trans ((wt_iconst dX7_readLine_37 (v := 0) (by decide)).trans ((wt_iconst dX7_readLine_38 (v := 0) (by decide)).trans (wt_callV dX7_readLine_39 rfl (as := [.int 0, .int 0]) (rest := []) rfl rfl (Nat.le_of_ble_eq_true rfl) rfl (Nat.le_of_ble_eq_true rfl))))
set_option maxHeartbeats 100000 in
theorem kX7_readLine_42 {d : Nat} {F : am_FT} {L : am_LT} {Q : am_QT} {l0 : Option Value} {s0 : Int32} : wt am_S0 d mX7_readLine 42 [l0] [.int s0] F L Q = if ¬ s0 = 0 then wt am_S0 d mX7_readLine 47 [l0] [] F L Q else wt am_S0 d mX7_readLine 45 [l0] [] F L Q := wt_ifCond_ne dX7_readLine_42 (t := 47) rfl
set_option maxHeartbeats 100000 in
theorem kX7_readLine_45 {d : Nat} {F : am_FT} {L : am_LT} {Q : am_QT} {l0 : Option Value} : wt am_S0 d mX7_readLine 45 [l0] [] F L Q = Q (some (.int 0)) F L := (wt_iconst dX7_readLine_45 (v := 0) (by decide)).trans (wt_ireturn dX7_readLine_46 rfl (by decide))
set_option maxHeartbeats 100000 in
theorem kX7_readLine_47 {d : Nat} {F : am_FT} {L : am_LT} {Q : am_QT} : wt am_S0 (d + 1) mX7_readLine 47 [some (.ref 3)] [] F L Q = wc am_S0 d mX7_emit [.ref 3, .int 59] F L (fun r G K => wt am_S0 (d + 1) mX7_readLine 53 [some (.ref 3)] (r.toList ++ []) G K Q) := (wt_aload_n dX7_readLine_47 rfl rfl).trans ((wt_bipush dX7_readLine_48 (v := 59) (by decide)).trans (wt_callV dX7_readLine_50 rfl (as := [.int 59]) (rest := []) rfl rfl (Nat.le_of_ble_eq_true rfl) rfl (Nat.le_of_ble_eq_true rfl)))
set_option maxHeartbeats 100000 in
theorem kX7_readLine_53 {d : Nat} {F : am_FT} {L : am_LT} {Q : am_QT} {l0 : Option Value} : wt am_S0 d mX7_readLine 53 [l0] [] F L Q = Q (some (.int 1)) F L := (wt_iconst dX7_readLine_53 (v := 1) (by decide)).trans (wt_ireturn dX7_readLine_54 rfl (by decide))
theorem dX7_readChain_0 : decode mX7_readChain.2.2.1 0 = .ok (.iload_n 1, 1) := by decide +kernel
theorem dX7_readChain_1 : decode mX7_readChain.2.2.1 1 = .ok (.iconst 5, 1) := by decide +kernel
theorem dX7_readChain_2 : decode mX7_readChain.2.2.1 2 = .ok (.if_icmp .lt 9, 3) := by decide +kernel
theorem dX7_readChain_5 : decode mX7_readChain.2.2.1 5 = .ok (.aload_n 0, 1) := by decide +kernel
theorem dX7_readChain_6 : decode mX7_readChain.2.2.1 6 = .ok (.iload_n 2, 1) := by decide +kernel
theorem dX7_readChain_7 : decode mX7_readChain.2.2.1 7 = .ok (.invokevirtual 52, 3) := by decide +kernel
theorem dX7_readChain_10 : decode mX7_readChain.2.2.1 10 = .ok (.ireturn, 1) := by decide +kernel
theorem dX7_readChain_11 : decode mX7_readChain.2.2.1 11 = .ok (.aload_n 0, 1) := by decide +kernel
theorem dX7_readChain_12 : decode mX7_readChain.2.2.1 12 = .ok (.iload_n 1, 1) := by decide +kernel
theorem dX7_readChain_13 : decode mX7_readChain.2.2.1 13 = .ok (.iconst 1, 1) := by decide +kernel
theorem dX7_readChain_14 : decode mX7_readChain.2.2.1 14 = .ok (.iadd, 1) := by decide +kernel
theorem dX7_readChain_15 : decode mX7_readChain.2.2.1 15 = .ok (.iload_n 2, 1) := by decide +kernel
theorem dX7_readChain_16 : decode mX7_readChain.2.2.1 16 = .ok (.invokevirtual 44, 3) := by decide +kernel
theorem dX7_readChain_19 : decode mX7_readChain.2.2.1 19 = .ok (.ifCond .ne 5, 3) := by decide +kernel
theorem dX7_readChain_22 : decode mX7_readChain.2.2.1 22 = .ok (.iconst 0, 1) := by decide +kernel
theorem dX7_readChain_23 : decode mX7_readChain.2.2.1 23 = .ok (.ireturn, 1) := by decide +kernel
theorem dX7_readChain_24 : decode mX7_readChain.2.2.1 24 = .ok (.iconst 0, 1) := by decide +kernel
theorem dX7_readChain_25 : decode mX7_readChain.2.2.1 25 = .ok (.istore_n 3, 1) := by decide +kernel
theorem dX7_readChain_26 : decode mX7_readChain.2.2.1 26 = .ok (.iload_n 3, 1) := by decide +kernel
theorem dX7_readChain_27 : decode mX7_readChain.2.2.1 27 = .ok (.bipush 120, 2) := by decide +kernel
theorem dX7_readChain_29 : decode mX7_readChain.2.2.1 29 = .ok (.if_icmp .ge 62, 3) := by decide +kernel
theorem dX7_readChain_32 : decode mX7_readChain.2.2.1 32 = .ok (.aload_n 0, 1) := by decide +kernel
theorem dX7_readChain_33 : decode mX7_readChain.2.2.1 33 = .ok (.invokevirtual 36, 3) := by decide +kernel
theorem dX7_readChain_36 : decode mX7_readChain.2.2.1 36 = .ok (.istore 4, 2) := by decide +kernel
theorem dX7_readChain_38 : decode mX7_readChain.2.2.1 38 = .ok (.iload 4, 2) := by decide +kernel
theorem dX7_readChain_40 : decode mX7_readChain.2.2.1 40 = .ok (.invokestatic 56, 3) := by decide +kernel
theorem dX7_readChain_43 : decode mX7_readChain.2.2.1 43 = .ok (.iload_n 1, 1) := by decide +kernel
theorem dX7_readChain_44 : decode mX7_readChain.2.2.1 44 = .ok (.if_icmp .eq 5, 3) := by decide +kernel
theorem dX7_readChain_47 : decode mX7_readChain.2.2.1 47 = .ok (.iconst 1, 1) := by decide +kernel
theorem dX7_readChain_48 : decode mX7_readChain.2.2.1 48 = .ok (.ireturn, 1) := by decide +kernel
theorem dX7_readChain_49 : decode mX7_readChain.2.2.1 49 = .ok (.aload_n 0, 1) := by decide +kernel
theorem dX7_readChain_50 : decode mX7_readChain.2.2.1 50 = .ok (.dup, 1) := by decide +kernel
theorem dX7_readChain_51 : decode mX7_readChain.2.2.1 51 = .ok (.getfield 26, 3) := by decide +kernel
theorem dX7_readChain_54 : decode mX7_readChain.2.2.1 54 = .ok (.iconst 1, 1) := by decide +kernel
theorem dX7_readChain_55 : decode mX7_readChain.2.2.1 55 = .ok (.iadd, 1) := by decide +kernel
theorem dX7_readChain_56 : decode mX7_readChain.2.2.1 56 = .ok (.putfield 26, 3) := by decide +kernel
theorem dX7_readChain_59 : decode mX7_readChain.2.2.1 59 = .ok (.aload_n 0, 1) := by decide +kernel
theorem dX7_readChain_60 : decode mX7_readChain.2.2.1 60 = .ok (.iload_n 1, 1) := by decide +kernel
theorem dX7_readChain_61 : decode mX7_readChain.2.2.1 61 = .ok (.iconst 1, 1) := by decide +kernel
theorem dX7_readChain_62 : decode mX7_readChain.2.2.1 62 = .ok (.iadd, 1) := by decide +kernel
theorem dX7_readChain_63 : decode mX7_readChain.2.2.1 63 = .ok (.iload_n 2, 1) := by decide +kernel
theorem dX7_readChain_64 : decode mX7_readChain.2.2.1 64 = .ok (.invokevirtual 44, 3) := by decide +kernel
theorem dX7_readChain_67 : decode mX7_readChain.2.2.1 67 = .ok (.ifCond .ne 5, 3) := by decide +kernel
theorem dX7_readChain_70 : decode mX7_readChain.2.2.1 70 = .ok (.iconst 0, 1) := by decide +kernel
theorem dX7_readChain_71 : decode mX7_readChain.2.2.1 71 = .ok (.ireturn, 1) := by decide +kernel
theorem dX7_readChain_72 : decode mX7_readChain.2.2.1 72 = .ok (.aload_n 0, 1) := by decide +kernel
theorem dX7_readChain_73 : decode mX7_readChain.2.2.1 73 = .ok (.iload 4, 2) := by decide +kernel
theorem dX7_readChain_75 : decode mX7_readChain.2.2.1 75 = .ok (.invokevirtual 48, 3) := by decide +kernel
theorem dX7_readChain_78 : decode mX7_readChain.2.2.1 78 = .ok (.iload_n 1, 1) := by decide +kernel
theorem dX7_readChain_79 : decode mX7_readChain.2.2.1 79 = .ok (.iconst 2, 1) := by decide +kernel
theorem dX7_readChain_80 : decode mX7_readChain.2.2.1 80 = .ok (.if_icmp .ne 5, 3) := by decide +kernel
theorem dX7_readChain_83 : decode mX7_readChain.2.2.1 83 = .ok (.iconst 1, 1) := by decide +kernel
theorem dX7_readChain_84 : decode mX7_readChain.2.2.1 84 = .ok (.ireturn, 1) := by decide +kernel
theorem dX7_readChain_85 : decode mX7_readChain.2.2.1 85 = .ok (.iinc 3 1, 3) := by decide +kernel
theorem dX7_readChain_88 : decode mX7_readChain.2.2.1 88 = .ok (.goto (-62), 3) := by decide +kernel
theorem dX7_readChain_91 : decode mX7_readChain.2.2.1 91 = .ok (.iconst 1, 1) := by decide +kernel
theorem dX7_readChain_92 : decode mX7_readChain.2.2.1 92 = .ok (.ireturn, 1) := by decide +kernel
set_option maxHeartbeats 100000 in
theorem kX7_readChain_0 {d : Nat} {F : am_FT} {L : am_LT} {Q : am_QT} {l0 l2 l3 l4 : Option Value} {x1 : Int32} : wt am_S0 d mX7_readChain 0 [l0, some (.int x1), l2, l3, l4] [] F L Q = if x1 < 5 then wt am_S0 d mX7_readChain 11 [l0, some (.int x1), l2, l3, l4] [] F L Q else wt am_S0 d mX7_readChain 5 [l0, some (.int x1), l2, l3, l4] [] F L Q := (wt_iload_n dX7_readChain_0 rfl).trans ((wt_iconst dX7_readChain_1 (v := 5) (by decide)).trans (wt_if_icmp_lt dX7_readChain_2 (t := 11) rfl))
set_option maxHeartbeats 100000 in
theorem kX7_readChain_5 {d : Nat} {F : am_FT} {L : am_LT} {Q : am_QT} {l1 l3 l4 : Option Value} {x2 : Int32} : wt am_S0 (d + 1) mX7_readChain 5 [some (.ref 3), l1, some (.int x2), l3, l4] [] F L Q = wc am_S0 d mX7_readOperand [.ref 3, .int x2] F L (fun r G K => wt am_S0 (d + 1) mX7_readChain 10 [some (.ref 3), l1, some (.int x2), l3, l4] (r.toList ++ []) G K Q) := (wt_aload_n dX7_readChain_5 rfl rfl).trans ((wt_iload_n dX7_readChain_6 rfl).trans (wt_callV dX7_readChain_7 rfl (as := [.int x2]) (rest := []) rfl rfl (Nat.le_of_ble_eq_true rfl) rfl (Nat.le_of_ble_eq_true rfl)))
set_option maxHeartbeats 100000 in
theorem kX7_readChain_10 {d : Nat} {F : am_FT} {L : am_LT} {Q : am_QT} {l0 l1 l2 l3 l4 : Option Value} {s0 : Int32} (h1 : narrow .boolean (.int s0) = .int s0) : wt am_S0 d mX7_readChain 10 [l0, l1, l2, l3, l4] [.int s0] F L Q = Q (some (.int s0)) F L := wt_ireturn dX7_readChain_10 rfl h1
set_option maxHeartbeats 100000 in
theorem kX7_readChain_11 {d : Nat} {F : am_FT} {L : am_LT} {Q : am_QT} {l3 l4 : Option Value} {x1 x2 : Int32} : wt am_S0 (d + 1) mX7_readChain 11 [some (.ref 3), some (.int x1), some (.int x2), l3, l4] [] F L Q = wc am_S0 d mX7_readChain [.ref 3, .int (x1 + 1), .int x2] F L (fun r G K => wt am_S0 (d + 1) mX7_readChain 19 [some (.ref 3), some (.int x1), some (.int x2), l3, l4] (r.toList ++ []) G K Q) := (wt_aload_n dX7_readChain_11 rfl rfl).trans ((wt_iload_n dX7_readChain_12 rfl).trans ((wt_iconst dX7_readChain_13 (v := 1) (by decide)).trans ((wt_iadd dX7_readChain_14).trans ((wt_iload_n dX7_readChain_15 rfl).trans (wt_callV dX7_readChain_16 rfl (as := [.int (x1 + 1), .int x2]) (rest := []) rfl rfl (Nat.le_of_ble_eq_true rfl) rfl (Nat.le_of_ble_eq_true rfl))))))
set_option maxHeartbeats 100000 in
theorem kX7_readChain_19 {d : Nat} {F : am_FT} {L : am_LT} {Q : am_QT} {l0 l1 l2 l3 l4 : Option Value} {s0 : Int32} : wt am_S0 d mX7_readChain 19 [l0, l1, l2, l3, l4] [.int s0] F L Q = if ¬ s0 = 0 then wt am_S0 d mX7_readChain 24 [l0, l1, l2, l3, l4] [] F L Q else wt am_S0 d mX7_readChain 22 [l0, l1, l2, l3, l4] [] F L Q := wt_ifCond_ne dX7_readChain_19 (t := 24) rfl
set_option maxHeartbeats 100000 in
theorem kX7_readChain_22 {d : Nat} {F : am_FT} {L : am_LT} {Q : am_QT} {l0 l1 l2 l3 l4 : Option Value} : wt am_S0 d mX7_readChain 22 [l0, l1, l2, l3, l4] [] F L Q = Q (some (.int 0)) F L := (wt_iconst dX7_readChain_22 (v := 0) (by decide)).trans (wt_ireturn dX7_readChain_23 rfl (by decide))
set_option maxHeartbeats 100000 in
theorem kX7_readChain_24 {d : Nat} {F : am_FT} {L : am_LT} {Q : am_QT} {l0 l1 l3 l4 : Option Value} {x2 : Int32} : wt am_S0 d mX7_readChain 24 [l0, l1, some (.int x2), l3, l4] [] F L Q = wt am_S0 d mX7_readChain 26 [l0, l1, some (.int x2), some (.int 0), l4] [] F L Q := (wt_iconst dX7_readChain_24 (v := 0) (by decide)).trans (wt_istore_n dX7_readChain_25 (lv1 := [l0, l1, some (.int x2), some (.int 0), l4]) (Nat.le_of_ble_eq_true rfl) rfl)
set_option maxHeartbeats 100000 in
theorem kX7_readChain_26 {d : Nat} {F : am_FT} {L : am_LT} {Q : am_QT} {l0 l1 l2 l4 : Option Value} {x3 : Int32} : wt am_S0 d mX7_readChain 26 [l0, l1, l2, some (.int x3), l4] [] F L Q = if 120 ≤ x3 then wt am_S0 d mX7_readChain 91 [l0, l1, l2, some (.int x3), l4] [] F L Q else wt am_S0 d mX7_readChain 32 [l0, l1, l2, some (.int x3), l4] [] F L Q := (wt_iload_n dX7_readChain_26 rfl).trans ((wt_bipush dX7_readChain_27 (v := 120) (by decide)).trans (wt_if_icmp_ge dX7_readChain_29 (t := 91) rfl))
set_option maxHeartbeats 100000 in
theorem kX7_readChain_32 {d : Nat} {F : am_FT} {L : am_LT} {Q : am_QT} {l1 l2 l3 l4 : Option Value} : wt am_S0 (d + 1) mX7_readChain 32 [some (.ref 3), l1, l2, l3, l4] [] F L Q = wc am_S0 d mX7_next [.ref 3] F L (fun r G K => wt am_S0 (d + 1) mX7_readChain 36 [some (.ref 3), l1, l2, l3, l4] (r.toList ++ []) G K Q) := (wt_aload_n dX7_readChain_32 rfl rfl).trans (wt_callV dX7_readChain_33 rfl (as := []) (rest := []) rfl rfl (Nat.le_of_ble_eq_true rfl) rfl (Nat.le_of_ble_eq_true rfl))
set_option maxHeartbeats 100000 in
theorem kX7_readChain_36 {d : Nat} {F : am_FT} {L : am_LT} {Q : am_QT} {l0 l1 l2 l4 : Option Value} {s0 x3 : Int32} : wt am_S0 (d + 1) mX7_readChain 36 [l0, l1, l2, some (.int x3), l4] [.int s0] F L Q = wc am_S0 d mX7_levelOf [.int s0] F L (fun r G K => wt am_S0 (d + 1) mX7_readChain 43 [l0, l1, l2, some (.int x3), some (.int s0)] (r.toList ++ []) G K Q) := (wt_istore dX7_readChain_36 (lv1 := [l0, l1, l2, some (.int x3), some (.int s0)]) (Nat.le_of_ble_eq_true rfl) rfl).trans ((wt_iload dX7_readChain_38 rfl).trans (wt_callS dX7_readChain_40 rfl (as := [.int s0]) (rest := []) rfl rfl (Nat.le_of_ble_eq_true rfl) (Nat.le_of_ble_eq_true rfl)))
set_option maxHeartbeats 100000 in
theorem kX7_readChain_43 {d : Nat} {F : am_FT} {L : am_LT} {Q : am_QT} {l0 l2 l3 l4 : Option Value} {s0 x1 : Int32} : wt am_S0 d mX7_readChain 43 [l0, some (.int x1), l2, l3, l4] [.int s0] F L Q = if s0 = x1 then wt am_S0 d mX7_readChain 49 [l0, some (.int x1), l2, l3, l4] [] F L Q else wt am_S0 d mX7_readChain 47 [l0, some (.int x1), l2, l3, l4] [] F L Q := (wt_iload_n dX7_readChain_43 rfl).trans (wt_if_icmp_eq dX7_readChain_44 (t := 49) rfl)
set_option maxHeartbeats 100000 in
theorem kX7_readChain_47 {d : Nat} {F : am_FT} {L : am_LT} {Q : am_QT} {l0 l1 l2 l3 l4 : Option Value} : wt am_S0 d mX7_readChain 47 [l0, l1, l2, l3, l4] [] F L Q = Q (some (.int 1)) F L := (wt_iconst dX7_readChain_47 (v := 1) (by decide)).trans (wt_ireturn dX7_readChain_48 rfl (by decide))
set_option maxHeartbeats 100000 in
theorem kX7_readChain_49 {d : Nat} {F : am_FT} {L : am_LT} {Q : am_QT} {l3 l4 : Option Value} {x1 x2 : Int32} : wt am_S0 (d + 1) mX7_readChain 49 [some (.ref 3), some (.int x1), some (.int x2), l3, l4] [] F L Q = wc am_S0 d mX7_readChain [.ref 3, .int (x1 + 1), .int x2] (am_upF F 3 3 ((F 3 3) + 1)) L (fun r G K => wt am_S0 (d + 1) mX7_readChain 67 [some (.ref 3), some (.int x1), some (.int x2), l3, l4] (r.toList ++ []) G K Q) := (wt_aload_n dX7_readChain_49 rfl rfl).trans ((wt_dup dX7_readChain_50 rfl).trans ((wt_getfield dX7_readChain_51 rfl rfl (v := .int (F 3 3)) rfl).trans ((wt_iconst dX7_readChain_54 (v := 1) (by decide)).trans ((wt_iadd dX7_readChain_55).trans ((wt_putfield dX7_readChain_56 rfl rfl ⟨rfl, rfl, rfl, rfl⟩).trans ((wt_aload_n dX7_readChain_59 rfl rfl).trans ((wt_iload_n dX7_readChain_60 rfl).trans ((wt_iconst dX7_readChain_61 (v := 1) (by decide)).trans ((wt_iadd dX7_readChain_62).trans ((wt_iload_n dX7_readChain_63 rfl).trans (wt_callV dX7_readChain_64 rfl (as := [.int (x1 + 1), .int x2]) (rest := []) rfl rfl (Nat.le_of_ble_eq_true rfl) rfl (Nat.le_of_ble_eq_true rfl))))))))))))
set_option maxHeartbeats 100000 in
theorem kX7_readChain_67 {d : Nat} {F : am_FT} {L : am_LT} {Q : am_QT} {l0 l1 l2 l3 l4 : Option Value} {s0 : Int32} : wt am_S0 d mX7_readChain 67 [l0, l1, l2, l3, l4] [.int s0] F L Q = if ¬ s0 = 0 then wt am_S0 d mX7_readChain 72 [l0, l1, l2, l3, l4] [] F L Q else wt am_S0 d mX7_readChain 70 [l0, l1, l2, l3, l4] [] F L Q := wt_ifCond_ne dX7_readChain_67 (t := 72) rfl
set_option maxHeartbeats 100000 in
theorem kX7_readChain_70 {d : Nat} {F : am_FT} {L : am_LT} {Q : am_QT} {l0 l1 l2 l3 l4 : Option Value} : wt am_S0 d mX7_readChain 70 [l0, l1, l2, l3, l4] [] F L Q = Q (some (.int 0)) F L := (wt_iconst dX7_readChain_70 (v := 0) (by decide)).trans (wt_ireturn dX7_readChain_71 rfl (by decide))
set_option maxHeartbeats 100000 in
theorem kX7_readChain_72 {d : Nat} {F : am_FT} {L : am_LT} {Q : am_QT} {l1 l2 l3 : Option Value} {x4 : Int32} : wt am_S0 (d + 1) mX7_readChain 72 [some (.ref 3), l1, l2, l3, some (.int x4)] [] F L Q = wc am_S0 d mX7_emit [.ref 3, .int x4] F L (fun r G K => wt am_S0 (d + 1) mX7_readChain 78 [some (.ref 3), l1, l2, l3, some (.int x4)] (r.toList ++ []) G K Q) := (wt_aload_n dX7_readChain_72 rfl rfl).trans ((wt_iload dX7_readChain_73 rfl).trans (wt_callV dX7_readChain_75 rfl (as := [.int x4]) (rest := []) rfl rfl (Nat.le_of_ble_eq_true rfl) rfl (Nat.le_of_ble_eq_true rfl)))
set_option maxHeartbeats 100000 in
theorem kX7_readChain_78 {d : Nat} {F : am_FT} {L : am_LT} {Q : am_QT} {l0 l2 l3 l4 : Option Value} {x1 : Int32} : wt am_S0 d mX7_readChain 78 [l0, some (.int x1), l2, l3, l4] [] F L Q = if ¬ x1 = 2 then wt am_S0 d mX7_readChain 85 [l0, some (.int x1), l2, l3, l4] [] F L Q else wt am_S0 d mX7_readChain 83 [l0, some (.int x1), l2, l3, l4] [] F L Q := (wt_iload_n dX7_readChain_78 rfl).trans ((wt_iconst dX7_readChain_79 (v := 2) (by decide)).trans (wt_if_icmp_ne dX7_readChain_80 (t := 85) rfl))
set_option maxHeartbeats 100000 in
theorem kX7_readChain_83 {d : Nat} {F : am_FT} {L : am_LT} {Q : am_QT} {l0 l1 l2 l3 l4 : Option Value} : wt am_S0 d mX7_readChain 83 [l0, l1, l2, l3, l4] [] F L Q = Q (some (.int 1)) F L := (wt_iconst dX7_readChain_83 (v := 1) (by decide)).trans (wt_ireturn dX7_readChain_84 rfl (by decide))
set_option maxHeartbeats 100000 in
theorem kX7_readChain_85 {d : Nat} {F : am_FT} {L : am_LT} {Q : am_QT} {l0 l1 l4 : Option Value} {x3 x2 : Int32} : wt am_S0 d mX7_readChain 85 [l0, l1, some (.int x2), some (.int x3), l4] [] F L Q = wt am_S0 d mX7_readChain 26 [l0, l1, some (.int x2), some (.int (x3 + 1)), l4] [] F L Q := (wt_iinc dX7_readChain_85 (v := 1) (lv1 := [l0, l1, some (.int x2), some (.int (x3 + 1)), l4]) rfl (Nat.le_of_ble_eq_true rfl) (by decide) rfl).trans (wt_goto dX7_readChain_88 (t := 26) rfl)
set_option maxHeartbeats 100000 in
theorem kX7_readChain_91 {d : Nat} {F : am_FT} {L : am_LT} {Q : am_QT} {l0 l1 l2 l3 l4 : Option Value} : wt am_S0 d mX7_readChain 91 [l0, l1, l2, l3, l4] [] F L Q = Q (some (.int 1)) F L := (wt_iconst dX7_readChain_91 (v := 1) (by decide)).trans (wt_ireturn dX7_readChain_92 rfl (by decide))
theorem dX7_readOperand_0 : decode mX7_readOperand.2.2.1 0 = .ok (.aload_n 0, 1) := by decide +kernel
theorem dX7_readOperand_1 : decode mX7_readOperand.2.2.1 1 = .ok (.invokevirtual 36, 3) := by decide +kernel
theorem dX7_readOperand_4 : decode mX7_readOperand.2.2.1 4 = .ok (.istore_n 2, 1) := by decide +kernel
theorem dX7_readOperand_5 : decode mX7_readOperand.2.2.1 5 = .ok (.iload_n 2, 1) := by decide +kernel
theorem dX7_readOperand_6 : decode mX7_readOperand.2.2.1 6 = .ok (.bipush 48, 2) := by decide +kernel
theorem dX7_readOperand_8 : decode mX7_readOperand.2.2.1 8 = .ok (.bipush 57, 2) := by decide +kernel
theorem dX7_readOperand_10 : decode mX7_readOperand.2.2.1 10 = .ok (.invokestatic 60, 3) := by decide +kernel
theorem dX7_readOperand_13 : decode mX7_readOperand.2.2.1 13 = .ok (.ifCond .eq 8, 3) := by decide +kernel
theorem dX7_readOperand_16 : decode mX7_readOperand.2.2.1 16 = .ok (.aload_n 0, 1) := by decide +kernel
theorem dX7_readOperand_17 : decode mX7_readOperand.2.2.1 17 = .ok (.invokevirtual 64, 3) := by decide +kernel
theorem dX7_readOperand_20 : decode mX7_readOperand.2.2.1 20 = .ok (.ireturn, 1) := by decide +kernel
theorem dX7_readOperand_21 : decode mX7_readOperand.2.2.1 21 = .ok (.iload_n 2, 1) := by decide +kernel
theorem dX7_readOperand_22 : decode mX7_readOperand.2.2.1 22 = .ok (.invokestatic 67, 3) := by decide +kernel
theorem dX7_readOperand_25 : decode mX7_readOperand.2.2.1 25 = .ok (.ifCond .eq 20, 3) := by decide +kernel
theorem dX7_readOperand_28 : decode mX7_readOperand.2.2.1 28 = .ok (.aload_n 0, 1) := by decide +kernel
theorem dX7_readOperand_29 : decode mX7_readOperand.2.2.1 29 = .ok (.dup, 1) := by decide +kernel
theorem dX7_readOperand_30 : decode mX7_readOperand.2.2.1 30 = .ok (.getfield 26, 3) := by decide +kernel
theorem dX7_readOperand_33 : decode mX7_readOperand.2.2.1 33 = .ok (.iconst 1, 1) := by decide +kernel
theorem dX7_readOperand_34 : decode mX7_readOperand.2.2.1 34 = .ok (.iadd, 1) := by decide +kernel
theorem dX7_readOperand_35 : decode mX7_readOperand.2.2.1 35 = .ok (.putfield 26, 3) := by decide +kernel
theorem dX7_readOperand_38 : decode mX7_readOperand.2.2.1 38 = .ok (.aload_n 0, 1) := by decide +kernel
theorem dX7_readOperand_39 : decode mX7_readOperand.2.2.1 39 = .ok (.iload_n 2, 1) := by decide +kernel
theorem dX7_readOperand_40 : decode mX7_readOperand.2.2.1 40 = .ok (.invokevirtual 48, 3) := by decide +kernel
theorem dX7_readOperand_43 : decode mX7_readOperand.2.2.1 43 = .ok (.iconst 1, 1) := by decide +kernel
theorem dX7_readOperand_44 : decode mX7_readOperand.2.2.1 44 = .ok (.ireturn, 1) := by decide +kernel
theorem dX7_readOperand_45 : decode mX7_readOperand.2.2.1 45 = .ok (.iload_n 1, 1) := by decide +kernel
theorem dX7_readOperand_46 : decode mX7_readOperand.2.2.1 46 = .ok (.bipush 6, 2) := by decide +kernel
theorem dX7_readOperand_48 : decode mX7_readOperand.2.2.1 48 = .ok (.if_icmp .lt 5, 3) := by decide +kernel
theorem dX7_readOperand_51 : decode mX7_readOperand.2.2.1 51 = .ok (.iconst 0, 1) := by decide +kernel
theorem dX7_readOperand_52 : decode mX7_readOperand.2.2.1 52 = .ok (.ireturn, 1) := by decide +kernel
theorem dX7_readOperand_53 : decode mX7_readOperand.2.2.1 53 = .ok (.iload_n 2, 1) := by decide +kernel
theorem dX7_readOperand_54 : decode mX7_readOperand.2.2.1 54 = .ok (.bipush 33, 2) := by decide +kernel
theorem dX7_readOperand_56 : decode mX7_readOperand.2.2.1 56 = .ok (.if_icmp .eq 9, 3) := by decide +kernel
theorem dX7_readOperand_59 : decode mX7_readOperand.2.2.1 59 = .ok (.iload_n 2, 1) := by decide +kernel
theorem dX7_readOperand_60 : decode mX7_readOperand.2.2.1 60 = .ok (.bipush 45, 2) := by decide +kernel
theorem dX7_readOperand_62 : decode mX7_readOperand.2.2.1 62 = .ok (.if_icmp .ne 45, 3) := by decide +kernel
theorem dX7_readOperand_65 : decode mX7_readOperand.2.2.1 65 = .ok (.aload_n 0, 1) := by decide +kernel
theorem dX7_readOperand_66 : decode mX7_readOperand.2.2.1 66 = .ok (.dup, 1) := by decide +kernel
theorem dX7_readOperand_67 : decode mX7_readOperand.2.2.1 67 = .ok (.getfield 26, 3) := by decide +kernel
theorem dX7_readOperand_70 : decode mX7_readOperand.2.2.1 70 = .ok (.iconst 1, 1) := by decide +kernel
theorem dX7_readOperand_71 : decode mX7_readOperand.2.2.1 71 = .ok (.iadd, 1) := by decide +kernel
theorem dX7_readOperand_72 : decode mX7_readOperand.2.2.1 72 = .ok (.putfield 26, 3) := by decide +kernel
theorem dX7_readOperand_75 : decode mX7_readOperand.2.2.1 75 = .ok (.aload_n 0, 1) := by decide +kernel
theorem dX7_readOperand_76 : decode mX7_readOperand.2.2.1 76 = .ok (.iload_n 1, 1) := by decide +kernel
theorem dX7_readOperand_77 : decode mX7_readOperand.2.2.1 77 = .ok (.iconst 1, 1) := by decide +kernel
theorem dX7_readOperand_78 : decode mX7_readOperand.2.2.1 78 = .ok (.iadd, 1) := by decide +kernel
theorem dX7_readOperand_79 : decode mX7_readOperand.2.2.1 79 = .ok (.invokevirtual 52, 3) := by decide +kernel
theorem dX7_readOperand_82 : decode mX7_readOperand.2.2.1 82 = .ok (.ifCond .ne 5, 3) := by decide +kernel
theorem dX7_readOperand_85 : decode mX7_readOperand.2.2.1 85 = .ok (.iconst 0, 1) := by decide +kernel
theorem dX7_readOperand_86 : decode mX7_readOperand.2.2.1 86 = .ok (.ireturn, 1) := by decide +kernel
theorem dX7_readOperand_87 : decode mX7_readOperand.2.2.1 87 = .ok (.aload_n 0, 1) := by decide +kernel
theorem dX7_readOperand_88 : decode mX7_readOperand.2.2.1 88 = .ok (.iload_n 2, 1) := by decide +kernel
theorem dX7_readOperand_89 : decode mX7_readOperand.2.2.1 89 = .ok (.bipush 33, 2) := by decide +kernel
theorem dX7_readOperand_91 : decode mX7_readOperand.2.2.1 91 = .ok (.if_icmp .ne 8, 3) := by decide +kernel
theorem dX7_readOperand_94 : decode mX7_readOperand.2.2.1 94 = .ok (.bipush 33, 2) := by decide +kernel
theorem dX7_readOperand_96 : decode mX7_readOperand.2.2.1 96 = .ok (.goto 6, 3) := by decide +kernel
theorem dX7_readOperand_99 : decode mX7_readOperand.2.2.1 99 = .ok (.sipush 256, 3) := by decide +kernel
theorem dX7_readOperand_102 : decode mX7_readOperand.2.2.1 102 = .ok (.invokevirtual 48, 3) := by decide +kernel
theorem dX7_readOperand_105 : decode mX7_readOperand.2.2.1 105 = .ok (.iconst 1, 1) := by decide +kernel
theorem dX7_readOperand_106 : decode mX7_readOperand.2.2.1 106 = .ok (.ireturn, 1) := by decide +kernel
theorem dX7_readOperand_107 : decode mX7_readOperand.2.2.1 107 = .ok (.iload_n 2, 1) := by decide +kernel
theorem dX7_readOperand_108 : decode mX7_readOperand.2.2.1 108 = .ok (.bipush 40, 2) := by decide +kernel
theorem dX7_readOperand_110 : decode mX7_readOperand.2.2.1 110 = .ok (.if_icmp .eq 5, 3) := by decide +kernel
theorem dX7_readOperand_113 : decode mX7_readOperand.2.2.1 113 = .ok (.iconst 0, 1) := by decide +kernel
theorem dX7_readOperand_114 : decode mX7_readOperand.2.2.1 114 = .ok (.ireturn, 1) := by decide +kernel
theorem dX7_readOperand_115 : decode mX7_readOperand.2.2.1 115 = .ok (.aload_n 0, 1) := by decide +kernel
theorem dX7_readOperand_116 : decode mX7_readOperand.2.2.1 116 = .ok (.dup, 1) := by decide +kernel
theorem dX7_readOperand_117 : decode mX7_readOperand.2.2.1 117 = .ok (.getfield 26, 3) := by decide +kernel
theorem dX7_readOperand_120 : decode mX7_readOperand.2.2.1 120 = .ok (.iconst 1, 1) := by decide +kernel
theorem dX7_readOperand_121 : decode mX7_readOperand.2.2.1 121 = .ok (.iadd, 1) := by decide +kernel
theorem dX7_readOperand_122 : decode mX7_readOperand.2.2.1 122 = .ok (.putfield 26, 3) := by decide +kernel
theorem dX7_readOperand_125 : decode mX7_readOperand.2.2.1 125 = .ok (.aload_n 0, 1) := by decide +kernel
theorem dX7_readOperand_126 : decode mX7_readOperand.2.2.1 126 = .ok (.iconst 0, 1) := by decide +kernel
theorem dX7_readOperand_127 : decode mX7_readOperand.2.2.1 127 = .ok (.iload_n 1, 1) := by decide +kernel
theorem dX7_readOperand_128 : decode mX7_readOperand.2.2.1 128 = .ok (.iconst 1, 1) := by decide +kernel
theorem dX7_readOperand_129 : decode mX7_readOperand.2.2.1 129 = .ok (.iadd, 1) := by decide +kernel
theorem dX7_readOperand_130 : decode mX7_readOperand.2.2.1 130 = .ok (.invokevirtual 44, 3) := by decide +kernel
theorem dX7_readOperand_133 : decode mX7_readOperand.2.2.1 133 = .ok (.ifCond .eq 12, 3) := by decide +kernel
theorem dX7_readOperand_136 : decode mX7_readOperand.2.2.1 136 = .ok (.aload_n 0, 1) := by decide +kernel
theorem dX7_readOperand_137 : decode mX7_readOperand.2.2.1 137 = .ok (.invokevirtual 36, 3) := by decide +kernel
theorem dX7_readOperand_140 : decode mX7_readOperand.2.2.1 140 = .ok (.bipush 41, 2) := by decide +kernel
theorem dX7_readOperand_142 : decode mX7_readOperand.2.2.1 142 = .ok (.if_icmp .eq 5, 3) := by decide +kernel
theorem dX7_readOperand_145 : decode mX7_readOperand.2.2.1 145 = .ok (.iconst 0, 1) := by decide +kernel
theorem dX7_readOperand_146 : decode mX7_readOperand.2.2.1 146 = .ok (.ireturn, 1) := by decide +kernel
theorem dX7_readOperand_147 : decode mX7_readOperand.2.2.1 147 = .ok (.aload_n 0, 1) := by decide +kernel
theorem dX7_readOperand_148 : decode mX7_readOperand.2.2.1 148 = .ok (.dup, 1) := by decide +kernel
theorem dX7_readOperand_149 : decode mX7_readOperand.2.2.1 149 = .ok (.getfield 26, 3) := by decide +kernel
theorem dX7_readOperand_152 : decode mX7_readOperand.2.2.1 152 = .ok (.iconst 1, 1) := by decide +kernel
theorem dX7_readOperand_153 : decode mX7_readOperand.2.2.1 153 = .ok (.iadd, 1) := by decide +kernel
theorem dX7_readOperand_154 : decode mX7_readOperand.2.2.1 154 = .ok (.putfield 26, 3) := by decide +kernel
theorem dX7_readOperand_157 : decode mX7_readOperand.2.2.1 157 = .ok (.iconst 1, 1) := by decide +kernel
theorem dX7_readOperand_158 : decode mX7_readOperand.2.2.1 158 = .ok (.ireturn, 1) := by decide +kernel
set_option maxHeartbeats 100000 in
theorem kX7_readOperand_0 {d : Nat} {F : am_FT} {L : am_LT} {Q : am_QT} {l1 l2 : Option Value} : wt am_S0 (d + 1) mX7_readOperand 0 [some (.ref 3), l1, l2] [] F L Q = wc am_S0 d mX7_next [.ref 3] F L (fun r G K => wt am_S0 (d + 1) mX7_readOperand 4 [some (.ref 3), l1, l2] (r.toList ++ []) G K Q) := (wt_aload_n dX7_readOperand_0 rfl rfl).trans (wt_callV dX7_readOperand_1 rfl (as := []) (rest := []) rfl rfl (Nat.le_of_ble_eq_true rfl) rfl (Nat.le_of_ble_eq_true rfl))
set_option maxHeartbeats 100000 in
theorem kX7_readOperand_4 {d : Nat} {F : am_FT} {L : am_LT} {Q : am_QT} {l0 l2 : Option Value} {s0 x1 : Int32} : wt am_S0 (d + 1) mX7_readOperand 4 [l0, some (.int x1), l2] [.int s0] F L Q = wc am_S0 d mX11_within [.int s0, .int 48, .int 57] F L (fun r G K => wt am_S0 (d + 1) mX7_readOperand 13 [l0, some (.int x1), some (.int s0)] (r.toList ++ []) G K Q) := (wt_istore_n dX7_readOperand_4 (lv1 := [l0, some (.int x1), some (.int s0)]) (Nat.le_of_ble_eq_true rfl) rfl).trans ((wt_iload_n dX7_readOperand_5 rfl).trans ((wt_bipush dX7_readOperand_6 (v := 48) (by decide)).trans ((wt_bipush dX7_readOperand_8 (v := 57) (by decide)).trans (wt_callS dX7_readOperand_10 rfl (as := [.int s0, .int 48, .int 57]) (rest := []) rfl rfl (Nat.le_of_ble_eq_true rfl) (Nat.le_of_ble_eq_true rfl)))))
set_option maxHeartbeats 100000 in
theorem kX7_readOperand_13 {d : Nat} {F : am_FT} {L : am_LT} {Q : am_QT} {l0 l1 l2 : Option Value} {s0 : Int32} : wt am_S0 d mX7_readOperand 13 [l0, l1, l2] [.int s0] F L Q = if s0 = 0 then wt am_S0 d mX7_readOperand 21 [l0, l1, l2] [] F L Q else wt am_S0 d mX7_readOperand 16 [l0, l1, l2] [] F L Q := wt_ifCond_eq dX7_readOperand_13 (t := 21) rfl
set_option maxHeartbeats 100000 in
theorem kX7_readOperand_16 {d : Nat} {F : am_FT} {L : am_LT} {Q : am_QT} {l1 l2 : Option Value} : wt am_S0 (d + 1) mX7_readOperand 16 [some (.ref 3), l1, l2] [] F L Q = wc am_S0 d mX7_readNumber [.ref 3] F L (fun r G K => wt am_S0 (d + 1) mX7_readOperand 20 [some (.ref 3), l1, l2] (r.toList ++ []) G K Q) := (wt_aload_n dX7_readOperand_16 rfl rfl).trans (wt_callV dX7_readOperand_17 rfl (as := []) (rest := []) rfl rfl (Nat.le_of_ble_eq_true rfl) rfl (Nat.le_of_ble_eq_true rfl))
set_option maxHeartbeats 100000 in
theorem kX7_readOperand_20 {d : Nat} {F : am_FT} {L : am_LT} {Q : am_QT} {l0 l1 l2 : Option Value} {s0 : Int32} (h1 : narrow .boolean (.int s0) = .int s0) : wt am_S0 d mX7_readOperand 20 [l0, l1, l2] [.int s0] F L Q = Q (some (.int s0)) F L := wt_ireturn dX7_readOperand_20 rfl h1
set_option maxHeartbeats 100000 in
theorem kX7_readOperand_21 {d : Nat} {F : am_FT} {L : am_LT} {Q : am_QT} {l0 l1 : Option Value} {x2 : Int32} : wt am_S0 (d + 1) mX7_readOperand 21 [l0, l1, some (.int x2)] [] F L Q = wc am_S0 d mX7_isName [.int x2] F L (fun r G K => wt am_S0 (d + 1) mX7_readOperand 25 [l0, l1, some (.int x2)] (r.toList ++ []) G K Q) := (wt_iload_n dX7_readOperand_21 rfl).trans (wt_callS dX7_readOperand_22 rfl (as := [.int x2]) (rest := []) rfl rfl (Nat.le_of_ble_eq_true rfl) (Nat.le_of_ble_eq_true rfl))
set_option maxHeartbeats 100000 in
theorem kX7_readOperand_25 {d : Nat} {F : am_FT} {L : am_LT} {Q : am_QT} {l0 l1 l2 : Option Value} {s0 : Int32} : wt am_S0 d mX7_readOperand 25 [l0, l1, l2] [.int s0] F L Q = if s0 = 0 then wt am_S0 d mX7_readOperand 45 [l0, l1, l2] [] F L Q else wt am_S0 d mX7_readOperand 28 [l0, l1, l2] [] F L Q := wt_ifCond_eq dX7_readOperand_25 (t := 45) rfl
set_option maxHeartbeats 100000 in
theorem kX7_readOperand_28 {d : Nat} {F : am_FT} {L : am_LT} {Q : am_QT} {l1 : Option Value} {x2 : Int32} : wt am_S0 (d + 1) mX7_readOperand 28 [some (.ref 3), l1, some (.int x2)] [] F L Q = wc am_S0 d mX7_emit [.ref 3, .int x2] (am_upF F 3 3 ((F 3 3) + 1)) L (fun r G K => wt am_S0 (d + 1) mX7_readOperand 43 [some (.ref 3), l1, some (.int x2)] (r.toList ++ []) G K Q) := (wt_aload_n dX7_readOperand_28 rfl rfl).trans ((wt_dup dX7_readOperand_29 rfl).trans ((wt_getfield dX7_readOperand_30 rfl rfl (v := .int (F 3 3)) rfl).trans ((wt_iconst dX7_readOperand_33 (v := 1) (by decide)).trans ((wt_iadd dX7_readOperand_34).trans ((wt_putfield dX7_readOperand_35 rfl rfl ⟨rfl, rfl, rfl, rfl⟩).trans ((wt_aload_n dX7_readOperand_38 rfl rfl).trans ((wt_iload_n dX7_readOperand_39 rfl).trans (wt_callV dX7_readOperand_40 rfl (as := [.int x2]) (rest := []) rfl rfl (Nat.le_of_ble_eq_true rfl) rfl (Nat.le_of_ble_eq_true rfl)))))))))
set_option maxHeartbeats 100000 in
theorem kX7_readOperand_43 {d : Nat} {F : am_FT} {L : am_LT} {Q : am_QT} {l0 l1 l2 : Option Value} : wt am_S0 d mX7_readOperand 43 [l0, l1, l2] [] F L Q = Q (some (.int 1)) F L := (wt_iconst dX7_readOperand_43 (v := 1) (by decide)).trans (wt_ireturn dX7_readOperand_44 rfl (by decide))
set_option maxHeartbeats 100000 in
theorem kX7_readOperand_45 {d : Nat} {F : am_FT} {L : am_LT} {Q : am_QT} {l0 l2 : Option Value} {x1 : Int32} : wt am_S0 d mX7_readOperand 45 [l0, some (.int x1), l2] [] F L Q = if x1 < 6 then wt am_S0 d mX7_readOperand 53 [l0, some (.int x1), l2] [] F L Q else wt am_S0 d mX7_readOperand 51 [l0, some (.int x1), l2] [] F L Q := (wt_iload_n dX7_readOperand_45 rfl).trans ((wt_bipush dX7_readOperand_46 (v := 6) (by decide)).trans (wt_if_icmp_lt dX7_readOperand_48 (t := 53) rfl))
set_option maxHeartbeats 100000 in
theorem kX7_readOperand_51 {d : Nat} {F : am_FT} {L : am_LT} {Q : am_QT} {l0 l1 l2 : Option Value} : wt am_S0 d mX7_readOperand 51 [l0, l1, l2] [] F L Q = Q (some (.int 0)) F L := (wt_iconst dX7_readOperand_51 (v := 0) (by decide)).trans (wt_ireturn dX7_readOperand_52 rfl (by decide))
set_option maxHeartbeats 100000 in
theorem kX7_readOperand_53 {d : Nat} {F : am_FT} {L : am_LT} {Q : am_QT} {l0 l1 : Option Value} {x2 : Int32} : wt am_S0 d mX7_readOperand 53 [l0, l1, some (.int x2)] [] F L Q = if x2 = 33 then wt am_S0 d mX7_readOperand 65 [l0, l1, some (.int x2)] [] F L Q else wt am_S0 d mX7_readOperand 59 [l0, l1, some (.int x2)] [] F L Q := (wt_iload_n dX7_readOperand_53 rfl).trans ((wt_bipush dX7_readOperand_54 (v := 33) (by decide)).trans (wt_if_icmp_eq dX7_readOperand_56 (t := 65) rfl))
set_option maxHeartbeats 100000 in
theorem kX7_readOperand_59 {d : Nat} {F : am_FT} {L : am_LT} {Q : am_QT} {l0 l1 : Option Value} {x2 : Int32} : wt am_S0 d mX7_readOperand 59 [l0, l1, some (.int x2)] [] F L Q = if ¬ x2 = 45 then wt am_S0 d mX7_readOperand 107 [l0, l1, some (.int x2)] [] F L Q else wt am_S0 d mX7_readOperand 65 [l0, l1, some (.int x2)] [] F L Q := (wt_iload_n dX7_readOperand_59 rfl).trans ((wt_bipush dX7_readOperand_60 (v := 45) (by decide)).trans (wt_if_icmp_ne dX7_readOperand_62 (t := 107) rfl))
set_option maxHeartbeats 100000 in
theorem kX7_readOperand_65 {d : Nat} {F : am_FT} {L : am_LT} {Q : am_QT} {l2 : Option Value} {x1 : Int32} : wt am_S0 (d + 1) mX7_readOperand 65 [some (.ref 3), some (.int x1), l2] [] F L Q = wc am_S0 d mX7_readOperand [.ref 3, .int (x1 + 1)] (am_upF F 3 3 ((F 3 3) + 1)) L (fun r G K => wt am_S0 (d + 1) mX7_readOperand 82 [some (.ref 3), some (.int x1), l2] (r.toList ++ []) G K Q) := (wt_aload_n dX7_readOperand_65 rfl rfl).trans ((wt_dup dX7_readOperand_66 rfl).trans ((wt_getfield dX7_readOperand_67 rfl rfl (v := .int (F 3 3)) rfl).trans ((wt_iconst dX7_readOperand_70 (v := 1) (by decide)).trans ((wt_iadd dX7_readOperand_71).trans ((wt_putfield dX7_readOperand_72 rfl rfl ⟨rfl, rfl, rfl, rfl⟩).trans ((wt_aload_n dX7_readOperand_75 rfl rfl).trans ((wt_iload_n dX7_readOperand_76 rfl).trans ((wt_iconst dX7_readOperand_77 (v := 1) (by decide)).trans ((wt_iadd dX7_readOperand_78).trans (wt_callV dX7_readOperand_79 rfl (as := [.int (x1 + 1)]) (rest := []) rfl rfl (Nat.le_of_ble_eq_true rfl) rfl (Nat.le_of_ble_eq_true rfl)))))))))))
set_option maxHeartbeats 100000 in
theorem kX7_readOperand_82 {d : Nat} {F : am_FT} {L : am_LT} {Q : am_QT} {l0 l1 l2 : Option Value} {s0 : Int32} : wt am_S0 d mX7_readOperand 82 [l0, l1, l2] [.int s0] F L Q = if ¬ s0 = 0 then wt am_S0 d mX7_readOperand 87 [l0, l1, l2] [] F L Q else wt am_S0 d mX7_readOperand 85 [l0, l1, l2] [] F L Q := wt_ifCond_ne dX7_readOperand_82 (t := 87) rfl
set_option maxHeartbeats 100000 in
theorem kX7_readOperand_85 {d : Nat} {F : am_FT} {L : am_LT} {Q : am_QT} {l0 l1 l2 : Option Value} : wt am_S0 d mX7_readOperand 85 [l0, l1, l2] [] F L Q = Q (some (.int 0)) F L := (wt_iconst dX7_readOperand_85 (v := 0) (by decide)).trans (wt_ireturn dX7_readOperand_86 rfl (by decide))
set_option maxHeartbeats 100000 in
theorem kX7_readOperand_87 {d : Nat} {F : am_FT} {L : am_LT} {Q : am_QT} {l1 : Option Value} {x2 : Int32} : wt am_S0 d mX7_readOperand 87 [some (.ref 3), l1, some (.int x2)] [] F L Q = if ¬ x2 = 33 then wt am_S0 d mX7_readOperand 99 [some (.ref 3), l1, some (.int x2)] [.ref 3] F L Q else wt am_S0 d mX7_readOperand 94 [some (.ref 3), l1, some (.int x2)] [.ref 3] F L Q := (wt_aload_n dX7_readOperand_87 rfl rfl).trans ((wt_iload_n dX7_readOperand_88 rfl).trans ((wt_bipush dX7_readOperand_89 (v := 33) (by decide)).trans (wt_if_icmp_ne dX7_readOperand_91 (t := 99) rfl)))
set_option maxHeartbeats 100000 in
theorem kX7_readOperand_94 {d : Nat} {F : am_FT} {L : am_LT} {Q : am_QT} {l0 l1 l2 : Option Value} : wt am_S0 d mX7_readOperand 94 [l0, l1, l2] [.ref 3] F L Q = wt am_S0 d mX7_readOperand 102 [l0, l1, l2] [.int 33, .ref 3] F L Q := (wt_bipush dX7_readOperand_94 (v := 33) (by decide)).trans (wt_goto dX7_readOperand_96 (t := 102) rfl)
set_option maxHeartbeats 100000 in
theorem kX7_readOperand_99 {d : Nat} {F : am_FT} {L : am_LT} {Q : am_QT} {l0 l1 l2 : Option Value} : wt am_S0 d mX7_readOperand 99 [l0, l1, l2] [.ref 3] F L Q = wt am_S0 d mX7_readOperand 102 [l0, l1, l2] [.int 256, .ref 3] F L Q := wt_sipush dX7_readOperand_99 (v := 256) (by decide)
set_option maxHeartbeats 100000 in
theorem kX7_readOperand_102 {d : Nat} {F : am_FT} {L : am_LT} {Q : am_QT} {l0 l1 l2 : Option Value} {s1 : Int32} : wt am_S0 (d + 1) mX7_readOperand 102 [l0, l1, l2] [.int s1, .ref 3] F L Q = wc am_S0 d mX7_emit [.ref 3, .int s1] F L (fun r G K => wt am_S0 (d + 1) mX7_readOperand 105 [l0, l1, l2] (r.toList ++ []) G K Q) := wt_callV dX7_readOperand_102 rfl (as := [.int s1]) (rest := []) rfl rfl (Nat.le_of_ble_eq_true rfl) rfl (Nat.le_of_ble_eq_true rfl)
set_option maxHeartbeats 100000 in
theorem kX7_readOperand_105 {d : Nat} {F : am_FT} {L : am_LT} {Q : am_QT} {l0 l1 l2 : Option Value} : wt am_S0 d mX7_readOperand 105 [l0, l1, l2] [] F L Q = Q (some (.int 1)) F L := (wt_iconst dX7_readOperand_105 (v := 1) (by decide)).trans (wt_ireturn dX7_readOperand_106 rfl (by decide))
set_option maxHeartbeats 100000 in
theorem kX7_readOperand_107 {d : Nat} {F : am_FT} {L : am_LT} {Q : am_QT} {l0 l1 : Option Value} {x2 : Int32} : wt am_S0 d mX7_readOperand 107 [l0, l1, some (.int x2)] [] F L Q = if x2 = 40 then wt am_S0 d mX7_readOperand 115 [l0, l1, some (.int x2)] [] F L Q else wt am_S0 d mX7_readOperand 113 [l0, l1, some (.int x2)] [] F L Q := (wt_iload_n dX7_readOperand_107 rfl).trans ((wt_bipush dX7_readOperand_108 (v := 40) (by decide)).trans (wt_if_icmp_eq dX7_readOperand_110 (t := 115) rfl))
set_option maxHeartbeats 100000 in
theorem kX7_readOperand_113 {d : Nat} {F : am_FT} {L : am_LT} {Q : am_QT} {l0 l1 l2 : Option Value} : wt am_S0 d mX7_readOperand 113 [l0, l1, l2] [] F L Q = Q (some (.int 0)) F L := (wt_iconst dX7_readOperand_113 (v := 0) (by decide)).trans (wt_ireturn dX7_readOperand_114 rfl (by decide))
set_option maxHeartbeats 100000 in
theorem kX7_readOperand_115 {d : Nat} {F : am_FT} {L : am_LT} {Q : am_QT} {l2 : Option Value} {x1 : Int32} : wt am_S0 (d + 1) mX7_readOperand 115 [some (.ref 3), some (.int x1), l2] [] F L Q = wc am_S0 d mX7_readChain [.ref 3, .int 0, .int (x1 + 1)] (am_upF F 3 3 ((F 3 3) + 1)) L (fun r G K => wt am_S0 (d + 1) mX7_readOperand 133 [some (.ref 3), some (.int x1), l2] (r.toList ++ []) G K Q) := (wt_aload_n dX7_readOperand_115 rfl rfl).trans ((wt_dup dX7_readOperand_116 rfl).trans ((wt_getfield dX7_readOperand_117 rfl rfl (v := .int (F 3 3)) rfl).trans ((wt_iconst dX7_readOperand_120 (v := 1) (by decide)).trans ((wt_iadd dX7_readOperand_121).trans ((wt_putfield dX7_readOperand_122 rfl rfl ⟨rfl, rfl, rfl, rfl⟩).trans ((wt_aload_n dX7_readOperand_125 rfl rfl).trans ((wt_iconst dX7_readOperand_126 (v := 0) (by decide)).trans ((wt_iload_n dX7_readOperand_127 rfl).trans ((wt_iconst dX7_readOperand_128 (v := 1) (by decide)).trans ((wt_iadd dX7_readOperand_129).trans (wt_callV dX7_readOperand_130 rfl (as := [.int 0, .int (x1 + 1)]) (rest := []) rfl rfl (Nat.le_of_ble_eq_true rfl) rfl (Nat.le_of_ble_eq_true rfl))))))))))))
set_option maxHeartbeats 100000 in
theorem kX7_readOperand_133 {d : Nat} {F : am_FT} {L : am_LT} {Q : am_QT} {l0 l1 l2 : Option Value} {s0 : Int32} : wt am_S0 d mX7_readOperand 133 [l0, l1, l2] [.int s0] F L Q = if s0 = 0 then wt am_S0 d mX7_readOperand 145 [l0, l1, l2] [] F L Q else wt am_S0 d mX7_readOperand 136 [l0, l1, l2] [] F L Q := wt_ifCond_eq dX7_readOperand_133 (t := 145) rfl
set_option maxHeartbeats 100000 in
theorem kX7_readOperand_136 {d : Nat} {F : am_FT} {L : am_LT} {Q : am_QT} {l1 l2 : Option Value} : wt am_S0 (d + 1) mX7_readOperand 136 [some (.ref 3), l1, l2] [] F L Q = wc am_S0 d mX7_next [.ref 3] F L (fun r G K => wt am_S0 (d + 1) mX7_readOperand 140 [some (.ref 3), l1, l2] (r.toList ++ []) G K Q) := (wt_aload_n dX7_readOperand_136 rfl rfl).trans (wt_callV dX7_readOperand_137 rfl (as := []) (rest := []) rfl rfl (Nat.le_of_ble_eq_true rfl) rfl (Nat.le_of_ble_eq_true rfl))
set_option maxHeartbeats 100000 in
theorem kX7_readOperand_140 {d : Nat} {F : am_FT} {L : am_LT} {Q : am_QT} {l0 l1 l2 : Option Value} {s0 : Int32} : wt am_S0 d mX7_readOperand 140 [l0, l1, l2] [.int s0] F L Q = if s0 = 41 then wt am_S0 d mX7_readOperand 147 [l0, l1, l2] [] F L Q else wt am_S0 d mX7_readOperand 145 [l0, l1, l2] [] F L Q := (wt_bipush dX7_readOperand_140 (v := 41) (by decide)).trans (wt_if_icmp_eq dX7_readOperand_142 (t := 147) rfl)
set_option maxHeartbeats 100000 in
theorem kX7_readOperand_145 {d : Nat} {F : am_FT} {L : am_LT} {Q : am_QT} {l0 l1 l2 : Option Value} : wt am_S0 d mX7_readOperand 145 [l0, l1, l2] [] F L Q = Q (some (.int 0)) F L := (wt_iconst dX7_readOperand_145 (v := 0) (by decide)).trans (wt_ireturn dX7_readOperand_146 rfl (by decide))
set_option maxHeartbeats 100000 in
theorem kX7_readOperand_147 {d : Nat} {F : am_FT} {L : am_LT} {Q : am_QT} {l1 l2 : Option Value} : wt am_S0 d mX7_readOperand 147 [some (.ref 3), l1, l2] [] F L Q = Q (some (.int 1)) (am_upF F 3 3 ((F 3 3) + 1)) L := (wt_aload_n dX7_readOperand_147 rfl rfl).trans ((wt_dup dX7_readOperand_148 rfl).trans ((wt_getfield dX7_readOperand_149 rfl rfl (v := .int (F 3 3)) rfl).trans ((wt_iconst dX7_readOperand_152 (v := 1) (by decide)).trans ((wt_iadd dX7_readOperand_153).trans ((wt_putfield dX7_readOperand_154 rfl rfl ⟨rfl, rfl, rfl, rfl⟩).trans ((wt_iconst dX7_readOperand_157 (v := 1) (by decide)).trans (wt_ireturn dX7_readOperand_158 rfl (by decide))))))))
theorem dX7_next_0 : decode mX7_next.2.2.1 0 = .ok (.aload_n 0, 1) := by decide +kernel
theorem dX7_next_1 : decode mX7_next.2.2.1 1 = .ok (.getfield 26, 3) := by decide +kernel
theorem dX7_next_4 : decode mX7_next.2.2.1 4 = .ok (.aload_n 0, 1) := by decide +kernel
theorem dX7_next_5 : decode mX7_next.2.2.1 5 = .ok (.getfield 18, 3) := by decide +kernel
theorem dX7_next_8 : decode mX7_next.2.2.1 8 = .ok (.if_icmp .ge 17, 3) := by decide +kernel
theorem dX7_next_11 : decode mX7_next.2.2.1 11 = .ok (.aload_n 0, 1) := by decide +kernel
theorem dX7_next_12 : decode mX7_next.2.2.1 12 = .ok (.getfield 11, 3) := by decide +kernel
theorem dX7_next_15 : decode mX7_next.2.2.1 15 = .ok (.aload_n 0, 1) := by decide +kernel
theorem dX7_next_16 : decode mX7_next.2.2.1 16 = .ok (.getfield 26, 3) := by decide +kernel
theorem dX7_next_19 : decode mX7_next.2.2.1 19 = .ok (.invokestatic 40, 3) := by decide +kernel
theorem dX7_next_22 : decode mX7_next.2.2.1 22 = .ok (.goto 4, 3) := by decide +kernel
theorem dX7_next_25 : decode mX7_next.2.2.1 25 = .ok (.iconst (-1), 1) := by decide +kernel
theorem dX7_next_26 : decode mX7_next.2.2.1 26 = .ok (.ireturn, 1) := by decide +kernel
set_option maxHeartbeats 100000 in
theorem kX7_next_0 {d : Nat} {F : am_FT} {L : am_LT} {Q : am_QT} : wt am_S0 d mX7_next 0 [some (.ref 3)] [] F L Q = if (F 3 2) ≤ (F 3 3) then wt am_S0 d mX7_next 25 [some (.ref 3)] [] F L Q else wt am_S0 d mX7_next 11 [some (.ref 3)] [] F L Q := (wt_aload_n dX7_next_0 rfl rfl).trans ((wt_getfield dX7_next_1 rfl rfl (v := .int (F 3 3)) rfl).trans ((wt_aload_n dX7_next_4 rfl rfl).trans ((wt_getfield dX7_next_5 rfl rfl (v := .int (F 3 2)) rfl).trans (wt_if_icmp_ge dX7_next_8 (t := 25) rfl))))
set_option maxHeartbeats 100000 in
theorem kX7_next_11 {d : Nat} {F : am_FT} {L : am_LT} {Q : am_QT} : wt am_S0 (d + 1) mX7_next 11 [some (.ref 3)] [] F L Q = wc am_S0 d mX11_at [.ref 4, .int (F 3 3)] F L (fun r G K => wt am_S0 (d + 1) mX7_next 22 [some (.ref 3)] (r.toList ++ []) G K Q) := (wt_aload_n dX7_next_11 rfl rfl).trans ((wt_getfield dX7_next_12 rfl rfl (v := .ref 4) rfl).trans ((wt_aload_n dX7_next_15 rfl rfl).trans ((wt_getfield dX7_next_16 rfl rfl (v := .int (F 3 3)) rfl).trans (wt_callS dX7_next_19 rfl (as := [.ref 4, .int (F 3 3)]) (rest := []) rfl rfl (Nat.le_of_ble_eq_true rfl) (Nat.le_of_ble_eq_true rfl)))))
set_option maxHeartbeats 100000 in
theorem kX7_next_22 {d : Nat} {F : am_FT} {L : am_LT} {Q : am_QT} {l0 : Option Value} {s0 : Int32} : wt am_S0 d mX7_next 22 [l0] [.int s0] F L Q = wt am_S0 d mX7_next 26 [l0] [.int s0] F L Q := wt_goto dX7_next_22 (t := 26) rfl
set_option maxHeartbeats 100000 in
theorem kX7_next_25 {d : Nat} {F : am_FT} {L : am_LT} {Q : am_QT} {l0 : Option Value} : wt am_S0 d mX7_next 25 [l0] [] F L Q = wt am_S0 d mX7_next 26 [l0] [.int (-1)] F L Q := wt_iconst dX7_next_25 (v := (-1)) (by decide)
set_option maxHeartbeats 100000 in
theorem kX7_next_26 {d : Nat} {F : am_FT} {L : am_LT} {Q : am_QT} {l0 : Option Value} {s0 : Int32} : wt am_S0 d mX7_next 26 [l0] [.int s0] F L Q = Q (some (.int s0)) F L := wt_ireturn dX7_next_26 rfl rfl
theorem dX7_readNumber_0 : decode mX7_readNumber.2.2.1 0 = .ok (.iconst 0, 1) := by decide +kernel
theorem dX7_readNumber_1 : decode mX7_readNumber.2.2.1 1 = .ok (.istore_n 1, 1) := by decide +kernel
theorem dX7_readNumber_2 : decode mX7_readNumber.2.2.1 2 = .ok (.iconst 0, 1) := by decide +kernel
theorem dX7_readNumber_3 : decode mX7_readNumber.2.2.1 3 = .ok (.istore_n 2, 1) := by decide +kernel
theorem dX7_readNumber_4 : decode mX7_readNumber.2.2.1 4 = .ok (.iload_n 2, 1) := by decide +kernel
theorem dX7_readNumber_5 : decode mX7_readNumber.2.2.1 5 = .ok (.iconst 4, 1) := by decide +kernel
theorem dX7_readNumber_6 : decode mX7_readNumber.2.2.1 6 = .ok (.if_icmp .ge 46, 3) := by decide +kernel
theorem dX7_readNumber_9 : decode mX7_readNumber.2.2.1 9 = .ok (.aload_n 0, 1) := by decide +kernel
theorem dX7_readNumber_10 : decode mX7_readNumber.2.2.1 10 = .ok (.invokevirtual 36, 3) := by decide +kernel
theorem dX7_readNumber_13 : decode mX7_readNumber.2.2.1 13 = .ok (.bipush 48, 2) := by decide +kernel
theorem dX7_readNumber_15 : decode mX7_readNumber.2.2.1 15 = .ok (.bipush 57, 2) := by decide +kernel
theorem dX7_readNumber_17 : decode mX7_readNumber.2.2.1 17 = .ok (.invokestatic 60, 3) := by decide +kernel
theorem dX7_readNumber_20 : decode mX7_readNumber.2.2.1 20 = .ok (.ifCond .eq 32, 3) := by decide +kernel
theorem dX7_readNumber_23 : decode mX7_readNumber.2.2.1 23 = .ok (.iload_n 1, 1) := by decide +kernel
theorem dX7_readNumber_24 : decode mX7_readNumber.2.2.1 24 = .ok (.bipush 10, 2) := by decide +kernel
theorem dX7_readNumber_26 : decode mX7_readNumber.2.2.1 26 = .ok (.imul, 1) := by decide +kernel
theorem dX7_readNumber_27 : decode mX7_readNumber.2.2.1 27 = .ok (.aload_n 0, 1) := by decide +kernel
theorem dX7_readNumber_28 : decode mX7_readNumber.2.2.1 28 = .ok (.invokevirtual 36, 3) := by decide +kernel
theorem dX7_readNumber_31 : decode mX7_readNumber.2.2.1 31 = .ok (.iadd, 1) := by decide +kernel
theorem dX7_readNumber_32 : decode mX7_readNumber.2.2.1 32 = .ok (.bipush 48, 2) := by decide +kernel
theorem dX7_readNumber_34 : decode mX7_readNumber.2.2.1 34 = .ok (.isub, 1) := by decide +kernel
theorem dX7_readNumber_35 : decode mX7_readNumber.2.2.1 35 = .ok (.istore_n 1, 1) := by decide +kernel
theorem dX7_readNumber_36 : decode mX7_readNumber.2.2.1 36 = .ok (.aload_n 0, 1) := by decide +kernel
theorem dX7_readNumber_37 : decode mX7_readNumber.2.2.1 37 = .ok (.dup, 1) := by decide +kernel
theorem dX7_readNumber_38 : decode mX7_readNumber.2.2.1 38 = .ok (.getfield 26, 3) := by decide +kernel
theorem dX7_readNumber_41 : decode mX7_readNumber.2.2.1 41 = .ok (.iconst 1, 1) := by decide +kernel
theorem dX7_readNumber_42 : decode mX7_readNumber.2.2.1 42 = .ok (.iadd, 1) := by decide +kernel
theorem dX7_readNumber_43 : decode mX7_readNumber.2.2.1 43 = .ok (.putfield 26, 3) := by decide +kernel
theorem dX7_readNumber_46 : decode mX7_readNumber.2.2.1 46 = .ok (.iinc 2 1, 3) := by decide +kernel
theorem dX7_readNumber_49 : decode mX7_readNumber.2.2.1 49 = .ok (.goto (-45), 3) := by decide +kernel
theorem dX7_readNumber_52 : decode mX7_readNumber.2.2.1 52 = .ok (.aload_n 0, 1) := by decide +kernel
theorem dX7_readNumber_53 : decode mX7_readNumber.2.2.1 53 = .ok (.sipush 1000, 3) := by decide +kernel
theorem dX7_readNumber_56 : decode mX7_readNumber.2.2.1 56 = .ok (.iload_n 1, 1) := by decide +kernel
theorem dX7_readNumber_57 : decode mX7_readNumber.2.2.1 57 = .ok (.iadd, 1) := by decide +kernel
theorem dX7_readNumber_58 : decode mX7_readNumber.2.2.1 58 = .ok (.invokevirtual 48, 3) := by decide +kernel
theorem dX7_readNumber_61 : decode mX7_readNumber.2.2.1 61 = .ok (.iconst 1, 1) := by decide +kernel
theorem dX7_readNumber_62 : decode mX7_readNumber.2.2.1 62 = .ok (.ireturn, 1) := by decide +kernel
set_option maxHeartbeats 100000 in
theorem kX7_readNumber_0 {d : Nat} {F : am_FT} {L : am_LT} {Q : am_QT} {l1 l2 : Option Value} : wt am_S0 d mX7_readNumber 0 [some (.ref 3), l1, l2] [] F L Q = wt am_S0 d mX7_readNumber 4 [some (.ref 3), some (.int 0), some (.int 0)] [] F L Q := (wt_iconst dX7_readNumber_0 (v := 0) (by decide)).trans ((wt_istore_n dX7_readNumber_1 (lv1 := [some (.ref 3), some (.int 0), l2]) (Nat.le_of_ble_eq_true rfl) rfl).trans ((wt_iconst dX7_readNumber_2 (v := 0) (by decide)).trans (wt_istore_n dX7_readNumber_3 (lv1 := [some (.ref 3), some (.int 0), some (.int 0)]) (Nat.le_of_ble_eq_true rfl) rfl)))
set_option maxHeartbeats 100000 in
theorem kX7_readNumber_4 {d : Nat} {F : am_FT} {L : am_LT} {Q : am_QT} {l0 l1 : Option Value} {x2 : Int32} : wt am_S0 d mX7_readNumber 4 [l0, l1, some (.int x2)] [] F L Q = if 4 ≤ x2 then wt am_S0 d mX7_readNumber 52 [l0, l1, some (.int x2)] [] F L Q else wt am_S0 d mX7_readNumber 9 [l0, l1, some (.int x2)] [] F L Q := (wt_iload_n dX7_readNumber_4 rfl).trans ((wt_iconst dX7_readNumber_5 (v := 4) (by decide)).trans (wt_if_icmp_ge dX7_readNumber_6 (t := 52) rfl))
set_option maxHeartbeats 100000 in
theorem kX7_readNumber_9 {d : Nat} {F : am_FT} {L : am_LT} {Q : am_QT} {l1 l2 : Option Value} : wt am_S0 (d + 1) mX7_readNumber 9 [some (.ref 3), l1, l2] [] F L Q = wc am_S0 d mX7_next [.ref 3] F L (fun r G K => wt am_S0 (d + 1) mX7_readNumber 13 [some (.ref 3), l1, l2] (r.toList ++ []) G K Q) := (wt_aload_n dX7_readNumber_9 rfl rfl).trans (wt_callV dX7_readNumber_10 rfl (as := []) (rest := []) rfl rfl (Nat.le_of_ble_eq_true rfl) rfl (Nat.le_of_ble_eq_true rfl))
set_option maxHeartbeats 100000 in
theorem kX7_readNumber_13 {d : Nat} {F : am_FT} {L : am_LT} {Q : am_QT} {l0 l1 l2 : Option Value} {s0 : Int32} : wt am_S0 (d + 1) mX7_readNumber 13 [l0, l1, l2] [.int s0] F L Q = wc am_S0 d mX11_within [.int s0, .int 48, .int 57] F L (fun r G K => wt am_S0 (d + 1) mX7_readNumber 20 [l0, l1, l2] (r.toList ++ []) G K Q) := (wt_bipush dX7_readNumber_13 (v := 48) (by decide)).trans ((wt_bipush dX7_readNumber_15 (v := 57) (by decide)).trans (wt_callS dX7_readNumber_17 rfl (as := [.int s0, .int 48, .int 57]) (rest := []) rfl rfl (Nat.le_of_ble_eq_true rfl) (Nat.le_of_ble_eq_true rfl)))
set_option maxHeartbeats 100000 in
theorem kX7_readNumber_20 {d : Nat} {F : am_FT} {L : am_LT} {Q : am_QT} {l0 l1 l2 : Option Value} {s0 : Int32} : wt am_S0 d mX7_readNumber 20 [l0, l1, l2] [.int s0] F L Q = if s0 = 0 then wt am_S0 d mX7_readNumber 52 [l0, l1, l2] [] F L Q else wt am_S0 d mX7_readNumber 23 [l0, l1, l2] [] F L Q := wt_ifCond_eq dX7_readNumber_20 (t := 52) rfl
set_option maxHeartbeats 100000 in
theorem kX7_readNumber_23 {d : Nat} {F : am_FT} {L : am_LT} {Q : am_QT} {l2 : Option Value} {x1 : Int32} : wt am_S0 (d + 1) mX7_readNumber 23 [some (.ref 3), some (.int x1), l2] [] F L Q = wc am_S0 d mX7_next [.ref 3] F L (fun r G K => wt am_S0 (d + 1) mX7_readNumber 31 [some (.ref 3), some (.int x1), l2] (r.toList ++ [.int (x1 * 10)]) G K Q) := (wt_iload_n dX7_readNumber_23 rfl).trans ((wt_bipush dX7_readNumber_24 (v := 10) (by decide)).trans ((wt_imul dX7_readNumber_26).trans ((wt_aload_n dX7_readNumber_27 rfl rfl).trans (wt_callV dX7_readNumber_28 rfl (as := []) (rest := [.int (x1 * 10)]) rfl rfl (Nat.le_of_ble_eq_true rfl) rfl (Nat.le_of_ble_eq_true rfl)))))
set_option maxHeartbeats 100000 in
theorem kX7_readNumber_31 {d : Nat} {F : am_FT} {L : am_LT} {Q : am_QT} {l1 : Option Value} {s0 s1 x2 : Int32} : wt am_S0 d mX7_readNumber 31 [some (.ref 3), l1, some (.int x2)] [.int s1, .int s0] F L Q = wt am_S0 d mX7_readNumber 4 [some (.ref 3), some (.int ((s0 + s1) - 48)), some (.int (x2 + 1))] [] (am_upF F 3 3 ((F 3 3) + 1)) L Q := (wt_iadd dX7_readNumber_31).trans ((wt_bipush dX7_readNumber_32 (v := 48) (by decide)).trans ((wt_isub dX7_readNumber_34).trans ((wt_istore_n dX7_readNumber_35 (lv1 := [some (.ref 3), some (.int ((s0 + s1) - 48)), some (.int x2)]) (Nat.le_of_ble_eq_true rfl) rfl).trans ((wt_aload_n dX7_readNumber_36 rfl rfl).trans ((wt_dup dX7_readNumber_37 rfl).trans ((wt_getfield dX7_readNumber_38 rfl rfl (v := .int (F 3 3)) rfl).trans ((wt_iconst dX7_readNumber_41 (v := 1) (by decide)).trans ((wt_iadd dX7_readNumber_42).trans ((wt_putfield dX7_readNumber_43 rfl rfl ⟨rfl, rfl, rfl, rfl⟩).trans ((wt_iinc dX7_readNumber_46 (v := 1) (lv1 := [some (.ref 3), some (.int ((s0 + s1) - 48)), some (.int (x2 + 1))]) rfl (Nat.le_of_ble_eq_true rfl) (by decide) rfl).trans (wt_goto dX7_readNumber_49 (t := 4) rfl)))))))))))
set_option maxHeartbeats 100000 in
theorem kX7_readNumber_52 {d : Nat} {F : am_FT} {L : am_LT} {Q : am_QT} {l2 : Option Value} {x1 : Int32} : wt am_S0 (d + 1) mX7_readNumber 52 [some (.ref 3), some (.int x1), l2] [] F L Q = wc am_S0 d mX7_emit [.ref 3, .int (1000 + x1)] F L (fun r G K => wt am_S0 (d + 1) mX7_readNumber 61 [some (.ref 3), some (.int x1), l2] (r.toList ++ []) G K Q) := (wt_aload_n dX7_readNumber_52 rfl rfl).trans ((wt_sipush dX7_readNumber_53 (v := 1000) (by decide)).trans ((wt_iload_n dX7_readNumber_56 rfl).trans ((wt_iadd dX7_readNumber_57).trans (wt_callV dX7_readNumber_58 rfl (as := [.int (1000 + x1)]) (rest := []) rfl rfl (Nat.le_of_ble_eq_true rfl) rfl (Nat.le_of_ble_eq_true rfl)))))
set_option maxHeartbeats 100000 in
theorem kX7_readNumber_61 {d : Nat} {F : am_FT} {L : am_LT} {Q : am_QT} {l0 l1 l2 : Option Value} : wt am_S0 d mX7_readNumber 61 [l0, l1, l2] [] F L Q = Q (some (.int 1)) F L := (wt_iconst dX7_readNumber_61 (v := 1) (by decide)).trans (wt_ireturn dX7_readNumber_62 rfl (by decide))
theorem dX7_emit_0 : decode mX7_emit.2.2.1 0 = .ok (.aload_n 0, 1) := by decide +kernel
theorem dX7_emit_1 : decode mX7_emit.2.2.1 1 = .ok (.getfield 15, 3) := by decide +kernel
theorem dX7_emit_4 : decode mX7_emit.2.2.1 4 = .ok (.aload_n 0, 1) := by decide +kernel
theorem dX7_emit_5 : decode mX7_emit.2.2.1 5 = .ok (.getfield 29, 3) := by decide +kernel
theorem dX7_emit_8 : decode mX7_emit.2.2.1 8 = .ok (.iload_n 1, 1) := by decide +kernel
theorem dX7_emit_9 : decode mX7_emit.2.2.1 9 = .ok (.invokestatic 22, 3) := by decide +kernel
theorem dX7_emit_12 : decode mX7_emit.2.2.1 12 = .ok (.aload_n 0, 1) := by decide +kernel
theorem dX7_emit_13 : decode mX7_emit.2.2.1 13 = .ok (.dup, 1) := by decide +kernel
theorem dX7_emit_14 : decode mX7_emit.2.2.1 14 = .ok (.getfield 29, 3) := by decide +kernel
theorem dX7_emit_17 : decode mX7_emit.2.2.1 17 = .ok (.iconst 1, 1) := by decide +kernel
theorem dX7_emit_18 : decode mX7_emit.2.2.1 18 = .ok (.iadd, 1) := by decide +kernel
theorem dX7_emit_19 : decode mX7_emit.2.2.1 19 = .ok (.putfield 29, 3) := by decide +kernel
theorem dX7_emit_22 : decode mX7_emit.2.2.1 22 = .ok (.return_, 1) := by decide +kernel
set_option maxHeartbeats 100000 in
theorem kX7_emit_0 {d : Nat} {F : am_FT} {L : am_LT} {Q : am_QT} {x1 : Int32} : wt am_S0 (d + 1) mX7_emit 0 [some (.ref 3), some (.int x1)] [] F L Q = wc am_S0 d mX11_lay [.ref 5, .int (F 3 4), .int x1] F L (fun r G K => wt am_S0 (d + 1) mX7_emit 12 [some (.ref 3), some (.int x1)] (r.toList ++ []) G K Q) := (wt_aload_n dX7_emit_0 rfl rfl).trans ((wt_getfield dX7_emit_1 rfl rfl (v := .ref 5) rfl).trans ((wt_aload_n dX7_emit_4 rfl rfl).trans ((wt_getfield dX7_emit_5 rfl rfl (v := .int (F 3 4)) rfl).trans ((wt_iload_n dX7_emit_8 rfl).trans (wt_callS dX7_emit_9 rfl (as := [.ref 5, .int (F 3 4), .int x1]) (rest := []) rfl rfl (Nat.le_of_ble_eq_true rfl) (Nat.le_of_ble_eq_true rfl))))))
set_option maxHeartbeats 100000 in
theorem kX7_emit_12 {d : Nat} {F : am_FT} {L : am_LT} {Q : am_QT} {l1 : Option Value} : wt am_S0 d mX7_emit 12 [some (.ref 3), l1] [] F L Q = Q none (am_upF F 3 4 ((F 3 4) + 1)) L := (wt_aload_n dX7_emit_12 rfl rfl).trans ((wt_dup dX7_emit_13 rfl).trans ((wt_getfield dX7_emit_14 rfl rfl (v := .int (F 3 4)) rfl).trans ((wt_iconst dX7_emit_17 (v := 1) (by decide)).trans ((wt_iadd dX7_emit_18).trans ((wt_putfield dX7_emit_19 rfl rfl ⟨rfl, rfl, rfl, rfl⟩).trans (wt_return dX7_emit_22 rfl))))))
theorem dX7_isName_0 : decode mX7_isName.2.2.1 0 = .ok (.iload_n 0, 1) := by decide +kernel
theorem dX7_isName_1 : decode mX7_isName.2.2.1 1 = .ok (.tableswitch 81 104 119 #[79, 81, 81, 81, 81, 79, 79, 81, 79, 81, 81, 81, 79, 81, 81, 79], 79) := by decide +kernel
theorem dX7_isName_80 : decode mX7_isName.2.2.1 80 = .ok (.iconst 1, 1) := by decide +kernel
theorem dX7_isName_81 : decode mX7_isName.2.2.1 81 = .ok (.ireturn, 1) := by decide +kernel
theorem dX7_isName_82 : decode mX7_isName.2.2.1 82 = .ok (.iconst 0, 1) := by decide +kernel
theorem dX7_isName_83 : decode mX7_isName.2.2.1 83 = .ok (.ireturn, 1) := by decide +kernel
set_option maxHeartbeats 100000 in
theorem kX7_isName_0 {d : Nat} {F : am_FT} {L : am_LT} {Q : am_QT} {x0 : Int32} : wt am_S0 d mX7_isName 0 [some (.int x0)] [] F L Q = if x0 = 104 then wt am_S0 d mX7_isName 80 [some (.int x0)] [] F L Q else if x0 = 105 then wt am_S0 d mX7_isName 82 [some (.int x0)] [] F L Q else if x0 = 106 then wt am_S0 d mX7_isName 82 [some (.int x0)] [] F L Q else if x0 = 107 then wt am_S0 d mX7_isName 82 [some (.int x0)] [] F L Q else if x0 = 108 then wt am_S0 d mX7_isName 82 [some (.int x0)] [] F L Q else if x0 = 109 then wt am_S0 d mX7_isName 80 [some (.int x0)] [] F L Q else if x0 = 110 then wt am_S0 d mX7_isName 80 [some (.int x0)] [] F L Q else if x0 = 111 then wt am_S0 d mX7_isName 82 [some (.int x0)] [] F L Q else if x0 = 112 then wt am_S0 d mX7_isName 80 [some (.int x0)] [] F L Q else if x0 = 113 then wt am_S0 d mX7_isName 82 [some (.int x0)] [] F L Q else if x0 = 114 then wt am_S0 d mX7_isName 82 [some (.int x0)] [] F L Q else if x0 = 115 then wt am_S0 d mX7_isName 82 [some (.int x0)] [] F L Q else if x0 = 116 then wt am_S0 d mX7_isName 80 [some (.int x0)] [] F L Q else if x0 = 117 then wt am_S0 d mX7_isName 82 [some (.int x0)] [] F L Q else if x0 = 118 then wt am_S0 d mX7_isName 82 [some (.int x0)] [] F L Q else if x0 = 119 then wt am_S0 d mX7_isName 80 [some (.int x0)] [] F L Q else wt am_S0 d mX7_isName 82 [some (.int x0)] [] F L Q := by
  rw [wt_iload_n dX7_isName_0 rfl]
  by_cases g0 : x0 = 104
  · rw [if_pos g0, g0]
    exact wt_tableI dX7_isName_1 (by decide) (off := 79) rfl (t := 80) rfl
  rw [if_neg g0]
  by_cases g1 : x0 = 105
  · rw [if_pos g1, g1]
    exact wt_tableI dX7_isName_1 (by decide) (off := 81) rfl (t := 82) rfl
  rw [if_neg g1]
  by_cases g2 : x0 = 106
  · rw [if_pos g2, g2]
    exact wt_tableI dX7_isName_1 (by decide) (off := 81) rfl (t := 82) rfl
  rw [if_neg g2]
  by_cases g3 : x0 = 107
  · rw [if_pos g3, g3]
    exact wt_tableI dX7_isName_1 (by decide) (off := 81) rfl (t := 82) rfl
  rw [if_neg g3]
  by_cases g4 : x0 = 108
  · rw [if_pos g4, g4]
    exact wt_tableI dX7_isName_1 (by decide) (off := 81) rfl (t := 82) rfl
  rw [if_neg g4]
  by_cases g5 : x0 = 109
  · rw [if_pos g5, g5]
    exact wt_tableI dX7_isName_1 (by decide) (off := 79) rfl (t := 80) rfl
  rw [if_neg g5]
  by_cases g6 : x0 = 110
  · rw [if_pos g6, g6]
    exact wt_tableI dX7_isName_1 (by decide) (off := 79) rfl (t := 80) rfl
  rw [if_neg g6]
  by_cases g7 : x0 = 111
  · rw [if_pos g7, g7]
    exact wt_tableI dX7_isName_1 (by decide) (off := 81) rfl (t := 82) rfl
  rw [if_neg g7]
  by_cases g8 : x0 = 112
  · rw [if_pos g8, g8]
    exact wt_tableI dX7_isName_1 (by decide) (off := 79) rfl (t := 80) rfl
  rw [if_neg g8]
  by_cases g9 : x0 = 113
  · rw [if_pos g9, g9]
    exact wt_tableI dX7_isName_1 (by decide) (off := 81) rfl (t := 82) rfl
  rw [if_neg g9]
  by_cases g10 : x0 = 114
  · rw [if_pos g10, g10]
    exact wt_tableI dX7_isName_1 (by decide) (off := 81) rfl (t := 82) rfl
  rw [if_neg g10]
  by_cases g11 : x0 = 115
  · rw [if_pos g11, g11]
    exact wt_tableI dX7_isName_1 (by decide) (off := 81) rfl (t := 82) rfl
  rw [if_neg g11]
  by_cases g12 : x0 = 116
  · rw [if_pos g12, g12]
    exact wt_tableI dX7_isName_1 (by decide) (off := 79) rfl (t := 80) rfl
  rw [if_neg g12]
  by_cases g13 : x0 = 117
  · rw [if_pos g13, g13]
    exact wt_tableI dX7_isName_1 (by decide) (off := 81) rfl (t := 82) rfl
  rw [if_neg g13]
  by_cases g14 : x0 = 118
  · rw [if_pos g14, g14]
    exact wt_tableI dX7_isName_1 (by decide) (off := 81) rfl (t := 82) rfl
  rw [if_neg g14]
  by_cases g15 : x0 = 119
  · rw [if_pos g15, g15]
    exact wt_tableI dX7_isName_1 (by decide) (off := 79) rfl (t := 80) rfl
  rw [if_neg g15]
  have i0 : ¬ ((x0 : Int32)).toInt = 104 := fun z => g0 (Int32.toInt_inj.mp (z.trans (by decide)))
  have i1 : ¬ ((x0 : Int32)).toInt = 105 := fun z => g1 (Int32.toInt_inj.mp (z.trans (by decide)))
  have i2 : ¬ ((x0 : Int32)).toInt = 106 := fun z => g2 (Int32.toInt_inj.mp (z.trans (by decide)))
  have i3 : ¬ ((x0 : Int32)).toInt = 107 := fun z => g3 (Int32.toInt_inj.mp (z.trans (by decide)))
  have i4 : ¬ ((x0 : Int32)).toInt = 108 := fun z => g4 (Int32.toInt_inj.mp (z.trans (by decide)))
  have i5 : ¬ ((x0 : Int32)).toInt = 109 := fun z => g5 (Int32.toInt_inj.mp (z.trans (by decide)))
  have i6 : ¬ ((x0 : Int32)).toInt = 110 := fun z => g6 (Int32.toInt_inj.mp (z.trans (by decide)))
  have i7 : ¬ ((x0 : Int32)).toInt = 111 := fun z => g7 (Int32.toInt_inj.mp (z.trans (by decide)))
  have i8 : ¬ ((x0 : Int32)).toInt = 112 := fun z => g8 (Int32.toInt_inj.mp (z.trans (by decide)))
  have i9 : ¬ ((x0 : Int32)).toInt = 113 := fun z => g9 (Int32.toInt_inj.mp (z.trans (by decide)))
  have i10 : ¬ ((x0 : Int32)).toInt = 114 := fun z => g10 (Int32.toInt_inj.mp (z.trans (by decide)))
  have i11 : ¬ ((x0 : Int32)).toInt = 115 := fun z => g11 (Int32.toInt_inj.mp (z.trans (by decide)))
  have i12 : ¬ ((x0 : Int32)).toInt = 116 := fun z => g12 (Int32.toInt_inj.mp (z.trans (by decide)))
  have i13 : ¬ ((x0 : Int32)).toInt = 117 := fun z => g13 (Int32.toInt_inj.mp (z.trans (by decide)))
  have i14 : ¬ ((x0 : Int32)).toInt = 118 := fun z => g14 (Int32.toInt_inj.mp (z.trans (by decide)))
  have i15 : ¬ ((x0 : Int32)).toInt = 119 := fun z => g15 (Int32.toInt_inj.mp (z.trans (by decide)))
  exact wt_tableO dX7_isName_1 (by omega) (t := 82) rfl
set_option maxHeartbeats 100000 in
theorem kX7_isName_80 {d : Nat} {F : am_FT} {L : am_LT} {Q : am_QT} {l0 : Option Value} : wt am_S0 d mX7_isName 80 [l0] [] F L Q = Q (some (.int 1)) F L := (wt_iconst dX7_isName_80 (v := 1) (by decide)).trans (wt_ireturn dX7_isName_81 rfl (by decide))
set_option maxHeartbeats 100000 in
theorem kX7_isName_82 {d : Nat} {F : am_FT} {L : am_LT} {Q : am_QT} {l0 : Option Value} : wt am_S0 d mX7_isName 82 [l0] [] F L Q = Q (some (.int 0)) F L := (wt_iconst dX7_isName_82 (v := 0) (by decide)).trans (wt_ireturn dX7_isName_83 rfl (by decide))
theorem dX7_levelOf_0 : decode mX7_levelOf.2.2.1 0 = .ok (.iload_n 0, 1) := by decide +kernel
theorem dX7_levelOf_1 : decode mX7_levelOf.2.2.1 1 = .ok (.lookupswitch 101 #[(37, 99), (38, 93), (42, 99), (43, 97), (45, 97), (47, 99), (60, 95), (61, 95), (62, 95), (124, 91)], 91) := by decide +kernel
theorem dX7_levelOf_92 : decode mX7_levelOf.2.2.1 92 = .ok (.iconst 0, 1) := by decide +kernel
theorem dX7_levelOf_93 : decode mX7_levelOf.2.2.1 93 = .ok (.ireturn, 1) := by decide +kernel
theorem dX7_levelOf_94 : decode mX7_levelOf.2.2.1 94 = .ok (.iconst 1, 1) := by decide +kernel
theorem dX7_levelOf_95 : decode mX7_levelOf.2.2.1 95 = .ok (.ireturn, 1) := by decide +kernel
theorem dX7_levelOf_96 : decode mX7_levelOf.2.2.1 96 = .ok (.iconst 2, 1) := by decide +kernel
theorem dX7_levelOf_97 : decode mX7_levelOf.2.2.1 97 = .ok (.ireturn, 1) := by decide +kernel
theorem dX7_levelOf_98 : decode mX7_levelOf.2.2.1 98 = .ok (.iconst 3, 1) := by decide +kernel
theorem dX7_levelOf_99 : decode mX7_levelOf.2.2.1 99 = .ok (.ireturn, 1) := by decide +kernel
theorem dX7_levelOf_100 : decode mX7_levelOf.2.2.1 100 = .ok (.iconst 4, 1) := by decide +kernel
theorem dX7_levelOf_101 : decode mX7_levelOf.2.2.1 101 = .ok (.ireturn, 1) := by decide +kernel
theorem dX7_levelOf_102 : decode mX7_levelOf.2.2.1 102 = .ok (.iconst (-1), 1) := by decide +kernel
theorem dX7_levelOf_103 : decode mX7_levelOf.2.2.1 103 = .ok (.ireturn, 1) := by decide +kernel
set_option maxHeartbeats 100000 in
theorem kX7_levelOf_0 {d : Nat} {F : am_FT} {L : am_LT} {Q : am_QT} {x0 : Int32} : wt am_S0 d mX7_levelOf 0 [some (.int x0)] [] F L Q = if x0 = 37 then wt am_S0 d mX7_levelOf 100 [some (.int x0)] [] F L Q else if x0 = 38 then wt am_S0 d mX7_levelOf 94 [some (.int x0)] [] F L Q else if x0 = 42 then wt am_S0 d mX7_levelOf 100 [some (.int x0)] [] F L Q else if x0 = 43 then wt am_S0 d mX7_levelOf 98 [some (.int x0)] [] F L Q else if x0 = 45 then wt am_S0 d mX7_levelOf 98 [some (.int x0)] [] F L Q else if x0 = 47 then wt am_S0 d mX7_levelOf 100 [some (.int x0)] [] F L Q else if x0 = 60 then wt am_S0 d mX7_levelOf 96 [some (.int x0)] [] F L Q else if x0 = 61 then wt am_S0 d mX7_levelOf 96 [some (.int x0)] [] F L Q else if x0 = 62 then wt am_S0 d mX7_levelOf 96 [some (.int x0)] [] F L Q else if x0 = 124 then wt am_S0 d mX7_levelOf 92 [some (.int x0)] [] F L Q else wt am_S0 d mX7_levelOf 102 [some (.int x0)] [] F L Q := by
  rw [wt_iload_n dX7_levelOf_0 rfl]
  by_cases g0 : x0 = 37
  · rw [if_pos g0, g0]
    exact wt_lookup dX7_levelOf_1 (by decide) (t := 100) (by decide)
  rw [if_neg g0]
  by_cases g1 : x0 = 38
  · rw [if_pos g1, g1]
    exact wt_lookup dX7_levelOf_1 (by decide) (t := 94) (by decide)
  rw [if_neg g1]
  by_cases g2 : x0 = 42
  · rw [if_pos g2, g2]
    exact wt_lookup dX7_levelOf_1 (by decide) (t := 100) (by decide)
  rw [if_neg g2]
  by_cases g3 : x0 = 43
  · rw [if_pos g3, g3]
    exact wt_lookup dX7_levelOf_1 (by decide) (t := 98) (by decide)
  rw [if_neg g3]
  by_cases g4 : x0 = 45
  · rw [if_pos g4, g4]
    exact wt_lookup dX7_levelOf_1 (by decide) (t := 98) (by decide)
  rw [if_neg g4]
  by_cases g5 : x0 = 47
  · rw [if_pos g5, g5]
    exact wt_lookup dX7_levelOf_1 (by decide) (t := 100) (by decide)
  rw [if_neg g5]
  by_cases g6 : x0 = 60
  · rw [if_pos g6, g6]
    exact wt_lookup dX7_levelOf_1 (by decide) (t := 96) (by decide)
  rw [if_neg g6]
  by_cases g7 : x0 = 61
  · rw [if_pos g7, g7]
    exact wt_lookup dX7_levelOf_1 (by decide) (t := 96) (by decide)
  rw [if_neg g7]
  by_cases g8 : x0 = 62
  · rw [if_pos g8, g8]
    exact wt_lookup dX7_levelOf_1 (by decide) (t := 96) (by decide)
  rw [if_neg g8]
  by_cases g9 : x0 = 124
  · rw [if_pos g9, g9]
    exact wt_lookup dX7_levelOf_1 (by decide) (t := 92) (by decide)
  rw [if_neg g9]
  have i0 : ¬ (37 : Int) = ((x0 : Int32)).toInt := fun z => g0 (Int32.toInt_inj.mp (z.symm.trans (by decide)))
  have i1 : ¬ (38 : Int) = ((x0 : Int32)).toInt := fun z => g1 (Int32.toInt_inj.mp (z.symm.trans (by decide)))
  have i2 : ¬ (42 : Int) = ((x0 : Int32)).toInt := fun z => g2 (Int32.toInt_inj.mp (z.symm.trans (by decide)))
  have i3 : ¬ (43 : Int) = ((x0 : Int32)).toInt := fun z => g3 (Int32.toInt_inj.mp (z.symm.trans (by decide)))
  have i4 : ¬ (45 : Int) = ((x0 : Int32)).toInt := fun z => g4 (Int32.toInt_inj.mp (z.symm.trans (by decide)))
  have i5 : ¬ (47 : Int) = ((x0 : Int32)).toInt := fun z => g5 (Int32.toInt_inj.mp (z.symm.trans (by decide)))
  have i6 : ¬ (60 : Int) = ((x0 : Int32)).toInt := fun z => g6 (Int32.toInt_inj.mp (z.symm.trans (by decide)))
  have i7 : ¬ (61 : Int) = ((x0 : Int32)).toInt := fun z => g7 (Int32.toInt_inj.mp (z.symm.trans (by decide)))
  have i8 : ¬ (62 : Int) = ((x0 : Int32)).toInt := fun z => g8 (Int32.toInt_inj.mp (z.symm.trans (by decide)))
  have i9 : ¬ (124 : Int) = ((x0 : Int32)).toInt := fun z => g9 (Int32.toInt_inj.mp (z.symm.trans (by decide)))
  exact wt_lookup dX7_levelOf_1 (by decide) (t := 102) (by simp [Op.lookupswitch.offset, i0, i1, i2, i3, i4, i5, i6, i7, i8, i9, am_tg])
set_option maxHeartbeats 100000 in
theorem kX7_levelOf_92 {d : Nat} {F : am_FT} {L : am_LT} {Q : am_QT} {l0 : Option Value} : wt am_S0 d mX7_levelOf 92 [l0] [] F L Q = Q (some (.int 0)) F L := (wt_iconst dX7_levelOf_92 (v := 0) (by decide)).trans (wt_ireturn dX7_levelOf_93 rfl rfl)
set_option maxHeartbeats 100000 in
theorem kX7_levelOf_94 {d : Nat} {F : am_FT} {L : am_LT} {Q : am_QT} {l0 : Option Value} : wt am_S0 d mX7_levelOf 94 [l0] [] F L Q = Q (some (.int 1)) F L := (wt_iconst dX7_levelOf_94 (v := 1) (by decide)).trans (wt_ireturn dX7_levelOf_95 rfl rfl)
set_option maxHeartbeats 100000 in
theorem kX7_levelOf_96 {d : Nat} {F : am_FT} {L : am_LT} {Q : am_QT} {l0 : Option Value} : wt am_S0 d mX7_levelOf 96 [l0] [] F L Q = Q (some (.int 2)) F L := (wt_iconst dX7_levelOf_96 (v := 2) (by decide)).trans (wt_ireturn dX7_levelOf_97 rfl rfl)
set_option maxHeartbeats 100000 in
theorem kX7_levelOf_98 {d : Nat} {F : am_FT} {L : am_LT} {Q : am_QT} {l0 : Option Value} : wt am_S0 d mX7_levelOf 98 [l0] [] F L Q = Q (some (.int 3)) F L := (wt_iconst dX7_levelOf_98 (v := 3) (by decide)).trans (wt_ireturn dX7_levelOf_99 rfl rfl)
set_option maxHeartbeats 100000 in
theorem kX7_levelOf_100 {d : Nat} {F : am_FT} {L : am_LT} {Q : am_QT} {l0 : Option Value} : wt am_S0 d mX7_levelOf 100 [l0] [] F L Q = Q (some (.int 4)) F L := (wt_iconst dX7_levelOf_100 (v := 4) (by decide)).trans (wt_ireturn dX7_levelOf_101 rfl rfl)
set_option maxHeartbeats 100000 in
theorem kX7_levelOf_102 {d : Nat} {F : am_FT} {L : am_LT} {Q : am_QT} {l0 : Option Value} : wt am_S0 d mX7_levelOf 102 [l0] [] F L Q = Q (some (.int (-1))) F L := (wt_iconst dX7_levelOf_102 (v := (-1)) (by decide)).trans (wt_ireturn dX7_levelOf_103 rfl rfl)
theorem dX7_clear_0 : decode mX7_clear.2.2.1 0 = .ok (.aload_n 0, 1) := by decide +kernel
theorem dX7_clear_1 : decode mX7_clear.2.2.1 1 = .ok (.iconst 0, 1) := by decide +kernel
theorem dX7_clear_2 : decode mX7_clear.2.2.1 2 = .ok (.putfield 18, 3) := by decide +kernel
theorem dX7_clear_5 : decode mX7_clear.2.2.1 5 = .ok (.return_, 1) := by decide +kernel
set_option maxHeartbeats 100000 in
theorem kX7_clear_0 {d : Nat} {F : am_FT} {L : am_LT} {Q : am_QT} : wt am_S0 d mX7_clear 0 [some (.ref 3)] [] F L Q = Q none (am_upF F 3 2 0) L := (wt_aload_n dX7_clear_0 rfl rfl).trans ((wt_iconst dX7_clear_1 (v := 0) (by decide)).trans ((wt_putfield dX7_clear_2 rfl rfl ⟨rfl, rfl, rfl, rfl⟩).trans (wt_return dX7_clear_5 rfl)))
