theorem dX10_add_0 : decode mX10_add.2.2.1 0 = .ok (.aload_n 0, 1) := by decide +kernel
theorem dX10_add_1 : decode mX10_add.2.2.1 1 = .ok (.getfield 18, 3) := by decide +kernel
theorem dX10_add_4 : decode mX10_add.2.2.1 4 = .ok (.bipush 50, 2) := by decide +kernel
theorem dX10_add_6 : decode mX10_add.2.2.1 6 = .ok (.if_icmp .lt 6, 3) := by decide +kernel
theorem dX10_add_9 : decode mX10_add.2.2.1 9 = .ok (.bipush (-3), 2) := by decide +kernel
theorem dX10_add_11 : decode mX10_add.2.2.1 11 = .ok (.ireturn, 1) := by decide +kernel
theorem dX10_add_12 : decode mX10_add.2.2.1 12 = .ok (.aload_n 0, 1) := by decide +kernel
theorem dX10_add_13 : decode mX10_add.2.2.1 13 = .ok (.getfield 11, 3) := by decide +kernel
theorem dX10_add_16 : decode mX10_add.2.2.1 16 = .ok (.aload_n 0, 1) := by decide +kernel
theorem dX10_add_17 : decode mX10_add.2.2.1 17 = .ok (.getfield 18, 3) := by decide +kernel
theorem dX10_add_20 : decode mX10_add.2.2.1 20 = .ok (.iload_n 1, 1) := by decide +kernel
theorem dX10_add_21 : decode mX10_add.2.2.1 21 = .ok (.invokestatic 22, 3) := by decide +kernel
theorem dX10_add_24 : decode mX10_add.2.2.1 24 = .ok (.aload_n 0, 1) := by decide +kernel
theorem dX10_add_25 : decode mX10_add.2.2.1 25 = .ok (.dup, 1) := by decide +kernel
theorem dX10_add_26 : decode mX10_add.2.2.1 26 = .ok (.getfield 18, 3) := by decide +kernel
theorem dX10_add_29 : decode mX10_add.2.2.1 29 = .ok (.dup_x1, 1) := by decide +kernel
theorem dX10_add_30 : decode mX10_add.2.2.1 30 = .ok (.iconst 1, 1) := by decide +kernel
theorem dX10_add_31 : decode mX10_add.2.2.1 31 = .ok (.iadd, 1) := by decide +kernel
theorem dX10_add_32 : decode mX10_add.2.2.1 32 = .ok (.putfield 18, 3) := by decide +kernel
theorem dX10_add_35 : decode mX10_add.2.2.1 35 = .ok (.ireturn, 1) := by decide +kernel
set_option maxHeartbeats 100000 in
theorem kX10_add_0 {d : Nat} {F : am_FT} {L : am_LT} {Q : am_QT} {l1 : Option Value} : wt am_S0 d mX10_add 0 [some (.ref 29), l1] [] F L Q = if (F 29 2) < 50 then wt am_S0 d mX10_add 12 [some (.ref 29), l1] [] F L Q else wt am_S0 d mX10_add 9 [some (.ref 29), l1] [] F L Q := (wt_aload_n dX10_add_0 rfl rfl).trans ((wt_getfield dX10_add_1 rfl rfl (v := .int (F 29 2)) rfl).trans ((wt_bipush dX10_add_4 (v := 50) (by decide)).trans (wt_if_icmp_lt dX10_add_6 (t := 12) rfl)))
set_option maxHeartbeats 100000 in
theorem kX10_add_9 {d : Nat} {F : am_FT} {L : am_LT} {Q : am_QT} {l0 l1 : Option Value} : wt am_S0 d mX10_add 9 [l0, l1] [] F L Q = Q (some (.int (-3))) F L := (wt_bipush dX10_add_9 (v := (-3)) (by decide)).trans (wt_ireturn dX10_add_11 rfl rfl)
set_option maxHeartbeats 100000 in
theorem kX10_add_12 {d : Nat} {F : am_FT} {L : am_LT} {Q : am_QT} {x1 : Int32} : wt am_S0 (d + 1) mX10_add 12 [some (.ref 29), some (.int x1)] [] F L Q = wc am_S0 d mX11_lay [.ref 30, .int (F 29 2), .int x1] F L (fun r G K => wt am_S0 (d + 1) mX10_add 24 [some (.ref 29), some (.int x1)] (r.toList ++ []) G K Q) := (wt_aload_n dX10_add_12 rfl rfl).trans ((wt_getfield dX10_add_13 rfl rfl (v := .ref 30) rfl).trans ((wt_aload_n dX10_add_16 rfl rfl).trans ((wt_getfield dX10_add_17 rfl rfl (v := .int (F 29 2)) rfl).trans ((wt_iload_n dX10_add_20 rfl).trans (wt_callS dX10_add_21 rfl (as := [.ref 30, .int (F 29 2), .int x1]) (rest := []) rfl rfl (Nat.le_of_ble_eq_true rfl) (Nat.le_of_ble_eq_true rfl))))))
set_option maxHeartbeats 100000 in
theorem kX10_add_24 {d : Nat} {F : am_FT} {L : am_LT} {Q : am_QT} {l1 : Option Value} : wt am_S0 d mX10_add 24 [some (.ref 29), l1] [] F L Q = Q (some (.int (F 29 2))) (am_upF F 29 2 ((F 29 2) + 1)) L := (wt_aload_n dX10_add_24 rfl rfl).trans ((wt_dup dX10_add_25 rfl).trans ((wt_getfield dX10_add_26 rfl rfl (v := .int (F 29 2)) rfl).trans ((wt_dup_x1 dX10_add_29 ⟨rfl, rfl⟩).trans ((wt_iconst dX10_add_30 (v := 1) (by decide)).trans ((wt_iadd dX10_add_31).trans ((wt_putfield dX10_add_32 rfl rfl ⟨rfl, rfl, rfl, rfl⟩).trans (wt_ireturn dX10_add_35 rfl rfl)))))))
theorem dX10_start_0 : decode mX10_start.2.2.1 0 = .ok (.aload_n 0, 1) := by decide +kernel
theorem dX10_start_1 : decode mX10_start.2.2.1 1 = .ok (.iconst 0, 1) := by decide +kernel
theorem dX10_start_2 : decode mX10_start.2.2.1 2 = .ok (.putfield 33, 3) := by decide +kernel
theorem dX10_start_5 : decode mX10_start.2.2.1 5 = .ok (.iload_n 1, 1) := by decide +kernel
theorem dX10_start_6 : decode mX10_start.2.2.1 6 = .ok (.iconst 0, 1) := by decide +kernel
theorem dX10_start_7 : decode mX10_start.2.2.1 7 = .ok (.aload_n 0, 1) := by decide +kernel
theorem dX10_start_8 : decode mX10_start.2.2.1 8 = .ok (.getfield 18, 3) := by decide +kernel
theorem dX10_start_11 : decode mX10_start.2.2.1 11 = .ok (.iconst 1, 1) := by decide +kernel
theorem dX10_start_12 : decode mX10_start.2.2.1 12 = .ok (.isub, 1) := by decide +kernel
theorem dX10_start_13 : decode mX10_start.2.2.1 13 = .ok (.invokestatic 42, 3) := by decide +kernel
theorem dX10_start_16 : decode mX10_start.2.2.1 16 = .ok (.ifCond .eq 12, 3) := by decide +kernel
theorem dX10_start_19 : decode mX10_start.2.2.1 19 = .ok (.iload_n 2, 1) := by decide +kernel
theorem dX10_start_20 : decode mX10_start.2.2.1 20 = .ok (.iconst 0, 1) := by decide +kernel
theorem dX10_start_21 : decode mX10_start.2.2.1 21 = .ok (.iconst 3, 1) := by decide +kernel
theorem dX10_start_22 : decode mX10_start.2.2.1 22 = .ok (.invokestatic 42, 3) := by decide +kernel
theorem dX10_start_25 : decode mX10_start.2.2.1 25 = .ok (.ifCond .ne 5, 3) := by decide +kernel
theorem dX10_start_28 : decode mX10_start.2.2.1 28 = .ok (.iconst 0, 1) := by decide +kernel
theorem dX10_start_29 : decode mX10_start.2.2.1 29 = .ok (.ireturn, 1) := by decide +kernel
theorem dX10_start_30 : decode mX10_start.2.2.1 30 = .ok (.aload_n 0, 1) := by decide +kernel
theorem dX10_start_31 : decode mX10_start.2.2.1 31 = .ok (.iload_n 1, 1) := by decide +kernel
theorem dX10_start_32 : decode mX10_start.2.2.1 32 = .ok (.aload_n 0, 1) := by decide +kernel
theorem dX10_start_33 : decode mX10_start.2.2.1 33 = .ok (.iload_n 1, 1) := by decide +kernel
theorem dX10_start_34 : decode mX10_start.2.2.1 34 = .ok (.invokevirtual 46, 3) := by decide +kernel
theorem dX10_start_37 : decode mX10_start.2.2.1 37 = .ok (.iload_n 2, 1) := by decide +kernel
theorem dX10_start_38 : decode mX10_start.2.2.1 38 = .ok (.iload_n 3, 1) := by decide +kernel
theorem dX10_start_39 : decode mX10_start.2.2.1 39 = .ok (.iconst 0, 1) := by decide +kernel
theorem dX10_start_40 : decode mX10_start.2.2.1 40 = .ok (.invokevirtual 50, 3) := by decide +kernel
theorem dX10_start_43 : decode mX10_start.2.2.1 43 = .ok (.ireturn, 1) := by decide +kernel
set_option maxHeartbeats 100000 in
theorem kX10_start_0 {d : Nat} {F : am_FT} {L : am_LT} {Q : am_QT} {l2 l3 : Option Value} {x1 : Int32} : wt am_S0 (d + 1) mX10_start 0 [some (.ref 29), some (.int x1), l2, l3] [] F L Q = wc am_S0 d mX11_within [.int x1, .int 0, .int ((F 29 2) - 1)] (am_upF F 29 3 0) L (fun r G K => wt am_S0 (d + 1) mX10_start 16 [some (.ref 29), some (.int x1), l2, l3] (r.toList ++ []) G K Q) := (wt_aload_n dX10_start_0 rfl rfl).trans ((wt_iconst dX10_start_1 (v := 0) (by decide)).trans ((wt_putfield dX10_start_2 rfl rfl ⟨rfl, rfl, rfl, rfl⟩).trans ((wt_iload_n dX10_start_5 rfl).trans ((wt_iconst dX10_start_6 (v := 0) (by decide)).trans ((wt_aload_n dX10_start_7 rfl rfl).trans ((wt_getfield dX10_start_8 rfl rfl (v := .int (F 29 2)) (F := am_upF F 29 3 0) (p := 29) rfl).trans ((wt_iconst dX10_start_11 (v := 1) (by decide)).trans ((wt_isub dX10_start_12).trans (wt_callS dX10_start_13 rfl (as := [.int x1, .int 0, .int ((F 29 2) - 1)]) (rest := []) rfl rfl (Nat.le_of_ble_eq_true rfl) (Nat.le_of_ble_eq_true rfl))))))))))
set_option maxHeartbeats 100000 in
theorem kX10_start_16 {d : Nat} {F : am_FT} {L : am_LT} {Q : am_QT} {l0 l1 l2 l3 : Option Value} {s0 : Int32} : wt am_S0 d mX10_start 16 [l0, l1, l2, l3] [.int s0] F L Q = if s0 = 0 then wt am_S0 d mX10_start 28 [l0, l1, l2, l3] [] F L Q else wt am_S0 d mX10_start 19 [l0, l1, l2, l3] [] F L Q := wt_ifCond_eq dX10_start_16 (t := 28) rfl
set_option maxHeartbeats 100000 in
theorem kX10_start_19 {d : Nat} {F : am_FT} {L : am_LT} {Q : am_QT} {l0 l1 l3 : Option Value} {x2 : Int32} : wt am_S0 (d + 1) mX10_start 19 [l0, l1, some (.int x2), l3] [] F L Q = wc am_S0 d mX11_within [.int x2, .int 0, .int 3] F L (fun r G K => wt am_S0 (d + 1) mX10_start 25 [l0, l1, some (.int x2), l3] (r.toList ++ []) G K Q) := (wt_iload_n dX10_start_19 rfl).trans ((wt_iconst dX10_start_20 (v := 0) (by decide)).trans ((wt_iconst dX10_start_21 (v := 3) (by decide)).trans (wt_callS dX10_start_22 rfl (as := [.int x2, .int 0, .int 3]) (rest := []) rfl rfl (Nat.le_of_ble_eq_true rfl) (Nat.le_of_ble_eq_true rfl))))
set_option maxHeartbeats 100000 in
theorem kX10_start_25 {d : Nat} {F : am_FT} {L : am_LT} {Q : am_QT} {l0 l1 l2 l3 : Option Value} {s0 : Int32} : wt am_S0 d mX10_start 25 [l0, l1, l2, l3] [.int s0] F L Q = if ¬ s0 = 0 then wt am_S0 d mX10_start 30 [l0, l1, l2, l3] [] F L Q else wt am_S0 d mX10_start 28 [l0, l1, l2, l3] [] F L Q := wt_ifCond_ne dX10_start_25 (t := 30) rfl
set_option maxHeartbeats 100000 in
theorem kX10_start_28 {d : Nat} {F : am_FT} {L : am_LT} {Q : am_QT} {l0 l1 l2 l3 : Option Value} : wt am_S0 d mX10_start 28 [l0, l1, l2, l3] [] F L Q = Q (some (.int 0)) F L := (wt_iconst dX10_start_28 (v := 0) (by decide)).trans (wt_ireturn dX10_start_29 rfl rfl)
set_option maxHeartbeats 100000 in
theorem kX10_start_30 {d : Nat} {F : am_FT} {L : am_LT} {Q : am_QT} {l2 l3 : Option Value} {x1 : Int32} : wt am_S0 (d + 1) mX10_start 30 [some (.ref 29), some (.int x1), l2, l3] [] F L Q = wc am_S0 d mX10_kindOf [.ref 29, .int x1] F L (fun r G K => wt am_S0 (d + 1) mX10_start 37 [some (.ref 29), some (.int x1), l2, l3] (r.toList ++ [.int x1, .ref 29]) G K Q) := (wt_aload_n dX10_start_30 rfl rfl).trans ((wt_iload_n dX10_start_31 rfl).trans ((wt_aload_n dX10_start_32 rfl rfl).trans ((wt_iload_n dX10_start_33 rfl).trans (wt_callV dX10_start_34 rfl (as := [.int x1]) (rest := [.int x1, .ref 29]) rfl rfl (Nat.le_of_ble_eq_true rfl) rfl (Nat.le_of_ble_eq_true rfl)))))
set_option maxHeartbeats 100000 in
theorem kX10_start_37 {d : Nat} {F : am_FT} {L : am_LT} {Q : am_QT} {l0 l1 : Option Value} {s1 s2 x2 x3 : Int32} : wt am_S0 (d + 1) mX10_start 37 [l0, l1, some (.int x2), some (.int x3)] [.int s2, .int s1, .ref 29] F L Q = wc am_S0 d mX10_perform [.ref 29, .int s1, .int s2, .int x2, .int x3, .int 0] F L (fun r G K => wt am_S0 (d + 1) mX10_start 43 [l0, l1, some (.int x2), some (.int x3)] (r.toList ++ []) G K Q) := (wt_iload_n dX10_start_37 rfl).trans ((wt_iload_n dX10_start_38 rfl).trans ((wt_iconst dX10_start_39 (v := 0) (by decide)).trans (wt_callV dX10_start_40 rfl (as := [.int s1, .int s2, .int x2, .int x3, .int 0]) (rest := []) rfl rfl (Nat.le_of_ble_eq_true rfl) rfl (Nat.le_of_ble_eq_true rfl))))
set_option maxHeartbeats 100000 in
theorem kX10_start_43 {d : Nat} {F : am_FT} {L : am_LT} {Q : am_QT} {l0 l1 l2 l3 : Option Value} {s0 : Int32} : wt am_S0 d mX10_start 43 [l0, l1, l2, l3] [.int s0] F L Q = Q (some (.int s0)) F L := wt_ireturn dX10_start_43 rfl rfl
theorem dX10_kindOf_0 : decode mX10_kindOf.2.2.1 0 = .ok (.aload_n 0, 1) := by decide +kernel
theorem dX10_kindOf_1 : decode mX10_kindOf.2.2.1 1 = .ok (.getfield 11, 3) := by decide +kernel
theorem dX10_kindOf_4 : decode mX10_kindOf.2.2.1 4 = .ok (.iload_n 1, 1) := by decide +kernel
theorem dX10_kindOf_5 : decode mX10_kindOf.2.2.1 5 = .ok (.invokestatic 26, 3) := by decide +kernel
theorem dX10_kindOf_8 : decode mX10_kindOf.2.2.1 8 = .ok (.ireturn, 1) := by decide +kernel
set_option maxHeartbeats 100000 in
theorem kX10_kindOf_0 {d : Nat} {F : am_FT} {L : am_LT} {Q : am_QT} {x1 : Int32} : wt am_S0 (d + 1) mX10_kindOf 0 [some (.ref 29), some (.int x1)] [] F L Q = wc am_S0 d mX11_at [.ref 30, .int x1] F L (fun r G K => wt am_S0 (d + 1) mX10_kindOf 8 [some (.ref 29), some (.int x1)] (r.toList ++ []) G K Q) := (wt_aload_n dX10_kindOf_0 rfl rfl).trans ((wt_getfield dX10_kindOf_1 rfl rfl (v := .ref 30) rfl).trans ((wt_iload_n dX10_kindOf_4 rfl).trans (wt_callS dX10_kindOf_5 rfl (as := [.ref 30, .int x1]) (rest := []) rfl rfl (Nat.le_of_ble_eq_true rfl) (Nat.le_of_ble_eq_true rfl))))
set_option maxHeartbeats 100000 in
theorem kX10_kindOf_8 {d : Nat} {F : am_FT} {L : am_LT} {Q : am_QT} {l0 l1 : Option Value} {s0 : Int32} : wt am_S0 d mX10_kindOf 8 [l0, l1] [.int s0] F L Q = Q (some (.int s0)) F L := wt_ireturn dX10_kindOf_8 rfl rfl
theorem dX10_perform_0 : decode mX10_perform.2.2.1 0 = .ok (.iload 5, 2) := by decide +kernel
theorem dX10_perform_2 : decode mX10_perform.2.2.1 2 = .ok (.bipush 40, 2) := by decide +kernel
theorem dX10_perform_4 : decode mX10_perform.2.2.1 4 = .ok (.if_icmp .le 5, 3) := by decide +kernel
theorem dX10_perform_7 : decode mX10_perform.2.2.1 7 = .ok (.iconst 0, 1) := by decide +kernel
theorem dX10_perform_8 : decode mX10_perform.2.2.1 8 = .ok (.ireturn, 1) := by decide +kernel
theorem dX10_perform_9 : decode mX10_perform.2.2.1 9 = .ok (.iload_n 2, 1) := by decide +kernel
theorem dX10_perform_10 : decode mX10_perform.2.2.1 10 = .ok (.iload_n 3, 1) := by decide +kernel
theorem dX10_perform_11 : decode mX10_perform.2.2.1 11 = .ok (.invokestatic 57, 3) := by decide +kernel
theorem dX10_perform_14 : decode mX10_perform.2.2.1 14 = .ok (.istore 6, 2) := by decide +kernel
theorem dX10_perform_16 : decode mX10_perform.2.2.1 16 = .ok (.getstatic 54, 3) := by decide +kernel
theorem dX10_perform_19 : decode mX10_perform.2.2.1 19 = .ok (.iload 6, 2) := by decide +kernel
theorem dX10_perform_21 : decode mX10_perform.2.2.1 21 = .ok (.iconst 4, 1) := by decide +kernel
theorem dX10_perform_22 : decode mX10_perform.2.2.1 22 = .ok (.imul, 1) := by decide +kernel
theorem dX10_perform_23 : decode mX10_perform.2.2.1 23 = .ok (.iload_n 3, 1) := by decide +kernel
theorem dX10_perform_24 : decode mX10_perform.2.2.1 24 = .ok (.iadd, 1) := by decide +kernel
theorem dX10_perform_25 : decode mX10_perform.2.2.1 25 = .ok (.invokestatic 26, 3) := by decide +kernel
theorem dX10_perform_28 : decode mX10_perform.2.2.1 28 = .ok (.istore 7, 2) := by decide +kernel
theorem dX10_perform_30 : decode mX10_perform.2.2.1 30 = .ok (.aload_n 0, 1) := by decide +kernel
theorem dX10_perform_31 : decode mX10_perform.2.2.1 31 = .ok (.getfield 15, 3) := by decide +kernel
theorem dX10_perform_34 : decode mX10_perform.2.2.1 34 = .ok (.aload_n 0, 1) := by decide +kernel
theorem dX10_perform_35 : decode mX10_perform.2.2.1 35 = .ok (.getfield 33, 3) := by decide +kernel
theorem dX10_perform_38 : decode mX10_perform.2.2.1 38 = .ok (.iload 7, 2) := by decide +kernel
theorem dX10_perform_40 : decode mX10_perform.2.2.1 40 = .ok (.invokestatic 22, 3) := by decide +kernel
theorem dX10_perform_43 : decode mX10_perform.2.2.1 43 = .ok (.aload_n 0, 1) := by decide +kernel
theorem dX10_perform_44 : decode mX10_perform.2.2.1 44 = .ok (.dup, 1) := by decide +kernel
theorem dX10_perform_45 : decode mX10_perform.2.2.1 45 = .ok (.getfield 33, 3) := by decide +kernel
theorem dX10_perform_48 : decode mX10_perform.2.2.1 48 = .ok (.iconst 1, 1) := by decide +kernel
theorem dX10_perform_49 : decode mX10_perform.2.2.1 49 = .ok (.iadd, 1) := by decide +kernel
theorem dX10_perform_50 : decode mX10_perform.2.2.1 50 = .ok (.putfield 33, 3) := by decide +kernel
theorem dX10_perform_53 : decode mX10_perform.2.2.1 53 = .ok (.aload_n 0, 1) := by decide +kernel
theorem dX10_perform_54 : decode mX10_perform.2.2.1 54 = .ok (.iload_n 1, 1) := by decide +kernel
theorem dX10_perform_55 : decode mX10_perform.2.2.1 55 = .ok (.iload 6, 2) := by decide +kernel
theorem dX10_perform_57 : decode mX10_perform.2.2.1 57 = .ok (.iload 7, 2) := by decide +kernel
theorem dX10_perform_59 : decode mX10_perform.2.2.1 59 = .ok (.iload 4, 2) := by decide +kernel
theorem dX10_perform_61 : decode mX10_perform.2.2.1 61 = .ok (.iload 5, 2) := by decide +kernel
theorem dX10_perform_63 : decode mX10_perform.2.2.1 63 = .ok (.iconst 1, 1) := by decide +kernel
theorem dX10_perform_64 : decode mX10_perform.2.2.1 64 = .ok (.iadd, 1) := by decide +kernel
theorem dX10_perform_65 : decode mX10_perform.2.2.1 65 = .ok (.invokevirtual 60, 3) := by decide +kernel
theorem dX10_perform_68 : decode mX10_perform.2.2.1 68 = .ok (.ireturn, 1) := by decide +kernel
set_option maxHeartbeats 100000 in
theorem kX10_perform_0 {d : Nat} {F : am_FT} {L : am_LT} {Q : am_QT} {l0 l1 l2 l3 l4 l6 l7 : Option Value} {x5 : Int32} : wt am_S0 d mX10_perform 0 [l0, l1, l2, l3, l4, some (.int x5), l6, l7] [] F L Q = if x5 ≤ 40 then wt am_S0 d mX10_perform 9 [l0, l1, l2, l3, l4, some (.int x5), l6, l7] [] F L Q else wt am_S0 d mX10_perform 7 [l0, l1, l2, l3, l4, some (.int x5), l6, l7] [] F L Q := (wt_iload dX10_perform_0 rfl).trans ((wt_bipush dX10_perform_2 (v := 40) (by decide)).trans (wt_if_icmp_le dX10_perform_4 (t := 9) rfl))
set_option maxHeartbeats 100000 in
theorem kX10_perform_7 {d : Nat} {F : am_FT} {L : am_LT} {Q : am_QT} {l0 l1 l2 l3 l4 l5 l6 l7 : Option Value} : wt am_S0 d mX10_perform 7 [l0, l1, l2, l3, l4, l5, l6, l7] [] F L Q = Q (some (.int 0)) F L := (wt_iconst dX10_perform_7 (v := 0) (by decide)).trans (wt_ireturn dX10_perform_8 rfl rfl)
set_option maxHeartbeats 100000 in
theorem kX10_perform_9 {d : Nat} {F : am_FT} {L : am_LT} {Q : am_QT} {l0 l1 l4 l5 l6 l7 : Option Value} {x2 x3 : Int32} : wt am_S0 (d + 1) mX10_perform 9 [l0, l1, some (.int x2), some (.int x3), l4, l5, l6, l7] [] F L Q = wc am_S0 d mX10_ownerOf [.int x2, .int x3] F L (fun r G K => wt am_S0 (d + 1) mX10_perform 14 [l0, l1, some (.int x2), some (.int x3), l4, l5, l6, l7] (r.toList ++ []) G K Q) := (wt_iload_n dX10_perform_9 rfl).trans ((wt_iload_n dX10_perform_10 rfl).trans (wt_callS dX10_perform_11 rfl (as := [.int x2, .int x3]) (rest := []) rfl rfl (Nat.le_of_ble_eq_true rfl) (Nat.le_of_ble_eq_true rfl)))
set_option maxHeartbeats 100000 in
theorem kX10_perform_14 {d : Nat} {F : am_FT} {L : am_LT} {Q : am_QT} {l0 l1 l2 l4 l6 l7 : Option Value} {s0 x5 x3 : Int32} : wt am_S0 (d + 1) mX10_perform 14 [l0, l1, l2, some (.int x3), l4, some (.int x5), l6, l7] [.int s0] F L Q = wc am_S0 d mX11_at [.ref 1004, .int ((s0 * 4) + x3)] F L (fun r G K => wt am_S0 (d + 1) mX10_perform 28 [l0, l1, l2, some (.int x3), l4, some (.int x5), some (.int s0), l7] (r.toList ++ []) G K Q) := (wt_istore dX10_perform_14 (lv1 := [l0, l1, l2, some (.int x3), l4, some (.int x5), some (.int s0), l7]) (Nat.le_of_ble_eq_true rfl) rfl).trans ((wt_getstatic dX10_perform_16 rfl).trans ((wt_iload dX10_perform_19 rfl).trans ((wt_iconst dX10_perform_21 (v := 4) (by decide)).trans ((wt_imul dX10_perform_22).trans ((wt_iload_n dX10_perform_23 rfl).trans ((wt_iadd dX10_perform_24).trans (wt_callS dX10_perform_25 rfl (as := [.ref 1004, .int ((s0 * 4) + x3)]) (rest := []) rfl rfl (Nat.le_of_ble_eq_true rfl) (Nat.le_of_ble_eq_true rfl))))))))
set_option maxHeartbeats 100000 in
theorem kX10_perform_28 {d : Nat} {F : am_FT} {L : am_LT} {Q : am_QT} {l1 l2 l3 l4 l5 l7 : Option Value} {s0 x6 : Int32} : wt am_S0 (d + 1) mX10_perform 28 [some (.ref 29), l1, l2, l3, l4, l5, some (.int x6), l7] [.int s0] F L Q = wc am_S0 d mX11_lay [.ref 31, .int (F 29 3), .int s0] F L (fun r G K => wt am_S0 (d + 1) mX10_perform 43 [some (.ref 29), l1, l2, l3, l4, l5, some (.int x6), some (.int s0)] (r.toList ++ []) G K Q) := (wt_istore dX10_perform_28 (lv1 := [some (.ref 29), l1, l2, l3, l4, l5, some (.int x6), some (.int s0)]) (Nat.le_of_ble_eq_true rfl) rfl).trans ((wt_aload_n dX10_perform_30 rfl rfl).trans ((wt_getfield dX10_perform_31 rfl rfl (v := .ref 31) rfl).trans ((wt_aload_n dX10_perform_34 rfl rfl).trans ((wt_getfield dX10_perform_35 rfl rfl (v := .int (F 29 3)) rfl).trans ((wt_iload dX10_perform_38 rfl).trans (wt_callS dX10_perform_40 rfl (as := [.ref 31, .int (F 29 3), .int s0]) (rest := []) rfl rfl (Nat.le_of_ble_eq_true rfl) (Nat.le_of_ble_eq_true rfl)))))))
set_option maxHeartbeats 100000 in
theorem kX10_perform_43 {d : Nat} {F : am_FT} {L : am_LT} {Q : am_QT} {l2 l3 : Option Value} {x1 x6 x7 x4 x5 : Int32} : wt am_S0 (d + 1) mX10_perform 43 [some (.ref 29), some (.int x1), l2, l3, some (.int x4), some (.int x5), some (.int x6), some (.int x7)] [] F L Q = wc am_S0 d mX10_run [.ref 29, .int x1, .int x6, .int x7, .int x4, .int (x5 + 1)] (am_upF F 29 3 ((F 29 3) + 1)) L (fun r G K => wt am_S0 (d + 1) mX10_perform 68 [some (.ref 29), some (.int x1), l2, l3, some (.int x4), some (.int x5), some (.int x6), some (.int x7)] (r.toList ++ []) G K Q) := (wt_aload_n dX10_perform_43 rfl rfl).trans ((wt_dup dX10_perform_44 rfl).trans ((wt_getfield dX10_perform_45 rfl rfl (v := .int (F 29 3)) rfl).trans ((wt_iconst dX10_perform_48 (v := 1) (by decide)).trans ((wt_iadd dX10_perform_49).trans ((wt_putfield dX10_perform_50 rfl rfl ⟨rfl, rfl, rfl, rfl⟩).trans ((wt_aload_n dX10_perform_53 rfl rfl).trans ((wt_iload_n dX10_perform_54 rfl).trans ((wt_iload dX10_perform_55 rfl).trans ((wt_iload dX10_perform_57 rfl).trans ((wt_iload dX10_perform_59 rfl).trans ((wt_iload dX10_perform_61 rfl).trans ((wt_iconst dX10_perform_63 (v := 1) (by decide)).trans ((wt_iadd dX10_perform_64).trans (wt_callV dX10_perform_65 rfl (as := [.int x1, .int x6, .int x7, .int x4, .int (x5 + 1)]) (rest := []) rfl rfl (Nat.le_of_ble_eq_true rfl) rfl (Nat.le_of_ble_eq_true rfl)))))))))))))))
set_option maxHeartbeats 100000 in
theorem kX10_perform_68 {d : Nat} {F : am_FT} {L : am_LT} {Q : am_QT} {l0 l1 l2 l3 l4 l5 l6 l7 : Option Value} {s0 : Int32} : wt am_S0 d mX10_perform 68 [l0, l1, l2, l3, l4, l5, l6, l7] [.int s0] F L Q = Q (some (.int s0)) F L := wt_ireturn dX10_perform_68 rfl rfl
theorem dX10_ownerOf_0 : decode mX10_ownerOf.2.2.1 0 = .ok (.iload_n 0, 1) := by decide +kernel
theorem dX10_ownerOf_1 : decode mX10_ownerOf.2.2.1 1 = .ok (.istore_n 2, 1) := by decide +kernel
theorem dX10_ownerOf_2 : decode mX10_ownerOf.2.2.1 2 = .ok (.iconst 0, 1) := by decide +kernel
theorem dX10_ownerOf_3 : decode mX10_ownerOf.2.2.1 3 = .ok (.istore_n 3, 1) := by decide +kernel
theorem dX10_ownerOf_4 : decode mX10_ownerOf.2.2.1 4 = .ok (.iload_n 3, 1) := by decide +kernel
theorem dX10_ownerOf_5 : decode mX10_ownerOf.2.2.1 5 = .ok (.bipush 8, 2) := by decide +kernel
theorem dX10_ownerOf_7 : decode mX10_ownerOf.2.2.1 7 = .ok (.if_icmp .ge 37, 3) := by decide +kernel
theorem dX10_ownerOf_10 : decode mX10_ownerOf.2.2.1 10 = .ok (.iload_n 2, 1) := by decide +kernel
theorem dX10_ownerOf_11 : decode mX10_ownerOf.2.2.1 11 = .ok (.ifCond .le 33, 3) := by decide +kernel
theorem dX10_ownerOf_14 : decode mX10_ownerOf.2.2.1 14 = .ok (.getstatic 54, 3) := by decide +kernel
theorem dX10_ownerOf_17 : decode mX10_ownerOf.2.2.1 17 = .ok (.iload_n 2, 1) := by decide +kernel
theorem dX10_ownerOf_18 : decode mX10_ownerOf.2.2.1 18 = .ok (.iconst 4, 1) := by decide +kernel
theorem dX10_ownerOf_19 : decode mX10_ownerOf.2.2.1 19 = .ok (.imul, 1) := by decide +kernel
theorem dX10_ownerOf_20 : decode mX10_ownerOf.2.2.1 20 = .ok (.iload_n 1, 1) := by decide +kernel
theorem dX10_ownerOf_21 : decode mX10_ownerOf.2.2.1 21 = .ok (.iadd, 1) := by decide +kernel
theorem dX10_ownerOf_22 : decode mX10_ownerOf.2.2.1 22 = .ok (.invokestatic 26, 3) := by decide +kernel
theorem dX10_ownerOf_25 : decode mX10_ownerOf.2.2.1 25 = .ok (.ifCond .eq 5, 3) := by decide +kernel
theorem dX10_ownerOf_28 : decode mX10_ownerOf.2.2.1 28 = .ok (.iload_n 2, 1) := by decide +kernel
theorem dX10_ownerOf_29 : decode mX10_ownerOf.2.2.1 29 = .ok (.ireturn, 1) := by decide +kernel
theorem dX10_ownerOf_30 : decode mX10_ownerOf.2.2.1 30 = .ok (.getstatic 30, 3) := by decide +kernel
theorem dX10_ownerOf_33 : decode mX10_ownerOf.2.2.1 33 = .ok (.iload_n 2, 1) := by decide +kernel
theorem dX10_ownerOf_34 : decode mX10_ownerOf.2.2.1 34 = .ok (.invokestatic 26, 3) := by decide +kernel
theorem dX10_ownerOf_37 : decode mX10_ownerOf.2.2.1 37 = .ok (.istore_n 2, 1) := by decide +kernel
theorem dX10_ownerOf_38 : decode mX10_ownerOf.2.2.1 38 = .ok (.iinc 3 1, 3) := by decide +kernel
theorem dX10_ownerOf_41 : decode mX10_ownerOf.2.2.1 41 = .ok (.goto (-37), 3) := by decide +kernel
theorem dX10_ownerOf_44 : decode mX10_ownerOf.2.2.1 44 = .ok (.iconst 0, 1) := by decide +kernel
theorem dX10_ownerOf_45 : decode mX10_ownerOf.2.2.1 45 = .ok (.ireturn, 1) := by decide +kernel
set_option maxHeartbeats 100000 in
theorem kX10_ownerOf_0 {d : Nat} {F : am_FT} {L : am_LT} {Q : am_QT} {l2 l3 : Option Value} {x0 x1 : Int32} : wt am_S0 d mX10_ownerOf 0 [some (.int x0), some (.int x1), l2, l3] [] F L Q = wt am_S0 d mX10_ownerOf 4 [some (.int x0), some (.int x1), some (.int x0), some (.int 0)] [] F L Q := (wt_iload_n dX10_ownerOf_0 rfl).trans ((wt_istore_n dX10_ownerOf_1 (lv1 := [some (.int x0), some (.int x1), some (.int x0), l3]) (Nat.le_of_ble_eq_true rfl) rfl).trans ((wt_iconst dX10_ownerOf_2 (v := 0) (by decide)).trans (wt_istore_n dX10_ownerOf_3 (lv1 := [some (.int x0), some (.int x1), some (.int x0), some (.int 0)]) (Nat.le_of_ble_eq_true rfl) rfl)))
set_option maxHeartbeats 100000 in
theorem kX10_ownerOf_4 {d : Nat} {F : am_FT} {L : am_LT} {Q : am_QT} {l0 l1 l2 : Option Value} {x3 : Int32} : wt am_S0 d mX10_ownerOf 4 [l0, l1, l2, some (.int x3)] [] F L Q = if 8 ≤ x3 then wt am_S0 d mX10_ownerOf 44 [l0, l1, l2, some (.int x3)] [] F L Q else wt am_S0 d mX10_ownerOf 10 [l0, l1, l2, some (.int x3)] [] F L Q := (wt_iload_n dX10_ownerOf_4 rfl).trans ((wt_bipush dX10_ownerOf_5 (v := 8) (by decide)).trans (wt_if_icmp_ge dX10_ownerOf_7 (t := 44) rfl))
set_option maxHeartbeats 100000 in
theorem kX10_ownerOf_10 {d : Nat} {F : am_FT} {L : am_LT} {Q : am_QT} {l0 l1 l3 : Option Value} {x2 : Int32} : wt am_S0 d mX10_ownerOf 10 [l0, l1, some (.int x2), l3] [] F L Q = if x2 ≤ 0 then wt am_S0 d mX10_ownerOf 44 [l0, l1, some (.int x2), l3] [] F L Q else wt am_S0 d mX10_ownerOf 14 [l0, l1, some (.int x2), l3] [] F L Q := (wt_iload_n dX10_ownerOf_10 rfl).trans (wt_ifCond_le dX10_ownerOf_11 (t := 44) rfl)
set_option maxHeartbeats 100000 in
theorem kX10_ownerOf_14 {d : Nat} {F : am_FT} {L : am_LT} {Q : am_QT} {l0 l3 : Option Value} {x2 x1 : Int32} : wt am_S0 (d + 1) mX10_ownerOf 14 [l0, some (.int x1), some (.int x2), l3] [] F L Q = wc am_S0 d mX11_at [.ref 1004, .int ((x2 * 4) + x1)] F L (fun r G K => wt am_S0 (d + 1) mX10_ownerOf 25 [l0, some (.int x1), some (.int x2), l3] (r.toList ++ []) G K Q) := (wt_getstatic dX10_ownerOf_14 rfl).trans ((wt_iload_n dX10_ownerOf_17 rfl).trans ((wt_iconst dX10_ownerOf_18 (v := 4) (by decide)).trans ((wt_imul dX10_ownerOf_19).trans ((wt_iload_n dX10_ownerOf_20 rfl).trans ((wt_iadd dX10_ownerOf_21).trans (wt_callS dX10_ownerOf_22 rfl (as := [.ref 1004, .int ((x2 * 4) + x1)]) (rest := []) rfl rfl (Nat.le_of_ble_eq_true rfl) (Nat.le_of_ble_eq_true rfl)))))))
set_option maxHeartbeats 100000 in
theorem kX10_ownerOf_25 {d : Nat} {F : am_FT} {L : am_LT} {Q : am_QT} {l0 l1 l2 l3 : Option Value} {s0 : Int32} : wt am_S0 d mX10_ownerOf 25 [l0, l1, l2, l3] [.int s0] F L Q = if s0 = 0 then wt am_S0 d mX10_ownerOf 30 [l0, l1, l2, l3] [] F L Q else wt am_S0 d mX10_ownerOf 28 [l0, l1, l2, l3] [] F L Q := wt_ifCond_eq dX10_ownerOf_25 (t := 30) rfl
set_option maxHeartbeats 100000 in
theorem kX10_ownerOf_28 {d : Nat} {F : am_FT} {L : am_LT} {Q : am_QT} {l0 l1 l3 : Option Value} {x2 : Int32} : wt am_S0 d mX10_ownerOf 28 [l0, l1, some (.int x2), l3] [] F L Q = Q (some (.int x2)) F L := (wt_iload_n dX10_ownerOf_28 rfl).trans (wt_ireturn dX10_ownerOf_29 rfl rfl)
set_option maxHeartbeats 100000 in
theorem kX10_ownerOf_30 {d : Nat} {F : am_FT} {L : am_LT} {Q : am_QT} {l0 l1 l3 : Option Value} {x2 : Int32} : wt am_S0 (d + 1) mX10_ownerOf 30 [l0, l1, some (.int x2), l3] [] F L Q = wc am_S0 d mX11_at [.ref 1003, .int x2] F L (fun r G K => wt am_S0 (d + 1) mX10_ownerOf 37 [l0, l1, some (.int x2), l3] (r.toList ++ []) G K Q) := (wt_getstatic dX10_ownerOf_30 rfl).trans ((wt_iload_n dX10_ownerOf_33 rfl).trans (wt_callS dX10_ownerOf_34 rfl (as := [.ref 1003, .int x2]) (rest := []) rfl rfl (Nat.le_of_ble_eq_true rfl) (Nat.le_of_ble_eq_true rfl)))
set_option maxHeartbeats 100000 in
theorem kX10_ownerOf_37 {d : Nat} {F : am_FT} {L : am_LT} {Q : am_QT} {l0 l2 : Option Value} {s0 x1 x3 : Int32} : wt am_S0 d mX10_ownerOf 37 [l0, some (.int x1), l2, some (.int x3)] [.int s0] F L Q = wt am_S0 d mX10_ownerOf 4 [l0, some (.int x1), some (.int s0), some (.int (x3 + 1))] [] F L Q := (wt_istore_n dX10_ownerOf_37 (lv1 := [l0, some (.int x1), some (.int s0), some (.int x3)]) (Nat.le_of_ble_eq_true rfl) rfl).trans ((wt_iinc dX10_ownerOf_38 (v := 1) (lv1 := [l0, some (.int x1), some (.int s0), some (.int (x3 + 1))]) rfl (Nat.le_of_ble_eq_true rfl) (by decide) rfl).trans (wt_goto dX10_ownerOf_41 (t := 4) rfl))
set_option maxHeartbeats 100000 in
theorem kX10_ownerOf_44 {d : Nat} {F : am_FT} {L : am_LT} {Q : am_QT} {l0 l1 l2 l3 : Option Value} : wt am_S0 d mX10_ownerOf 44 [l0, l1, l2, l3] [] F L Q = Q (some (.int 0)) F L := (wt_iconst dX10_ownerOf_44 (v := 0) (by decide)).trans (wt_ireturn dX10_ownerOf_45 rfl rfl)
theorem dX10_run_0 : decode mX10_run.2.2.1 0 = .ok (.getstatic 30, 3) := by decide +kernel
theorem dX10_run_3 : decode mX10_run.2.2.1 3 = .ok (.iload_n 2, 1) := by decide +kernel
theorem dX10_run_4 : decode mX10_run.2.2.1 4 = .ok (.invokestatic 26, 3) := by decide +kernel
theorem dX10_run_7 : decode mX10_run.2.2.1 7 = .ok (.istore 6, 2) := by decide +kernel
theorem dX10_run_9 : decode mX10_run.2.2.1 9 = .ok (.iload_n 3, 1) := by decide +kernel
theorem dX10_run_10 : decode mX10_run.2.2.1 10 = .ok (.lookupswitch 308 #[(1, 114), (2, 119), (10, 140), (11, 153), (20, 158), (30, 173), (40, 187), (41, 202), (50, 217), (60, 240), (70, 255), (80, 270), (81, 293)], 114) := by decide +kernel
theorem dX10_run_124 : decode mX10_run.2.2.1 124 = .ok (.iload 4, 2) := by decide +kernel
theorem dX10_run_126 : decode mX10_run.2.2.1 126 = .ok (.iload_n 1, 1) := by decide +kernel
theorem dX10_run_127 : decode mX10_run.2.2.1 127 = .ok (.iadd, 1) := by decide +kernel
theorem dX10_run_128 : decode mX10_run.2.2.1 128 = .ok (.ireturn, 1) := by decide +kernel
theorem dX10_run_129 : decode mX10_run.2.2.1 129 = .ok (.aload_n 0, 1) := by decide +kernel
theorem dX10_run_130 : decode mX10_run.2.2.1 130 = .ok (.iload_n 1, 1) := by decide +kernel
theorem dX10_run_131 : decode mX10_run.2.2.1 131 = .ok (.iconst 1, 1) := by decide +kernel
theorem dX10_run_132 : decode mX10_run.2.2.1 132 = .ok (.iload 4, 2) := by decide +kernel
theorem dX10_run_134 : decode mX10_run.2.2.1 134 = .ok (.iload 5, 2) := by decide +kernel
theorem dX10_run_136 : decode mX10_run.2.2.1 136 = .ok (.invokevirtual 63, 3) := by decide +kernel
theorem dX10_run_139 : decode mX10_run.2.2.1 139 = .ok (.aload_n 0, 1) := by decide +kernel
theorem dX10_run_140 : decode mX10_run.2.2.1 140 = .ok (.iload_n 1, 1) := by decide +kernel
theorem dX10_run_141 : decode mX10_run.2.2.1 141 = .ok (.iconst 2, 1) := by decide +kernel
theorem dX10_run_142 : decode mX10_run.2.2.1 142 = .ok (.iconst 1, 1) := by decide +kernel
theorem dX10_run_143 : decode mX10_run.2.2.1 143 = .ok (.iload 5, 2) := by decide +kernel
theorem dX10_run_145 : decode mX10_run.2.2.1 145 = .ok (.invokevirtual 63, 3) := by decide +kernel
theorem dX10_run_148 : decode mX10_run.2.2.1 148 = .ok (.isub, 1) := by decide +kernel
theorem dX10_run_149 : decode mX10_run.2.2.1 149 = .ok (.ireturn, 1) := by decide +kernel
theorem dX10_run_150 : decode mX10_run.2.2.1 150 = .ok (.aload_n 0, 1) := by decide +kernel
theorem dX10_run_151 : decode mX10_run.2.2.1 151 = .ok (.iload_n 1, 1) := by decide +kernel
theorem dX10_run_152 : decode mX10_run.2.2.1 152 = .ok (.iconst 0, 1) := by decide +kernel
theorem dX10_run_153 : decode mX10_run.2.2.1 153 = .ok (.iload 4, 2) := by decide +kernel
theorem dX10_run_155 : decode mX10_run.2.2.1 155 = .ok (.iload 5, 2) := by decide +kernel
theorem dX10_run_157 : decode mX10_run.2.2.1 157 = .ok (.invokevirtual 63, 3) := by decide +kernel
theorem dX10_run_160 : decode mX10_run.2.2.1 160 = .ok (.iconst 2, 1) := by decide +kernel
theorem dX10_run_161 : decode mX10_run.2.2.1 161 = .ok (.imul, 1) := by decide +kernel
theorem dX10_run_162 : decode mX10_run.2.2.1 162 = .ok (.ireturn, 1) := by decide +kernel
theorem dX10_run_163 : decode mX10_run.2.2.1 163 = .ok (.iload 4, 2) := by decide +kernel
theorem dX10_run_165 : decode mX10_run.2.2.1 165 = .ok (.iload_n 1, 1) := by decide +kernel
theorem dX10_run_166 : decode mX10_run.2.2.1 166 = .ok (.ixor, 1) := by decide +kernel
theorem dX10_run_167 : decode mX10_run.2.2.1 167 = .ok (.ireturn, 1) := by decide +kernel
theorem dX10_run_168 : decode mX10_run.2.2.1 168 = .ok (.aload_n 0, 1) := by decide +kernel
theorem dX10_run_169 : decode mX10_run.2.2.1 169 = .ok (.iload_n 1, 1) := by decide +kernel
theorem dX10_run_170 : decode mX10_run.2.2.1 170 = .ok (.iload 6, 2) := by decide +kernel
theorem dX10_run_172 : decode mX10_run.2.2.1 172 = .ok (.iconst 0, 1) := by decide +kernel
theorem dX10_run_173 : decode mX10_run.2.2.1 173 = .ok (.iload 4, 2) := by decide +kernel
theorem dX10_run_175 : decode mX10_run.2.2.1 175 = .ok (.iload 5, 2) := by decide +kernel
theorem dX10_run_177 : decode mX10_run.2.2.1 177 = .ok (.invokevirtual 50, 3) := by decide +kernel
theorem dX10_run_180 : decode mX10_run.2.2.1 180 = .ok (.iconst 3, 1) := by decide +kernel
theorem dX10_run_181 : decode mX10_run.2.2.1 181 = .ok (.iadd, 1) := by decide +kernel
theorem dX10_run_182 : decode mX10_run.2.2.1 182 = .ok (.ireturn, 1) := by decide +kernel
theorem dX10_run_183 : decode mX10_run.2.2.1 183 = .ok (.aload_n 0, 1) := by decide +kernel
theorem dX10_run_184 : decode mX10_run.2.2.1 184 = .ok (.iload_n 1, 1) := by decide +kernel
theorem dX10_run_185 : decode mX10_run.2.2.1 185 = .ok (.iload 6, 2) := by decide +kernel
theorem dX10_run_187 : decode mX10_run.2.2.1 187 = .ok (.iconst 1, 1) := by decide +kernel
theorem dX10_run_188 : decode mX10_run.2.2.1 188 = .ok (.iload 4, 2) := by decide +kernel
theorem dX10_run_190 : decode mX10_run.2.2.1 190 = .ok (.iload 5, 2) := by decide +kernel
theorem dX10_run_192 : decode mX10_run.2.2.1 192 = .ok (.invokevirtual 50, 3) := by decide +kernel
theorem dX10_run_195 : decode mX10_run.2.2.1 195 = .ok (.ineg, 1) := by decide +kernel
theorem dX10_run_196 : decode mX10_run.2.2.1 196 = .ok (.ireturn, 1) := by decide +kernel
theorem dX10_run_197 : decode mX10_run.2.2.1 197 = .ok (.aload_n 0, 1) := by decide +kernel
theorem dX10_run_198 : decode mX10_run.2.2.1 198 = .ok (.iload_n 1, 1) := by decide +kernel
theorem dX10_run_199 : decode mX10_run.2.2.1 199 = .ok (.iload 6, 2) := by decide +kernel
theorem dX10_run_201 : decode mX10_run.2.2.1 201 = .ok (.iconst 2, 1) := by decide +kernel
theorem dX10_run_202 : decode mX10_run.2.2.1 202 = .ok (.iload 4, 2) := by decide +kernel
theorem dX10_run_204 : decode mX10_run.2.2.1 204 = .ok (.iload 5, 2) := by decide +kernel
theorem dX10_run_206 : decode mX10_run.2.2.1 206 = .ok (.invokevirtual 50, 3) := by decide +kernel
theorem dX10_run_209 : decode mX10_run.2.2.1 209 = .ok (.iconst 3, 1) := by decide +kernel
theorem dX10_run_210 : decode mX10_run.2.2.1 210 = .ok (.imul, 1) := by decide +kernel
theorem dX10_run_211 : decode mX10_run.2.2.1 211 = .ok (.ireturn, 1) := by decide +kernel
theorem dX10_run_212 : decode mX10_run.2.2.1 212 = .ok (.aload_n 0, 1) := by decide +kernel
theorem dX10_run_213 : decode mX10_run.2.2.1 213 = .ok (.iload_n 1, 1) := by decide +kernel
theorem dX10_run_214 : decode mX10_run.2.2.1 214 = .ok (.iload 6, 2) := by decide +kernel
theorem dX10_run_216 : decode mX10_run.2.2.1 216 = .ok (.iconst 1, 1) := by decide +kernel
theorem dX10_run_217 : decode mX10_run.2.2.1 217 = .ok (.iload 4, 2) := by decide +kernel
theorem dX10_run_219 : decode mX10_run.2.2.1 219 = .ok (.iconst 1, 1) := by decide +kernel
theorem dX10_run_220 : decode mX10_run.2.2.1 220 = .ok (.iadd, 1) := by decide +kernel
theorem dX10_run_221 : decode mX10_run.2.2.1 221 = .ok (.iload 5, 2) := by decide +kernel
theorem dX10_run_223 : decode mX10_run.2.2.1 223 = .ok (.invokevirtual 50, 3) := by decide +kernel
theorem dX10_run_226 : decode mX10_run.2.2.1 226 = .ok (.ireturn, 1) := by decide +kernel
theorem dX10_run_227 : decode mX10_run.2.2.1 227 = .ok (.aload_n 0, 1) := by decide +kernel
theorem dX10_run_228 : decode mX10_run.2.2.1 228 = .ok (.iload_n 1, 1) := by decide +kernel
theorem dX10_run_229 : decode mX10_run.2.2.1 229 = .ok (.iload 6, 2) := by decide +kernel
theorem dX10_run_231 : decode mX10_run.2.2.1 231 = .ok (.iconst 2, 1) := by decide +kernel
theorem dX10_run_232 : decode mX10_run.2.2.1 232 = .ok (.iload 4, 2) := by decide +kernel
theorem dX10_run_234 : decode mX10_run.2.2.1 234 = .ok (.iload 5, 2) := by decide +kernel
theorem dX10_run_236 : decode mX10_run.2.2.1 236 = .ok (.invokevirtual 50, 3) := by decide +kernel
theorem dX10_run_239 : decode mX10_run.2.2.1 239 = .ok (.aload_n 0, 1) := by decide +kernel
theorem dX10_run_240 : decode mX10_run.2.2.1 240 = .ok (.iload_n 1, 1) := by decide +kernel
theorem dX10_run_241 : decode mX10_run.2.2.1 241 = .ok (.iconst 0, 1) := by decide +kernel
theorem dX10_run_242 : decode mX10_run.2.2.1 242 = .ok (.iconst 2, 1) := by decide +kernel
theorem dX10_run_243 : decode mX10_run.2.2.1 243 = .ok (.iload 5, 2) := by decide +kernel
theorem dX10_run_245 : decode mX10_run.2.2.1 245 = .ok (.invokevirtual 63, 3) := by decide +kernel
theorem dX10_run_248 : decode mX10_run.2.2.1 248 = .ok (.isub, 1) := by decide +kernel
theorem dX10_run_249 : decode mX10_run.2.2.1 249 = .ok (.ireturn, 1) := by decide +kernel
theorem dX10_run_250 : decode mX10_run.2.2.1 250 = .ok (.aload_n 0, 1) := by decide +kernel
theorem dX10_run_251 : decode mX10_run.2.2.1 251 = .ok (.iload_n 1, 1) := by decide +kernel
theorem dX10_run_252 : decode mX10_run.2.2.1 252 = .ok (.iload 6, 2) := by decide +kernel
theorem dX10_run_254 : decode mX10_run.2.2.1 254 = .ok (.iconst 3, 1) := by decide +kernel
theorem dX10_run_255 : decode mX10_run.2.2.1 255 = .ok (.iload 4, 2) := by decide +kernel
theorem dX10_run_257 : decode mX10_run.2.2.1 257 = .ok (.iload 5, 2) := by decide +kernel
theorem dX10_run_259 : decode mX10_run.2.2.1 259 = .ok (.invokevirtual 50, 3) := by decide +kernel
theorem dX10_run_262 : decode mX10_run.2.2.1 262 = .ok (.iconst 5, 1) := by decide +kernel
theorem dX10_run_263 : decode mX10_run.2.2.1 263 = .ok (.ixor, 1) := by decide +kernel
theorem dX10_run_264 : decode mX10_run.2.2.1 264 = .ok (.ireturn, 1) := by decide +kernel
theorem dX10_run_265 : decode mX10_run.2.2.1 265 = .ok (.aload_n 0, 1) := by decide +kernel
theorem dX10_run_266 : decode mX10_run.2.2.1 266 = .ok (.iload_n 1, 1) := by decide +kernel
theorem dX10_run_267 : decode mX10_run.2.2.1 267 = .ok (.iload 6, 2) := by decide +kernel
theorem dX10_run_269 : decode mX10_run.2.2.1 269 = .ok (.iconst 0, 1) := by decide +kernel
theorem dX10_run_270 : decode mX10_run.2.2.1 270 = .ok (.iload 4, 2) := by decide +kernel
theorem dX10_run_272 : decode mX10_run.2.2.1 272 = .ok (.iload 5, 2) := by decide +kernel
theorem dX10_run_274 : decode mX10_run.2.2.1 274 = .ok (.invokevirtual 50, 3) := by decide +kernel
theorem dX10_run_277 : decode mX10_run.2.2.1 277 = .ok (.iconst 2, 1) := by decide +kernel
theorem dX10_run_278 : decode mX10_run.2.2.1 278 = .ok (.imul, 1) := by decide +kernel
theorem dX10_run_279 : decode mX10_run.2.2.1 279 = .ok (.ireturn, 1) := by decide +kernel
theorem dX10_run_280 : decode mX10_run.2.2.1 280 = .ok (.aload_n 0, 1) := by decide +kernel
theorem dX10_run_281 : decode mX10_run.2.2.1 281 = .ok (.iload_n 1, 1) := by decide +kernel
theorem dX10_run_282 : decode mX10_run.2.2.1 282 = .ok (.iload 6, 2) := by decide +kernel
theorem dX10_run_284 : decode mX10_run.2.2.1 284 = .ok (.iconst 1, 1) := by decide +kernel
theorem dX10_run_285 : decode mX10_run.2.2.1 285 = .ok (.iload 4, 2) := by decide +kernel
theorem dX10_run_287 : decode mX10_run.2.2.1 287 = .ok (.iload 5, 2) := by decide +kernel
theorem dX10_run_289 : decode mX10_run.2.2.1 289 = .ok (.invokevirtual 50, 3) := by decide +kernel
theorem dX10_run_292 : decode mX10_run.2.2.1 292 = .ok (.aload_n 0, 1) := by decide +kernel
theorem dX10_run_293 : decode mX10_run.2.2.1 293 = .ok (.iload_n 1, 1) := by decide +kernel
theorem dX10_run_294 : decode mX10_run.2.2.1 294 = .ok (.iconst 2, 1) := by decide +kernel
theorem dX10_run_295 : decode mX10_run.2.2.1 295 = .ok (.iconst 2, 1) := by decide +kernel
theorem dX10_run_296 : decode mX10_run.2.2.1 296 = .ok (.iload 5, 2) := by decide +kernel
theorem dX10_run_298 : decode mX10_run.2.2.1 298 = .ok (.invokevirtual 63, 3) := by decide +kernel
theorem dX10_run_301 : decode mX10_run.2.2.1 301 = .ok (.iadd, 1) := by decide +kernel
theorem dX10_run_302 : decode mX10_run.2.2.1 302 = .ok (.ireturn, 1) := by decide +kernel
theorem dX10_run_303 : decode mX10_run.2.2.1 303 = .ok (.aload_n 0, 1) := by decide +kernel
theorem dX10_run_304 : decode mX10_run.2.2.1 304 = .ok (.iload_n 1, 1) := by decide +kernel
theorem dX10_run_305 : decode mX10_run.2.2.1 305 = .ok (.iload 6, 2) := by decide +kernel
theorem dX10_run_307 : decode mX10_run.2.2.1 307 = .ok (.iconst 3, 1) := by decide +kernel
theorem dX10_run_308 : decode mX10_run.2.2.1 308 = .ok (.iload 4, 2) := by decide +kernel
theorem dX10_run_310 : decode mX10_run.2.2.1 310 = .ok (.iload 5, 2) := by decide +kernel
theorem dX10_run_312 : decode mX10_run.2.2.1 312 = .ok (.invokevirtual 50, 3) := by decide +kernel
theorem dX10_run_315 : decode mX10_run.2.2.1 315 = .ok (.iconst 1, 1) := by decide +kernel
theorem dX10_run_316 : decode mX10_run.2.2.1 316 = .ok (.isub, 1) := by decide +kernel
theorem dX10_run_317 : decode mX10_run.2.2.1 317 = .ok (.ireturn, 1) := by decide +kernel
theorem dX10_run_318 : decode mX10_run.2.2.1 318 = .ok (.iconst 0, 1) := by decide +kernel
theorem dX10_run_319 : decode mX10_run.2.2.1 319 = .ok (.ireturn, 1) := by decide +kernel
set_option maxHeartbeats 100000 in
theorem kX10_run_0 {d : Nat} {F : am_FT} {L : am_LT} {Q : am_QT} {l0 l1 l3 l4 l5 l6 : Option Value} {x2 : Int32} : wt am_S0 (d + 1) mX10_run 0 [l0, l1, some (.int x2), l3, l4, l5, l6] [] F L Q = wc am_S0 d mX11_at [.ref 1003, .int x2] F L (fun r G K => wt am_S0 (d + 1) mX10_run 7 [l0, l1, some (.int x2), l3, l4, l5, l6] (r.toList ++ []) G K Q) := (wt_getstatic dX10_run_0 rfl).trans ((wt_iload_n dX10_run_3 rfl).trans (wt_callS dX10_run_4 rfl (as := [.ref 1003, .int x2]) (rest := []) rfl rfl (Nat.le_of_ble_eq_true rfl) (Nat.le_of_ble_eq_true rfl)))
set_option maxHeartbeats 100000 in
theorem kX10_run_7 {d : Nat} {F : am_FT} {L : am_LT} {Q : am_QT} {l0 l1 l2 l4 l6 : Option Value} {s0 x5 x3 : Int32} : wt am_S0 d mX10_run 7 [l0, l1, l2, some (.int x3), l4, some (.int x5), l6] [.int s0] F L Q = if x3 = 1 then wt am_S0 d mX10_run 124 [l0, l1, l2, some (.int x3), l4, some (.int x5), some (.int s0)] [] F L Q else if x3 = 2 then wt am_S0 d mX10_run 129 [l0, l1, l2, some (.int x3), l4, some (.int x5), some (.int s0)] [] F L Q else if x3 = 10 then wt am_S0 d mX10_run 150 [l0, l1, l2, some (.int x3), l4, some (.int x5), some (.int s0)] [] F L Q else if x3 = 11 then wt am_S0 d mX10_run 163 [l0, l1, l2, some (.int x3), l4, some (.int x5), some (.int s0)] [] F L Q else if x3 = 20 then wt am_S0 d mX10_run 168 [l0, l1, l2, some (.int x3), l4, some (.int x5), some (.int s0)] [] F L Q else if x3 = 30 then wt am_S0 d mX10_run 183 [l0, l1, l2, some (.int x3), l4, some (.int x5), some (.int s0)] [] F L Q else if x3 = 40 then wt am_S0 d mX10_run 197 [l0, l1, l2, some (.int x3), l4, some (.int x5), some (.int s0)] [] F L Q else if x3 = 41 then wt am_S0 d mX10_run 212 [l0, l1, l2, some (.int x3), l4, some (.int x5), some (.int s0)] [] F L Q else if x3 = 50 then wt am_S0 d mX10_run 227 [l0, l1, l2, some (.int x3), l4, some (.int x5), some (.int s0)] [] F L Q else if x3 = 60 then wt am_S0 d mX10_run 250 [l0, l1, l2, some (.int x3), l4, some (.int x5), some (.int s0)] [] F L Q else if x3 = 70 then wt am_S0 d mX10_run 265 [l0, l1, l2, some (.int x3), l4, some (.int x5), some (.int s0)] [] F L Q else if x3 = 80 then wt am_S0 d mX10_run 280 [l0, l1, l2, some (.int x3), l4, some (.int x5), some (.int s0)] [] F L Q else if x3 = 81 then wt am_S0 d mX10_run 303 [l0, l1, l2, some (.int x3), l4, some (.int x5), some (.int s0)] [] F L Q else wt am_S0 d mX10_run 318 [l0, l1, l2, some (.int x3), l4, some (.int x5), some (.int s0)] [] F L Q := by
  rw [wt_istore dX10_run_7 (lv1 := [l0, l1, l2, some (.int x3), l4, some (.int x5), some (.int s0)]) (Nat.le_of_ble_eq_true rfl) rfl]
  rw [wt_iload_n dX10_run_9 rfl]
  by_cases g0 : x3 = 1
  · rw [if_pos g0, g0]
    exact wt_lookup dX10_run_10 (by decide) (t := 124) (by decide)
  rw [if_neg g0]
  by_cases g1 : x3 = 2
  · rw [if_pos g1, g1]
    exact wt_lookup dX10_run_10 (by decide) (t := 129) (by decide)
  rw [if_neg g1]
  by_cases g2 : x3 = 10
  · rw [if_pos g2, g2]
    exact wt_lookup dX10_run_10 (by decide) (t := 150) (by decide)
  rw [if_neg g2]
  by_cases g3 : x3 = 11
  · rw [if_pos g3, g3]
    exact wt_lookup dX10_run_10 (by decide) (t := 163) (by decide)
  rw [if_neg g3]
  by_cases g4 : x3 = 20
  · rw [if_pos g4, g4]
    exact wt_lookup dX10_run_10 (by decide) (t := 168) (by decide)
  rw [if_neg g4]
  by_cases g5 : x3 = 30
  · rw [if_pos g5, g5]
    exact wt_lookup dX10_run_10 (by decide) (t := 183) (by decide)
  rw [if_neg g5]
  by_cases g6 : x3 = 40
  · rw [if_pos g6, g6]
    exact wt_lookup dX10_run_10 (by decide) (t := 197) (by decide)
  rw [if_neg g6]
  by_cases g7 : x3 = 41
  · rw [if_pos g7, g7]
    exact wt_lookup dX10_run_10 (by decide) (t := 212) (by decide)
  rw [if_neg g7]
  by_cases g8 : x3 = 50
  · rw [if_pos g8, g8]
    exact wt_lookup dX10_run_10 (by decide) (t := 227) (by decide)
  rw [if_neg g8]
  by_cases g9 : x3 = 60
  · rw [if_pos g9, g9]
    exact wt_lookup dX10_run_10 (by decide) (t := 250) (by decide)
  rw [if_neg g9]
  by_cases g10 : x3 = 70
  · rw [if_pos g10, g10]
    exact wt_lookup dX10_run_10 (by decide) (t := 265) (by decide)
  rw [if_neg g10]
  by_cases g11 : x3 = 80
  · rw [if_pos g11, g11]
    exact wt_lookup dX10_run_10 (by decide) (t := 280) (by decide)
  rw [if_neg g11]
  by_cases g12 : x3 = 81
  · rw [if_pos g12, g12]
    exact wt_lookup dX10_run_10 (by decide) (t := 303) (by decide)
  rw [if_neg g12]
  have i0 : ¬ (1 : Int) = ((x3 : Int32)).toInt := fun z => g0 (Int32.toInt_inj.mp (z.symm.trans (by decide)))
  have i1 : ¬ (2 : Int) = ((x3 : Int32)).toInt := fun z => g1 (Int32.toInt_inj.mp (z.symm.trans (by decide)))
  have i2 : ¬ (10 : Int) = ((x3 : Int32)).toInt := fun z => g2 (Int32.toInt_inj.mp (z.symm.trans (by decide)))
  have i3 : ¬ (11 : Int) = ((x3 : Int32)).toInt := fun z => g3 (Int32.toInt_inj.mp (z.symm.trans (by decide)))
  have i4 : ¬ (20 : Int) = ((x3 : Int32)).toInt := fun z => g4 (Int32.toInt_inj.mp (z.symm.trans (by decide)))
  have i5 : ¬ (30 : Int) = ((x3 : Int32)).toInt := fun z => g5 (Int32.toInt_inj.mp (z.symm.trans (by decide)))
  have i6 : ¬ (40 : Int) = ((x3 : Int32)).toInt := fun z => g6 (Int32.toInt_inj.mp (z.symm.trans (by decide)))
  have i7 : ¬ (41 : Int) = ((x3 : Int32)).toInt := fun z => g7 (Int32.toInt_inj.mp (z.symm.trans (by decide)))
  have i8 : ¬ (50 : Int) = ((x3 : Int32)).toInt := fun z => g8 (Int32.toInt_inj.mp (z.symm.trans (by decide)))
  have i9 : ¬ (60 : Int) = ((x3 : Int32)).toInt := fun z => g9 (Int32.toInt_inj.mp (z.symm.trans (by decide)))
  have i10 : ¬ (70 : Int) = ((x3 : Int32)).toInt := fun z => g10 (Int32.toInt_inj.mp (z.symm.trans (by decide)))
  have i11 : ¬ (80 : Int) = ((x3 : Int32)).toInt := fun z => g11 (Int32.toInt_inj.mp (z.symm.trans (by decide)))
  have i12 : ¬ (81 : Int) = ((x3 : Int32)).toInt := fun z => g12 (Int32.toInt_inj.mp (z.symm.trans (by decide)))
  exact wt_lookup dX10_run_10 (by decide) (t := 318) (by simp [Op.lookupswitch.offset, i0, i1, i2, i3, i4, i5, i6, i7, i8, i9, i10, i11, i12, am_tg])
set_option maxHeartbeats 100000 in
theorem kX10_run_124 {d : Nat} {F : am_FT} {L : am_LT} {Q : am_QT} {l0 l2 l3 l5 l6 : Option Value} {x4 x1 : Int32} : wt am_S0 d mX10_run 124 [l0, some (.int x1), l2, l3, some (.int x4), l5, l6] [] F L Q = Q (some (.int (x4 + x1))) F L := (wt_iload dX10_run_124 rfl).trans ((wt_iload_n dX10_run_126 rfl).trans ((wt_iadd dX10_run_127).trans (wt_ireturn dX10_run_128 rfl rfl)))
set_option maxHeartbeats 100000 in
theorem kX10_run_129 {d : Nat} {F : am_FT} {L : am_LT} {Q : am_QT} {l2 l3 l6 : Option Value} {x1 x4 x5 : Int32} : wt am_S0 (d + 1) mX10_run 129 [some (.ref 29), some (.int x1), l2, l3, some (.int x4), some (.int x5), l6] [] F L Q = wc am_S0 d mX10_does [.ref 29, .int x1, .int 1, .int x4, .int x5] F L (fun r G K => wt am_S0 (d + 1) mX10_run 139 [some (.ref 29), some (.int x1), l2, l3, some (.int x4), some (.int x5), l6] (r.toList ++ []) G K Q) := (wt_aload_n dX10_run_129 rfl rfl).trans ((wt_iload_n dX10_run_130 rfl).trans ((wt_iconst dX10_run_131 (v := 1) (by decide)).trans ((wt_iload dX10_run_132 rfl).trans ((wt_iload dX10_run_134 rfl).trans (wt_callV dX10_run_136 rfl (as := [.int x1, .int 1, .int x4, .int x5]) (rest := []) rfl rfl (Nat.le_of_ble_eq_true rfl) rfl (Nat.le_of_ble_eq_true rfl))))))
set_option maxHeartbeats 100000 in
theorem kX10_run_139 {d : Nat} {F : am_FT} {L : am_LT} {Q : am_QT} {l2 l3 l4 l6 : Option Value} {s0 x1 x5 : Int32} : wt am_S0 (d + 1) mX10_run 139 [some (.ref 29), some (.int x1), l2, l3, l4, some (.int x5), l6] [.int s0] F L Q = wc am_S0 d mX10_does [.ref 29, .int x1, .int 2, .int 1, .int x5] F L (fun r G K => wt am_S0 (d + 1) mX10_run 148 [some (.ref 29), some (.int x1), l2, l3, l4, some (.int x5), l6] (r.toList ++ [.int s0]) G K Q) := (wt_aload_n dX10_run_139 rfl rfl).trans ((wt_iload_n dX10_run_140 rfl).trans ((wt_iconst dX10_run_141 (v := 2) (by decide)).trans ((wt_iconst dX10_run_142 (v := 1) (by decide)).trans ((wt_iload dX10_run_143 rfl).trans (wt_callV dX10_run_145 rfl (as := [.int x1, .int 2, .int 1, .int x5]) (rest := [.int s0]) rfl rfl (Nat.le_of_ble_eq_true rfl) rfl (Nat.le_of_ble_eq_true rfl))))))
set_option maxHeartbeats 100000 in
theorem kX10_run_148 {d : Nat} {F : am_FT} {L : am_LT} {Q : am_QT} {l0 l1 l2 l3 l4 l5 l6 : Option Value} {s0 s1 : Int32} : wt am_S0 d mX10_run 148 [l0, l1, l2, l3, l4, l5, l6] [.int s1, .int s0] F L Q = Q (some (.int (s0 - s1))) F L := (wt_isub dX10_run_148).trans (wt_ireturn dX10_run_149 rfl rfl)
set_option maxHeartbeats 100000 in
theorem kX10_run_150 {d : Nat} {F : am_FT} {L : am_LT} {Q : am_QT} {l2 l3 l6 : Option Value} {x1 x4 x5 : Int32} : wt am_S0 (d + 1) mX10_run 150 [some (.ref 29), some (.int x1), l2, l3, some (.int x4), some (.int x5), l6] [] F L Q = wc am_S0 d mX10_does [.ref 29, .int x1, .int 0, .int x4, .int x5] F L (fun r G K => wt am_S0 (d + 1) mX10_run 160 [some (.ref 29), some (.int x1), l2, l3, some (.int x4), some (.int x5), l6] (r.toList ++ []) G K Q) := (wt_aload_n dX10_run_150 rfl rfl).trans ((wt_iload_n dX10_run_151 rfl).trans ((wt_iconst dX10_run_152 (v := 0) (by decide)).trans ((wt_iload dX10_run_153 rfl).trans ((wt_iload dX10_run_155 rfl).trans (wt_callV dX10_run_157 rfl (as := [.int x1, .int 0, .int x4, .int x5]) (rest := []) rfl rfl (Nat.le_of_ble_eq_true rfl) rfl (Nat.le_of_ble_eq_true rfl))))))
set_option maxHeartbeats 100000 in
theorem kX10_run_160 {d : Nat} {F : am_FT} {L : am_LT} {Q : am_QT} {l0 l1 l2 l3 l4 l5 l6 : Option Value} {s0 : Int32} : wt am_S0 d mX10_run 160 [l0, l1, l2, l3, l4, l5, l6] [.int s0] F L Q = Q (some (.int (s0 * 2))) F L := (wt_iconst dX10_run_160 (v := 2) (by decide)).trans ((wt_imul dX10_run_161).trans (wt_ireturn dX10_run_162 rfl rfl))
set_option maxHeartbeats 100000 in
theorem kX10_run_163 {d : Nat} {F : am_FT} {L : am_LT} {Q : am_QT} {l0 l2 l3 l5 l6 : Option Value} {x4 x1 : Int32} : wt am_S0 d mX10_run 163 [l0, some (.int x1), l2, l3, some (.int x4), l5, l6] [] F L Q = Q (some (.int (x4 ^^^ x1))) F L := (wt_iload dX10_run_163 rfl).trans ((wt_iload_n dX10_run_165 rfl).trans ((wt_ixor dX10_run_166).trans (wt_ireturn dX10_run_167 rfl rfl)))
set_option maxHeartbeats 100000 in
theorem kX10_run_168 {d : Nat} {F : am_FT} {L : am_LT} {Q : am_QT} {l2 l3 : Option Value} {x1 x6 x4 x5 : Int32} : wt am_S0 (d + 1) mX10_run 168 [some (.ref 29), some (.int x1), l2, l3, some (.int x4), some (.int x5), some (.int x6)] [] F L Q = wc am_S0 d mX10_perform [.ref 29, .int x1, .int x6, .int 0, .int x4, .int x5] F L (fun r G K => wt am_S0 (d + 1) mX10_run 180 [some (.ref 29), some (.int x1), l2, l3, some (.int x4), some (.int x5), some (.int x6)] (r.toList ++ []) G K Q) := (wt_aload_n dX10_run_168 rfl rfl).trans ((wt_iload_n dX10_run_169 rfl).trans ((wt_iload dX10_run_170 rfl).trans ((wt_iconst dX10_run_172 (v := 0) (by decide)).trans ((wt_iload dX10_run_173 rfl).trans ((wt_iload dX10_run_175 rfl).trans (wt_callV dX10_run_177 rfl (as := [.int x1, .int x6, .int 0, .int x4, .int x5]) (rest := []) rfl rfl (Nat.le_of_ble_eq_true rfl) rfl (Nat.le_of_ble_eq_true rfl)))))))
set_option maxHeartbeats 100000 in
theorem kX10_run_180 {d : Nat} {F : am_FT} {L : am_LT} {Q : am_QT} {l0 l1 l2 l3 l4 l5 l6 : Option Value} {s0 : Int32} : wt am_S0 d mX10_run 180 [l0, l1, l2, l3, l4, l5, l6] [.int s0] F L Q = Q (some (.int (s0 + 3))) F L := (wt_iconst dX10_run_180 (v := 3) (by decide)).trans ((wt_iadd dX10_run_181).trans (wt_ireturn dX10_run_182 rfl rfl))
set_option maxHeartbeats 100000 in
theorem kX10_run_183 {d : Nat} {F : am_FT} {L : am_LT} {Q : am_QT} {l2 l3 : Option Value} {x1 x6 x4 x5 : Int32} : wt am_S0 (d + 1) mX10_run 183 [some (.ref 29), some (.int x1), l2, l3, some (.int x4), some (.int x5), some (.int x6)] [] F L Q = wc am_S0 d mX10_perform [.ref 29, .int x1, .int x6, .int 1, .int x4, .int x5] F L (fun r G K => wt am_S0 (d + 1) mX10_run 195 [some (.ref 29), some (.int x1), l2, l3, some (.int x4), some (.int x5), some (.int x6)] (r.toList ++ []) G K Q) := (wt_aload_n dX10_run_183 rfl rfl).trans ((wt_iload_n dX10_run_184 rfl).trans ((wt_iload dX10_run_185 rfl).trans ((wt_iconst dX10_run_187 (v := 1) (by decide)).trans ((wt_iload dX10_run_188 rfl).trans ((wt_iload dX10_run_190 rfl).trans (wt_callV dX10_run_192 rfl (as := [.int x1, .int x6, .int 1, .int x4, .int x5]) (rest := []) rfl rfl (Nat.le_of_ble_eq_true rfl) rfl (Nat.le_of_ble_eq_true rfl)))))))
set_option maxHeartbeats 100000 in
theorem kX10_run_195 {d : Nat} {F : am_FT} {L : am_LT} {Q : am_QT} {l0 l1 l2 l3 l4 l5 l6 : Option Value} {s0 : Int32} : wt am_S0 d mX10_run 195 [l0, l1, l2, l3, l4, l5, l6] [.int s0] F L Q = Q (some (.int (-s0))) F L := (wt_ineg dX10_run_195).trans (wt_ireturn dX10_run_196 rfl rfl)
set_option maxHeartbeats 100000 in
theorem kX10_run_197 {d : Nat} {F : am_FT} {L : am_LT} {Q : am_QT} {l2 l3 : Option Value} {x1 x6 x4 x5 : Int32} : wt am_S0 (d + 1) mX10_run 197 [some (.ref 29), some (.int x1), l2, l3, some (.int x4), some (.int x5), some (.int x6)] [] F L Q = wc am_S0 d mX10_perform [.ref 29, .int x1, .int x6, .int 2, .int x4, .int x5] F L (fun r G K => wt am_S0 (d + 1) mX10_run 209 [some (.ref 29), some (.int x1), l2, l3, some (.int x4), some (.int x5), some (.int x6)] (r.toList ++ []) G K Q) := (wt_aload_n dX10_run_197 rfl rfl).trans ((wt_iload_n dX10_run_198 rfl).trans ((wt_iload dX10_run_199 rfl).trans ((wt_iconst dX10_run_201 (v := 2) (by decide)).trans ((wt_iload dX10_run_202 rfl).trans ((wt_iload dX10_run_204 rfl).trans (wt_callV dX10_run_206 rfl (as := [.int x1, .int x6, .int 2, .int x4, .int x5]) (rest := []) rfl rfl (Nat.le_of_ble_eq_true rfl) rfl (Nat.le_of_ble_eq_true rfl)))))))
set_option maxHeartbeats 100000 in
theorem kX10_run_209 {d : Nat} {F : am_FT} {L : am_LT} {Q : am_QT} {l0 l1 l2 l3 l4 l5 l6 : Option Value} {s0 : Int32} : wt am_S0 d mX10_run 209 [l0, l1, l2, l3, l4, l5, l6] [.int s0] F L Q = Q (some (.int (s0 * 3))) F L := (wt_iconst dX10_run_209 (v := 3) (by decide)).trans ((wt_imul dX10_run_210).trans (wt_ireturn dX10_run_211 rfl rfl))
set_option maxHeartbeats 100000 in
theorem kX10_run_212 {d : Nat} {F : am_FT} {L : am_LT} {Q : am_QT} {l2 l3 : Option Value} {x1 x6 x4 x5 : Int32} : wt am_S0 (d + 1) mX10_run 212 [some (.ref 29), some (.int x1), l2, l3, some (.int x4), some (.int x5), some (.int x6)] [] F L Q = wc am_S0 d mX10_perform [.ref 29, .int x1, .int x6, .int 1, .int (x4 + 1), .int x5] F L (fun r G K => wt am_S0 (d + 1) mX10_run 226 [some (.ref 29), some (.int x1), l2, l3, some (.int x4), some (.int x5), some (.int x6)] (r.toList ++ []) G K Q) := (wt_aload_n dX10_run_212 rfl rfl).trans ((wt_iload_n dX10_run_213 rfl).trans ((wt_iload dX10_run_214 rfl).trans ((wt_iconst dX10_run_216 (v := 1) (by decide)).trans ((wt_iload dX10_run_217 rfl).trans ((wt_iconst dX10_run_219 (v := 1) (by decide)).trans ((wt_iadd dX10_run_220).trans ((wt_iload dX10_run_221 rfl).trans (wt_callV dX10_run_223 rfl (as := [.int x1, .int x6, .int 1, .int (x4 + 1), .int x5]) (rest := []) rfl rfl (Nat.le_of_ble_eq_true rfl) rfl (Nat.le_of_ble_eq_true rfl)))))))))
set_option maxHeartbeats 100000 in
theorem kX10_run_226 {d : Nat} {F : am_FT} {L : am_LT} {Q : am_QT} {l0 l1 l2 l3 l4 l5 l6 : Option Value} {s0 : Int32} : wt am_S0 d mX10_run 226 [l0, l1, l2, l3, l4, l5, l6] [.int s0] F L Q = Q (some (.int s0)) F L := wt_ireturn dX10_run_226 rfl rfl
set_option maxHeartbeats 100000 in
theorem kX10_run_227 {d : Nat} {F : am_FT} {L : am_LT} {Q : am_QT} {l2 l3 : Option Value} {x1 x6 x4 x5 : Int32} : wt am_S0 (d + 1) mX10_run 227 [some (.ref 29), some (.int x1), l2, l3, some (.int x4), some (.int x5), some (.int x6)] [] F L Q = wc am_S0 d mX10_perform [.ref 29, .int x1, .int x6, .int 2, .int x4, .int x5] F L (fun r G K => wt am_S0 (d + 1) mX10_run 239 [some (.ref 29), some (.int x1), l2, l3, some (.int x4), some (.int x5), some (.int x6)] (r.toList ++ []) G K Q) := (wt_aload_n dX10_run_227 rfl rfl).trans ((wt_iload_n dX10_run_228 rfl).trans ((wt_iload dX10_run_229 rfl).trans ((wt_iconst dX10_run_231 (v := 2) (by decide)).trans ((wt_iload dX10_run_232 rfl).trans ((wt_iload dX10_run_234 rfl).trans (wt_callV dX10_run_236 rfl (as := [.int x1, .int x6, .int 2, .int x4, .int x5]) (rest := []) rfl rfl (Nat.le_of_ble_eq_true rfl) rfl (Nat.le_of_ble_eq_true rfl)))))))
set_option maxHeartbeats 100000 in
theorem kX10_run_239 {d : Nat} {F : am_FT} {L : am_LT} {Q : am_QT} {l2 l3 l4 l6 : Option Value} {s0 x1 x5 : Int32} : wt am_S0 (d + 1) mX10_run 239 [some (.ref 29), some (.int x1), l2, l3, l4, some (.int x5), l6] [.int s0] F L Q = wc am_S0 d mX10_does [.ref 29, .int x1, .int 0, .int 2, .int x5] F L (fun r G K => wt am_S0 (d + 1) mX10_run 248 [some (.ref 29), some (.int x1), l2, l3, l4, some (.int x5), l6] (r.toList ++ [.int s0]) G K Q) := (wt_aload_n dX10_run_239 rfl rfl).trans ((wt_iload_n dX10_run_240 rfl).trans ((wt_iconst dX10_run_241 (v := 0) (by decide)).trans ((wt_iconst dX10_run_242 (v := 2) (by decide)).trans ((wt_iload dX10_run_243 rfl).trans (wt_callV dX10_run_245 rfl (as := [.int x1, .int 0, .int 2, .int x5]) (rest := [.int s0]) rfl rfl (Nat.le_of_ble_eq_true rfl) rfl (Nat.le_of_ble_eq_true rfl))))))
set_option maxHeartbeats 100000 in
theorem kX10_run_248 {d : Nat} {F : am_FT} {L : am_LT} {Q : am_QT} {l0 l1 l2 l3 l4 l5 l6 : Option Value} {s0 s1 : Int32} : wt am_S0 d mX10_run 248 [l0, l1, l2, l3, l4, l5, l6] [.int s1, .int s0] F L Q = Q (some (.int (s0 - s1))) F L := (wt_isub dX10_run_248).trans (wt_ireturn dX10_run_249 rfl rfl)
set_option maxHeartbeats 100000 in
theorem kX10_run_250 {d : Nat} {F : am_FT} {L : am_LT} {Q : am_QT} {l2 l3 : Option Value} {x1 x6 x4 x5 : Int32} : wt am_S0 (d + 1) mX10_run 250 [some (.ref 29), some (.int x1), l2, l3, some (.int x4), some (.int x5), some (.int x6)] [] F L Q = wc am_S0 d mX10_perform [.ref 29, .int x1, .int x6, .int 3, .int x4, .int x5] F L (fun r G K => wt am_S0 (d + 1) mX10_run 262 [some (.ref 29), some (.int x1), l2, l3, some (.int x4), some (.int x5), some (.int x6)] (r.toList ++ []) G K Q) := (wt_aload_n dX10_run_250 rfl rfl).trans ((wt_iload_n dX10_run_251 rfl).trans ((wt_iload dX10_run_252 rfl).trans ((wt_iconst dX10_run_254 (v := 3) (by decide)).trans ((wt_iload dX10_run_255 rfl).trans ((wt_iload dX10_run_257 rfl).trans (wt_callV dX10_run_259 rfl (as := [.int x1, .int x6, .int 3, .int x4, .int x5]) (rest := []) rfl rfl (Nat.le_of_ble_eq_true rfl) rfl (Nat.le_of_ble_eq_true rfl)))))))
set_option maxHeartbeats 100000 in
theorem kX10_run_262 {d : Nat} {F : am_FT} {L : am_LT} {Q : am_QT} {l0 l1 l2 l3 l4 l5 l6 : Option Value} {s0 : Int32} : wt am_S0 d mX10_run 262 [l0, l1, l2, l3, l4, l5, l6] [.int s0] F L Q = Q (some (.int (s0 ^^^ 5))) F L := (wt_iconst dX10_run_262 (v := 5) (by decide)).trans ((wt_ixor dX10_run_263).trans (wt_ireturn dX10_run_264 rfl rfl))
set_option maxHeartbeats 100000 in
theorem kX10_run_265 {d : Nat} {F : am_FT} {L : am_LT} {Q : am_QT} {l2 l3 : Option Value} {x1 x6 x4 x5 : Int32} : wt am_S0 (d + 1) mX10_run 265 [some (.ref 29), some (.int x1), l2, l3, some (.int x4), some (.int x5), some (.int x6)] [] F L Q = wc am_S0 d mX10_perform [.ref 29, .int x1, .int x6, .int 0, .int x4, .int x5] F L (fun r G K => wt am_S0 (d + 1) mX10_run 277 [some (.ref 29), some (.int x1), l2, l3, some (.int x4), some (.int x5), some (.int x6)] (r.toList ++ []) G K Q) := (wt_aload_n dX10_run_265 rfl rfl).trans ((wt_iload_n dX10_run_266 rfl).trans ((wt_iload dX10_run_267 rfl).trans ((wt_iconst dX10_run_269 (v := 0) (by decide)).trans ((wt_iload dX10_run_270 rfl).trans ((wt_iload dX10_run_272 rfl).trans (wt_callV dX10_run_274 rfl (as := [.int x1, .int x6, .int 0, .int x4, .int x5]) (rest := []) rfl rfl (Nat.le_of_ble_eq_true rfl) rfl (Nat.le_of_ble_eq_true rfl)))))))
set_option maxHeartbeats 100000 in
theorem kX10_run_277 {d : Nat} {F : am_FT} {L : am_LT} {Q : am_QT} {l0 l1 l2 l3 l4 l5 l6 : Option Value} {s0 : Int32} : wt am_S0 d mX10_run 277 [l0, l1, l2, l3, l4, l5, l6] [.int s0] F L Q = Q (some (.int (s0 * 2))) F L := (wt_iconst dX10_run_277 (v := 2) (by decide)).trans ((wt_imul dX10_run_278).trans (wt_ireturn dX10_run_279 rfl rfl))
set_option maxHeartbeats 100000 in
theorem kX10_run_280 {d : Nat} {F : am_FT} {L : am_LT} {Q : am_QT} {l2 l3 : Option Value} {x1 x6 x4 x5 : Int32} : wt am_S0 (d + 1) mX10_run 280 [some (.ref 29), some (.int x1), l2, l3, some (.int x4), some (.int x5), some (.int x6)] [] F L Q = wc am_S0 d mX10_perform [.ref 29, .int x1, .int x6, .int 1, .int x4, .int x5] F L (fun r G K => wt am_S0 (d + 1) mX10_run 292 [some (.ref 29), some (.int x1), l2, l3, some (.int x4), some (.int x5), some (.int x6)] (r.toList ++ []) G K Q) := (wt_aload_n dX10_run_280 rfl rfl).trans ((wt_iload_n dX10_run_281 rfl).trans ((wt_iload dX10_run_282 rfl).trans ((wt_iconst dX10_run_284 (v := 1) (by decide)).trans ((wt_iload dX10_run_285 rfl).trans ((wt_iload dX10_run_287 rfl).trans (wt_callV dX10_run_289 rfl (as := [.int x1, .int x6, .int 1, .int x4, .int x5]) (rest := []) rfl rfl (Nat.le_of_ble_eq_true rfl) rfl (Nat.le_of_ble_eq_true rfl)))))))
set_option maxHeartbeats 100000 in
theorem kX10_run_292 {d : Nat} {F : am_FT} {L : am_LT} {Q : am_QT} {l2 l3 l4 l6 : Option Value} {s0 x1 x5 : Int32} : wt am_S0 (d + 1) mX10_run 292 [some (.ref 29), some (.int x1), l2, l3, l4, some (.int x5), l6] [.int s0] F L Q = wc am_S0 d mX10_does [.ref 29, .int x1, .int 2, .int 2, .int x5] F L (fun r G K => wt am_S0 (d + 1) mX10_run 301 [some (.ref 29), some (.int x1), l2, l3, l4, some (.int x5), l6] (r.toList ++ [.int s0]) G K Q) := (wt_aload_n dX10_run_292 rfl rfl).trans ((wt_iload_n dX10_run_293 rfl).trans ((wt_iconst dX10_run_294 (v := 2) (by decide)).trans ((wt_iconst dX10_run_295 (v := 2) (by decide)).trans ((wt_iload dX10_run_296 rfl).trans (wt_callV dX10_run_298 rfl (as := [.int x1, .int 2, .int 2, .int x5]) (rest := [.int s0]) rfl rfl (Nat.le_of_ble_eq_true rfl) rfl (Nat.le_of_ble_eq_true rfl))))))
set_option maxHeartbeats 100000 in
theorem kX10_run_301 {d : Nat} {F : am_FT} {L : am_LT} {Q : am_QT} {l0 l1 l2 l3 l4 l5 l6 : Option Value} {s0 s1 : Int32} : wt am_S0 d mX10_run 301 [l0, l1, l2, l3, l4, l5, l6] [.int s1, .int s0] F L Q = Q (some (.int (s0 + s1))) F L := (wt_iadd dX10_run_301).trans (wt_ireturn dX10_run_302 rfl rfl)
set_option maxHeartbeats 100000 in
theorem kX10_run_303 {d : Nat} {F : am_FT} {L : am_LT} {Q : am_QT} {l2 l3 : Option Value} {x1 x6 x4 x5 : Int32} : wt am_S0 (d + 1) mX10_run 303 [some (.ref 29), some (.int x1), l2, l3, some (.int x4), some (.int x5), some (.int x6)] [] F L Q = wc am_S0 d mX10_perform [.ref 29, .int x1, .int x6, .int 3, .int x4, .int x5] F L (fun r G K => wt am_S0 (d + 1) mX10_run 315 [some (.ref 29), some (.int x1), l2, l3, some (.int x4), some (.int x5), some (.int x6)] (r.toList ++ []) G K Q) := (wt_aload_n dX10_run_303 rfl rfl).trans ((wt_iload_n dX10_run_304 rfl).trans ((wt_iload dX10_run_305 rfl).trans ((wt_iconst dX10_run_307 (v := 3) (by decide)).trans ((wt_iload dX10_run_308 rfl).trans ((wt_iload dX10_run_310 rfl).trans (wt_callV dX10_run_312 rfl (as := [.int x1, .int x6, .int 3, .int x4, .int x5]) (rest := []) rfl rfl (Nat.le_of_ble_eq_true rfl) rfl (Nat.le_of_ble_eq_true rfl)))))))
set_option maxHeartbeats 100000 in
theorem kX10_run_315 {d : Nat} {F : am_FT} {L : am_LT} {Q : am_QT} {l0 l1 l2 l3 l4 l5 l6 : Option Value} {s0 : Int32} : wt am_S0 d mX10_run 315 [l0, l1, l2, l3, l4, l5, l6] [.int s0] F L Q = Q (some (.int (s0 - 1))) F L := (wt_iconst dX10_run_315 (v := 1) (by decide)).trans ((wt_isub dX10_run_316).trans (wt_ireturn dX10_run_317 rfl rfl))
set_option maxHeartbeats 100000 in
theorem kX10_run_318 {d : Nat} {F : am_FT} {L : am_LT} {Q : am_QT} {l0 l1 l2 l3 l4 l5 l6 : Option Value} : wt am_S0 d mX10_run 318 [l0, l1, l2, l3, l4, l5, l6] [] F L Q = Q (some (.int 0)) F L := (wt_iconst dX10_run_318 (v := 0) (by decide)).trans (wt_ireturn dX10_run_319 rfl rfl)
theorem dX10_does_0 : decode mX10_does.2.2.1 0 = .ok (.aload_n 0, 1) := by decide +kernel
theorem dX10_does_1 : decode mX10_does.2.2.1 1 = .ok (.iload_n 1, 1) := by decide +kernel
theorem dX10_does_2 : decode mX10_does.2.2.1 2 = .ok (.aload_n 0, 1) := by decide +kernel
theorem dX10_does_3 : decode mX10_does.2.2.1 3 = .ok (.iload_n 1, 1) := by decide +kernel
theorem dX10_does_4 : decode mX10_does.2.2.1 4 = .ok (.invokevirtual 46, 3) := by decide +kernel
theorem dX10_does_7 : decode mX10_does.2.2.1 7 = .ok (.iload_n 2, 1) := by decide +kernel
theorem dX10_does_8 : decode mX10_does.2.2.1 8 = .ok (.iload_n 3, 1) := by decide +kernel
theorem dX10_does_9 : decode mX10_does.2.2.1 9 = .ok (.iload 4, 2) := by decide +kernel
theorem dX10_does_11 : decode mX10_does.2.2.1 11 = .ok (.invokevirtual 50, 3) := by decide +kernel
theorem dX10_does_14 : decode mX10_does.2.2.1 14 = .ok (.ireturn, 1) := by decide +kernel
set_option maxHeartbeats 100000 in
theorem kX10_does_0 {d : Nat} {F : am_FT} {L : am_LT} {Q : am_QT} {l2 l3 l4 : Option Value} {x1 : Int32} : wt am_S0 (d + 1) mX10_does 0 [some (.ref 29), some (.int x1), l2, l3, l4] [] F L Q = wc am_S0 d mX10_kindOf [.ref 29, .int x1] F L (fun r G K => wt am_S0 (d + 1) mX10_does 7 [some (.ref 29), some (.int x1), l2, l3, l4] (r.toList ++ [.int x1, .ref 29]) G K Q) := (wt_aload_n dX10_does_0 rfl rfl).trans ((wt_iload_n dX10_does_1 rfl).trans ((wt_aload_n dX10_does_2 rfl rfl).trans ((wt_iload_n dX10_does_3 rfl).trans (wt_callV dX10_does_4 rfl (as := [.int x1]) (rest := [.int x1, .ref 29]) rfl rfl (Nat.le_of_ble_eq_true rfl) rfl (Nat.le_of_ble_eq_true rfl)))))
set_option maxHeartbeats 100000 in
theorem kX10_does_7 {d : Nat} {F : am_FT} {L : am_LT} {Q : am_QT} {l0 l1 : Option Value} {s1 s2 x2 x3 x4 : Int32} : wt am_S0 (d + 1) mX10_does 7 [l0, l1, some (.int x2), some (.int x3), some (.int x4)] [.int s2, .int s1, .ref 29] F L Q = wc am_S0 d mX10_perform [.ref 29, .int s1, .int s2, .int x2, .int x3, .int x4] F L (fun r G K => wt am_S0 (d + 1) mX10_does 14 [l0, l1, some (.int x2), some (.int x3), some (.int x4)] (r.toList ++ []) G K Q) := (wt_iload_n dX10_does_7 rfl).trans ((wt_iload_n dX10_does_8 rfl).trans ((wt_iload dX10_does_9 rfl).trans (wt_callV dX10_does_11 rfl (as := [.int s1, .int s2, .int x2, .int x3, .int x4]) (rest := []) rfl rfl (Nat.le_of_ble_eq_true rfl) rfl (Nat.le_of_ble_eq_true rfl))))
set_option maxHeartbeats 100000 in
theorem kX10_does_14 {d : Nat} {F : am_FT} {L : am_LT} {Q : am_QT} {l0 l1 l2 l3 l4 : Option Value} {s0 : Int32} : wt am_S0 d mX10_does 14 [l0, l1, l2, l3, l4] [.int s0] F L Q = Q (some (.int s0)) F L := wt_ireturn dX10_does_14 rfl rfl
theorem dX10_tracesKept_0 : decode mX10_tracesKept.2.2.1 0 = .ok (.aload_n 0, 1) := by decide +kernel
theorem dX10_tracesKept_1 : decode mX10_tracesKept.2.2.1 1 = .ok (.getfield 33, 3) := by decide +kernel
theorem dX10_tracesKept_4 : decode mX10_tracesKept.2.2.1 4 = .ok (.bipush 24, 2) := by decide +kernel
theorem dX10_tracesKept_6 : decode mX10_tracesKept.2.2.1 6 = .ok (.invokestatic 36, 3) := by decide +kernel
theorem dX10_tracesKept_9 : decode mX10_tracesKept.2.2.1 9 = .ok (.ireturn, 1) := by decide +kernel
set_option maxHeartbeats 100000 in
theorem kX10_tracesKept_0 {d : Nat} {F : am_FT} {L : am_LT} {Q : am_QT} : wt am_S0 (d + 1) mX10_tracesKept 0 [some (.ref 29)] [] F L Q = Q (some (.int (if 24 < (F 29 3) then 24 else (F 29 3)))) F L := (wt_aload_n dX10_tracesKept_0 rfl rfl).trans ((wt_getfield dX10_tracesKept_1 rfl rfl (v := .int (F 29 3)) rfl).trans ((wt_bipush dX10_tracesKept_4 (v := 24) (by decide)).trans ((wt_min dX10_tracesKept_6 rfl (Nat.le_of_ble_eq_true rfl)).trans (wt_ireturn dX10_tracesKept_9 rfl rfl))))
theorem dX10_traceAt_0 : decode mX10_traceAt.2.2.1 0 = .ok (.aload_n 0, 1) := by decide +kernel
theorem dX10_traceAt_1 : decode mX10_traceAt.2.2.1 1 = .ok (.getfield 15, 3) := by decide +kernel
theorem dX10_traceAt_4 : decode mX10_traceAt.2.2.1 4 = .ok (.iload_n 1, 1) := by decide +kernel
theorem dX10_traceAt_5 : decode mX10_traceAt.2.2.1 5 = .ok (.invokestatic 26, 3) := by decide +kernel
theorem dX10_traceAt_8 : decode mX10_traceAt.2.2.1 8 = .ok (.ireturn, 1) := by decide +kernel
set_option maxHeartbeats 100000 in
theorem kX10_traceAt_0 {d : Nat} {F : am_FT} {L : am_LT} {Q : am_QT} {x1 : Int32} : wt am_S0 (d + 1) mX10_traceAt 0 [some (.ref 29), some (.int x1)] [] F L Q = wc am_S0 d mX11_at [.ref 31, .int x1] F L (fun r G K => wt am_S0 (d + 1) mX10_traceAt 8 [some (.ref 29), some (.int x1)] (r.toList ++ []) G K Q) := (wt_aload_n dX10_traceAt_0 rfl rfl).trans ((wt_getfield dX10_traceAt_1 rfl rfl (v := .ref 31) rfl).trans ((wt_iload_n dX10_traceAt_4 rfl).trans (wt_callS dX10_traceAt_5 rfl (as := [.ref 31, .int x1]) (rest := []) rfl rfl (Nat.le_of_ble_eq_true rfl) (Nat.le_of_ble_eq_true rfl))))
set_option maxHeartbeats 100000 in
theorem kX10_traceAt_8 {d : Nat} {F : am_FT} {L : am_LT} {Q : am_QT} {l0 l1 : Option Value} {s0 : Int32} : wt am_S0 d mX10_traceAt 8 [l0, l1] [.int s0] F L Q = Q (some (.int s0)) F L := wt_ireturn dX10_traceAt_8 rfl rfl
theorem dX10_isUnder_0 : decode mX10_isUnder.2.2.1 0 = .ok (.iload_n 1, 1) := by decide +kernel
theorem dX10_isUnder_1 : decode mX10_isUnder.2.2.1 1 = .ok (.istore_n 3, 1) := by decide +kernel
theorem dX10_isUnder_2 : decode mX10_isUnder.2.2.1 2 = .ok (.iconst 0, 1) := by decide +kernel
theorem dX10_isUnder_3 : decode mX10_isUnder.2.2.1 3 = .ok (.istore 4, 2) := by decide +kernel
theorem dX10_isUnder_5 : decode mX10_isUnder.2.2.1 5 = .ok (.iload 4, 2) := by decide +kernel
theorem dX10_isUnder_7 : decode mX10_isUnder.2.2.1 7 = .ok (.bipush 8, 2) := by decide +kernel
theorem dX10_isUnder_9 : decode mX10_isUnder.2.2.1 9 = .ok (.if_icmp .ge 29, 3) := by decide +kernel
theorem dX10_isUnder_12 : decode mX10_isUnder.2.2.1 12 = .ok (.iload_n 3, 1) := by decide +kernel
theorem dX10_isUnder_13 : decode mX10_isUnder.2.2.1 13 = .ok (.iconst (-1), 1) := by decide +kernel
theorem dX10_isUnder_14 : decode mX10_isUnder.2.2.1 14 = .ok (.if_icmp .eq 24, 3) := by decide +kernel
theorem dX10_isUnder_17 : decode mX10_isUnder.2.2.1 17 = .ok (.iload_n 3, 1) := by decide +kernel
theorem dX10_isUnder_18 : decode mX10_isUnder.2.2.1 18 = .ok (.iload_n 2, 1) := by decide +kernel
theorem dX10_isUnder_19 : decode mX10_isUnder.2.2.1 19 = .ok (.if_icmp .ne 5, 3) := by decide +kernel
theorem dX10_isUnder_22 : decode mX10_isUnder.2.2.1 22 = .ok (.iconst 1, 1) := by decide +kernel
theorem dX10_isUnder_23 : decode mX10_isUnder.2.2.1 23 = .ok (.ireturn, 1) := by decide +kernel
theorem dX10_isUnder_24 : decode mX10_isUnder.2.2.1 24 = .ok (.getstatic 30, 3) := by decide +kernel
theorem dX10_isUnder_27 : decode mX10_isUnder.2.2.1 27 = .ok (.iload_n 3, 1) := by decide +kernel
theorem dX10_isUnder_28 : decode mX10_isUnder.2.2.1 28 = .ok (.invokestatic 26, 3) := by decide +kernel
theorem dX10_isUnder_31 : decode mX10_isUnder.2.2.1 31 = .ok (.istore_n 3, 1) := by decide +kernel
theorem dX10_isUnder_32 : decode mX10_isUnder.2.2.1 32 = .ok (.iinc 4 1, 3) := by decide +kernel
theorem dX10_isUnder_35 : decode mX10_isUnder.2.2.1 35 = .ok (.goto (-30), 3) := by decide +kernel
theorem dX10_isUnder_38 : decode mX10_isUnder.2.2.1 38 = .ok (.iconst 0, 1) := by decide +kernel
theorem dX10_isUnder_39 : decode mX10_isUnder.2.2.1 39 = .ok (.ireturn, 1) := by decide +kernel
set_option maxHeartbeats 100000 in
theorem kX10_isUnder_0 {d : Nat} {F : am_FT} {L : am_LT} {Q : am_QT} {l0 l3 l4 : Option Value} {x1 x2 : Int32} : wt am_S0 d mX10_isUnder 0 [l0, some (.int x1), some (.int x2), l3, l4] [] F L Q = wt am_S0 d mX10_isUnder 5 [l0, some (.int x1), some (.int x2), some (.int x1), some (.int 0)] [] F L Q := (wt_iload_n dX10_isUnder_0 rfl).trans ((wt_istore_n dX10_isUnder_1 (lv1 := [l0, some (.int x1), some (.int x2), some (.int x1), l4]) (Nat.le_of_ble_eq_true rfl) rfl).trans ((wt_iconst dX10_isUnder_2 (v := 0) (by decide)).trans (wt_istore dX10_isUnder_3 (lv1 := [l0, some (.int x1), some (.int x2), some (.int x1), some (.int 0)]) (Nat.le_of_ble_eq_true rfl) rfl)))
set_option maxHeartbeats 100000 in
theorem kX10_isUnder_5 {d : Nat} {F : am_FT} {L : am_LT} {Q : am_QT} {l0 l1 l2 l3 : Option Value} {x4 : Int32} : wt am_S0 d mX10_isUnder 5 [l0, l1, l2, l3, some (.int x4)] [] F L Q = if 8 ≤ x4 then wt am_S0 d mX10_isUnder 38 [l0, l1, l2, l3, some (.int x4)] [] F L Q else wt am_S0 d mX10_isUnder 12 [l0, l1, l2, l3, some (.int x4)] [] F L Q := (wt_iload dX10_isUnder_5 rfl).trans ((wt_bipush dX10_isUnder_7 (v := 8) (by decide)).trans (wt_if_icmp_ge dX10_isUnder_9 (t := 38) rfl))
set_option maxHeartbeats 100000 in
theorem kX10_isUnder_12 {d : Nat} {F : am_FT} {L : am_LT} {Q : am_QT} {l0 l1 l2 l4 : Option Value} {x3 : Int32} : wt am_S0 d mX10_isUnder 12 [l0, l1, l2, some (.int x3), l4] [] F L Q = if x3 = (-1) then wt am_S0 d mX10_isUnder 38 [l0, l1, l2, some (.int x3), l4] [] F L Q else wt am_S0 d mX10_isUnder 17 [l0, l1, l2, some (.int x3), l4] [] F L Q := (wt_iload_n dX10_isUnder_12 rfl).trans ((wt_iconst dX10_isUnder_13 (v := (-1)) (by decide)).trans (wt_if_icmp_eq dX10_isUnder_14 (t := 38) rfl))
set_option maxHeartbeats 100000 in
theorem kX10_isUnder_17 {d : Nat} {F : am_FT} {L : am_LT} {Q : am_QT} {l0 l1 l4 : Option Value} {x3 x2 : Int32} : wt am_S0 d mX10_isUnder 17 [l0, l1, some (.int x2), some (.int x3), l4] [] F L Q = if ¬ x3 = x2 then wt am_S0 d mX10_isUnder 24 [l0, l1, some (.int x2), some (.int x3), l4] [] F L Q else wt am_S0 d mX10_isUnder 22 [l0, l1, some (.int x2), some (.int x3), l4] [] F L Q := (wt_iload_n dX10_isUnder_17 rfl).trans ((wt_iload_n dX10_isUnder_18 rfl).trans (wt_if_icmp_ne dX10_isUnder_19 (t := 24) rfl))
set_option maxHeartbeats 100000 in
theorem kX10_isUnder_22 {d : Nat} {F : am_FT} {L : am_LT} {Q : am_QT} {l0 l1 l2 l3 l4 : Option Value} : wt am_S0 d mX10_isUnder 22 [l0, l1, l2, l3, l4] [] F L Q = Q (some (.int 1)) F L := (wt_iconst dX10_isUnder_22 (v := 1) (by decide)).trans (wt_ireturn dX10_isUnder_23 rfl (by decide))
set_option maxHeartbeats 100000 in
theorem kX10_isUnder_24 {d : Nat} {F : am_FT} {L : am_LT} {Q : am_QT} {l0 l1 l2 l4 : Option Value} {x3 : Int32} : wt am_S0 (d + 1) mX10_isUnder 24 [l0, l1, l2, some (.int x3), l4] [] F L Q = wc am_S0 d mX11_at [.ref 1003, .int x3] F L (fun r G K => wt am_S0 (d + 1) mX10_isUnder 31 [l0, l1, l2, some (.int x3), l4] (r.toList ++ []) G K Q) := (wt_getstatic dX10_isUnder_24 rfl).trans ((wt_iload_n dX10_isUnder_27 rfl).trans (wt_callS dX10_isUnder_28 rfl (as := [.ref 1003, .int x3]) (rest := []) rfl rfl (Nat.le_of_ble_eq_true rfl) (Nat.le_of_ble_eq_true rfl)))
set_option maxHeartbeats 100000 in
theorem kX10_isUnder_31 {d : Nat} {F : am_FT} {L : am_LT} {Q : am_QT} {l0 l1 l3 : Option Value} {s0 x2 x4 : Int32} : wt am_S0 d mX10_isUnder 31 [l0, l1, some (.int x2), l3, some (.int x4)] [.int s0] F L Q = wt am_S0 d mX10_isUnder 5 [l0, l1, some (.int x2), some (.int s0), some (.int (x4 + 1))] [] F L Q := (wt_istore_n dX10_isUnder_31 (lv1 := [l0, l1, some (.int x2), some (.int s0), some (.int x4)]) (Nat.le_of_ble_eq_true rfl) rfl).trans ((wt_iinc dX10_isUnder_32 (v := 1) (lv1 := [l0, l1, some (.int x2), some (.int s0), some (.int (x4 + 1))]) rfl (Nat.le_of_ble_eq_true rfl) (by decide) rfl).trans (wt_goto dX10_isUnder_35 (t := 5) rfl))
set_option maxHeartbeats 100000 in
theorem kX10_isUnder_38 {d : Nat} {F : am_FT} {L : am_LT} {Q : am_QT} {l0 l1 l2 l3 l4 : Option Value} : wt am_S0 d mX10_isUnder 38 [l0, l1, l2, l3, l4] [] F L Q = Q (some (.int 0)) F L := (wt_iconst dX10_isUnder_38 (v := 0) (by decide)).trans (wt_ireturn dX10_isUnder_39 rfl (by decide))
