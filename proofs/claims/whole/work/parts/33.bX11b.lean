theorem dX11_falls_0 : decode mX11_falls.2.2.1 0 = .ok (.iload_n 1, 1) := by decide +kernel
theorem dX11_falls_1 : decode mX11_falls.2.2.1 1 = .ok (.iconst 0, 1) := by decide +kernel
theorem dX11_falls_2 : decode mX11_falls.2.2.1 2 = .ok (.bipush 12, 2) := by decide +kernel
theorem dX11_falls_4 : decode mX11_falls.2.2.1 4 = .ok (.invokestatic 117, 3) := by decide +kernel
theorem dX11_falls_7 : decode mX11_falls.2.2.1 7 = .ok (.ifCond .ne 5, 3) := by decide +kernel
theorem dX11_falls_10 : decode mX11_falls.2.2.1 10 = .ok (.iconst (-1), 1) := by decide +kernel
theorem dX11_falls_11 : decode mX11_falls.2.2.1 11 = .ok (.ireturn, 1) := by decide +kernel
theorem dX11_falls_12 : decode mX11_falls.2.2.1 12 = .ok (.iload_n 1, 1) := by decide +kernel
theorem dX11_falls_13 : decode mX11_falls.2.2.1 13 = .ok (.bipush 12, 2) := by decide +kernel
theorem dX11_falls_15 : decode mX11_falls.2.2.1 15 = .ok (.if_icmp .ne 13, 3) := by decide +kernel
theorem dX11_falls_18 : decode mX11_falls.2.2.1 18 = .ok (.aload_n 0, 1) := by decide +kernel
theorem dX11_falls_19 : decode mX11_falls.2.2.1 19 = .ok (.getfield 44, 3) := by decide +kernel
theorem dX11_falls_22 : decode mX11_falls.2.2.1 22 = .ok (.invokevirtual 206, 3) := by decide +kernel
theorem dX11_falls_25 : decode mX11_falls.2.2.1 25 = .ok (.goto 11, 3) := by decide +kernel
theorem dX11_falls_28 : decode mX11_falls.2.2.1 28 = .ok (.aload_n 0, 1) := by decide +kernel
theorem dX11_falls_29 : decode mX11_falls.2.2.1 29 = .ok (.getfield 44, 3) := by decide +kernel
theorem dX11_falls_32 : decode mX11_falls.2.2.1 32 = .ok (.iload_n 1, 1) := by decide +kernel
theorem dX11_falls_33 : decode mX11_falls.2.2.1 33 = .ok (.invokevirtual 209, 3) := by decide +kernel
theorem dX11_falls_36 : decode mX11_falls.2.2.1 36 = .ok (.ireturn, 1) := by decide +kernel
set_option maxHeartbeats 100000 in
theorem kX11_falls_0 {d : Nat} {F : am_FT} {L : am_LT} {Q : am_QT} {l0 : Option Value} {x1 : Int32} : wt am_S0 (d + 1) mX11_falls 0 [l0, some (.int x1)] [] F L Q = wc am_S0 d mX11_within [.int x1, .int 0, .int 12] F L (fun r G K => wt am_S0 (d + 1) mX11_falls 7 [l0, some (.int x1)] (r.toList ++ []) G K Q) := (wt_iload_n dX11_falls_0 rfl).trans ((wt_iconst dX11_falls_1 (v := 0) (by decide)).trans ((wt_bipush dX11_falls_2 (v := 12) (by decide)).trans (wt_callS dX11_falls_4 rfl (as := [.int x1, .int 0, .int 12]) (rest := []) rfl rfl (Nat.le_of_ble_eq_true rfl) (Nat.le_of_ble_eq_true rfl))))
set_option maxHeartbeats 100000 in
theorem kX11_falls_7 {d : Nat} {F : am_FT} {L : am_LT} {Q : am_QT} {l0 l1 : Option Value} {s0 : Int32} : wt am_S0 d mX11_falls 7 [l0, l1] [.int s0] F L Q = if ¬ s0 = 0 then wt am_S0 d mX11_falls 12 [l0, l1] [] F L Q else wt am_S0 d mX11_falls 10 [l0, l1] [] F L Q := wt_ifCond_ne dX11_falls_7 (t := 12) rfl
set_option maxHeartbeats 100000 in
theorem kX11_falls_10 {d : Nat} {F : am_FT} {L : am_LT} {Q : am_QT} {l0 l1 : Option Value} : wt am_S0 d mX11_falls 10 [l0, l1] [] F L Q = Q (some (.int (-1))) F L := (wt_iconst dX11_falls_10 (v := (-1)) (by decide)).trans (wt_ireturn dX11_falls_11 rfl rfl)
set_option maxHeartbeats 100000 in
theorem kX11_falls_12 {d : Nat} {F : am_FT} {L : am_LT} {Q : am_QT} {l0 : Option Value} {x1 : Int32} : wt am_S0 d mX11_falls 12 [l0, some (.int x1)] [] F L Q = if ¬ x1 = 12 then wt am_S0 d mX11_falls 28 [l0, some (.int x1)] [] F L Q else wt am_S0 d mX11_falls 18 [l0, some (.int x1)] [] F L Q := (wt_iload_n dX11_falls_12 rfl).trans ((wt_bipush dX11_falls_13 (v := 12) (by decide)).trans (wt_if_icmp_ne dX11_falls_15 (t := 28) rfl))
set_option maxHeartbeats 100000 in
theorem kX11_falls_18 {d : Nat} {F : am_FT} {L : am_LT} {Q : am_QT} {l1 : Option Value} : wt am_S0 (d + 1) mX11_falls 18 [some (.ref 0), l1] [] F L Q = wc am_S0 d mX9_neverFalling [.ref 12] F L (fun r G K => wt am_S0 (d + 1) mX11_falls 25 [some (.ref 0), l1] (r.toList ++ []) G K Q) := (wt_aload_n dX11_falls_18 rfl rfl).trans ((wt_getfield dX11_falls_19 rfl rfl (v := .ref 12) rfl).trans (wt_callV dX11_falls_22 rfl (as := []) (rest := []) rfl rfl (Nat.le_of_ble_eq_true rfl) rfl (Nat.le_of_ble_eq_true rfl)))
set_option maxHeartbeats 100000 in
theorem kX11_falls_25 {d : Nat} {F : am_FT} {L : am_LT} {Q : am_QT} {l0 l1 : Option Value} {s0 : Int32} : wt am_S0 d mX11_falls 25 [l0, l1] [.int s0] F L Q = wt am_S0 d mX11_falls 36 [l0, l1] [.int s0] F L Q := wt_goto dX11_falls_25 (t := 36) rfl
set_option maxHeartbeats 100000 in
theorem kX11_falls_28 {d : Nat} {F : am_FT} {L : am_LT} {Q : am_QT} {x1 : Int32} : wt am_S0 (d + 1) mX11_falls 28 [some (.ref 0), some (.int x1)] [] F L Q = wc am_S0 d mX9_falling [.ref 12, .int x1] F L (fun r G K => wt am_S0 (d + 1) mX11_falls 36 [some (.ref 0), some (.int x1)] (r.toList ++ []) G K Q) := (wt_aload_n dX11_falls_28 rfl rfl).trans ((wt_getfield dX11_falls_29 rfl rfl (v := .ref 12) rfl).trans ((wt_iload_n dX11_falls_32 rfl).trans (wt_callV dX11_falls_33 rfl (as := [.int x1]) (rest := []) rfl rfl (Nat.le_of_ble_eq_true rfl) rfl (Nat.le_of_ble_eq_true rfl))))
set_option maxHeartbeats 100000 in
theorem kX11_falls_36 {d : Nat} {F : am_FT} {L : am_LT} {Q : am_QT} {l0 l1 : Option Value} {s0 : Int32} : wt am_S0 d mX11_falls 36 [l0, l1] [.int s0] F L Q = Q (some (.int s0)) F L := wt_ireturn dX11_falls_36 rfl rfl
theorem dX11_first_0 : decode mX11_first.2.2.1 0 = .ok (.aload_n 0, 1) := by decide +kernel
theorem dX11_first_1 : decode mX11_first.2.2.1 1 = .ok (.iload_n 1, 1) := by decide +kernel
theorem dX11_first_2 : decode mX11_first.2.2.1 2 = .ok (.invokevirtual 181, 3) := by decide +kernel
theorem dX11_first_5 : decode mX11_first.2.2.1 5 = .ok (.ifCond .eq 21, 3) := by decide +kernel
theorem dX11_first_8 : decode mX11_first.2.2.1 8 = .ok (.aload_n 0, 1) := by decide +kernel
theorem dX11_first_9 : decode mX11_first.2.2.1 9 = .ok (.getfield 44, 3) := by decide +kernel
theorem dX11_first_12 : decode mX11_first.2.2.1 12 = .ok (.iload_n 1, 1) := by decide +kernel
theorem dX11_first_13 : decode mX11_first.2.2.1 13 = .ok (.bipush 100, 2) := by decide +kernel
theorem dX11_first_15 : decode mX11_first.2.2.1 15 = .ok (.idiv, 1) := by decide +kernel
theorem dX11_first_16 : decode mX11_first.2.2.1 16 = .ok (.iload_n 1, 1) := by decide +kernel
theorem dX11_first_17 : decode mX11_first.2.2.1 17 = .ok (.bipush 100, 2) := by decide +kernel
theorem dX11_first_19 : decode mX11_first.2.2.1 19 = .ok (.irem, 1) := by decide +kernel
theorem dX11_first_20 : decode mX11_first.2.2.1 20 = .ok (.invokevirtual 212, 3) := by decide +kernel
theorem dX11_first_23 : decode mX11_first.2.2.1 23 = .ok (.goto 4, 3) := by decide +kernel
theorem dX11_first_26 : decode mX11_first.2.2.1 26 = .ok (.iconst (-1), 1) := by decide +kernel
theorem dX11_first_27 : decode mX11_first.2.2.1 27 = .ok (.ireturn, 1) := by decide +kernel
set_option maxHeartbeats 100000 in
theorem kX11_first_0 {d : Nat} {F : am_FT} {L : am_LT} {Q : am_QT} {x1 : Int32} : wt am_S0 (d + 1) mX11_first 0 [some (.ref 0), some (.int x1)] [] F L Q = wc am_S0 d mX11_isTreeMonth [.ref 0, .int x1] F L (fun r G K => wt am_S0 (d + 1) mX11_first 5 [some (.ref 0), some (.int x1)] (r.toList ++ []) G K Q) := (wt_aload_n dX11_first_0 rfl rfl).trans ((wt_iload_n dX11_first_1 rfl).trans (wt_callV dX11_first_2 rfl (as := [.int x1]) (rest := []) rfl rfl (Nat.le_of_ble_eq_true rfl) rfl (Nat.le_of_ble_eq_true rfl)))
set_option maxHeartbeats 100000 in
theorem kX11_first_5 {d : Nat} {F : am_FT} {L : am_LT} {Q : am_QT} {l0 l1 : Option Value} {s0 : Int32} : wt am_S0 d mX11_first 5 [l0, l1] [.int s0] F L Q = if s0 = 0 then wt am_S0 d mX11_first 26 [l0, l1] [] F L Q else wt am_S0 d mX11_first 8 [l0, l1] [] F L Q := wt_ifCond_eq dX11_first_5 (t := 26) rfl
set_option maxHeartbeats 100000 in
theorem kX11_first_8 {d : Nat} {F : am_FT} {L : am_LT} {Q : am_QT} {x1 : Int32} : wt am_S0 (d + 1) mX11_first 8 [some (.ref 0), some (.int x1)] [] F L Q = wc am_S0 d mX9_firstFall [.ref 12, .int (x1 / 100), .int (x1 - x1 / 100 * 100)] F L (fun r G K => wt am_S0 (d + 1) mX11_first 23 [some (.ref 0), some (.int x1)] (r.toList ++ []) G K Q) := (wt_aload_n dX11_first_8 rfl rfl).trans ((wt_getfield dX11_first_9 rfl rfl (v := .ref 12) rfl).trans ((wt_iload_n dX11_first_12 rfl).trans ((wt_bipush dX11_first_13 (v := 100) (by decide)).trans ((wt_idiv dX11_first_15 (by decide)).trans ((wt_iload_n dX11_first_16 rfl).trans ((wt_bipush dX11_first_17 (v := 100) (by decide)).trans ((wt_irem dX11_first_19 (by decide)).trans (wt_callV dX11_first_20 rfl (as := [.int (x1 / 100), .int (x1 - x1 / 100 * 100)]) (rest := []) rfl rfl (Nat.le_of_ble_eq_true rfl) rfl (Nat.le_of_ble_eq_true rfl)))))))))
set_option maxHeartbeats 100000 in
theorem kX11_first_23 {d : Nat} {F : am_FT} {L : am_LT} {Q : am_QT} {l0 l1 : Option Value} {s0 : Int32} : wt am_S0 d mX11_first 23 [l0, l1] [.int s0] F L Q = wt am_S0 d mX11_first 27 [l0, l1] [.int s0] F L Q := wt_goto dX11_first_23 (t := 27) rfl
set_option maxHeartbeats 100000 in
theorem kX11_first_26 {d : Nat} {F : am_FT} {L : am_LT} {Q : am_QT} {l0 l1 : Option Value} : wt am_S0 d mX11_first 26 [l0, l1] [] F L Q = wt am_S0 d mX11_first 27 [l0, l1] [.int (-1)] F L Q := wt_iconst dX11_first_26 (v := (-1)) (by decide)
set_option maxHeartbeats 100000 in
theorem kX11_first_27 {d : Nat} {F : am_FT} {L : am_LT} {Q : am_QT} {l0 l1 : Option Value} {s0 : Int32} : wt am_S0 d mX11_first 27 [l0, l1] [.int s0] F L Q = Q (some (.int s0)) F L := wt_ireturn dX11_first_27 rfl rfl
theorem dX11_left_0 : decode mX11_left.2.2.1 0 = .ok (.aload_n 0, 1) := by decide +kernel
theorem dX11_left_1 : decode mX11_left.2.2.1 1 = .ok (.iload_n 1, 1) := by decide +kernel
theorem dX11_left_2 : decode mX11_left.2.2.1 2 = .ok (.invokevirtual 215, 3) := by decide +kernel
theorem dX11_left_5 : decode mX11_left.2.2.1 5 = .ok (.ifCond .eq 25, 3) := by decide +kernel
theorem dX11_left_8 : decode mX11_left.2.2.1 8 = .ok (.iload_n 2, 1) := by decide +kernel
theorem dX11_left_9 : decode mX11_left.2.2.1 9 = .ok (.iconst 0, 1) := by decide +kernel
theorem dX11_left_10 : decode mX11_left.2.2.1 10 = .ok (.bipush 99, 2) := by decide +kernel
theorem dX11_left_12 : decode mX11_left.2.2.1 12 = .ok (.invokestatic 117, 3) := by decide +kernel
theorem dX11_left_15 : decode mX11_left.2.2.1 15 = .ok (.ifCond .eq 15, 3) := by decide +kernel
theorem dX11_left_18 : decode mX11_left.2.2.1 18 = .ok (.aload_n 0, 1) := by decide +kernel
theorem dX11_left_19 : decode mX11_left.2.2.1 19 = .ok (.getfield 44, 3) := by decide +kernel
theorem dX11_left_22 : decode mX11_left.2.2.1 22 = .ok (.iload_n 1, 1) := by decide +kernel
theorem dX11_left_23 : decode mX11_left.2.2.1 23 = .ok (.iload_n 2, 1) := by decide +kernel
theorem dX11_left_24 : decode mX11_left.2.2.1 24 = .ok (.invokevirtual 218, 3) := by decide +kernel
theorem dX11_left_27 : decode mX11_left.2.2.1 27 = .ok (.goto 4, 3) := by decide +kernel
theorem dX11_left_30 : decode mX11_left.2.2.1 30 = .ok (.iconst (-1), 1) := by decide +kernel
theorem dX11_left_31 : decode mX11_left.2.2.1 31 = .ok (.ireturn, 1) := by decide +kernel
set_option maxHeartbeats 100000 in
theorem kX11_left_0 {d : Nat} {F : am_FT} {L : am_LT} {Q : am_QT} {l2 : Option Value} {x1 : Int32} : wt am_S0 (d + 1) mX11_left 0 [some (.ref 0), some (.int x1), l2] [] F L Q = wc am_S0 d mX11_isMonth [.ref 0, .int x1] F L (fun r G K => wt am_S0 (d + 1) mX11_left 5 [some (.ref 0), some (.int x1), l2] (r.toList ++ []) G K Q) := (wt_aload_n dX11_left_0 rfl rfl).trans ((wt_iload_n dX11_left_1 rfl).trans (wt_callV dX11_left_2 rfl (as := [.int x1]) (rest := []) rfl rfl (Nat.le_of_ble_eq_true rfl) rfl (Nat.le_of_ble_eq_true rfl)))
set_option maxHeartbeats 100000 in
theorem kX11_left_5 {d : Nat} {F : am_FT} {L : am_LT} {Q : am_QT} {l0 l1 l2 : Option Value} {s0 : Int32} : wt am_S0 d mX11_left 5 [l0, l1, l2] [.int s0] F L Q = if s0 = 0 then wt am_S0 d mX11_left 30 [l0, l1, l2] [] F L Q else wt am_S0 d mX11_left 8 [l0, l1, l2] [] F L Q := wt_ifCond_eq dX11_left_5 (t := 30) rfl
set_option maxHeartbeats 100000 in
theorem kX11_left_8 {d : Nat} {F : am_FT} {L : am_LT} {Q : am_QT} {l0 l1 : Option Value} {x2 : Int32} : wt am_S0 (d + 1) mX11_left 8 [l0, l1, some (.int x2)] [] F L Q = wc am_S0 d mX11_within [.int x2, .int 0, .int 99] F L (fun r G K => wt am_S0 (d + 1) mX11_left 15 [l0, l1, some (.int x2)] (r.toList ++ []) G K Q) := (wt_iload_n dX11_left_8 rfl).trans ((wt_iconst dX11_left_9 (v := 0) (by decide)).trans ((wt_bipush dX11_left_10 (v := 99) (by decide)).trans (wt_callS dX11_left_12 rfl (as := [.int x2, .int 0, .int 99]) (rest := []) rfl rfl (Nat.le_of_ble_eq_true rfl) (Nat.le_of_ble_eq_true rfl))))
set_option maxHeartbeats 100000 in
theorem kX11_left_15 {d : Nat} {F : am_FT} {L : am_LT} {Q : am_QT} {l0 l1 l2 : Option Value} {s0 : Int32} : wt am_S0 d mX11_left 15 [l0, l1, l2] [.int s0] F L Q = if s0 = 0 then wt am_S0 d mX11_left 30 [l0, l1, l2] [] F L Q else wt am_S0 d mX11_left 18 [l0, l1, l2] [] F L Q := wt_ifCond_eq dX11_left_15 (t := 30) rfl
set_option maxHeartbeats 100000 in
theorem kX11_left_18 {d : Nat} {F : am_FT} {L : am_LT} {Q : am_QT} {x1 x2 : Int32} : wt am_S0 (d + 1) mX11_left 18 [some (.ref 0), some (.int x1), some (.int x2)] [] F L Q = wc am_S0 d mX9_leftBehind [.ref 12, .int x1, .int x2] F L (fun r G K => wt am_S0 (d + 1) mX11_left 27 [some (.ref 0), some (.int x1), some (.int x2)] (r.toList ++ []) G K Q) := (wt_aload_n dX11_left_18 rfl rfl).trans ((wt_getfield dX11_left_19 rfl rfl (v := .ref 12) rfl).trans ((wt_iload_n dX11_left_22 rfl).trans ((wt_iload_n dX11_left_23 rfl).trans (wt_callV dX11_left_24 rfl (as := [.int x1, .int x2]) (rest := []) rfl rfl (Nat.le_of_ble_eq_true rfl) rfl (Nat.le_of_ble_eq_true rfl)))))
set_option maxHeartbeats 100000 in
theorem kX11_left_27 {d : Nat} {F : am_FT} {L : am_LT} {Q : am_QT} {l0 l1 l2 : Option Value} {s0 : Int32} : wt am_S0 d mX11_left 27 [l0, l1, l2] [.int s0] F L Q = wt am_S0 d mX11_left 31 [l0, l1, l2] [.int s0] F L Q := wt_goto dX11_left_27 (t := 31) rfl
set_option maxHeartbeats 100000 in
theorem kX11_left_30 {d : Nat} {F : am_FT} {L : am_LT} {Q : am_QT} {l0 l1 l2 : Option Value} : wt am_S0 d mX11_left 30 [l0, l1, l2] [] F L Q = wt am_S0 d mX11_left 31 [l0, l1, l2] [.int (-1)] F L Q := wt_iconst dX11_left_30 (v := (-1)) (by decide)
set_option maxHeartbeats 100000 in
theorem kX11_left_31 {d : Nat} {F : am_FT} {L : am_LT} {Q : am_QT} {l0 l1 l2 : Option Value} {s0 : Int32} : wt am_S0 d mX11_left 31 [l0, l1, l2] [.int s0] F L Q = Q (some (.int s0)) F L := wt_ireturn dX11_left_31 rfl rfl
theorem dX11_turn_0 : decode mX11_turn.2.2.1 0 = .ok (.aload_n 0, 1) := by decide +kernel
theorem dX11_turn_1 : decode mX11_turn.2.2.1 1 = .ok (.iload_n 1, 1) := by decide +kernel
theorem dX11_turn_2 : decode mX11_turn.2.2.1 2 = .ok (.invokevirtual 181, 3) := by decide +kernel
theorem dX11_turn_5 : decode mX11_turn.2.2.1 5 = .ok (.ifCond .eq 12, 3) := by decide +kernel
theorem dX11_turn_8 : decode mX11_turn.2.2.1 8 = .ok (.iload_n 2, 1) := by decide +kernel
theorem dX11_turn_9 : decode mX11_turn.2.2.1 9 = .ok (.iconst 0, 1) := by decide +kernel
theorem dX11_turn_10 : decode mX11_turn.2.2.1 10 = .ok (.iconst 1, 1) := by decide +kernel
theorem dX11_turn_11 : decode mX11_turn.2.2.1 11 = .ok (.invokestatic 117, 3) := by decide +kernel
theorem dX11_turn_14 : decode mX11_turn.2.2.1 14 = .ok (.ifCond .ne 5, 3) := by decide +kernel
theorem dX11_turn_17 : decode mX11_turn.2.2.1 17 = .ok (.iconst (-1), 1) := by decide +kernel
theorem dX11_turn_18 : decode mX11_turn.2.2.1 18 = .ok (.ireturn, 1) := by decide +kernel
theorem dX11_turn_19 : decode mX11_turn.2.2.1 19 = .ok (.aload_n 0, 1) := by decide +kernel
theorem dX11_turn_20 : decode mX11_turn.2.2.1 20 = .ok (.getfield 60, 3) := by decide +kernel
theorem dX11_turn_23 : decode mX11_turn.2.2.1 23 = .ok (.iload_n 1, 1) := by decide +kernel
theorem dX11_turn_24 : decode mX11_turn.2.2.1 24 = .ok (.bipush 100, 2) := by decide +kernel
theorem dX11_turn_26 : decode mX11_turn.2.2.1 26 = .ok (.idiv, 1) := by decide +kernel
theorem dX11_turn_27 : decode mX11_turn.2.2.1 27 = .ok (.iload_n 1, 1) := by decide +kernel
theorem dX11_turn_28 : decode mX11_turn.2.2.1 28 = .ok (.bipush 100, 2) := by decide +kernel
theorem dX11_turn_30 : decode mX11_turn.2.2.1 30 = .ok (.irem, 1) := by decide +kernel
theorem dX11_turn_31 : decode mX11_turn.2.2.1 31 = .ok (.invokevirtual 221, 3) := by decide +kernel
theorem dX11_turn_34 : decode mX11_turn.2.2.1 34 = .ok (.istore_n 3, 1) := by decide +kernel
theorem dX11_turn_35 : decode mX11_turn.2.2.1 35 = .ok (.iload_n 3, 1) := by decide +kernel
theorem dX11_turn_36 : decode mX11_turn.2.2.1 36 = .ok (.ifCond .ne 6, 3) := by decide +kernel
theorem dX11_turn_39 : decode mX11_turn.2.2.1 39 = .ok (.bipush (-2), 2) := by decide +kernel
theorem dX11_turn_41 : decode mX11_turn.2.2.1 41 = .ok (.ireturn, 1) := by decide +kernel
theorem dX11_turn_42 : decode mX11_turn.2.2.1 42 = .ok (.iload_n 2, 1) := by decide +kernel
theorem dX11_turn_43 : decode mX11_turn.2.2.1 43 = .ok (.ifCond .ne 10, 3) := by decide +kernel
theorem dX11_turn_46 : decode mX11_turn.2.2.1 46 = .ok (.iload_n 3, 1) := by decide +kernel
theorem dX11_turn_47 : decode mX11_turn.2.2.1 47 = .ok (.invokestatic 224, 3) := by decide +kernel
theorem dX11_turn_50 : decode mX11_turn.2.2.1 50 = .ok (.goto 4, 3) := by decide +kernel
theorem dX11_turn_53 : decode mX11_turn.2.2.1 53 = .ok (.iload_n 3, 1) := by decide +kernel
theorem dX11_turn_54 : decode mX11_turn.2.2.1 54 = .ok (.ireturn, 1) := by decide +kernel
set_option maxHeartbeats 100000 in
theorem kX11_turn_0 {d : Nat} {F : am_FT} {L : am_LT} {Q : am_QT} {l2 l3 : Option Value} {x1 : Int32} : wt am_S0 (d + 1) mX11_turn 0 [some (.ref 0), some (.int x1), l2, l3] [] F L Q = wc am_S0 d mX11_isTreeMonth [.ref 0, .int x1] F L (fun r G K => wt am_S0 (d + 1) mX11_turn 5 [some (.ref 0), some (.int x1), l2, l3] (r.toList ++ []) G K Q) := (wt_aload_n dX11_turn_0 rfl rfl).trans ((wt_iload_n dX11_turn_1 rfl).trans (wt_callV dX11_turn_2 rfl (as := [.int x1]) (rest := []) rfl rfl (Nat.le_of_ble_eq_true rfl) rfl (Nat.le_of_ble_eq_true rfl)))
set_option maxHeartbeats 100000 in
theorem kX11_turn_5 {d : Nat} {F : am_FT} {L : am_LT} {Q : am_QT} {l0 l1 l2 l3 : Option Value} {s0 : Int32} : wt am_S0 d mX11_turn 5 [l0, l1, l2, l3] [.int s0] F L Q = if s0 = 0 then wt am_S0 d mX11_turn 17 [l0, l1, l2, l3] [] F L Q else wt am_S0 d mX11_turn 8 [l0, l1, l2, l3] [] F L Q := wt_ifCond_eq dX11_turn_5 (t := 17) rfl
set_option maxHeartbeats 100000 in
theorem kX11_turn_8 {d : Nat} {F : am_FT} {L : am_LT} {Q : am_QT} {l0 l1 l3 : Option Value} {x2 : Int32} : wt am_S0 (d + 1) mX11_turn 8 [l0, l1, some (.int x2), l3] [] F L Q = wc am_S0 d mX11_within [.int x2, .int 0, .int 1] F L (fun r G K => wt am_S0 (d + 1) mX11_turn 14 [l0, l1, some (.int x2), l3] (r.toList ++ []) G K Q) := (wt_iload_n dX11_turn_8 rfl).trans ((wt_iconst dX11_turn_9 (v := 0) (by decide)).trans ((wt_iconst dX11_turn_10 (v := 1) (by decide)).trans (wt_callS dX11_turn_11 rfl (as := [.int x2, .int 0, .int 1]) (rest := []) rfl rfl (Nat.le_of_ble_eq_true rfl) (Nat.le_of_ble_eq_true rfl))))
set_option maxHeartbeats 100000 in
theorem kX11_turn_14 {d : Nat} {F : am_FT} {L : am_LT} {Q : am_QT} {l0 l1 l2 l3 : Option Value} {s0 : Int32} : wt am_S0 d mX11_turn 14 [l0, l1, l2, l3] [.int s0] F L Q = if ¬ s0 = 0 then wt am_S0 d mX11_turn 19 [l0, l1, l2, l3] [] F L Q else wt am_S0 d mX11_turn 17 [l0, l1, l2, l3] [] F L Q := wt_ifCond_ne dX11_turn_14 (t := 19) rfl
set_option maxHeartbeats 100000 in
theorem kX11_turn_17 {d : Nat} {F : am_FT} {L : am_LT} {Q : am_QT} {l0 l1 l2 l3 : Option Value} : wt am_S0 d mX11_turn 17 [l0, l1, l2, l3] [] F L Q = Q (some (.int (-1))) F L := (wt_iconst dX11_turn_17 (v := (-1)) (by decide)).trans (wt_ireturn dX11_turn_18 rfl rfl)
set_option maxHeartbeats 100000 in
theorem kX11_turn_19 {d : Nat} {F : am_FT} {L : am_LT} {Q : am_QT} {l2 l3 : Option Value} {x1 : Int32} : wt am_S0 (d + 1) mX11_turn 19 [some (.ref 0), some (.int x1), l2, l3] [] F L Q = wc am_S0 d mX4_fewestToTurn [.ref 16, .int (x1 / 100), .int (x1 - x1 / 100 * 100)] F L (fun r G K => wt am_S0 (d + 1) mX11_turn 34 [some (.ref 0), some (.int x1), l2, l3] (r.toList ++ []) G K Q) := (wt_aload_n dX11_turn_19 rfl rfl).trans ((wt_getfield dX11_turn_20 rfl rfl (v := .ref 16) rfl).trans ((wt_iload_n dX11_turn_23 rfl).trans ((wt_bipush dX11_turn_24 (v := 100) (by decide)).trans ((wt_idiv dX11_turn_26 (by decide)).trans ((wt_iload_n dX11_turn_27 rfl).trans ((wt_bipush dX11_turn_28 (v := 100) (by decide)).trans ((wt_irem dX11_turn_30 (by decide)).trans (wt_callV dX11_turn_31 rfl (as := [.int (x1 / 100), .int (x1 - x1 / 100 * 100)]) (rest := []) rfl rfl (Nat.le_of_ble_eq_true rfl) rfl (Nat.le_of_ble_eq_true rfl)))))))))
set_option maxHeartbeats 100000 in
theorem kX11_turn_34 {d : Nat} {F : am_FT} {L : am_LT} {Q : am_QT} {l0 l1 l3 : Option Value} {s0 x2 : Int32} : wt am_S0 d mX11_turn 34 [l0, l1, some (.int x2), l3] [.int s0] F L Q = if ¬ s0 = 0 then wt am_S0 d mX11_turn 42 [l0, l1, some (.int x2), some (.int s0)] [] F L Q else wt am_S0 d mX11_turn 39 [l0, l1, some (.int x2), some (.int s0)] [] F L Q := (wt_istore_n dX11_turn_34 (lv1 := [l0, l1, some (.int x2), some (.int s0)]) (Nat.le_of_ble_eq_true rfl) rfl).trans ((wt_iload_n dX11_turn_35 rfl).trans (wt_ifCond_ne dX11_turn_36 (t := 42) rfl))
set_option maxHeartbeats 100000 in
theorem kX11_turn_39 {d : Nat} {F : am_FT} {L : am_LT} {Q : am_QT} {l0 l1 l2 l3 : Option Value} : wt am_S0 d mX11_turn 39 [l0, l1, l2, l3] [] F L Q = Q (some (.int (-2))) F L := (wt_bipush dX11_turn_39 (v := (-2)) (by decide)).trans (wt_ireturn dX11_turn_41 rfl rfl)
set_option maxHeartbeats 100000 in
theorem kX11_turn_42 {d : Nat} {F : am_FT} {L : am_LT} {Q : am_QT} {l0 l1 l3 : Option Value} {x2 : Int32} : wt am_S0 d mX11_turn 42 [l0, l1, some (.int x2), l3] [] F L Q = if ¬ x2 = 0 then wt am_S0 d mX11_turn 53 [l0, l1, some (.int x2), l3] [] F L Q else wt am_S0 d mX11_turn 46 [l0, l1, some (.int x2), l3] [] F L Q := (wt_iload_n dX11_turn_42 rfl).trans (wt_ifCond_ne dX11_turn_43 (t := 53) rfl)
set_option maxHeartbeats 100000 in
theorem kX11_turn_46 {d : Nat} {F : am_FT} {L : am_LT} {Q : am_QT} {l0 l1 l2 : Option Value} {x3 : Int32} : wt am_S0 (d + 1) mX11_turn 46 [l0, l1, l2, some (.int x3)] [] F L Q = wc am_S0 d mJ6_bitCount_0f7a4 [.int x3] F L (fun r G K => wt am_S0 (d + 1) mX11_turn 50 [l0, l1, l2, some (.int x3)] (r.toList ++ []) G K Q) := (wt_iload_n dX11_turn_46 rfl).trans (wt_callS dX11_turn_47 rfl (as := [.int x3]) (rest := []) rfl rfl (Nat.le_of_ble_eq_true rfl) (Nat.le_of_ble_eq_true rfl))
set_option maxHeartbeats 100000 in
theorem kX11_turn_50 {d : Nat} {F : am_FT} {L : am_LT} {Q : am_QT} {l0 l1 l2 l3 : Option Value} {s0 : Int32} : wt am_S0 d mX11_turn 50 [l0, l1, l2, l3] [.int s0] F L Q = wt am_S0 d mX11_turn 54 [l0, l1, l2, l3] [.int s0] F L Q := wt_goto dX11_turn_50 (t := 54) rfl
set_option maxHeartbeats 100000 in
theorem kX11_turn_53 {d : Nat} {F : am_FT} {L : am_LT} {Q : am_QT} {l0 l1 l2 : Option Value} {x3 : Int32} : wt am_S0 d mX11_turn 53 [l0, l1, l2, some (.int x3)] [] F L Q = wt am_S0 d mX11_turn 54 [l0, l1, l2, some (.int x3)] [.int x3] F L Q := wt_iload_n dX11_turn_53 rfl
set_option maxHeartbeats 100000 in
theorem kX11_turn_54 {d : Nat} {F : am_FT} {L : am_LT} {Q : am_QT} {l0 l1 l2 l3 : Option Value} {s0 : Int32} : wt am_S0 d mX11_turn 54 [l0, l1, l2, l3] [.int s0] F L Q = Q (some (.int s0)) F L := wt_ireturn dX11_turn_54 rfl rfl
theorem dX11_chair_0 : decode mX11_chair.2.2.1 0 = .ok (.aload_n 0, 1) := by decide +kernel
theorem dX11_chair_1 : decode mX11_chair.2.2.1 1 = .ok (.iload_n 1, 1) := by decide +kernel
theorem dX11_chair_2 : decode mX11_chair.2.2.1 2 = .ok (.invokevirtual 181, 3) := by decide +kernel
theorem dX11_chair_5 : decode mX11_chair.2.2.1 5 = .ok (.ifCond .eq 21, 3) := by decide +kernel
theorem dX11_chair_8 : decode mX11_chair.2.2.1 8 = .ok (.aload_n 0, 1) := by decide +kernel
theorem dX11_chair_9 : decode mX11_chair.2.2.1 9 = .ok (.getfield 60, 3) := by decide +kernel
theorem dX11_chair_12 : decode mX11_chair.2.2.1 12 = .ok (.iload_n 1, 1) := by decide +kernel
theorem dX11_chair_13 : decode mX11_chair.2.2.1 13 = .ok (.bipush 100, 2) := by decide +kernel
theorem dX11_chair_15 : decode mX11_chair.2.2.1 15 = .ok (.idiv, 1) := by decide +kernel
theorem dX11_chair_16 : decode mX11_chair.2.2.1 16 = .ok (.iload_n 1, 1) := by decide +kernel
theorem dX11_chair_17 : decode mX11_chair.2.2.1 17 = .ok (.bipush 100, 2) := by decide +kernel
theorem dX11_chair_19 : decode mX11_chair.2.2.1 19 = .ok (.irem, 1) := by decide +kernel
theorem dX11_chair_20 : decode mX11_chair.2.2.1 20 = .ok (.invokevirtual 229, 3) := by decide +kernel
theorem dX11_chair_23 : decode mX11_chair.2.2.1 23 = .ok (.goto 4, 3) := by decide +kernel
theorem dX11_chair_26 : decode mX11_chair.2.2.1 26 = .ok (.iconst (-1), 1) := by decide +kernel
theorem dX11_chair_27 : decode mX11_chair.2.2.1 27 = .ok (.ireturn, 1) := by decide +kernel
set_option maxHeartbeats 100000 in
theorem kX11_chair_0 {d : Nat} {F : am_FT} {L : am_LT} {Q : am_QT} {x1 : Int32} : wt am_S0 (d + 1) mX11_chair 0 [some (.ref 0), some (.int x1)] [] F L Q = wc am_S0 d mX11_isTreeMonth [.ref 0, .int x1] F L (fun r G K => wt am_S0 (d + 1) mX11_chair 5 [some (.ref 0), some (.int x1)] (r.toList ++ []) G K Q) := (wt_aload_n dX11_chair_0 rfl rfl).trans ((wt_iload_n dX11_chair_1 rfl).trans (wt_callV dX11_chair_2 rfl (as := [.int x1]) (rest := []) rfl rfl (Nat.le_of_ble_eq_true rfl) rfl (Nat.le_of_ble_eq_true rfl)))
set_option maxHeartbeats 100000 in
theorem kX11_chair_5 {d : Nat} {F : am_FT} {L : am_LT} {Q : am_QT} {l0 l1 : Option Value} {s0 : Int32} : wt am_S0 d mX11_chair 5 [l0, l1] [.int s0] F L Q = if s0 = 0 then wt am_S0 d mX11_chair 26 [l0, l1] [] F L Q else wt am_S0 d mX11_chair 8 [l0, l1] [] F L Q := wt_ifCond_eq dX11_chair_5 (t := 26) rfl
set_option maxHeartbeats 100000 in
theorem kX11_chair_8 {d : Nat} {F : am_FT} {L : am_LT} {Q : am_QT} {x1 : Int32} : wt am_S0 (d + 1) mX11_chair 8 [some (.ref 0), some (.int x1)] [] F L Q = wc am_S0 d mX4_hangsOn [.ref 16, .int (x1 / 100), .int (x1 - x1 / 100 * 100)] F L (fun r G K => wt am_S0 (d + 1) mX11_chair 23 [some (.ref 0), some (.int x1)] (r.toList ++ []) G K Q) := (wt_aload_n dX11_chair_8 rfl rfl).trans ((wt_getfield dX11_chair_9 rfl rfl (v := .ref 16) rfl).trans ((wt_iload_n dX11_chair_12 rfl).trans ((wt_bipush dX11_chair_13 (v := 100) (by decide)).trans ((wt_idiv dX11_chair_15 (by decide)).trans ((wt_iload_n dX11_chair_16 rfl).trans ((wt_bipush dX11_chair_17 (v := 100) (by decide)).trans ((wt_irem dX11_chair_19 (by decide)).trans (wt_callV dX11_chair_20 rfl (as := [.int (x1 / 100), .int (x1 - x1 / 100 * 100)]) (rest := []) rfl rfl (Nat.le_of_ble_eq_true rfl) rfl (Nat.le_of_ble_eq_true rfl)))))))))
set_option maxHeartbeats 100000 in
theorem kX11_chair_23 {d : Nat} {F : am_FT} {L : am_LT} {Q : am_QT} {l0 l1 : Option Value} {s0 : Int32} : wt am_S0 d mX11_chair 23 [l0, l1] [.int s0] F L Q = wt am_S0 d mX11_chair 27 [l0, l1] [.int s0] F L Q := wt_goto dX11_chair_23 (t := 27) rfl
set_option maxHeartbeats 100000 in
theorem kX11_chair_26 {d : Nat} {F : am_FT} {L : am_LT} {Q : am_QT} {l0 l1 : Option Value} : wt am_S0 d mX11_chair 26 [l0, l1] [] F L Q = wt am_S0 d mX11_chair 27 [l0, l1] [.int (-1)] F L Q := wt_iconst dX11_chair_26 (v := (-1)) (by decide)
set_option maxHeartbeats 100000 in
theorem kX11_chair_27 {d : Nat} {F : am_FT} {L : am_LT} {Q : am_QT} {l0 l1 : Option Value} {s0 : Int32} : wt am_S0 d mX11_chair 27 [l0, l1] [.int s0] F L Q = Q (some (.int s0)) F L := wt_ireturn dX11_chair_27 rfl rfl
theorem dX11_power_0 : decode mX11_power.2.2.1 0 = .ok (.aload_n 0, 1) := by decide +kernel
theorem dX11_power_1 : decode mX11_power.2.2.1 1 = .ok (.iload_n 1, 1) := by decide +kernel
theorem dX11_power_2 : decode mX11_power.2.2.1 2 = .ok (.invokevirtual 181, 3) := by decide +kernel
theorem dX11_power_5 : decode mX11_power.2.2.1 5 = .ok (.ifCond .eq 24, 3) := by decide +kernel
theorem dX11_power_8 : decode mX11_power.2.2.1 8 = .ok (.aload_n 0, 1) := by decide +kernel
theorem dX11_power_9 : decode mX11_power.2.2.1 9 = .ok (.getfield 12, 3) := by decide +kernel
theorem dX11_power_12 : decode mX11_power.2.2.1 12 = .ok (.iload_n 2, 1) := by decide +kernel
theorem dX11_power_13 : decode mX11_power.2.2.1 13 = .ok (.iconst 4, 1) := by decide +kernel
theorem dX11_power_14 : decode mX11_power.2.2.1 14 = .ok (.invokevirtual 146, 3) := by decide +kernel
theorem dX11_power_17 : decode mX11_power.2.2.1 17 = .ok (.ifCond .eq 12, 3) := by decide +kernel
theorem dX11_power_20 : decode mX11_power.2.2.1 20 = .ok (.iload_n 3, 1) := by decide +kernel
theorem dX11_power_21 : decode mX11_power.2.2.1 21 = .ok (.iconst 0, 1) := by decide +kernel
theorem dX11_power_22 : decode mX11_power.2.2.1 22 = .ok (.iconst 1, 1) := by decide +kernel
theorem dX11_power_23 : decode mX11_power.2.2.1 23 = .ok (.invokestatic 117, 3) := by decide +kernel
theorem dX11_power_26 : decode mX11_power.2.2.1 26 = .ok (.ifCond .ne 7, 3) := by decide +kernel
theorem dX11_power_29 : decode mX11_power.2.2.1 29 = .ok (.ldc2_w 234, 3) := by decide +kernel
theorem dX11_power_32 : decode mX11_power.2.2.1 32 = .ok (.lreturn, 1) := by decide +kernel
theorem dX11_power_33 : decode mX11_power.2.2.1 33 = .ok (.aload_n 0, 1) := by decide +kernel
theorem dX11_power_34 : decode mX11_power.2.2.1 34 = .ok (.getfield 60, 3) := by decide +kernel
theorem dX11_power_37 : decode mX11_power.2.2.1 37 = .ok (.iload_n 1, 1) := by decide +kernel
theorem dX11_power_38 : decode mX11_power.2.2.1 38 = .ok (.bipush 100, 2) := by decide +kernel
theorem dX11_power_40 : decode mX11_power.2.2.1 40 = .ok (.idiv, 1) := by decide +kernel
theorem dX11_power_41 : decode mX11_power.2.2.1 41 = .ok (.iload_n 1, 1) := by decide +kernel
theorem dX11_power_42 : decode mX11_power.2.2.1 42 = .ok (.bipush 100, 2) := by decide +kernel
theorem dX11_power_44 : decode mX11_power.2.2.1 44 = .ok (.irem, 1) := by decide +kernel
theorem dX11_power_45 : decode mX11_power.2.2.1 45 = .ok (.iload_n 2, 1) := by decide +kernel
theorem dX11_power_46 : decode mX11_power.2.2.1 46 = .ok (.iload_n 3, 1) := by decide +kernel
theorem dX11_power_47 : decode mX11_power.2.2.1 47 = .ok (.invokevirtual 236, 3) := by decide +kernel
theorem dX11_power_50 : decode mX11_power.2.2.1 50 = .ok (.i2l, 1) := by decide +kernel
theorem dX11_power_51 : decode mX11_power.2.2.1 51 = .ok (.lreturn, 1) := by decide +kernel
set_option maxHeartbeats 100000 in
theorem kX11_power_0 {d : Nat} {F : am_FT} {L : am_LT} {Q : am_QT} {l2 l3 : Option Value} {x1 : Int32} : wt am_S0 (d + 1) mX11_power 0 [some (.ref 0), some (.int x1), l2, l3] [] F L Q = wc am_S0 d mX11_isTreeMonth [.ref 0, .int x1] F L (fun r G K => wt am_S0 (d + 1) mX11_power 5 [some (.ref 0), some (.int x1), l2, l3] (r.toList ++ []) G K Q) := (wt_aload_n dX11_power_0 rfl rfl).trans ((wt_iload_n dX11_power_1 rfl).trans (wt_callV dX11_power_2 rfl (as := [.int x1]) (rest := []) rfl rfl (Nat.le_of_ble_eq_true rfl) rfl (Nat.le_of_ble_eq_true rfl)))
set_option maxHeartbeats 100000 in
theorem kX11_power_5 {d : Nat} {F : am_FT} {L : am_LT} {Q : am_QT} {l0 l1 l2 l3 : Option Value} {s0 : Int32} : wt am_S0 d mX11_power 5 [l0, l1, l2, l3] [.int s0] F L Q = if s0 = 0 then wt am_S0 d mX11_power 29 [l0, l1, l2, l3] [] F L Q else wt am_S0 d mX11_power 8 [l0, l1, l2, l3] [] F L Q := wt_ifCond_eq dX11_power_5 (t := 29) rfl
set_option maxHeartbeats 100000 in
theorem kX11_power_8 {d : Nat} {F : am_FT} {L : am_LT} {Q : am_QT} {l1 l3 : Option Value} {x2 : Int32} : wt am_S0 (d + 1) mX11_power 8 [some (.ref 0), l1, some (.int x2), l3] [] F L Q = wc am_S0 d mX5_has [.ref 1, .int x2, .int 4] F L (fun r G K => wt am_S0 (d + 1) mX11_power 17 [some (.ref 0), l1, some (.int x2), l3] (r.toList ++ []) G K Q) := (wt_aload_n dX11_power_8 rfl rfl).trans ((wt_getfield dX11_power_9 rfl rfl (v := .ref 1) rfl).trans ((wt_iload_n dX11_power_12 rfl).trans ((wt_iconst dX11_power_13 (v := 4) (by decide)).trans (wt_callV dX11_power_14 rfl (as := [.int x2, .int 4]) (rest := []) rfl rfl (Nat.le_of_ble_eq_true rfl) rfl (Nat.le_of_ble_eq_true rfl)))))
set_option maxHeartbeats 100000 in
theorem kX11_power_17 {d : Nat} {F : am_FT} {L : am_LT} {Q : am_QT} {l0 l1 l2 l3 : Option Value} {s0 : Int32} : wt am_S0 d mX11_power 17 [l0, l1, l2, l3] [.int s0] F L Q = if s0 = 0 then wt am_S0 d mX11_power 29 [l0, l1, l2, l3] [] F L Q else wt am_S0 d mX11_power 20 [l0, l1, l2, l3] [] F L Q := wt_ifCond_eq dX11_power_17 (t := 29) rfl
set_option maxHeartbeats 100000 in
theorem kX11_power_20 {d : Nat} {F : am_FT} {L : am_LT} {Q : am_QT} {l0 l1 l2 : Option Value} {x3 : Int32} : wt am_S0 (d + 1) mX11_power 20 [l0, l1, l2, some (.int x3)] [] F L Q = wc am_S0 d mX11_within [.int x3, .int 0, .int 1] F L (fun r G K => wt am_S0 (d + 1) mX11_power 26 [l0, l1, l2, some (.int x3)] (r.toList ++ []) G K Q) := (wt_iload_n dX11_power_20 rfl).trans ((wt_iconst dX11_power_21 (v := 0) (by decide)).trans ((wt_iconst dX11_power_22 (v := 1) (by decide)).trans (wt_callS dX11_power_23 rfl (as := [.int x3, .int 0, .int 1]) (rest := []) rfl rfl (Nat.le_of_ble_eq_true rfl) (Nat.le_of_ble_eq_true rfl))))
set_option maxHeartbeats 100000 in
theorem kX11_power_26 {d : Nat} {F : am_FT} {L : am_LT} {Q : am_QT} {l0 l1 l2 l3 : Option Value} {s0 : Int32} : wt am_S0 d mX11_power 26 [l0, l1, l2, l3] [.int s0] F L Q = if ¬ s0 = 0 then wt am_S0 d mX11_power 33 [l0, l1, l2, l3] [] F L Q else wt am_S0 d mX11_power 29 [l0, l1, l2, l3] [] F L Q := wt_ifCond_ne dX11_power_26 (t := 33) rfl
set_option maxHeartbeats 100000 in
theorem kX11_power_29 {d : Nat} {F : am_FT} {L : am_LT} {Q : am_QT} {l0 l1 l2 l3 : Option Value} : wt am_S0 d mX11_power 29 [l0, l1, l2, l3] [] F L Q = Q (some (.long (-9223372036854775808))) F L := (wt_ldc2_w dX11_power_29 (v := -9223372036854775808) rfl).trans (wt_lreturn dX11_power_32 rfl)
set_option maxHeartbeats 100000 in
theorem kX11_power_33 {d : Nat} {F : am_FT} {L : am_LT} {Q : am_QT} {x1 x2 x3 : Int32} : wt am_S0 (d + 1) mX11_power 33 [some (.ref 0), some (.int x1), some (.int x2), some (.int x3)] [] F L Q = wc am_S0 d mX4_powerOf [.ref 16, .int (x1 / 100), .int (x1 - x1 / 100 * 100), .int x2, .int x3] F L (fun r G K => wt am_S0 (d + 1) mX11_power 50 [some (.ref 0), some (.int x1), some (.int x2), some (.int x3)] (r.toList ++ []) G K Q) := (wt_aload_n dX11_power_33 rfl rfl).trans ((wt_getfield dX11_power_34 rfl rfl (v := .ref 16) rfl).trans ((wt_iload_n dX11_power_37 rfl).trans ((wt_bipush dX11_power_38 (v := 100) (by decide)).trans ((wt_idiv dX11_power_40 (by decide)).trans ((wt_iload_n dX11_power_41 rfl).trans ((wt_bipush dX11_power_42 (v := 100) (by decide)).trans ((wt_irem dX11_power_44 (by decide)).trans ((wt_iload_n dX11_power_45 rfl).trans ((wt_iload_n dX11_power_46 rfl).trans (wt_callV dX11_power_47 rfl (as := [.int (x1 / 100), .int (x1 - x1 / 100 * 100), .int x2, .int x3]) (rest := []) rfl rfl (Nat.le_of_ble_eq_true rfl) rfl (Nat.le_of_ble_eq_true rfl)))))))))))
set_option maxHeartbeats 100000 in
theorem kX11_power_50 {d : Nat} {F : am_FT} {L : am_LT} {Q : am_QT} {l0 l1 l2 l3 : Option Value} {s0 : Int32} : wt am_S0 d mX11_power 50 [l0, l1, l2, l3] [.int s0] F L Q = Q (some (.long (Int32.toInt64 s0))) F L := (wt_i2l dX11_power_50).trans (wt_lreturn dX11_power_51 rfl)
theorem dX11_lop_0 : decode mX11_lop.2.2.1 0 = .ok (.aload_n 0, 1) := by decide +kernel
theorem dX11_lop_1 : decode mX11_lop.2.2.1 1 = .ok (.iload_n 1, 1) := by decide +kernel
theorem dX11_lop_2 : decode mX11_lop.2.2.1 2 = .ok (.invokevirtual 181, 3) := by decide +kernel
theorem dX11_lop_5 : decode mX11_lop.2.2.1 5 = .ok (.ifCond .eq 12, 3) := by decide +kernel
theorem dX11_lop_8 : decode mX11_lop.2.2.1 8 = .ok (.iload_n 2, 1) := by decide +kernel
theorem dX11_lop_9 : decode mX11_lop.2.2.1 9 = .ok (.iconst 0, 1) := by decide +kernel
theorem dX11_lop_10 : decode mX11_lop.2.2.1 10 = .ok (.iconst 1, 1) := by decide +kernel
theorem dX11_lop_11 : decode mX11_lop.2.2.1 11 = .ok (.invokestatic 117, 3) := by decide +kernel
theorem dX11_lop_14 : decode mX11_lop.2.2.1 14 = .ok (.ifCond .ne 5, 3) := by decide +kernel
theorem dX11_lop_17 : decode mX11_lop.2.2.1 17 = .ok (.iconst (-1), 1) := by decide +kernel
theorem dX11_lop_18 : decode mX11_lop.2.2.1 18 = .ok (.ireturn, 1) := by decide +kernel
theorem dX11_lop_19 : decode mX11_lop.2.2.1 19 = .ok (.iload_n 2, 1) := by decide +kernel
theorem dX11_lop_20 : decode mX11_lop.2.2.1 20 = .ok (.ifCond .ne 21, 3) := by decide +kernel
theorem dX11_lop_23 : decode mX11_lop.2.2.1 23 = .ok (.aload_n 0, 1) := by decide +kernel
theorem dX11_lop_24 : decode mX11_lop.2.2.1 24 = .ok (.getfield 60, 3) := by decide +kernel
theorem dX11_lop_27 : decode mX11_lop.2.2.1 27 = .ok (.iload_n 1, 1) := by decide +kernel
theorem dX11_lop_28 : decode mX11_lop.2.2.1 28 = .ok (.bipush 100, 2) := by decide +kernel
theorem dX11_lop_30 : decode mX11_lop.2.2.1 30 = .ok (.idiv, 1) := by decide +kernel
theorem dX11_lop_31 : decode mX11_lop.2.2.1 31 = .ok (.iload_n 1, 1) := by decide +kernel
theorem dX11_lop_32 : decode mX11_lop.2.2.1 32 = .ok (.bipush 100, 2) := by decide +kernel
theorem dX11_lop_34 : decode mX11_lop.2.2.1 34 = .ok (.irem, 1) := by decide +kernel
theorem dX11_lop_35 : decode mX11_lop.2.2.1 35 = .ok (.invokevirtual 240, 3) := by decide +kernel
theorem dX11_lop_38 : decode mX11_lop.2.2.1 38 = .ok (.goto 18, 3) := by decide +kernel
theorem dX11_lop_41 : decode mX11_lop.2.2.1 41 = .ok (.aload_n 0, 1) := by decide +kernel
theorem dX11_lop_42 : decode mX11_lop.2.2.1 42 = .ok (.getfield 60, 3) := by decide +kernel
theorem dX11_lop_45 : decode mX11_lop.2.2.1 45 = .ok (.iload_n 1, 1) := by decide +kernel
theorem dX11_lop_46 : decode mX11_lop.2.2.1 46 = .ok (.bipush 100, 2) := by decide +kernel
theorem dX11_lop_48 : decode mX11_lop.2.2.1 48 = .ok (.idiv, 1) := by decide +kernel
theorem dX11_lop_49 : decode mX11_lop.2.2.1 49 = .ok (.iload_n 1, 1) := by decide +kernel
theorem dX11_lop_50 : decode mX11_lop.2.2.1 50 = .ok (.bipush 100, 2) := by decide +kernel
theorem dX11_lop_52 : decode mX11_lop.2.2.1 52 = .ok (.irem, 1) := by decide +kernel
theorem dX11_lop_53 : decode mX11_lop.2.2.1 53 = .ok (.invokevirtual 243, 3) := by decide +kernel
theorem dX11_lop_56 : decode mX11_lop.2.2.1 56 = .ok (.ireturn, 1) := by decide +kernel
set_option maxHeartbeats 100000 in
theorem kX11_lop_0 {d : Nat} {F : am_FT} {L : am_LT} {Q : am_QT} {l2 : Option Value} {x1 : Int32} : wt am_S0 (d + 1) mX11_lop 0 [some (.ref 0), some (.int x1), l2] [] F L Q = wc am_S0 d mX11_isTreeMonth [.ref 0, .int x1] F L (fun r G K => wt am_S0 (d + 1) mX11_lop 5 [some (.ref 0), some (.int x1), l2] (r.toList ++ []) G K Q) := (wt_aload_n dX11_lop_0 rfl rfl).trans ((wt_iload_n dX11_lop_1 rfl).trans (wt_callV dX11_lop_2 rfl (as := [.int x1]) (rest := []) rfl rfl (Nat.le_of_ble_eq_true rfl) rfl (Nat.le_of_ble_eq_true rfl)))
set_option maxHeartbeats 100000 in
theorem kX11_lop_5 {d : Nat} {F : am_FT} {L : am_LT} {Q : am_QT} {l0 l1 l2 : Option Value} {s0 : Int32} : wt am_S0 d mX11_lop 5 [l0, l1, l2] [.int s0] F L Q = if s0 = 0 then wt am_S0 d mX11_lop 17 [l0, l1, l2] [] F L Q else wt am_S0 d mX11_lop 8 [l0, l1, l2] [] F L Q := wt_ifCond_eq dX11_lop_5 (t := 17) rfl
set_option maxHeartbeats 100000 in
theorem kX11_lop_8 {d : Nat} {F : am_FT} {L : am_LT} {Q : am_QT} {l0 l1 : Option Value} {x2 : Int32} : wt am_S0 (d + 1) mX11_lop 8 [l0, l1, some (.int x2)] [] F L Q = wc am_S0 d mX11_within [.int x2, .int 0, .int 1] F L (fun r G K => wt am_S0 (d + 1) mX11_lop 14 [l0, l1, some (.int x2)] (r.toList ++ []) G K Q) := (wt_iload_n dX11_lop_8 rfl).trans ((wt_iconst dX11_lop_9 (v := 0) (by decide)).trans ((wt_iconst dX11_lop_10 (v := 1) (by decide)).trans (wt_callS dX11_lop_11 rfl (as := [.int x2, .int 0, .int 1]) (rest := []) rfl rfl (Nat.le_of_ble_eq_true rfl) (Nat.le_of_ble_eq_true rfl))))
set_option maxHeartbeats 100000 in
theorem kX11_lop_14 {d : Nat} {F : am_FT} {L : am_LT} {Q : am_QT} {l0 l1 l2 : Option Value} {s0 : Int32} : wt am_S0 d mX11_lop 14 [l0, l1, l2] [.int s0] F L Q = if ¬ s0 = 0 then wt am_S0 d mX11_lop 19 [l0, l1, l2] [] F L Q else wt am_S0 d mX11_lop 17 [l0, l1, l2] [] F L Q := wt_ifCond_ne dX11_lop_14 (t := 19) rfl
set_option maxHeartbeats 100000 in
theorem kX11_lop_17 {d : Nat} {F : am_FT} {L : am_LT} {Q : am_QT} {l0 l1 l2 : Option Value} : wt am_S0 d mX11_lop 17 [l0, l1, l2] [] F L Q = Q (some (.int (-1))) F L := (wt_iconst dX11_lop_17 (v := (-1)) (by decide)).trans (wt_ireturn dX11_lop_18 rfl rfl)
set_option maxHeartbeats 100000 in
theorem kX11_lop_19 {d : Nat} {F : am_FT} {L : am_LT} {Q : am_QT} {l0 l1 : Option Value} {x2 : Int32} : wt am_S0 d mX11_lop 19 [l0, l1, some (.int x2)] [] F L Q = if ¬ x2 = 0 then wt am_S0 d mX11_lop 41 [l0, l1, some (.int x2)] [] F L Q else wt am_S0 d mX11_lop 23 [l0, l1, some (.int x2)] [] F L Q := (wt_iload_n dX11_lop_19 rfl).trans (wt_ifCond_ne dX11_lop_20 (t := 41) rfl)
set_option maxHeartbeats 100000 in
theorem kX11_lop_23 {d : Nat} {F : am_FT} {L : am_LT} {Q : am_QT} {l2 : Option Value} {x1 : Int32} : wt am_S0 (d + 1) mX11_lop 23 [some (.ref 0), some (.int x1), l2] [] F L Q = wc am_S0 d mX4_lessHigh [.ref 16, .int (x1 / 100), .int (x1 - x1 / 100 * 100)] F L (fun r G K => wt am_S0 (d + 1) mX11_lop 38 [some (.ref 0), some (.int x1), l2] (r.toList ++ []) G K Q) := (wt_aload_n dX11_lop_23 rfl rfl).trans ((wt_getfield dX11_lop_24 rfl rfl (v := .ref 16) rfl).trans ((wt_iload_n dX11_lop_27 rfl).trans ((wt_bipush dX11_lop_28 (v := 100) (by decide)).trans ((wt_idiv dX11_lop_30 (by decide)).trans ((wt_iload_n dX11_lop_31 rfl).trans ((wt_bipush dX11_lop_32 (v := 100) (by decide)).trans ((wt_irem dX11_lop_34 (by decide)).trans (wt_callV dX11_lop_35 rfl (as := [.int (x1 / 100), .int (x1 - x1 / 100 * 100)]) (rest := []) rfl rfl (Nat.le_of_ble_eq_true rfl) rfl (Nat.le_of_ble_eq_true rfl)))))))))
set_option maxHeartbeats 100000 in
theorem kX11_lop_38 {d : Nat} {F : am_FT} {L : am_LT} {Q : am_QT} {l0 l1 l2 : Option Value} {s0 : Int32} : wt am_S0 d mX11_lop 38 [l0, l1, l2] [.int s0] F L Q = wt am_S0 d mX11_lop 56 [l0, l1, l2] [.int s0] F L Q := wt_goto dX11_lop_38 (t := 56) rfl
set_option maxHeartbeats 100000 in
theorem kX11_lop_41 {d : Nat} {F : am_FT} {L : am_LT} {Q : am_QT} {l2 : Option Value} {x1 : Int32} : wt am_S0 (d + 1) mX11_lop 41 [some (.ref 0), some (.int x1), l2] [] F L Q = wc am_S0 d mX4_moreHigh [.ref 16, .int (x1 / 100), .int (x1 - x1 / 100 * 100)] F L (fun r G K => wt am_S0 (d + 1) mX11_lop 56 [some (.ref 0), some (.int x1), l2] (r.toList ++ []) G K Q) := (wt_aload_n dX11_lop_41 rfl rfl).trans ((wt_getfield dX11_lop_42 rfl rfl (v := .ref 16) rfl).trans ((wt_iload_n dX11_lop_45 rfl).trans ((wt_bipush dX11_lop_46 (v := 100) (by decide)).trans ((wt_idiv dX11_lop_48 (by decide)).trans ((wt_iload_n dX11_lop_49 rfl).trans ((wt_bipush dX11_lop_50 (v := 100) (by decide)).trans ((wt_irem dX11_lop_52 (by decide)).trans (wt_callV dX11_lop_53 rfl (as := [.int (x1 / 100), .int (x1 - x1 / 100 * 100)]) (rest := []) rfl rfl (Nat.le_of_ble_eq_true rfl) rfl (Nat.le_of_ble_eq_true rfl)))))))))
set_option maxHeartbeats 100000 in
theorem kX11_lop_56 {d : Nat} {F : am_FT} {L : am_LT} {Q : am_QT} {l0 l1 l2 : Option Value} {s0 : Int32} : wt am_S0 d mX11_lop 56 [l0, l1, l2] [.int s0] F L Q = Q (some (.int s0)) F L := wt_ireturn dX11_lop_56 rfl rfl
theorem dX11_byTurns_0 : decode mX11_byTurns.2.2.1 0 = .ok (.aload_n 0, 1) := by decide +kernel
theorem dX11_byTurns_1 : decode mX11_byTurns.2.2.1 1 = .ok (.iload_n 1, 1) := by decide +kernel
theorem dX11_byTurns_2 : decode mX11_byTurns.2.2.1 2 = .ok (.invokevirtual 181, 3) := by decide +kernel
theorem dX11_byTurns_5 : decode mX11_byTurns.2.2.1 5 = .ok (.ifCond .eq 7, 3) := by decide +kernel
theorem dX11_byTurns_8 : decode mX11_byTurns.2.2.1 8 = .ok (.iload_n 2, 1) := by decide +kernel
theorem dX11_byTurns_9 : decode mX11_byTurns.2.2.1 9 = .ok (.ifCond .ge 5, 3) := by decide +kernel
theorem dX11_byTurns_12 : decode mX11_byTurns.2.2.1 12 = .ok (.iconst (-1), 1) := by decide +kernel
theorem dX11_byTurns_13 : decode mX11_byTurns.2.2.1 13 = .ok (.ireturn, 1) := by decide +kernel
theorem dX11_byTurns_14 : decode mX11_byTurns.2.2.1 14 = .ok (.iload_n 2, 1) := by decide +kernel
theorem dX11_byTurns_15 : decode mX11_byTurns.2.2.1 15 = .ok (.bipush 10, 2) := by decide +kernel
theorem dX11_byTurns_17 : decode mX11_byTurns.2.2.1 17 = .ok (.idiv, 1) := by decide +kernel
theorem dX11_byTurns_18 : decode mX11_byTurns.2.2.1 18 = .ok (.iconst 1, 1) := by decide +kernel
theorem dX11_byTurns_19 : decode mX11_byTurns.2.2.1 19 = .ok (.iconst 4, 1) := by decide +kernel
theorem dX11_byTurns_20 : decode mX11_byTurns.2.2.1 20 = .ok (.invokestatic 117, 3) := by decide +kernel
theorem dX11_byTurns_23 : decode mX11_byTurns.2.2.1 23 = .ok (.ifCond .eq 11, 3) := by decide +kernel
theorem dX11_byTurns_26 : decode mX11_byTurns.2.2.1 26 = .ok (.iload_n 2, 1) := by decide +kernel
theorem dX11_byTurns_27 : decode mX11_byTurns.2.2.1 27 = .ok (.bipush 10, 2) := by decide +kernel
theorem dX11_byTurns_29 : decode mX11_byTurns.2.2.1 29 = .ok (.irem, 1) := by decide +kernel
theorem dX11_byTurns_30 : decode mX11_byTurns.2.2.1 30 = .ok (.iconst 1, 1) := by decide +kernel
theorem dX11_byTurns_31 : decode mX11_byTurns.2.2.1 31 = .ok (.if_icmp .le 5, 3) := by decide +kernel
theorem dX11_byTurns_34 : decode mX11_byTurns.2.2.1 34 = .ok (.iconst (-1), 1) := by decide +kernel
theorem dX11_byTurns_35 : decode mX11_byTurns.2.2.1 35 = .ok (.ireturn, 1) := by decide +kernel
theorem dX11_byTurns_36 : decode mX11_byTurns.2.2.1 36 = .ok (.aload_n 0, 1) := by decide +kernel
theorem dX11_byTurns_37 : decode mX11_byTurns.2.2.1 37 = .ok (.getfield 60, 3) := by decide +kernel
theorem dX11_byTurns_40 : decode mX11_byTurns.2.2.1 40 = .ok (.iload_n 1, 1) := by decide +kernel
theorem dX11_byTurns_41 : decode mX11_byTurns.2.2.1 41 = .ok (.bipush 100, 2) := by decide +kernel
theorem dX11_byTurns_43 : decode mX11_byTurns.2.2.1 43 = .ok (.idiv, 1) := by decide +kernel
theorem dX11_byTurns_44 : decode mX11_byTurns.2.2.1 44 = .ok (.iload_n 1, 1) := by decide +kernel
theorem dX11_byTurns_45 : decode mX11_byTurns.2.2.1 45 = .ok (.bipush 100, 2) := by decide +kernel
theorem dX11_byTurns_47 : decode mX11_byTurns.2.2.1 47 = .ok (.irem, 1) := by decide +kernel
theorem dX11_byTurns_48 : decode mX11_byTurns.2.2.1 48 = .ok (.iload_n 2, 1) := by decide +kernel
theorem dX11_byTurns_49 : decode mX11_byTurns.2.2.1 49 = .ok (.bipush 10, 2) := by decide +kernel
theorem dX11_byTurns_51 : decode mX11_byTurns.2.2.1 51 = .ok (.idiv, 1) := by decide +kernel
theorem dX11_byTurns_52 : decode mX11_byTurns.2.2.1 52 = .ok (.invokevirtual 246, 3) := by decide +kernel
theorem dX11_byTurns_55 : decode mX11_byTurns.2.2.1 55 = .ok (.iload_n 2, 1) := by decide +kernel
theorem dX11_byTurns_56 : decode mX11_byTurns.2.2.1 56 = .ok (.bipush 10, 2) := by decide +kernel
theorem dX11_byTurns_58 : decode mX11_byTurns.2.2.1 58 = .ok (.irem, 1) := by decide +kernel
theorem dX11_byTurns_59 : decode mX11_byTurns.2.2.1 59 = .ok (.ifCond .ne 13, 3) := by decide +kernel
theorem dX11_byTurns_62 : decode mX11_byTurns.2.2.1 62 = .ok (.aload_n 0, 1) := by decide +kernel
theorem dX11_byTurns_63 : decode mX11_byTurns.2.2.1 63 = .ok (.getfield 60, 3) := by decide +kernel
theorem dX11_byTurns_66 : decode mX11_byTurns.2.2.1 66 = .ok (.getfield 249, 3) := by decide +kernel
theorem dX11_byTurns_69 : decode mX11_byTurns.2.2.1 69 = .ok (.goto 10, 3) := by decide +kernel
theorem dX11_byTurns_72 : decode mX11_byTurns.2.2.1 72 = .ok (.aload_n 0, 1) := by decide +kernel
theorem dX11_byTurns_73 : decode mX11_byTurns.2.2.1 73 = .ok (.getfield 60, 3) := by decide +kernel
theorem dX11_byTurns_76 : decode mX11_byTurns.2.2.1 76 = .ok (.getfield 252, 3) := by decide +kernel
theorem dX11_byTurns_79 : decode mX11_byTurns.2.2.1 79 = .ok (.ireturn, 1) := by decide +kernel
set_option maxHeartbeats 100000 in
theorem kX11_byTurns_0 {d : Nat} {F : am_FT} {L : am_LT} {Q : am_QT} {l2 : Option Value} {x1 : Int32} : wt am_S0 (d + 1) mX11_byTurns 0 [some (.ref 0), some (.int x1), l2] [] F L Q = wc am_S0 d mX11_isTreeMonth [.ref 0, .int x1] F L (fun r G K => wt am_S0 (d + 1) mX11_byTurns 5 [some (.ref 0), some (.int x1), l2] (r.toList ++ []) G K Q) := (wt_aload_n dX11_byTurns_0 rfl rfl).trans ((wt_iload_n dX11_byTurns_1 rfl).trans (wt_callV dX11_byTurns_2 rfl (as := [.int x1]) (rest := []) rfl rfl (Nat.le_of_ble_eq_true rfl) rfl (Nat.le_of_ble_eq_true rfl)))
set_option maxHeartbeats 100000 in
theorem kX11_byTurns_5 {d : Nat} {F : am_FT} {L : am_LT} {Q : am_QT} {l0 l1 l2 : Option Value} {s0 : Int32} : wt am_S0 d mX11_byTurns 5 [l0, l1, l2] [.int s0] F L Q = if s0 = 0 then wt am_S0 d mX11_byTurns 12 [l0, l1, l2] [] F L Q else wt am_S0 d mX11_byTurns 8 [l0, l1, l2] [] F L Q := wt_ifCond_eq dX11_byTurns_5 (t := 12) rfl
set_option maxHeartbeats 100000 in
theorem kX11_byTurns_8 {d : Nat} {F : am_FT} {L : am_LT} {Q : am_QT} {l0 l1 : Option Value} {x2 : Int32} : wt am_S0 d mX11_byTurns 8 [l0, l1, some (.int x2)] [] F L Q = if 0 ≤ x2 then wt am_S0 d mX11_byTurns 14 [l0, l1, some (.int x2)] [] F L Q else wt am_S0 d mX11_byTurns 12 [l0, l1, some (.int x2)] [] F L Q := (wt_iload_n dX11_byTurns_8 rfl).trans (wt_ifCond_ge dX11_byTurns_9 (t := 14) rfl)
set_option maxHeartbeats 100000 in
theorem kX11_byTurns_12 {d : Nat} {F : am_FT} {L : am_LT} {Q : am_QT} {l0 l1 l2 : Option Value} : wt am_S0 d mX11_byTurns 12 [l0, l1, l2] [] F L Q = Q (some (.int (-1))) F L := (wt_iconst dX11_byTurns_12 (v := (-1)) (by decide)).trans (wt_ireturn dX11_byTurns_13 rfl rfl)
set_option maxHeartbeats 100000 in
theorem kX11_byTurns_14 {d : Nat} {F : am_FT} {L : am_LT} {Q : am_QT} {l0 l1 : Option Value} {x2 : Int32} : wt am_S0 (d + 1) mX11_byTurns 14 [l0, l1, some (.int x2)] [] F L Q = wc am_S0 d mX11_within [.int (x2 / 10), .int 1, .int 4] F L (fun r G K => wt am_S0 (d + 1) mX11_byTurns 23 [l0, l1, some (.int x2)] (r.toList ++ []) G K Q) := (wt_iload_n dX11_byTurns_14 rfl).trans ((wt_bipush dX11_byTurns_15 (v := 10) (by decide)).trans ((wt_idiv dX11_byTurns_17 (by decide)).trans ((wt_iconst dX11_byTurns_18 (v := 1) (by decide)).trans ((wt_iconst dX11_byTurns_19 (v := 4) (by decide)).trans (wt_callS dX11_byTurns_20 rfl (as := [.int (x2 / 10), .int 1, .int 4]) (rest := []) rfl rfl (Nat.le_of_ble_eq_true rfl) (Nat.le_of_ble_eq_true rfl))))))
set_option maxHeartbeats 100000 in
theorem kX11_byTurns_23 {d : Nat} {F : am_FT} {L : am_LT} {Q : am_QT} {l0 l1 l2 : Option Value} {s0 : Int32} : wt am_S0 d mX11_byTurns 23 [l0, l1, l2] [.int s0] F L Q = if s0 = 0 then wt am_S0 d mX11_byTurns 34 [l0, l1, l2] [] F L Q else wt am_S0 d mX11_byTurns 26 [l0, l1, l2] [] F L Q := wt_ifCond_eq dX11_byTurns_23 (t := 34) rfl
set_option maxHeartbeats 100000 in
theorem kX11_byTurns_26 {d : Nat} {F : am_FT} {L : am_LT} {Q : am_QT} {l0 l1 : Option Value} {x2 : Int32} : wt am_S0 d mX11_byTurns 26 [l0, l1, some (.int x2)] [] F L Q = if (x2 - x2 / 10 * 10) ≤ 1 then wt am_S0 d mX11_byTurns 36 [l0, l1, some (.int x2)] [] F L Q else wt am_S0 d mX11_byTurns 34 [l0, l1, some (.int x2)] [] F L Q := (wt_iload_n dX11_byTurns_26 rfl).trans ((wt_bipush dX11_byTurns_27 (v := 10) (by decide)).trans ((wt_irem dX11_byTurns_29 (by decide)).trans ((wt_iconst dX11_byTurns_30 (v := 1) (by decide)).trans (wt_if_icmp_le dX11_byTurns_31 (t := 36) rfl))))
set_option maxHeartbeats 100000 in
theorem kX11_byTurns_34 {d : Nat} {F : am_FT} {L : am_LT} {Q : am_QT} {l0 l1 l2 : Option Value} : wt am_S0 d mX11_byTurns 34 [l0, l1, l2] [] F L Q = Q (some (.int (-1))) F L := (wt_iconst dX11_byTurns_34 (v := (-1)) (by decide)).trans (wt_ireturn dX11_byTurns_35 rfl rfl)
set_option maxHeartbeats 100000 in
theorem kX11_byTurns_36 {d : Nat} {F : am_FT} {L : am_LT} {Q : am_QT} {x1 x2 : Int32} : wt am_S0 (d + 1) mX11_byTurns 36 [some (.ref 0), some (.int x1), some (.int x2)] [] F L Q = wc am_S0 d mX4_playTurns [.ref 16, .int (x1 / 100), .int (x1 - x1 / 100 * 100), .int (x2 / 10)] F L (fun r G K => wt am_S0 (d + 1) mX11_byTurns 55 [some (.ref 0), some (.int x1), some (.int x2)] (r.toList ++ []) G K Q) := (wt_aload_n dX11_byTurns_36 rfl rfl).trans ((wt_getfield dX11_byTurns_37 rfl rfl (v := .ref 16) rfl).trans ((wt_iload_n dX11_byTurns_40 rfl).trans ((wt_bipush dX11_byTurns_41 (v := 100) (by decide)).trans ((wt_idiv dX11_byTurns_43 (by decide)).trans ((wt_iload_n dX11_byTurns_44 rfl).trans ((wt_bipush dX11_byTurns_45 (v := 100) (by decide)).trans ((wt_irem dX11_byTurns_47 (by decide)).trans ((wt_iload_n dX11_byTurns_48 rfl).trans ((wt_bipush dX11_byTurns_49 (v := 10) (by decide)).trans ((wt_idiv dX11_byTurns_51 (by decide)).trans (wt_callV dX11_byTurns_52 rfl (as := [.int (x1 / 100), .int (x1 - x1 / 100 * 100), .int (x2 / 10)]) (rest := []) rfl rfl (Nat.le_of_ble_eq_true rfl) rfl (Nat.le_of_ble_eq_true rfl))))))))))))
set_option maxHeartbeats 100000 in
theorem kX11_byTurns_55 {d : Nat} {F : am_FT} {L : am_LT} {Q : am_QT} {l0 l1 : Option Value} {x2 : Int32} : wt am_S0 d mX11_byTurns 55 [l0, l1, some (.int x2)] [] F L Q = if ¬ (x2 - x2 / 10 * 10) = 0 then wt am_S0 d mX11_byTurns 72 [l0, l1, some (.int x2)] [] F L Q else wt am_S0 d mX11_byTurns 62 [l0, l1, some (.int x2)] [] F L Q := (wt_iload_n dX11_byTurns_55 rfl).trans ((wt_bipush dX11_byTurns_56 (v := 10) (by decide)).trans ((wt_irem dX11_byTurns_58 (by decide)).trans (wt_ifCond_ne dX11_byTurns_59 (t := 72) rfl)))
set_option maxHeartbeats 100000 in
theorem kX11_byTurns_62 {d : Nat} {F : am_FT} {L : am_LT} {Q : am_QT} {l1 l2 : Option Value} : wt am_S0 d mX11_byTurns 62 [some (.ref 0), l1, l2] [] F L Q = wt am_S0 d mX11_byTurns 79 [some (.ref 0), l1, l2] [.int (F 16 4)] F L Q := (wt_aload_n dX11_byTurns_62 rfl rfl).trans ((wt_getfield dX11_byTurns_63 rfl rfl (v := .ref 16) rfl).trans ((wt_getfield dX11_byTurns_66 rfl rfl (v := .int (F 16 4)) rfl).trans (wt_goto dX11_byTurns_69 (t := 79) rfl)))
set_option maxHeartbeats 100000 in
theorem kX11_byTurns_72 {d : Nat} {F : am_FT} {L : am_LT} {Q : am_QT} {l1 l2 : Option Value} : wt am_S0 d mX11_byTurns 72 [some (.ref 0), l1, l2] [] F L Q = wt am_S0 d mX11_byTurns 79 [some (.ref 0), l1, l2] [.int (F 16 5)] F L Q := (wt_aload_n dX11_byTurns_72 rfl rfl).trans ((wt_getfield dX11_byTurns_73 rfl rfl (v := .ref 16) rfl).trans (wt_getfield dX11_byTurns_76 rfl rfl (v := .int (F 16 5)) rfl))
set_option maxHeartbeats 100000 in
theorem kX11_byTurns_79 {d : Nat} {F : am_FT} {L : am_LT} {Q : am_QT} {l0 l1 l2 : Option Value} {s0 : Int32} : wt am_S0 d mX11_byTurns 79 [l0, l1, l2] [.int s0] F L Q = Q (some (.int s0)) F L := wt_ireturn dX11_byTurns_79 rfl rfl
theorem dX11_deepest_0 : decode mX11_deepest.2.2.1 0 = .ok (.aload_n 0, 1) := by decide +kernel
theorem dX11_deepest_1 : decode mX11_deepest.2.2.1 1 = .ok (.iload_n 1, 1) := by decide +kernel
theorem dX11_deepest_2 : decode mX11_deepest.2.2.1 2 = .ok (.invokevirtual 255, 3) := by decide +kernel
theorem dX11_deepest_5 : decode mX11_deepest.2.2.1 5 = .ok (.ifCond .eq 12, 3) := by decide +kernel
theorem dX11_deepest_8 : decode mX11_deepest.2.2.1 8 = .ok (.iload_n 2, 1) := by decide +kernel
theorem dX11_deepest_9 : decode mX11_deepest.2.2.1 9 = .ok (.iconst 0, 1) := by decide +kernel
theorem dX11_deepest_10 : decode mX11_deepest.2.2.1 10 = .ok (.iconst 1, 1) := by decide +kernel
theorem dX11_deepest_11 : decode mX11_deepest.2.2.1 11 = .ok (.invokestatic 117, 3) := by decide +kernel
theorem dX11_deepest_14 : decode mX11_deepest.2.2.1 14 = .ok (.ifCond .ne 5, 3) := by decide +kernel
theorem dX11_deepest_17 : decode mX11_deepest.2.2.1 17 = .ok (.iconst (-1), 1) := by decide +kernel
theorem dX11_deepest_18 : decode mX11_deepest.2.2.1 18 = .ok (.ireturn, 1) := by decide +kernel
theorem dX11_deepest_19 : decode mX11_deepest.2.2.1 19 = .ok (.aload_n 0, 1) := by decide +kernel
theorem dX11_deepest_20 : decode mX11_deepest.2.2.1 20 = .ok (.getfield 44, 3) := by decide +kernel
theorem dX11_deepest_23 : decode mX11_deepest.2.2.1 23 = .ok (.iload_n 1, 1) := by decide +kernel
theorem dX11_deepest_24 : decode mX11_deepest.2.2.1 24 = .ok (.invokevirtual 258, 3) := by decide +kernel
theorem dX11_deepest_27 : decode mX11_deepest.2.2.1 27 = .ok (.istore_n 3, 1) := by decide +kernel
theorem dX11_deepest_28 : decode mX11_deepest.2.2.1 28 = .ok (.iload_n 2, 1) := by decide +kernel
theorem dX11_deepest_29 : decode mX11_deepest.2.2.1 29 = .ok (.ifCond .ne 7, 3) := by decide +kernel
theorem dX11_deepest_32 : decode mX11_deepest.2.2.1 32 = .ok (.iload_n 3, 1) := by decide +kernel
theorem dX11_deepest_33 : decode mX11_deepest.2.2.1 33 = .ok (.goto 15, 3) := by decide +kernel
theorem dX11_deepest_36 : decode mX11_deepest.2.2.1 36 = .ok (.aload_n 0, 1) := by decide +kernel
theorem dX11_deepest_37 : decode mX11_deepest.2.2.1 37 = .ok (.getfield 44, 3) := by decide +kernel
theorem dX11_deepest_40 : decode mX11_deepest.2.2.1 40 = .ok (.iload_n 1, 1) := by decide +kernel
theorem dX11_deepest_41 : decode mX11_deepest.2.2.1 41 = .ok (.iload_n 3, 1) := by decide +kernel
theorem dX11_deepest_42 : decode mX11_deepest.2.2.1 42 = .ok (.invokevirtual 184, 3) := by decide +kernel
theorem dX11_deepest_45 : decode mX11_deepest.2.2.1 45 = .ok (.invokestatic 224, 3) := by decide +kernel
theorem dX11_deepest_48 : decode mX11_deepest.2.2.1 48 = .ok (.ireturn, 1) := by decide +kernel
set_option maxHeartbeats 100000 in
theorem kX11_deepest_0 {d : Nat} {F : am_FT} {L : am_LT} {Q : am_QT} {l2 l3 : Option Value} {x1 : Int32} : wt am_S0 (d + 1) mX11_deepest 0 [some (.ref 0), some (.int x1), l2, l3] [] F L Q = wc am_S0 d mX11_isTree [.ref 0, .int x1] F L (fun r G K => wt am_S0 (d + 1) mX11_deepest 5 [some (.ref 0), some (.int x1), l2, l3] (r.toList ++ []) G K Q) := (wt_aload_n dX11_deepest_0 rfl rfl).trans ((wt_iload_n dX11_deepest_1 rfl).trans (wt_callV dX11_deepest_2 rfl (as := [.int x1]) (rest := []) rfl rfl (Nat.le_of_ble_eq_true rfl) rfl (Nat.le_of_ble_eq_true rfl)))
set_option maxHeartbeats 100000 in
theorem kX11_deepest_5 {d : Nat} {F : am_FT} {L : am_LT} {Q : am_QT} {l0 l1 l2 l3 : Option Value} {s0 : Int32} : wt am_S0 d mX11_deepest 5 [l0, l1, l2, l3] [.int s0] F L Q = if s0 = 0 then wt am_S0 d mX11_deepest 17 [l0, l1, l2, l3] [] F L Q else wt am_S0 d mX11_deepest 8 [l0, l1, l2, l3] [] F L Q := wt_ifCond_eq dX11_deepest_5 (t := 17) rfl
set_option maxHeartbeats 100000 in
theorem kX11_deepest_8 {d : Nat} {F : am_FT} {L : am_LT} {Q : am_QT} {l0 l1 l3 : Option Value} {x2 : Int32} : wt am_S0 (d + 1) mX11_deepest 8 [l0, l1, some (.int x2), l3] [] F L Q = wc am_S0 d mX11_within [.int x2, .int 0, .int 1] F L (fun r G K => wt am_S0 (d + 1) mX11_deepest 14 [l0, l1, some (.int x2), l3] (r.toList ++ []) G K Q) := (wt_iload_n dX11_deepest_8 rfl).trans ((wt_iconst dX11_deepest_9 (v := 0) (by decide)).trans ((wt_iconst dX11_deepest_10 (v := 1) (by decide)).trans (wt_callS dX11_deepest_11 rfl (as := [.int x2, .int 0, .int 1]) (rest := []) rfl rfl (Nat.le_of_ble_eq_true rfl) (Nat.le_of_ble_eq_true rfl))))
set_option maxHeartbeats 100000 in
theorem kX11_deepest_14 {d : Nat} {F : am_FT} {L : am_LT} {Q : am_QT} {l0 l1 l2 l3 : Option Value} {s0 : Int32} : wt am_S0 d mX11_deepest 14 [l0, l1, l2, l3] [.int s0] F L Q = if ¬ s0 = 0 then wt am_S0 d mX11_deepest 19 [l0, l1, l2, l3] [] F L Q else wt am_S0 d mX11_deepest 17 [l0, l1, l2, l3] [] F L Q := wt_ifCond_ne dX11_deepest_14 (t := 19) rfl
set_option maxHeartbeats 100000 in
theorem kX11_deepest_17 {d : Nat} {F : am_FT} {L : am_LT} {Q : am_QT} {l0 l1 l2 l3 : Option Value} : wt am_S0 d mX11_deepest 17 [l0, l1, l2, l3] [] F L Q = Q (some (.int (-1))) F L := (wt_iconst dX11_deepest_17 (v := (-1)) (by decide)).trans (wt_ireturn dX11_deepest_18 rfl rfl)
set_option maxHeartbeats 100000 in
theorem kX11_deepest_19 {d : Nat} {F : am_FT} {L : am_LT} {Q : am_QT} {l2 l3 : Option Value} {x1 : Int32} : wt am_S0 (d + 1) mX11_deepest 19 [some (.ref 0), some (.int x1), l2, l3] [] F L Q = wc am_S0 d mX9_deepestMonth [.ref 12, .int x1] F L (fun r G K => wt am_S0 (d + 1) mX11_deepest 27 [some (.ref 0), some (.int x1), l2, l3] (r.toList ++ []) G K Q) := (wt_aload_n dX11_deepest_19 rfl rfl).trans ((wt_getfield dX11_deepest_20 rfl rfl (v := .ref 12) rfl).trans ((wt_iload_n dX11_deepest_23 rfl).trans (wt_callV dX11_deepest_24 rfl (as := [.int x1]) (rest := []) rfl rfl (Nat.le_of_ble_eq_true rfl) rfl (Nat.le_of_ble_eq_true rfl))))
set_option maxHeartbeats 100000 in
theorem kX11_deepest_27 {d : Nat} {F : am_FT} {L : am_LT} {Q : am_QT} {l0 l1 l3 : Option Value} {s0 x2 : Int32} : wt am_S0 d mX11_deepest 27 [l0, l1, some (.int x2), l3] [.int s0] F L Q = if ¬ x2 = 0 then wt am_S0 d mX11_deepest 36 [l0, l1, some (.int x2), some (.int s0)] [] F L Q else wt am_S0 d mX11_deepest 32 [l0, l1, some (.int x2), some (.int s0)] [] F L Q := (wt_istore_n dX11_deepest_27 (lv1 := [l0, l1, some (.int x2), some (.int s0)]) (Nat.le_of_ble_eq_true rfl) rfl).trans ((wt_iload_n dX11_deepest_28 rfl).trans (wt_ifCond_ne dX11_deepest_29 (t := 36) rfl))
set_option maxHeartbeats 100000 in
theorem kX11_deepest_32 {d : Nat} {F : am_FT} {L : am_LT} {Q : am_QT} {l0 l1 l2 : Option Value} {x3 : Int32} : wt am_S0 d mX11_deepest 32 [l0, l1, l2, some (.int x3)] [] F L Q = wt am_S0 d mX11_deepest 48 [l0, l1, l2, some (.int x3)] [.int x3] F L Q := (wt_iload_n dX11_deepest_32 rfl).trans (wt_goto dX11_deepest_33 (t := 48) rfl)
set_option maxHeartbeats 100000 in
theorem kX11_deepest_36 {d : Nat} {F : am_FT} {L : am_LT} {Q : am_QT} {l2 : Option Value} {x1 x3 : Int32} : wt am_S0 (d + 1) mX11_deepest 36 [some (.ref 0), some (.int x1), l2, some (.int x3)] [] F L Q = wc am_S0 d mX9_sittersIn [.ref 12, .int x1, .int x3] F L (fun r G K => wt am_S0 (d + 1) mX11_deepest 45 [some (.ref 0), some (.int x1), l2, some (.int x3)] (r.toList ++ []) G K Q) := (wt_aload_n dX11_deepest_36 rfl rfl).trans ((wt_getfield dX11_deepest_37 rfl rfl (v := .ref 12) rfl).trans ((wt_iload_n dX11_deepest_40 rfl).trans ((wt_iload_n dX11_deepest_41 rfl).trans (wt_callV dX11_deepest_42 rfl (as := [.int x1, .int x3]) (rest := []) rfl rfl (Nat.le_of_ble_eq_true rfl) rfl (Nat.le_of_ble_eq_true rfl)))))
set_option maxHeartbeats 100000 in
theorem kX11_deepest_45 {d : Nat} {F : am_FT} {L : am_LT} {Q : am_QT} {l0 l1 l2 l3 : Option Value} {s0 : Int32} : wt am_S0 (d + 1) mX11_deepest 45 [l0, l1, l2, l3] [.int s0] F L Q = wc am_S0 d mJ6_bitCount_0f7a4 [.int s0] F L (fun r G K => wt am_S0 (d + 1) mX11_deepest 48 [l0, l1, l2, l3] (r.toList ++ []) G K Q) := wt_callS dX11_deepest_45 rfl (as := [.int s0]) (rest := []) rfl rfl (Nat.le_of_ble_eq_true rfl) (Nat.le_of_ble_eq_true rfl)
set_option maxHeartbeats 100000 in
theorem kX11_deepest_48 {d : Nat} {F : am_FT} {L : am_LT} {Q : am_QT} {l0 l1 l2 l3 : Option Value} {s0 : Int32} : wt am_S0 d mX11_deepest 48 [l0, l1, l2, l3] [.int s0] F L Q = Q (some (.int s0)) F L := wt_ireturn dX11_deepest_48 rfl rfl
theorem dX11_shadiest_0 : decode mX11_shadiest.2.2.1 0 = .ok (.aload_n 0, 1) := by decide +kernel
theorem dX11_shadiest_1 : decode mX11_shadiest.2.2.1 1 = .ok (.iload_n 1, 1) := by decide +kernel
theorem dX11_shadiest_2 : decode mX11_shadiest.2.2.1 2 = .ok (.invokevirtual 215, 3) := by decide +kernel
theorem dX11_shadiest_5 : decode mX11_shadiest.2.2.1 5 = .ok (.ifCond .eq 12, 3) := by decide +kernel
theorem dX11_shadiest_8 : decode mX11_shadiest.2.2.1 8 = .ok (.iload_n 2, 1) := by decide +kernel
theorem dX11_shadiest_9 : decode mX11_shadiest.2.2.1 9 = .ok (.iconst 0, 1) := by decide +kernel
theorem dX11_shadiest_10 : decode mX11_shadiest.2.2.1 10 = .ok (.iconst 1, 1) := by decide +kernel
theorem dX11_shadiest_11 : decode mX11_shadiest.2.2.1 11 = .ok (.invokestatic 117, 3) := by decide +kernel
theorem dX11_shadiest_14 : decode mX11_shadiest.2.2.1 14 = .ok (.ifCond .ne 5, 3) := by decide +kernel
theorem dX11_shadiest_17 : decode mX11_shadiest.2.2.1 17 = .ok (.iconst (-1), 1) := by decide +kernel
theorem dX11_shadiest_18 : decode mX11_shadiest.2.2.1 18 = .ok (.ireturn, 1) := by decide +kernel
theorem dX11_shadiest_19 : decode mX11_shadiest.2.2.1 19 = .ok (.aload_n 0, 1) := by decide +kernel
theorem dX11_shadiest_20 : decode mX11_shadiest.2.2.1 20 = .ok (.getfield 44, 3) := by decide +kernel
theorem dX11_shadiest_23 : decode mX11_shadiest.2.2.1 23 = .ok (.iload_n 1, 1) := by decide +kernel
theorem dX11_shadiest_24 : decode mX11_shadiest.2.2.1 24 = .ok (.invokevirtual 261, 3) := by decide +kernel
theorem dX11_shadiest_27 : decode mX11_shadiest.2.2.1 27 = .ok (.istore_n 3, 1) := by decide +kernel
theorem dX11_shadiest_28 : decode mX11_shadiest.2.2.1 28 = .ok (.iload_n 3, 1) := by decide +kernel
theorem dX11_shadiest_29 : decode mX11_shadiest.2.2.1 29 = .ok (.bipush (-2), 2) := by decide +kernel
theorem dX11_shadiest_31 : decode mX11_shadiest.2.2.1 31 = .ok (.if_icmp .ne 14, 3) := by decide +kernel
theorem dX11_shadiest_34 : decode mX11_shadiest.2.2.1 34 = .ok (.iload_n 2, 1) := by decide +kernel
theorem dX11_shadiest_35 : decode mX11_shadiest.2.2.1 35 = .ok (.ifCond .ne 8, 3) := by decide +kernel
theorem dX11_shadiest_38 : decode mX11_shadiest.2.2.1 38 = .ok (.bipush (-2), 2) := by decide +kernel
theorem dX11_shadiest_40 : decode mX11_shadiest.2.2.1 40 = .ok (.goto 4, 3) := by decide +kernel
theorem dX11_shadiest_43 : decode mX11_shadiest.2.2.1 43 = .ok (.iconst 0, 1) := by decide +kernel
theorem dX11_shadiest_44 : decode mX11_shadiest.2.2.1 44 = .ok (.ireturn, 1) := by decide +kernel
theorem dX11_shadiest_45 : decode mX11_shadiest.2.2.1 45 = .ok (.iload_n 2, 1) := by decide +kernel
theorem dX11_shadiest_46 : decode mX11_shadiest.2.2.1 46 = .ok (.ifCond .ne 7, 3) := by decide +kernel
theorem dX11_shadiest_49 : decode mX11_shadiest.2.2.1 49 = .ok (.iload_n 3, 1) := by decide +kernel
theorem dX11_shadiest_50 : decode mX11_shadiest.2.2.1 50 = .ok (.goto 12, 3) := by decide +kernel
theorem dX11_shadiest_53 : decode mX11_shadiest.2.2.1 53 = .ok (.aload_n 0, 1) := by decide +kernel
theorem dX11_shadiest_54 : decode mX11_shadiest.2.2.1 54 = .ok (.getfield 44, 3) := by decide +kernel
theorem dX11_shadiest_57 : decode mX11_shadiest.2.2.1 57 = .ok (.iload_n 3, 1) := by decide +kernel
theorem dX11_shadiest_58 : decode mX11_shadiest.2.2.1 58 = .ok (.iload_n 1, 1) := by decide +kernel
theorem dX11_shadiest_59 : decode mX11_shadiest.2.2.1 59 = .ok (.invokevirtual 264, 3) := by decide +kernel
theorem dX11_shadiest_62 : decode mX11_shadiest.2.2.1 62 = .ok (.ireturn, 1) := by decide +kernel
set_option maxHeartbeats 100000 in
theorem kX11_shadiest_0 {d : Nat} {F : am_FT} {L : am_LT} {Q : am_QT} {l2 l3 : Option Value} {x1 : Int32} : wt am_S0 (d + 1) mX11_shadiest 0 [some (.ref 0), some (.int x1), l2, l3] [] F L Q = wc am_S0 d mX11_isMonth [.ref 0, .int x1] F L (fun r G K => wt am_S0 (d + 1) mX11_shadiest 5 [some (.ref 0), some (.int x1), l2, l3] (r.toList ++ []) G K Q) := (wt_aload_n dX11_shadiest_0 rfl rfl).trans ((wt_iload_n dX11_shadiest_1 rfl).trans (wt_callV dX11_shadiest_2 rfl (as := [.int x1]) (rest := []) rfl rfl (Nat.le_of_ble_eq_true rfl) rfl (Nat.le_of_ble_eq_true rfl)))
set_option maxHeartbeats 100000 in
theorem kX11_shadiest_5 {d : Nat} {F : am_FT} {L : am_LT} {Q : am_QT} {l0 l1 l2 l3 : Option Value} {s0 : Int32} : wt am_S0 d mX11_shadiest 5 [l0, l1, l2, l3] [.int s0] F L Q = if s0 = 0 then wt am_S0 d mX11_shadiest 17 [l0, l1, l2, l3] [] F L Q else wt am_S0 d mX11_shadiest 8 [l0, l1, l2, l3] [] F L Q := wt_ifCond_eq dX11_shadiest_5 (t := 17) rfl
set_option maxHeartbeats 100000 in
theorem kX11_shadiest_8 {d : Nat} {F : am_FT} {L : am_LT} {Q : am_QT} {l0 l1 l3 : Option Value} {x2 : Int32} : wt am_S0 (d + 1) mX11_shadiest 8 [l0, l1, some (.int x2), l3] [] F L Q = wc am_S0 d mX11_within [.int x2, .int 0, .int 1] F L (fun r G K => wt am_S0 (d + 1) mX11_shadiest 14 [l0, l1, some (.int x2), l3] (r.toList ++ []) G K Q) := (wt_iload_n dX11_shadiest_8 rfl).trans ((wt_iconst dX11_shadiest_9 (v := 0) (by decide)).trans ((wt_iconst dX11_shadiest_10 (v := 1) (by decide)).trans (wt_callS dX11_shadiest_11 rfl (as := [.int x2, .int 0, .int 1]) (rest := []) rfl rfl (Nat.le_of_ble_eq_true rfl) (Nat.le_of_ble_eq_true rfl))))
set_option maxHeartbeats 100000 in
theorem kX11_shadiest_14 {d : Nat} {F : am_FT} {L : am_LT} {Q : am_QT} {l0 l1 l2 l3 : Option Value} {s0 : Int32} : wt am_S0 d mX11_shadiest 14 [l0, l1, l2, l3] [.int s0] F L Q = if ¬ s0 = 0 then wt am_S0 d mX11_shadiest 19 [l0, l1, l2, l3] [] F L Q else wt am_S0 d mX11_shadiest 17 [l0, l1, l2, l3] [] F L Q := wt_ifCond_ne dX11_shadiest_14 (t := 19) rfl
set_option maxHeartbeats 100000 in
theorem kX11_shadiest_17 {d : Nat} {F : am_FT} {L : am_LT} {Q : am_QT} {l0 l1 l2 l3 : Option Value} : wt am_S0 d mX11_shadiest 17 [l0, l1, l2, l3] [] F L Q = Q (some (.int (-1))) F L := (wt_iconst dX11_shadiest_17 (v := (-1)) (by decide)).trans (wt_ireturn dX11_shadiest_18 rfl rfl)
set_option maxHeartbeats 100000 in
theorem kX11_shadiest_19 {d : Nat} {F : am_FT} {L : am_LT} {Q : am_QT} {l2 l3 : Option Value} {x1 : Int32} : wt am_S0 (d + 1) mX11_shadiest 19 [some (.ref 0), some (.int x1), l2, l3] [] F L Q = wc am_S0 d mX9_shadiestOne [.ref 12, .int x1] F L (fun r G K => wt am_S0 (d + 1) mX11_shadiest 27 [some (.ref 0), some (.int x1), l2, l3] (r.toList ++ []) G K Q) := (wt_aload_n dX11_shadiest_19 rfl rfl).trans ((wt_getfield dX11_shadiest_20 rfl rfl (v := .ref 12) rfl).trans ((wt_iload_n dX11_shadiest_23 rfl).trans (wt_callV dX11_shadiest_24 rfl (as := [.int x1]) (rest := []) rfl rfl (Nat.le_of_ble_eq_true rfl) rfl (Nat.le_of_ble_eq_true rfl))))
set_option maxHeartbeats 100000 in
theorem kX11_shadiest_27 {d : Nat} {F : am_FT} {L : am_LT} {Q : am_QT} {l0 l1 l3 : Option Value} {s0 x2 : Int32} : wt am_S0 d mX11_shadiest 27 [l0, l1, some (.int x2), l3] [.int s0] F L Q = if ¬ s0 = (-2) then wt am_S0 d mX11_shadiest 45 [l0, l1, some (.int x2), some (.int s0)] [] F L Q else wt am_S0 d mX11_shadiest 34 [l0, l1, some (.int x2), some (.int s0)] [] F L Q := (wt_istore_n dX11_shadiest_27 (lv1 := [l0, l1, some (.int x2), some (.int s0)]) (Nat.le_of_ble_eq_true rfl) rfl).trans ((wt_iload_n dX11_shadiest_28 rfl).trans ((wt_bipush dX11_shadiest_29 (v := (-2)) (by decide)).trans (wt_if_icmp_ne dX11_shadiest_31 (t := 45) rfl)))
set_option maxHeartbeats 100000 in
theorem kX11_shadiest_34 {d : Nat} {F : am_FT} {L : am_LT} {Q : am_QT} {l0 l1 l3 : Option Value} {x2 : Int32} : wt am_S0 d mX11_shadiest 34 [l0, l1, some (.int x2), l3] [] F L Q = if ¬ x2 = 0 then wt am_S0 d mX11_shadiest 43 [l0, l1, some (.int x2), l3] [] F L Q else wt am_S0 d mX11_shadiest 38 [l0, l1, some (.int x2), l3] [] F L Q := (wt_iload_n dX11_shadiest_34 rfl).trans (wt_ifCond_ne dX11_shadiest_35 (t := 43) rfl)
set_option maxHeartbeats 100000 in
theorem kX11_shadiest_38 {d : Nat} {F : am_FT} {L : am_LT} {Q : am_QT} {l0 l1 l2 l3 : Option Value} : wt am_S0 d mX11_shadiest 38 [l0, l1, l2, l3] [] F L Q = wt am_S0 d mX11_shadiest 44 [l0, l1, l2, l3] [.int (-2)] F L Q := (wt_bipush dX11_shadiest_38 (v := (-2)) (by decide)).trans (wt_goto dX11_shadiest_40 (t := 44) rfl)
set_option maxHeartbeats 100000 in
theorem kX11_shadiest_43 {d : Nat} {F : am_FT} {L : am_LT} {Q : am_QT} {l0 l1 l2 l3 : Option Value} : wt am_S0 d mX11_shadiest 43 [l0, l1, l2, l3] [] F L Q = wt am_S0 d mX11_shadiest 44 [l0, l1, l2, l3] [.int 0] F L Q := wt_iconst dX11_shadiest_43 (v := 0) (by decide)
set_option maxHeartbeats 100000 in
theorem kX11_shadiest_44 {d : Nat} {F : am_FT} {L : am_LT} {Q : am_QT} {l0 l1 l2 l3 : Option Value} {s0 : Int32} : wt am_S0 d mX11_shadiest 44 [l0, l1, l2, l3] [.int s0] F L Q = Q (some (.int s0)) F L := wt_ireturn dX11_shadiest_44 rfl rfl
set_option maxHeartbeats 100000 in
theorem kX11_shadiest_45 {d : Nat} {F : am_FT} {L : am_LT} {Q : am_QT} {l0 l1 l3 : Option Value} {x2 : Int32} : wt am_S0 d mX11_shadiest 45 [l0, l1, some (.int x2), l3] [] F L Q = if ¬ x2 = 0 then wt am_S0 d mX11_shadiest 53 [l0, l1, some (.int x2), l3] [] F L Q else wt am_S0 d mX11_shadiest 49 [l0, l1, some (.int x2), l3] [] F L Q := (wt_iload_n dX11_shadiest_45 rfl).trans (wt_ifCond_ne dX11_shadiest_46 (t := 53) rfl)
set_option maxHeartbeats 100000 in
theorem kX11_shadiest_49 {d : Nat} {F : am_FT} {L : am_LT} {Q : am_QT} {l0 l1 l2 : Option Value} {x3 : Int32} : wt am_S0 d mX11_shadiest 49 [l0, l1, l2, some (.int x3)] [] F L Q = wt am_S0 d mX11_shadiest 62 [l0, l1, l2, some (.int x3)] [.int x3] F L Q := (wt_iload_n dX11_shadiest_49 rfl).trans (wt_goto dX11_shadiest_50 (t := 62) rfl)
set_option maxHeartbeats 100000 in
theorem kX11_shadiest_53 {d : Nat} {F : am_FT} {L : am_LT} {Q : am_QT} {l2 : Option Value} {x3 x1 : Int32} : wt am_S0 (d + 1) mX11_shadiest 53 [some (.ref 0), some (.int x1), l2, some (.int x3)] [] F L Q = wc am_S0 d mX9_shadesOver [.ref 12, .int x3, .int x1] F L (fun r G K => wt am_S0 (d + 1) mX11_shadiest 62 [some (.ref 0), some (.int x1), l2, some (.int x3)] (r.toList ++ []) G K Q) := (wt_aload_n dX11_shadiest_53 rfl rfl).trans ((wt_getfield dX11_shadiest_54 rfl rfl (v := .ref 12) rfl).trans ((wt_iload_n dX11_shadiest_57 rfl).trans ((wt_iload_n dX11_shadiest_58 rfl).trans (wt_callV dX11_shadiest_59 rfl (as := [.int x3, .int x1]) (rest := []) rfl rfl (Nat.le_of_ble_eq_true rfl) rfl (Nat.le_of_ble_eq_true rfl)))))
set_option maxHeartbeats 100000 in
theorem kX11_shadiest_62 {d : Nat} {F : am_FT} {L : am_LT} {Q : am_QT} {l0 l1 l2 l3 : Option Value} {s0 : Int32} : wt am_S0 d mX11_shadiest 62 [l0, l1, l2, l3] [.int s0] F L Q = Q (some (.int s0)) F L := wt_ireturn dX11_shadiest_62 rfl rfl
theorem dX11_judge_0 : decode mX11_judge.2.2.1 0 = .ok (.aload_n 0, 1) := by decide +kernel
theorem dX11_judge_1 : decode mX11_judge.2.2.1 1 = .ok (.iload_n 1, 1) := by decide +kernel
theorem dX11_judge_2 : decode mX11_judge.2.2.1 2 = .ok (.invokevirtual 113, 3) := by decide +kernel
theorem dX11_judge_5 : decode mX11_judge.2.2.1 5 = .ok (.astore_n 3, 1) := by decide +kernel
theorem dX11_judge_6 : decode mX11_judge.2.2.1 6 = .ok (.aload_n 3, 1) := by decide +kernel
theorem dX11_judge_7 : decode mX11_judge.2.2.1 7 = .ok (.ifnull 11, 3) := by decide +kernel
theorem dX11_judge_10 : decode mX11_judge.2.2.1 10 = .ok (.aload_n 0, 1) := by decide +kernel
theorem dX11_judge_11 : decode mX11_judge.2.2.1 11 = .ok (.iload_n 2, 1) := by decide +kernel
theorem dX11_judge_12 : decode mX11_judge.2.2.1 12 = .ok (.invokevirtual 255, 3) := by decide +kernel
theorem dX11_judge_15 : decode mX11_judge.2.2.1 15 = .ok (.ifCond .ne 5, 3) := by decide +kernel
theorem dX11_judge_18 : decode mX11_judge.2.2.1 18 = .ok (.iconst (-1), 1) := by decide +kernel
theorem dX11_judge_19 : decode mX11_judge.2.2.1 19 = .ok (.ireturn, 1) := by decide +kernel
theorem dX11_judge_20 : decode mX11_judge.2.2.1 20 = .ok (.aload_n 3, 1) := by decide +kernel
theorem dX11_judge_21 : decode mX11_judge.2.2.1 21 = .ok (.iconst 0, 1) := by decide +kernel
theorem dX11_judge_22 : decode mX11_judge.2.2.1 22 = .ok (.invokevirtual 125, 3) := by decide +kernel
theorem dX11_judge_25 : decode mX11_judge.2.2.1 25 = .ok (.ifCond .eq 15, 3) := by decide +kernel
theorem dX11_judge_28 : decode mX11_judge.2.2.1 28 = .ok (.aload_n 0, 1) := by decide +kernel
theorem dX11_judge_29 : decode mX11_judge.2.2.1 29 = .ok (.getfield 67, 3) := by decide +kernel
theorem dX11_judge_32 : decode mX11_judge.2.2.1 32 = .ok (.aload_n 3, 1) := by decide +kernel
theorem dX11_judge_33 : decode mX11_judge.2.2.1 33 = .ok (.iload_n 2, 1) := by decide +kernel
theorem dX11_judge_34 : decode mX11_judge.2.2.1 34 = .ok (.invokevirtual 267, 3) := by decide +kernel
theorem dX11_judge_37 : decode mX11_judge.2.2.1 37 = .ok (.goto 7, 3) := by decide +kernel
theorem dX11_judge_40 : decode mX11_judge.2.2.1 40 = .ok (.aload_n 3, 1) := by decide +kernel
theorem dX11_judge_41 : decode mX11_judge.2.2.1 41 = .ok (.invokestatic 271, 3) := by decide +kernel
theorem dX11_judge_44 : decode mX11_judge.2.2.1 44 = .ok (.ireturn, 1) := by decide +kernel
set_option maxHeartbeats 100000 in
theorem kX11_judge_0 {d : Nat} {F : am_FT} {L : am_LT} {Q : am_QT} {l2 l3 : Option Value} {x1 : Int32} : wt am_S0 (d + 1) mX11_judge 0 [some (.ref 0), some (.int x1), l2, l3] [] F L Q = wc am_S0 d mX11_shelfAt [.ref 0, .int x1] F L (fun r G K => wt am_S0 (d + 1) mX11_judge 5 [some (.ref 0), some (.int x1), l2, l3] (r.toList ++ []) G K Q) := (wt_aload_n dX11_judge_0 rfl rfl).trans ((wt_iload_n dX11_judge_1 rfl).trans (wt_callV dX11_judge_2 rfl (as := [.int x1]) (rest := []) rfl rfl (Nat.le_of_ble_eq_true rfl) rfl (Nat.le_of_ble_eq_true rfl)))
set_option maxHeartbeats 100000 in
theorem kX11_judge_5 {d : Nat} {F : am_FT} {L : am_LT} {Q : am_QT} {l0 l1 l3 : Option Value} {q0 : Nat} {x2 : Int32} : wt am_S0 d mX11_judge 5 [l0, l1, some (.int x2), l3] [.ref q0] F L Q = wt am_S0 d mX11_judge 10 [l0, l1, some (.int x2), some (.ref q0)] [] F L Q := (wt_astore_n dX11_judge_5 (lv1 := [l0, l1, some (.int x2), some (.ref q0)]) rfl (Nat.le_of_ble_eq_true rfl) rfl).trans ((wt_aload_n dX11_judge_6 rfl rfl).trans (wt_ifnull dX11_judge_7))
set_option maxHeartbeats 100000 in
theorem kX11_judge_5N {d : Nat} {F : am_FT} {L : am_LT} {Q : am_QT} {l0 l1 l3 : Option Value} {x2 : Int32} : wt am_S0 d mX11_judge 5 [l0, l1, some (.int x2), l3] [.null] F L Q = wt am_S0 d mX11_judge 18 [l0, l1, some (.int x2), some .null] [] F L Q := (wt_astore_n dX11_judge_5 (lv1 := [l0, l1, some (.int x2), some .null]) rfl (Nat.le_of_ble_eq_true rfl) rfl).trans ((wt_aload_n dX11_judge_6 rfl rfl).trans (wt_ifnullN dX11_judge_7 (t := 18) rfl))
set_option maxHeartbeats 100000 in
theorem kX11_judge_10 {d : Nat} {F : am_FT} {L : am_LT} {Q : am_QT} {l1 l3 : Option Value} {x2 : Int32} : wt am_S0 (d + 1) mX11_judge 10 [some (.ref 0), l1, some (.int x2), l3] [] F L Q = wc am_S0 d mX11_isTree [.ref 0, .int x2] F L (fun r G K => wt am_S0 (d + 1) mX11_judge 15 [some (.ref 0), l1, some (.int x2), l3] (r.toList ++ []) G K Q) := (wt_aload_n dX11_judge_10 rfl rfl).trans ((wt_iload_n dX11_judge_11 rfl).trans (wt_callV dX11_judge_12 rfl (as := [.int x2]) (rest := []) rfl rfl (Nat.le_of_ble_eq_true rfl) rfl (Nat.le_of_ble_eq_true rfl)))
set_option maxHeartbeats 100000 in
theorem kX11_judge_15 {d : Nat} {F : am_FT} {L : am_LT} {Q : am_QT} {l0 l1 l2 l3 : Option Value} {s0 : Int32} : wt am_S0 d mX11_judge 15 [l0, l1, l2, l3] [.int s0] F L Q = if ¬ s0 = 0 then wt am_S0 d mX11_judge 20 [l0, l1, l2, l3] [] F L Q else wt am_S0 d mX11_judge 18 [l0, l1, l2, l3] [] F L Q := wt_ifCond_ne dX11_judge_15 (t := 20) rfl
set_option maxHeartbeats 100000 in
theorem kX11_judge_18 {d : Nat} {F : am_FT} {L : am_LT} {Q : am_QT} {l0 l1 l2 l3 : Option Value} : wt am_S0 d mX11_judge 18 [l0, l1, l2, l3] [] F L Q = Q (some (.int (-1))) F L := (wt_iconst dX11_judge_18 (v := (-1)) (by decide)).trans (wt_ireturn dX11_judge_19 rfl rfl)
set_option maxHeartbeats 100000 in
theorem kX11_judge_20 {d : Nat} {F : am_FT} {L : am_LT} {Q : am_QT} {l0 l1 l2 : Option Value} {p3 e1 : Nat} (h1 : am_S0[p3]? = some (8, 4, [some e1, none, none, none])) : wt am_S0 (d + 1) mX11_judge 20 [l0, l1, l2, some (.ref p3)] [] F L Q = wc am_S0 d mX8_isRowOf [.ref p3, .int 0] F L (fun r G K => wt am_S0 (d + 1) mX11_judge 25 [l0, l1, l2, some (.ref p3)] (r.toList ++ []) G K Q) := (wt_aload_n dX11_judge_20 rfl rfl).trans ((wt_iconst dX11_judge_21 (v := 0) (by decide)).trans (wt_callV dX11_judge_22 rfl (as := [.int 0]) (rest := []) rfl rfl (Nat.le_of_ble_eq_true rfl) h1 (Nat.le_of_ble_eq_true rfl)))
set_option maxHeartbeats 100000 in
theorem kX11_judge_25 {d : Nat} {F : am_FT} {L : am_LT} {Q : am_QT} {l0 l1 l2 l3 : Option Value} {s0 : Int32} : wt am_S0 d mX11_judge 25 [l0, l1, l2, l3] [.int s0] F L Q = if s0 = 0 then wt am_S0 d mX11_judge 40 [l0, l1, l2, l3] [] F L Q else wt am_S0 d mX11_judge 28 [l0, l1, l2, l3] [] F L Q := wt_ifCond_eq dX11_judge_25 (t := 40) rfl
set_option maxHeartbeats 100000 in
theorem kX11_judge_28 {d : Nat} {F : am_FT} {L : am_LT} {Q : am_QT} {l1 : Option Value} {p3 : Nat} {x2 : Int32} : wt am_S0 (d + 1) mX11_judge 28 [some (.ref 0), l1, some (.int x2), some (.ref p3)] [] F L Q = wc am_S0 d mX1_firstWrong [.ref 17, .ref p3, .int x2] F L (fun r G K => wt am_S0 (d + 1) mX11_judge 37 [some (.ref 0), l1, some (.int x2), some (.ref p3)] (r.toList ++ []) G K Q) := (wt_aload_n dX11_judge_28 rfl rfl).trans ((wt_getfield dX11_judge_29 rfl rfl (v := .ref 17) rfl).trans ((wt_aload_n dX11_judge_32 rfl rfl).trans ((wt_iload_n dX11_judge_33 rfl).trans (wt_callV dX11_judge_34 rfl (as := [.ref p3, .int x2]) (rest := []) rfl rfl (Nat.le_of_ble_eq_true rfl) rfl (Nat.le_of_ble_eq_true rfl)))))
set_option maxHeartbeats 100000 in
theorem kX11_judge_28N {d : Nat} {F : am_FT} {L : am_LT} {Q : am_QT} {l1 : Option Value} {x2 : Int32} : wt am_S0 (d + 1) mX11_judge 28 [some (.ref 0), l1, some (.int x2), some .null] [] F L Q = wc am_S0 d mX1_firstWrong [.ref 17, .null, .int x2] F L (fun r G K => wt am_S0 (d + 1) mX11_judge 37 [some (.ref 0), l1, some (.int x2), some .null] (r.toList ++ []) G K Q) := (wt_aload_n dX11_judge_28 rfl rfl).trans ((wt_getfield dX11_judge_29 rfl rfl (v := .ref 17) rfl).trans ((wt_aload_n dX11_judge_32 rfl rfl).trans ((wt_iload_n dX11_judge_33 rfl).trans (wt_callV dX11_judge_34 rfl (as := [.null, .int x2]) (rest := []) rfl rfl (Nat.le_of_ble_eq_true rfl) rfl (Nat.le_of_ble_eq_true rfl)))))
set_option maxHeartbeats 100000 in
theorem kX11_judge_37 {d : Nat} {F : am_FT} {L : am_LT} {Q : am_QT} {l0 l1 l2 l3 : Option Value} {s0 : Int32} : wt am_S0 d mX11_judge 37 [l0, l1, l2, l3] [.int s0] F L Q = wt am_S0 d mX11_judge 44 [l0, l1, l2, l3] [.int s0] F L Q := wt_goto dX11_judge_37 (t := 44) rfl
set_option maxHeartbeats 100000 in
theorem kX11_judge_40 {d : Nat} {F : am_FT} {L : am_LT} {Q : am_QT} {l0 l1 l2 : Option Value} {p3 : Nat} : wt am_S0 (d + 1) mX11_judge 40 [l0, l1, l2, some (.ref p3)] [] F L Q = wc am_S0 d mX11_refusalOf [.ref p3] F L (fun r G K => wt am_S0 (d + 1) mX11_judge 44 [l0, l1, l2, some (.ref p3)] (r.toList ++ []) G K Q) := (wt_aload_n dX11_judge_40 rfl rfl).trans (wt_callS dX11_judge_41 rfl (as := [.ref p3]) (rest := []) rfl rfl (Nat.le_of_ble_eq_true rfl) (Nat.le_of_ble_eq_true rfl))
set_option maxHeartbeats 100000 in
theorem kX11_judge_40N {d : Nat} {F : am_FT} {L : am_LT} {Q : am_QT} {l0 l1 l2 : Option Value} : wt am_S0 (d + 1) mX11_judge 40 [l0, l1, l2, some .null] [] F L Q = wc am_S0 d mX11_refusalOf [.null] F L (fun r G K => wt am_S0 (d + 1) mX11_judge 44 [l0, l1, l2, some .null] (r.toList ++ []) G K Q) := (wt_aload_n dX11_judge_40 rfl rfl).trans (wt_callS dX11_judge_41 rfl (as := [.null]) (rest := []) rfl rfl (Nat.le_of_ble_eq_true rfl) (Nat.le_of_ble_eq_true rfl))
set_option maxHeartbeats 100000 in
theorem kX11_judge_44 {d : Nat} {F : am_FT} {L : am_LT} {Q : am_QT} {l0 l1 l2 l3 : Option Value} {s0 : Int32} : wt am_S0 d mX11_judge 44 [l0, l1, l2, l3] [.int s0] F L Q = Q (some (.int s0)) F L := wt_ireturn dX11_judge_44 rfl rfl
theorem dX11_refusalOf_0 : decode mX11_refusalOf.2.2.1 0 = .ok (.aload_n 0, 1) := by decide +kernel
theorem dX11_refusalOf_1 : decode mX11_refusalOf.2.2.1 1 = .ok (.invokevirtual 121, 3) := by decide +kernel
theorem dX11_refusalOf_4 : decode mX11_refusalOf.2.2.1 4 = .ok (.ifCond .eq 8, 3) := by decide +kernel
theorem dX11_refusalOf_7 : decode mX11_refusalOf.2.2.1 7 = .ok (.bipush (-11), 2) := by decide +kernel
theorem dX11_refusalOf_9 : decode mX11_refusalOf.2.2.1 9 = .ok (.goto 5, 3) := by decide +kernel
theorem dX11_refusalOf_12 : decode mX11_refusalOf.2.2.1 12 = .ok (.bipush (-12), 2) := by decide +kernel
theorem dX11_refusalOf_14 : decode mX11_refusalOf.2.2.1 14 = .ok (.ireturn, 1) := by decide +kernel
set_option maxHeartbeats 100000 in
theorem kX11_refusalOf_0 {d : Nat} {F : am_FT} {L : am_LT} {Q : am_QT} {p0 e1 : Nat} (h1 : am_S0[p0]? = some (8, 4, [some e1, none, none, none])) : wt am_S0 (d + 1) mX11_refusalOf 0 [some (.ref p0)] [] F L Q = wc am_S0 d mX8_isEmpty [.ref p0] F L (fun r G K => wt am_S0 (d + 1) mX11_refusalOf 4 [some (.ref p0)] (r.toList ++ []) G K Q) := (wt_aload_n dX11_refusalOf_0 rfl rfl).trans (wt_callV dX11_refusalOf_1 rfl (as := []) (rest := []) rfl rfl (Nat.le_of_ble_eq_true rfl) h1 (Nat.le_of_ble_eq_true rfl))
set_option maxHeartbeats 100000 in
theorem kX11_refusalOf_4 {d : Nat} {F : am_FT} {L : am_LT} {Q : am_QT} {l0 : Option Value} {s0 : Int32} : wt am_S0 d mX11_refusalOf 4 [l0] [.int s0] F L Q = if s0 = 0 then wt am_S0 d mX11_refusalOf 12 [l0] [] F L Q else wt am_S0 d mX11_refusalOf 7 [l0] [] F L Q := wt_ifCond_eq dX11_refusalOf_4 (t := 12) rfl
set_option maxHeartbeats 100000 in
theorem kX11_refusalOf_7 {d : Nat} {F : am_FT} {L : am_LT} {Q : am_QT} {l0 : Option Value} : wt am_S0 d mX11_refusalOf 7 [l0] [] F L Q = wt am_S0 d mX11_refusalOf 14 [l0] [.int (-11)] F L Q := (wt_bipush dX11_refusalOf_7 (v := (-11)) (by decide)).trans (wt_goto dX11_refusalOf_9 (t := 14) rfl)
set_option maxHeartbeats 100000 in
theorem kX11_refusalOf_12 {d : Nat} {F : am_FT} {L : am_LT} {Q : am_QT} {l0 : Option Value} : wt am_S0 d mX11_refusalOf 12 [l0] [] F L Q = wt am_S0 d mX11_refusalOf 14 [l0] [.int (-12)] F L Q := wt_bipush dX11_refusalOf_12 (v := (-12)) (by decide)
set_option maxHeartbeats 100000 in
theorem kX11_refusalOf_14 {d : Nat} {F : am_FT} {L : am_LT} {Q : am_QT} {l0 : Option Value} {s0 : Int32} : wt am_S0 d mX11_refusalOf 14 [l0] [.int s0] F L Q = Q (some (.int s0)) F L := wt_ireturn dX11_refusalOf_14 rfl rfl
theorem dX11_wishes_0 : decode mX11_wishes.2.2.1 0 = .ok (.aload_n 0, 1) := by decide +kernel
theorem dX11_wishes_1 : decode mX11_wishes.2.2.1 1 = .ok (.iload_n 1, 1) := by decide +kernel
theorem dX11_wishes_2 : decode mX11_wishes.2.2.1 2 = .ok (.invokevirtual 113, 3) := by decide +kernel
theorem dX11_wishes_5 : decode mX11_wishes.2.2.1 5 = .ok (.astore 4, 2) := by decide +kernel
theorem dX11_wishes_7 : decode mX11_wishes.2.2.1 7 = .ok (.aload 4, 2) := by decide +kernel
theorem dX11_wishes_9 : decode mX11_wishes.2.2.1 9 = .ok (.ifnull 20, 3) := by decide +kernel
theorem dX11_wishes_12 : decode mX11_wishes.2.2.1 12 = .ok (.aload_n 0, 1) := by decide +kernel
theorem dX11_wishes_13 : decode mX11_wishes.2.2.1 13 = .ok (.iload_n 2, 1) := by decide +kernel
theorem dX11_wishes_14 : decode mX11_wishes.2.2.1 14 = .ok (.invokevirtual 255, 3) := by decide +kernel
theorem dX11_wishes_17 : decode mX11_wishes.2.2.1 17 = .ok (.ifCond .eq 12, 3) := by decide +kernel
theorem dX11_wishes_20 : decode mX11_wishes.2.2.1 20 = .ok (.iload_n 3, 1) := by decide +kernel
theorem dX11_wishes_21 : decode mX11_wishes.2.2.1 21 = .ok (.iconst 0, 1) := by decide +kernel
theorem dX11_wishes_22 : decode mX11_wishes.2.2.1 22 = .ok (.iconst 2, 1) := by decide +kernel
theorem dX11_wishes_23 : decode mX11_wishes.2.2.1 23 = .ok (.invokestatic 117, 3) := by decide +kernel
theorem dX11_wishes_26 : decode mX11_wishes.2.2.1 26 = .ok (.ifCond .ne 5, 3) := by decide +kernel
theorem dX11_wishes_29 : decode mX11_wishes.2.2.1 29 = .ok (.iconst (-1), 1) := by decide +kernel
theorem dX11_wishes_30 : decode mX11_wishes.2.2.1 30 = .ok (.ireturn, 1) := by decide +kernel
theorem dX11_wishes_31 : decode mX11_wishes.2.2.1 31 = .ok (.aload 4, 2) := by decide +kernel
theorem dX11_wishes_33 : decode mX11_wishes.2.2.1 33 = .ok (.iconst 0, 1) := by decide +kernel
theorem dX11_wishes_34 : decode mX11_wishes.2.2.1 34 = .ok (.invokevirtual 125, 3) := by decide +kernel
theorem dX11_wishes_37 : decode mX11_wishes.2.2.1 37 = .ok (.ifCond .ne 9, 3) := by decide +kernel
theorem dX11_wishes_40 : decode mX11_wishes.2.2.1 40 = .ok (.aload 4, 2) := by decide +kernel
theorem dX11_wishes_42 : decode mX11_wishes.2.2.1 42 = .ok (.invokestatic 271, 3) := by decide +kernel
theorem dX11_wishes_45 : decode mX11_wishes.2.2.1 45 = .ok (.ireturn, 1) := by decide +kernel
theorem dX11_wishes_46 : decode mX11_wishes.2.2.1 46 = .ok (.aload_n 0, 1) := by decide +kernel
theorem dX11_wishes_47 : decode mX11_wishes.2.2.1 47 = .ok (.getfield 67, 3) := by decide +kernel
theorem dX11_wishes_50 : decode mX11_wishes.2.2.1 50 = .ok (.aload 4, 2) := by decide +kernel
theorem dX11_wishes_52 : decode mX11_wishes.2.2.1 52 = .ok (.iload_n 2, 1) := by decide +kernel
theorem dX11_wishes_53 : decode mX11_wishes.2.2.1 53 = .ok (.invokevirtual 275, 3) := by decide +kernel
theorem dX11_wishes_56 : decode mX11_wishes.2.2.1 56 = .ok (.iload_n 3, 1) := by decide +kernel
theorem dX11_wishes_57 : decode mX11_wishes.2.2.1 57 = .ok (.ifCond .ne 11, 3) := by decide +kernel
theorem dX11_wishes_60 : decode mX11_wishes.2.2.1 60 = .ok (.aload_n 0, 1) := by decide +kernel
theorem dX11_wishes_61 : decode mX11_wishes.2.2.1 61 = .ok (.getfield 67, 3) := by decide +kernel
theorem dX11_wishes_64 : decode mX11_wishes.2.2.1 64 = .ok (.getfield 279, 3) := by decide +kernel
theorem dX11_wishes_67 : decode mX11_wishes.2.2.1 67 = .ok (.ireturn, 1) := by decide +kernel
theorem dX11_wishes_68 : decode mX11_wishes.2.2.1 68 = .ok (.aload_n 0, 1) := by decide +kernel
theorem dX11_wishes_69 : decode mX11_wishes.2.2.1 69 = .ok (.getfield 67, 3) := by decide +kernel
theorem dX11_wishes_72 : decode mX11_wishes.2.2.1 72 = .ok (.getfield 279, 3) := by decide +kernel
theorem dX11_wishes_75 : decode mX11_wishes.2.2.1 75 = .ok (.ifCond .ne 15, 3) := by decide +kernel
theorem dX11_wishes_78 : decode mX11_wishes.2.2.1 78 = .ok (.iload_n 3, 1) := by decide +kernel
theorem dX11_wishes_79 : decode mX11_wishes.2.2.1 79 = .ok (.iconst 1, 1) := by decide +kernel
theorem dX11_wishes_80 : decode mX11_wishes.2.2.1 80 = .ok (.if_icmp .ne 8, 3) := by decide +kernel
theorem dX11_wishes_83 : decode mX11_wishes.2.2.1 83 = .ok (.bipush (-2), 2) := by decide +kernel
theorem dX11_wishes_85 : decode mX11_wishes.2.2.1 85 = .ok (.goto 4, 3) := by decide +kernel
theorem dX11_wishes_88 : decode mX11_wishes.2.2.1 88 = .ok (.iconst 0, 1) := by decide +kernel
theorem dX11_wishes_89 : decode mX11_wishes.2.2.1 89 = .ok (.ireturn, 1) := by decide +kernel
theorem dX11_wishes_90 : decode mX11_wishes.2.2.1 90 = .ok (.iload_n 3, 1) := by decide +kernel
theorem dX11_wishes_91 : decode mX11_wishes.2.2.1 91 = .ok (.iconst 1, 1) := by decide +kernel
theorem dX11_wishes_92 : decode mX11_wishes.2.2.1 92 = .ok (.if_icmp .ne 13, 3) := by decide +kernel
theorem dX11_wishes_95 : decode mX11_wishes.2.2.1 95 = .ok (.aload_n 0, 1) := by decide +kernel
theorem dX11_wishes_96 : decode mX11_wishes.2.2.1 96 = .ok (.getfield 67, 3) := by decide +kernel
theorem dX11_wishes_99 : decode mX11_wishes.2.2.1 99 = .ok (.getfield 282, 3) := by decide +kernel
theorem dX11_wishes_102 : decode mX11_wishes.2.2.1 102 = .ok (.goto 10, 3) := by decide +kernel
theorem dX11_wishes_105 : decode mX11_wishes.2.2.1 105 = .ok (.aload_n 0, 1) := by decide +kernel
theorem dX11_wishes_106 : decode mX11_wishes.2.2.1 106 = .ok (.getfield 67, 3) := by decide +kernel
theorem dX11_wishes_109 : decode mX11_wishes.2.2.1 109 = .ok (.getfield 285, 3) := by decide +kernel
theorem dX11_wishes_112 : decode mX11_wishes.2.2.1 112 = .ok (.ireturn, 1) := by decide +kernel
set_option maxHeartbeats 100000 in
theorem kX11_wishes_0 {d : Nat} {F : am_FT} {L : am_LT} {Q : am_QT} {l2 l3 l4 : Option Value} {x1 : Int32} : wt am_S0 (d + 1) mX11_wishes 0 [some (.ref 0), some (.int x1), l2, l3, l4] [] F L Q = wc am_S0 d mX11_shelfAt [.ref 0, .int x1] F L (fun r G K => wt am_S0 (d + 1) mX11_wishes 5 [some (.ref 0), some (.int x1), l2, l3, l4] (r.toList ++ []) G K Q) := (wt_aload_n dX11_wishes_0 rfl rfl).trans ((wt_iload_n dX11_wishes_1 rfl).trans (wt_callV dX11_wishes_2 rfl (as := [.int x1]) (rest := []) rfl rfl (Nat.le_of_ble_eq_true rfl) rfl (Nat.le_of_ble_eq_true rfl)))
set_option maxHeartbeats 100000 in
theorem kX11_wishes_5 {d : Nat} {F : am_FT} {L : am_LT} {Q : am_QT} {l0 l1 l2 l4 : Option Value} {q0 : Nat} {x3 : Int32} : wt am_S0 d mX11_wishes 5 [l0, l1, l2, some (.int x3), l4] [.ref q0] F L Q = wt am_S0 d mX11_wishes 12 [l0, l1, l2, some (.int x3), some (.ref q0)] [] F L Q := (wt_astore dX11_wishes_5 (lv1 := [l0, l1, l2, some (.int x3), some (.ref q0)]) rfl (Nat.le_of_ble_eq_true rfl) rfl).trans ((wt_aload dX11_wishes_7 rfl rfl).trans (wt_ifnull dX11_wishes_9))
set_option maxHeartbeats 100000 in
theorem kX11_wishes_5N {d : Nat} {F : am_FT} {L : am_LT} {Q : am_QT} {l0 l1 l2 l4 : Option Value} {x3 : Int32} : wt am_S0 d mX11_wishes 5 [l0, l1, l2, some (.int x3), l4] [.null] F L Q = wt am_S0 d mX11_wishes 29 [l0, l1, l2, some (.int x3), some .null] [] F L Q := (wt_astore dX11_wishes_5 (lv1 := [l0, l1, l2, some (.int x3), some .null]) rfl (Nat.le_of_ble_eq_true rfl) rfl).trans ((wt_aload dX11_wishes_7 rfl rfl).trans (wt_ifnullN dX11_wishes_9 (t := 29) rfl))
set_option maxHeartbeats 100000 in
theorem kX11_wishes_12 {d : Nat} {F : am_FT} {L : am_LT} {Q : am_QT} {l1 l3 l4 : Option Value} {x2 : Int32} : wt am_S0 (d + 1) mX11_wishes 12 [some (.ref 0), l1, some (.int x2), l3, l4] [] F L Q = wc am_S0 d mX11_isTree [.ref 0, .int x2] F L (fun r G K => wt am_S0 (d + 1) mX11_wishes 17 [some (.ref 0), l1, some (.int x2), l3, l4] (r.toList ++ []) G K Q) := (wt_aload_n dX11_wishes_12 rfl rfl).trans ((wt_iload_n dX11_wishes_13 rfl).trans (wt_callV dX11_wishes_14 rfl (as := [.int x2]) (rest := []) rfl rfl (Nat.le_of_ble_eq_true rfl) rfl (Nat.le_of_ble_eq_true rfl)))
set_option maxHeartbeats 100000 in
theorem kX11_wishes_17 {d : Nat} {F : am_FT} {L : am_LT} {Q : am_QT} {l0 l1 l2 l3 l4 : Option Value} {s0 : Int32} : wt am_S0 d mX11_wishes 17 [l0, l1, l2, l3, l4] [.int s0] F L Q = if s0 = 0 then wt am_S0 d mX11_wishes 29 [l0, l1, l2, l3, l4] [] F L Q else wt am_S0 d mX11_wishes 20 [l0, l1, l2, l3, l4] [] F L Q := wt_ifCond_eq dX11_wishes_17 (t := 29) rfl
set_option maxHeartbeats 100000 in
theorem kX11_wishes_20 {d : Nat} {F : am_FT} {L : am_LT} {Q : am_QT} {l0 l1 l2 l4 : Option Value} {x3 : Int32} : wt am_S0 (d + 1) mX11_wishes 20 [l0, l1, l2, some (.int x3), l4] [] F L Q = wc am_S0 d mX11_within [.int x3, .int 0, .int 2] F L (fun r G K => wt am_S0 (d + 1) mX11_wishes 26 [l0, l1, l2, some (.int x3), l4] (r.toList ++ []) G K Q) := (wt_iload_n dX11_wishes_20 rfl).trans ((wt_iconst dX11_wishes_21 (v := 0) (by decide)).trans ((wt_iconst dX11_wishes_22 (v := 2) (by decide)).trans (wt_callS dX11_wishes_23 rfl (as := [.int x3, .int 0, .int 2]) (rest := []) rfl rfl (Nat.le_of_ble_eq_true rfl) (Nat.le_of_ble_eq_true rfl))))
set_option maxHeartbeats 100000 in
theorem kX11_wishes_26 {d : Nat} {F : am_FT} {L : am_LT} {Q : am_QT} {l0 l1 l2 l3 l4 : Option Value} {s0 : Int32} : wt am_S0 d mX11_wishes 26 [l0, l1, l2, l3, l4] [.int s0] F L Q = if ¬ s0 = 0 then wt am_S0 d mX11_wishes 31 [l0, l1, l2, l3, l4] [] F L Q else wt am_S0 d mX11_wishes 29 [l0, l1, l2, l3, l4] [] F L Q := wt_ifCond_ne dX11_wishes_26 (t := 31) rfl
set_option maxHeartbeats 100000 in
theorem kX11_wishes_29 {d : Nat} {F : am_FT} {L : am_LT} {Q : am_QT} {l0 l1 l2 l3 l4 : Option Value} : wt am_S0 d mX11_wishes 29 [l0, l1, l2, l3, l4] [] F L Q = Q (some (.int (-1))) F L := (wt_iconst dX11_wishes_29 (v := (-1)) (by decide)).trans (wt_ireturn dX11_wishes_30 rfl rfl)
set_option maxHeartbeats 100000 in
theorem kX11_wishes_31 {d : Nat} {F : am_FT} {L : am_LT} {Q : am_QT} {l0 l1 l2 l3 : Option Value} {p4 e1 : Nat} (h1 : am_S0[p4]? = some (8, 4, [some e1, none, none, none])) : wt am_S0 (d + 1) mX11_wishes 31 [l0, l1, l2, l3, some (.ref p4)] [] F L Q = wc am_S0 d mX8_isRowOf [.ref p4, .int 0] F L (fun r G K => wt am_S0 (d + 1) mX11_wishes 37 [l0, l1, l2, l3, some (.ref p4)] (r.toList ++ []) G K Q) := (wt_aload dX11_wishes_31 rfl rfl).trans ((wt_iconst dX11_wishes_33 (v := 0) (by decide)).trans (wt_callV dX11_wishes_34 rfl (as := [.int 0]) (rest := []) rfl rfl (Nat.le_of_ble_eq_true rfl) h1 (Nat.le_of_ble_eq_true rfl)))
set_option maxHeartbeats 100000 in
theorem kX11_wishes_37 {d : Nat} {F : am_FT} {L : am_LT} {Q : am_QT} {l0 l1 l2 l3 l4 : Option Value} {s0 : Int32} : wt am_S0 d mX11_wishes 37 [l0, l1, l2, l3, l4] [.int s0] F L Q = if ¬ s0 = 0 then wt am_S0 d mX11_wishes 46 [l0, l1, l2, l3, l4] [] F L Q else wt am_S0 d mX11_wishes 40 [l0, l1, l2, l3, l4] [] F L Q := wt_ifCond_ne dX11_wishes_37 (t := 46) rfl
set_option maxHeartbeats 100000 in
theorem kX11_wishes_40 {d : Nat} {F : am_FT} {L : am_LT} {Q : am_QT} {l0 l1 l2 l3 : Option Value} {p4 : Nat} : wt am_S0 (d + 1) mX11_wishes 40 [l0, l1, l2, l3, some (.ref p4)] [] F L Q = wc am_S0 d mX11_refusalOf [.ref p4] F L (fun r G K => wt am_S0 (d + 1) mX11_wishes 45 [l0, l1, l2, l3, some (.ref p4)] (r.toList ++ []) G K Q) := (wt_aload dX11_wishes_40 rfl rfl).trans (wt_callS dX11_wishes_42 rfl (as := [.ref p4]) (rest := []) rfl rfl (Nat.le_of_ble_eq_true rfl) (Nat.le_of_ble_eq_true rfl))
set_option maxHeartbeats 100000 in
theorem kX11_wishes_40N {d : Nat} {F : am_FT} {L : am_LT} {Q : am_QT} {l0 l1 l2 l3 : Option Value} : wt am_S0 (d + 1) mX11_wishes 40 [l0, l1, l2, l3, some .null] [] F L Q = wc am_S0 d mX11_refusalOf [.null] F L (fun r G K => wt am_S0 (d + 1) mX11_wishes 45 [l0, l1, l2, l3, some .null] (r.toList ++ []) G K Q) := (wt_aload dX11_wishes_40 rfl rfl).trans (wt_callS dX11_wishes_42 rfl (as := [.null]) (rest := []) rfl rfl (Nat.le_of_ble_eq_true rfl) (Nat.le_of_ble_eq_true rfl))
set_option maxHeartbeats 100000 in
theorem kX11_wishes_45 {d : Nat} {F : am_FT} {L : am_LT} {Q : am_QT} {l0 l1 l2 l3 l4 : Option Value} {s0 : Int32} : wt am_S0 d mX11_wishes 45 [l0, l1, l2, l3, l4] [.int s0] F L Q = Q (some (.int s0)) F L := wt_ireturn dX11_wishes_45 rfl rfl
set_option maxHeartbeats 100000 in
theorem kX11_wishes_46 {d : Nat} {F : am_FT} {L : am_LT} {Q : am_QT} {l1 l3 : Option Value} {p4 : Nat} {x2 : Int32} : wt am_S0 (d + 1) mX11_wishes 46 [some (.ref 0), l1, some (.int x2), l3, some (.ref p4)] [] F L Q = wc am_S0 d mX1_findWishers [.ref 17, .ref p4, .int x2] F L (fun r G K => wt am_S0 (d + 1) mX11_wishes 56 [some (.ref 0), l1, some (.int x2), l3, some (.ref p4)] (r.toList ++ []) G K Q) := (wt_aload_n dX11_wishes_46 rfl rfl).trans ((wt_getfield dX11_wishes_47 rfl rfl (v := .ref 17) rfl).trans ((wt_aload dX11_wishes_50 rfl rfl).trans ((wt_iload_n dX11_wishes_52 rfl).trans (wt_callV dX11_wishes_53 rfl (as := [.ref p4, .int x2]) (rest := []) rfl rfl (Nat.le_of_ble_eq_true rfl) rfl (Nat.le_of_ble_eq_true rfl)))))
set_option maxHeartbeats 100000 in
theorem kX11_wishes_46N {d : Nat} {F : am_FT} {L : am_LT} {Q : am_QT} {l1 l3 : Option Value} {x2 : Int32} : wt am_S0 (d + 1) mX11_wishes 46 [some (.ref 0), l1, some (.int x2), l3, some .null] [] F L Q = wc am_S0 d mX1_findWishers [.ref 17, .null, .int x2] F L (fun r G K => wt am_S0 (d + 1) mX11_wishes 56 [some (.ref 0), l1, some (.int x2), l3, some .null] (r.toList ++ []) G K Q) := (wt_aload_n dX11_wishes_46 rfl rfl).trans ((wt_getfield dX11_wishes_47 rfl rfl (v := .ref 17) rfl).trans ((wt_aload dX11_wishes_50 rfl rfl).trans ((wt_iload_n dX11_wishes_52 rfl).trans (wt_callV dX11_wishes_53 rfl (as := [.null, .int x2]) (rest := []) rfl rfl (Nat.le_of_ble_eq_true rfl) rfl (Nat.le_of_ble_eq_true rfl)))))
set_option maxHeartbeats 100000 in
theorem kX11_wishes_56 {d : Nat} {F : am_FT} {L : am_LT} {Q : am_QT} {l0 l1 l2 l4 : Option Value} {x3 : Int32} : wt am_S0 d mX11_wishes 56 [l0, l1, l2, some (.int x3), l4] [] F L Q = if ¬ x3 = 0 then wt am_S0 d mX11_wishes 68 [l0, l1, l2, some (.int x3), l4] [] F L Q else wt am_S0 d mX11_wishes 60 [l0, l1, l2, some (.int x3), l4] [] F L Q := (wt_iload_n dX11_wishes_56 rfl).trans (wt_ifCond_ne dX11_wishes_57 (t := 68) rfl)
set_option maxHeartbeats 100000 in
theorem kX11_wishes_60 {d : Nat} {F : am_FT} {L : am_LT} {Q : am_QT} {l1 l2 l3 l4 : Option Value} : wt am_S0 d mX11_wishes 60 [some (.ref 0), l1, l2, l3, l4] [] F L Q = Q (some (.int (F 17 4))) F L := (wt_aload_n dX11_wishes_60 rfl rfl).trans ((wt_getfield dX11_wishes_61 rfl rfl (v := .ref 17) rfl).trans ((wt_getfield dX11_wishes_64 rfl rfl (v := .int (F 17 4)) rfl).trans (wt_ireturn dX11_wishes_67 rfl rfl)))
set_option maxHeartbeats 100000 in
theorem kX11_wishes_68 {d : Nat} {F : am_FT} {L : am_LT} {Q : am_QT} {l1 l2 l3 l4 : Option Value} : wt am_S0 d mX11_wishes 68 [some (.ref 0), l1, l2, l3, l4] [] F L Q = if ¬ (F 17 4) = 0 then wt am_S0 d mX11_wishes 90 [some (.ref 0), l1, l2, l3, l4] [] F L Q else wt am_S0 d mX11_wishes 78 [some (.ref 0), l1, l2, l3, l4] [] F L Q := (wt_aload_n dX11_wishes_68 rfl rfl).trans ((wt_getfield dX11_wishes_69 rfl rfl (v := .ref 17) rfl).trans ((wt_getfield dX11_wishes_72 rfl rfl (v := .int (F 17 4)) rfl).trans (wt_ifCond_ne dX11_wishes_75 (t := 90) rfl)))
set_option maxHeartbeats 100000 in
theorem kX11_wishes_78 {d : Nat} {F : am_FT} {L : am_LT} {Q : am_QT} {l0 l1 l2 l4 : Option Value} {x3 : Int32} : wt am_S0 d mX11_wishes 78 [l0, l1, l2, some (.int x3), l4] [] F L Q = if ¬ x3 = 1 then wt am_S0 d mX11_wishes 88 [l0, l1, l2, some (.int x3), l4] [] F L Q else wt am_S0 d mX11_wishes 83 [l0, l1, l2, some (.int x3), l4] [] F L Q := (wt_iload_n dX11_wishes_78 rfl).trans ((wt_iconst dX11_wishes_79 (v := 1) (by decide)).trans (wt_if_icmp_ne dX11_wishes_80 (t := 88) rfl))
set_option maxHeartbeats 100000 in
theorem kX11_wishes_83 {d : Nat} {F : am_FT} {L : am_LT} {Q : am_QT} {l0 l1 l2 l3 l4 : Option Value} : wt am_S0 d mX11_wishes 83 [l0, l1, l2, l3, l4] [] F L Q = wt am_S0 d mX11_wishes 89 [l0, l1, l2, l3, l4] [.int (-2)] F L Q := (wt_bipush dX11_wishes_83 (v := (-2)) (by decide)).trans (wt_goto dX11_wishes_85 (t := 89) rfl)
set_option maxHeartbeats 100000 in
theorem kX11_wishes_88 {d : Nat} {F : am_FT} {L : am_LT} {Q : am_QT} {l0 l1 l2 l3 l4 : Option Value} : wt am_S0 d mX11_wishes 88 [l0, l1, l2, l3, l4] [] F L Q = wt am_S0 d mX11_wishes 89 [l0, l1, l2, l3, l4] [.int 0] F L Q := wt_iconst dX11_wishes_88 (v := 0) (by decide)
set_option maxHeartbeats 100000 in
theorem kX11_wishes_89 {d : Nat} {F : am_FT} {L : am_LT} {Q : am_QT} {l0 l1 l2 l3 l4 : Option Value} {s0 : Int32} : wt am_S0 d mX11_wishes 89 [l0, l1, l2, l3, l4] [.int s0] F L Q = Q (some (.int s0)) F L := wt_ireturn dX11_wishes_89 rfl rfl
set_option maxHeartbeats 100000 in
theorem kX11_wishes_90 {d : Nat} {F : am_FT} {L : am_LT} {Q : am_QT} {l0 l1 l2 l4 : Option Value} {x3 : Int32} : wt am_S0 d mX11_wishes 90 [l0, l1, l2, some (.int x3), l4] [] F L Q = if ¬ x3 = 1 then wt am_S0 d mX11_wishes 105 [l0, l1, l2, some (.int x3), l4] [] F L Q else wt am_S0 d mX11_wishes 95 [l0, l1, l2, some (.int x3), l4] [] F L Q := (wt_iload_n dX11_wishes_90 rfl).trans ((wt_iconst dX11_wishes_91 (v := 1) (by decide)).trans (wt_if_icmp_ne dX11_wishes_92 (t := 105) rfl))
set_option maxHeartbeats 100000 in
theorem kX11_wishes_95 {d : Nat} {F : am_FT} {L : am_LT} {Q : am_QT} {l1 l2 l3 l4 : Option Value} : wt am_S0 d mX11_wishes 95 [some (.ref 0), l1, l2, l3, l4] [] F L Q = wt am_S0 d mX11_wishes 112 [some (.ref 0), l1, l2, l3, l4] [.int (F 17 5)] F L Q := (wt_aload_n dX11_wishes_95 rfl rfl).trans ((wt_getfield dX11_wishes_96 rfl rfl (v := .ref 17) rfl).trans ((wt_getfield dX11_wishes_99 rfl rfl (v := .int (F 17 5)) rfl).trans (wt_goto dX11_wishes_102 (t := 112) rfl)))
set_option maxHeartbeats 100000 in
theorem kX11_wishes_105 {d : Nat} {F : am_FT} {L : am_LT} {Q : am_QT} {l1 l2 l3 l4 : Option Value} : wt am_S0 d mX11_wishes 105 [some (.ref 0), l1, l2, l3, l4] [] F L Q = wt am_S0 d mX11_wishes 112 [some (.ref 0), l1, l2, l3, l4] [.int (F 17 6)] F L Q := (wt_aload_n dX11_wishes_105 rfl rfl).trans ((wt_getfield dX11_wishes_106 rfl rfl (v := .ref 17) rfl).trans (wt_getfield dX11_wishes_109 rfl rfl (v := .int (F 17 6)) rfl))
set_option maxHeartbeats 100000 in
theorem kX11_wishes_112 {d : Nat} {F : am_FT} {L : am_LT} {Q : am_QT} {l0 l1 l2 l3 l4 : Option Value} {s0 : Int32} : wt am_S0 d mX11_wishes 112 [l0, l1, l2, l3, l4] [.int s0] F L Q = Q (some (.int s0)) F L := wt_ireturn dX11_wishes_112 rfl rfl
theorem dX11_save_0 : decode mX11_save.2.2.1 0 = .ok (.iload_n 1, 1) := by decide +kernel
theorem dX11_save_1 : decode mX11_save.2.2.1 1 = .ok (.ifCond .lt 38, 3) := by decide +kernel
theorem dX11_save_4 : decode mX11_save.2.2.1 4 = .ok (.aload_n 0, 1) := by decide +kernel
theorem dX11_save_5 : decode mX11_save.2.2.1 5 = .ok (.iload_n 1, 1) := by decide +kernel
theorem dX11_save_6 : decode mX11_save.2.2.1 6 = .ok (.bipush 100, 2) := by decide +kernel
theorem dX11_save_8 : decode mX11_save.2.2.1 8 = .ok (.idiv, 1) := by decide +kernel
theorem dX11_save_9 : decode mX11_save.2.2.1 9 = .ok (.invokevirtual 255, 3) := by decide +kernel
theorem dX11_save_12 : decode mX11_save.2.2.1 12 = .ok (.ifCond .eq 27, 3) := by decide +kernel
theorem dX11_save_15 : decode mX11_save.2.2.1 15 = .ok (.aload_n 0, 1) := by decide +kernel
theorem dX11_save_16 : decode mX11_save.2.2.1 16 = .ok (.getfield 12, 3) := by decide +kernel
theorem dX11_save_19 : decode mX11_save.2.2.1 19 = .ok (.iload_n 1, 1) := by decide +kernel
theorem dX11_save_20 : decode mX11_save.2.2.1 20 = .ok (.bipush 100, 2) := by decide +kernel
theorem dX11_save_22 : decode mX11_save.2.2.1 22 = .ok (.irem, 1) := by decide +kernel
theorem dX11_save_23 : decode mX11_save.2.2.1 23 = .ok (.iconst 4, 1) := by decide +kernel
theorem dX11_save_24 : decode mX11_save.2.2.1 24 = .ok (.invokevirtual 146, 3) := by decide +kernel
theorem dX11_save_27 : decode mX11_save.2.2.1 27 = .ok (.ifCond .eq 12, 3) := by decide +kernel
theorem dX11_save_30 : decode mX11_save.2.2.1 30 = .ok (.iload_n 2, 1) := by decide +kernel
theorem dX11_save_31 : decode mX11_save.2.2.1 31 = .ok (.iconst 0, 1) := by decide +kernel
theorem dX11_save_32 : decode mX11_save.2.2.1 32 = .ok (.iconst 1, 1) := by decide +kernel
theorem dX11_save_33 : decode mX11_save.2.2.1 33 = .ok (.invokestatic 117, 3) := by decide +kernel
theorem dX11_save_36 : decode mX11_save.2.2.1 36 = .ok (.ifCond .ne 5, 3) := by decide +kernel
theorem dX11_save_39 : decode mX11_save.2.2.1 39 = .ok (.iconst (-1), 1) := by decide +kernel
theorem dX11_save_40 : decode mX11_save.2.2.1 40 = .ok (.ireturn, 1) := by decide +kernel
theorem dX11_save_41 : decode mX11_save.2.2.1 41 = .ok (.aload_n 0, 1) := by decide +kernel
theorem dX11_save_42 : decode mX11_save.2.2.1 42 = .ok (.getfield 44, 3) := by decide +kernel
theorem dX11_save_45 : decode mX11_save.2.2.1 45 = .ok (.iload_n 1, 1) := by decide +kernel
theorem dX11_save_46 : decode mX11_save.2.2.1 46 = .ok (.bipush 100, 2) := by decide +kernel
theorem dX11_save_48 : decode mX11_save.2.2.1 48 = .ok (.idiv, 1) := by decide +kernel
theorem dX11_save_49 : decode mX11_save.2.2.1 49 = .ok (.iload_n 1, 1) := by decide +kernel
theorem dX11_save_50 : decode mX11_save.2.2.1 50 = .ok (.bipush 100, 2) := by decide +kernel
theorem dX11_save_52 : decode mX11_save.2.2.1 52 = .ok (.irem, 1) := by decide +kernel
theorem dX11_save_53 : decode mX11_save.2.2.1 53 = .ok (.invokevirtual 288, 3) := by decide +kernel
theorem dX11_save_56 : decode mX11_save.2.2.1 56 = .ok (.iload_n 2, 1) := by decide +kernel
theorem dX11_save_57 : decode mX11_save.2.2.1 57 = .ok (.ifCond .ne 13, 3) := by decide +kernel
theorem dX11_save_60 : decode mX11_save.2.2.1 60 = .ok (.aload_n 0, 1) := by decide +kernel
theorem dX11_save_61 : decode mX11_save.2.2.1 61 = .ok (.getfield 44, 3) := by decide +kernel
theorem dX11_save_64 : decode mX11_save.2.2.1 64 = .ok (.getfield 291, 3) := by decide +kernel
theorem dX11_save_67 : decode mX11_save.2.2.1 67 = .ok (.goto 10, 3) := by decide +kernel
theorem dX11_save_70 : decode mX11_save.2.2.1 70 = .ok (.aload_n 0, 1) := by decide +kernel
theorem dX11_save_71 : decode mX11_save.2.2.1 71 = .ok (.getfield 44, 3) := by decide +kernel
theorem dX11_save_74 : decode mX11_save.2.2.1 74 = .ok (.getfield 294, 3) := by decide +kernel
theorem dX11_save_77 : decode mX11_save.2.2.1 77 = .ok (.ireturn, 1) := by decide +kernel
set_option maxHeartbeats 100000 in
theorem kX11_save_0 {d : Nat} {F : am_FT} {L : am_LT} {Q : am_QT} {l0 l2 : Option Value} {x1 : Int32} : wt am_S0 d mX11_save 0 [l0, some (.int x1), l2] [] F L Q = if x1 < 0 then wt am_S0 d mX11_save 39 [l0, some (.int x1), l2] [] F L Q else wt am_S0 d mX11_save 4 [l0, some (.int x1), l2] [] F L Q := (wt_iload_n dX11_save_0 rfl).trans (wt_ifCond_lt dX11_save_1 (t := 39) rfl)
set_option maxHeartbeats 100000 in
theorem kX11_save_4 {d : Nat} {F : am_FT} {L : am_LT} {Q : am_QT} {l2 : Option Value} {x1 : Int32} : wt am_S0 (d + 1) mX11_save 4 [some (.ref 0), some (.int x1), l2] [] F L Q = wc am_S0 d mX11_isTree [.ref 0, .int (x1 / 100)] F L (fun r G K => wt am_S0 (d + 1) mX11_save 12 [some (.ref 0), some (.int x1), l2] (r.toList ++ []) G K Q) := (wt_aload_n dX11_save_4 rfl rfl).trans ((wt_iload_n dX11_save_5 rfl).trans ((wt_bipush dX11_save_6 (v := 100) (by decide)).trans ((wt_idiv dX11_save_8 (by decide)).trans (wt_callV dX11_save_9 rfl (as := [.int (x1 / 100)]) (rest := []) rfl rfl (Nat.le_of_ble_eq_true rfl) rfl (Nat.le_of_ble_eq_true rfl)))))
set_option maxHeartbeats 100000 in
theorem kX11_save_12 {d : Nat} {F : am_FT} {L : am_LT} {Q : am_QT} {l0 l1 l2 : Option Value} {s0 : Int32} : wt am_S0 d mX11_save 12 [l0, l1, l2] [.int s0] F L Q = if s0 = 0 then wt am_S0 d mX11_save 39 [l0, l1, l2] [] F L Q else wt am_S0 d mX11_save 15 [l0, l1, l2] [] F L Q := wt_ifCond_eq dX11_save_12 (t := 39) rfl
set_option maxHeartbeats 100000 in
theorem kX11_save_15 {d : Nat} {F : am_FT} {L : am_LT} {Q : am_QT} {l2 : Option Value} {x1 : Int32} : wt am_S0 (d + 1) mX11_save 15 [some (.ref 0), some (.int x1), l2] [] F L Q = wc am_S0 d mX5_has [.ref 1, .int (x1 - x1 / 100 * 100), .int 4] F L (fun r G K => wt am_S0 (d + 1) mX11_save 27 [some (.ref 0), some (.int x1), l2] (r.toList ++ []) G K Q) := (wt_aload_n dX11_save_15 rfl rfl).trans ((wt_getfield dX11_save_16 rfl rfl (v := .ref 1) rfl).trans ((wt_iload_n dX11_save_19 rfl).trans ((wt_bipush dX11_save_20 (v := 100) (by decide)).trans ((wt_irem dX11_save_22 (by decide)).trans ((wt_iconst dX11_save_23 (v := 4) (by decide)).trans (wt_callV dX11_save_24 rfl (as := [.int (x1 - x1 / 100 * 100), .int 4]) (rest := []) rfl rfl (Nat.le_of_ble_eq_true rfl) rfl (Nat.le_of_ble_eq_true rfl)))))))
set_option maxHeartbeats 100000 in
theorem kX11_save_27 {d : Nat} {F : am_FT} {L : am_LT} {Q : am_QT} {l0 l1 l2 : Option Value} {s0 : Int32} : wt am_S0 d mX11_save 27 [l0, l1, l2] [.int s0] F L Q = if s0 = 0 then wt am_S0 d mX11_save 39 [l0, l1, l2] [] F L Q else wt am_S0 d mX11_save 30 [l0, l1, l2] [] F L Q := wt_ifCond_eq dX11_save_27 (t := 39) rfl
set_option maxHeartbeats 100000 in
theorem kX11_save_30 {d : Nat} {F : am_FT} {L : am_LT} {Q : am_QT} {l0 l1 : Option Value} {x2 : Int32} : wt am_S0 (d + 1) mX11_save 30 [l0, l1, some (.int x2)] [] F L Q = wc am_S0 d mX11_within [.int x2, .int 0, .int 1] F L (fun r G K => wt am_S0 (d + 1) mX11_save 36 [l0, l1, some (.int x2)] (r.toList ++ []) G K Q) := (wt_iload_n dX11_save_30 rfl).trans ((wt_iconst dX11_save_31 (v := 0) (by decide)).trans ((wt_iconst dX11_save_32 (v := 1) (by decide)).trans (wt_callS dX11_save_33 rfl (as := [.int x2, .int 0, .int 1]) (rest := []) rfl rfl (Nat.le_of_ble_eq_true rfl) (Nat.le_of_ble_eq_true rfl))))
set_option maxHeartbeats 100000 in
theorem kX11_save_36 {d : Nat} {F : am_FT} {L : am_LT} {Q : am_QT} {l0 l1 l2 : Option Value} {s0 : Int32} : wt am_S0 d mX11_save 36 [l0, l1, l2] [.int s0] F L Q = if ¬ s0 = 0 then wt am_S0 d mX11_save 41 [l0, l1, l2] [] F L Q else wt am_S0 d mX11_save 39 [l0, l1, l2] [] F L Q := wt_ifCond_ne dX11_save_36 (t := 41) rfl
set_option maxHeartbeats 100000 in
theorem kX11_save_39 {d : Nat} {F : am_FT} {L : am_LT} {Q : am_QT} {l0 l1 l2 : Option Value} : wt am_S0 d mX11_save 39 [l0, l1, l2] [] F L Q = Q (some (.int (-1))) F L := (wt_iconst dX11_save_39 (v := (-1)) (by decide)).trans (wt_ireturn dX11_save_40 rfl rfl)
set_option maxHeartbeats 100000 in
theorem kX11_save_41 {d : Nat} {F : am_FT} {L : am_LT} {Q : am_QT} {l2 : Option Value} {x1 : Int32} : wt am_S0 (d + 1) mX11_save 41 [some (.ref 0), some (.int x1), l2] [] F L Q = wc am_S0 d mX9_findSeat [.ref 12, .int (x1 / 100), .int (x1 - x1 / 100 * 100)] F L (fun r G K => wt am_S0 (d + 1) mX11_save 56 [some (.ref 0), some (.int x1), l2] (r.toList ++ []) G K Q) := (wt_aload_n dX11_save_41 rfl rfl).trans ((wt_getfield dX11_save_42 rfl rfl (v := .ref 12) rfl).trans ((wt_iload_n dX11_save_45 rfl).trans ((wt_bipush dX11_save_46 (v := 100) (by decide)).trans ((wt_idiv dX11_save_48 (by decide)).trans ((wt_iload_n dX11_save_49 rfl).trans ((wt_bipush dX11_save_50 (v := 100) (by decide)).trans ((wt_irem dX11_save_52 (by decide)).trans (wt_callV dX11_save_53 rfl (as := [.int (x1 / 100), .int (x1 - x1 / 100 * 100)]) (rest := []) rfl rfl (Nat.le_of_ble_eq_true rfl) rfl (Nat.le_of_ble_eq_true rfl)))))))))
set_option maxHeartbeats 100000 in
theorem kX11_save_56 {d : Nat} {F : am_FT} {L : am_LT} {Q : am_QT} {l0 l1 : Option Value} {x2 : Int32} : wt am_S0 d mX11_save 56 [l0, l1, some (.int x2)] [] F L Q = if ¬ x2 = 0 then wt am_S0 d mX11_save 70 [l0, l1, some (.int x2)] [] F L Q else wt am_S0 d mX11_save 60 [l0, l1, some (.int x2)] [] F L Q := (wt_iload_n dX11_save_56 rfl).trans (wt_ifCond_ne dX11_save_57 (t := 70) rfl)
set_option maxHeartbeats 100000 in
theorem kX11_save_60 {d : Nat} {F : am_FT} {L : am_LT} {Q : am_QT} {l1 l2 : Option Value} : wt am_S0 d mX11_save 60 [some (.ref 0), l1, l2] [] F L Q = wt am_S0 d mX11_save 77 [some (.ref 0), l1, l2] [.int (F 12 3)] F L Q := (wt_aload_n dX11_save_60 rfl rfl).trans ((wt_getfield dX11_save_61 rfl rfl (v := .ref 12) rfl).trans ((wt_getfield dX11_save_64 rfl rfl (v := .int (F 12 3)) rfl).trans (wt_goto dX11_save_67 (t := 77) rfl)))
set_option maxHeartbeats 100000 in
theorem kX11_save_70 {d : Nat} {F : am_FT} {L : am_LT} {Q : am_QT} {l1 l2 : Option Value} : wt am_S0 d mX11_save 70 [some (.ref 0), l1, l2] [] F L Q = wt am_S0 d mX11_save 77 [some (.ref 0), l1, l2] [.int (F 12 4)] F L Q := (wt_aload_n dX11_save_70 rfl rfl).trans ((wt_getfield dX11_save_71 rfl rfl (v := .ref 12) rfl).trans (wt_getfield dX11_save_74 rfl rfl (v := .int (F 12 4)) rfl))
set_option maxHeartbeats 100000 in
theorem kX11_save_77 {d : Nat} {F : am_FT} {L : am_LT} {Q : am_QT} {l0 l1 l2 : Option Value} {s0 : Int32} : wt am_S0 d mX11_save 77 [l0, l1, l2] [.int s0] F L Q = Q (some (.int s0)) F L := wt_ireturn dX11_save_77 rfl rfl
theorem dX11_alike_0 : decode mX11_alike.2.2.1 0 = .ok (.iload_n 1, 1) := by decide +kernel
theorem dX11_alike_1 : decode mX11_alike.2.2.1 1 = .ok (.ifCond .lt 33, 3) := by decide +kernel
theorem dX11_alike_4 : decode mX11_alike.2.2.1 4 = .ok (.aload_n 0, 1) := by decide +kernel
theorem dX11_alike_5 : decode mX11_alike.2.2.1 5 = .ok (.iload_n 1, 1) := by decide +kernel
theorem dX11_alike_6 : decode mX11_alike.2.2.1 6 = .ok (.bipush 10, 2) := by decide +kernel
theorem dX11_alike_8 : decode mX11_alike.2.2.1 8 = .ok (.idiv, 1) := by decide +kernel
theorem dX11_alike_9 : decode mX11_alike.2.2.1 9 = .ok (.invokevirtual 255, 3) := by decide +kernel
theorem dX11_alike_12 : decode mX11_alike.2.2.1 12 = .ok (.ifCond .eq 22, 3) := by decide +kernel
theorem dX11_alike_15 : decode mX11_alike.2.2.1 15 = .ok (.aload_n 0, 1) := by decide +kernel
theorem dX11_alike_16 : decode mX11_alike.2.2.1 16 = .ok (.iload_n 1, 1) := by decide +kernel
theorem dX11_alike_17 : decode mX11_alike.2.2.1 17 = .ok (.bipush 10, 2) := by decide +kernel
theorem dX11_alike_19 : decode mX11_alike.2.2.1 19 = .ok (.irem, 1) := by decide +kernel
theorem dX11_alike_20 : decode mX11_alike.2.2.1 20 = .ok (.invokevirtual 255, 3) := by decide +kernel
theorem dX11_alike_23 : decode mX11_alike.2.2.1 23 = .ok (.ifCond .eq 11, 3) := by decide +kernel
theorem dX11_alike_26 : decode mX11_alike.2.2.1 26 = .ok (.aload_n 0, 1) := by decide +kernel
theorem dX11_alike_27 : decode mX11_alike.2.2.1 27 = .ok (.iload_n 2, 1) := by decide +kernel
theorem dX11_alike_28 : decode mX11_alike.2.2.1 28 = .ok (.invokevirtual 215, 3) := by decide +kernel
theorem dX11_alike_31 : decode mX11_alike.2.2.1 31 = .ok (.ifCond .ne 5, 3) := by decide +kernel
theorem dX11_alike_34 : decode mX11_alike.2.2.1 34 = .ok (.iconst (-1), 1) := by decide +kernel
theorem dX11_alike_35 : decode mX11_alike.2.2.1 35 = .ok (.ireturn, 1) := by decide +kernel
theorem dX11_alike_36 : decode mX11_alike.2.2.1 36 = .ok (.aload_n 0, 1) := by decide +kernel
theorem dX11_alike_37 : decode mX11_alike.2.2.1 37 = .ok (.getfield 44, 3) := by decide +kernel
theorem dX11_alike_40 : decode mX11_alike.2.2.1 40 = .ok (.iload_n 1, 1) := by decide +kernel
theorem dX11_alike_41 : decode mX11_alike.2.2.1 41 = .ok (.bipush 10, 2) := by decide +kernel
theorem dX11_alike_43 : decode mX11_alike.2.2.1 43 = .ok (.idiv, 1) := by decide +kernel
theorem dX11_alike_44 : decode mX11_alike.2.2.1 44 = .ok (.iload_n 1, 1) := by decide +kernel
theorem dX11_alike_45 : decode mX11_alike.2.2.1 45 = .ok (.bipush 10, 2) := by decide +kernel
theorem dX11_alike_47 : decode mX11_alike.2.2.1 47 = .ok (.irem, 1) := by decide +kernel
theorem dX11_alike_48 : decode mX11_alike.2.2.1 48 = .ok (.iload_n 2, 1) := by decide +kernel
theorem dX11_alike_49 : decode mX11_alike.2.2.1 49 = .ok (.invokevirtual 297, 3) := by decide +kernel
theorem dX11_alike_52 : decode mX11_alike.2.2.1 52 = .ok (.ifCond .eq 7, 3) := by decide +kernel
theorem dX11_alike_55 : decode mX11_alike.2.2.1 55 = .ok (.iconst 1, 1) := by decide +kernel
theorem dX11_alike_56 : decode mX11_alike.2.2.1 56 = .ok (.goto 4, 3) := by decide +kernel
theorem dX11_alike_59 : decode mX11_alike.2.2.1 59 = .ok (.iconst 0, 1) := by decide +kernel
theorem dX11_alike_60 : decode mX11_alike.2.2.1 60 = .ok (.ireturn, 1) := by decide +kernel
set_option maxHeartbeats 100000 in
theorem kX11_alike_0 {d : Nat} {F : am_FT} {L : am_LT} {Q : am_QT} {l0 l2 : Option Value} {x1 : Int32} : wt am_S0 d mX11_alike 0 [l0, some (.int x1), l2] [] F L Q = if x1 < 0 then wt am_S0 d mX11_alike 34 [l0, some (.int x1), l2] [] F L Q else wt am_S0 d mX11_alike 4 [l0, some (.int x1), l2] [] F L Q := (wt_iload_n dX11_alike_0 rfl).trans (wt_ifCond_lt dX11_alike_1 (t := 34) rfl)
set_option maxHeartbeats 100000 in
theorem kX11_alike_4 {d : Nat} {F : am_FT} {L : am_LT} {Q : am_QT} {l2 : Option Value} {x1 : Int32} : wt am_S0 (d + 1) mX11_alike 4 [some (.ref 0), some (.int x1), l2] [] F L Q = wc am_S0 d mX11_isTree [.ref 0, .int (x1 / 10)] F L (fun r G K => wt am_S0 (d + 1) mX11_alike 12 [some (.ref 0), some (.int x1), l2] (r.toList ++ []) G K Q) := (wt_aload_n dX11_alike_4 rfl rfl).trans ((wt_iload_n dX11_alike_5 rfl).trans ((wt_bipush dX11_alike_6 (v := 10) (by decide)).trans ((wt_idiv dX11_alike_8 (by decide)).trans (wt_callV dX11_alike_9 rfl (as := [.int (x1 / 10)]) (rest := []) rfl rfl (Nat.le_of_ble_eq_true rfl) rfl (Nat.le_of_ble_eq_true rfl)))))
set_option maxHeartbeats 100000 in
theorem kX11_alike_12 {d : Nat} {F : am_FT} {L : am_LT} {Q : am_QT} {l0 l1 l2 : Option Value} {s0 : Int32} : wt am_S0 d mX11_alike 12 [l0, l1, l2] [.int s0] F L Q = if s0 = 0 then wt am_S0 d mX11_alike 34 [l0, l1, l2] [] F L Q else wt am_S0 d mX11_alike 15 [l0, l1, l2] [] F L Q := wt_ifCond_eq dX11_alike_12 (t := 34) rfl
set_option maxHeartbeats 100000 in
theorem kX11_alike_15 {d : Nat} {F : am_FT} {L : am_LT} {Q : am_QT} {l2 : Option Value} {x1 : Int32} : wt am_S0 (d + 1) mX11_alike 15 [some (.ref 0), some (.int x1), l2] [] F L Q = wc am_S0 d mX11_isTree [.ref 0, .int (x1 - x1 / 10 * 10)] F L (fun r G K => wt am_S0 (d + 1) mX11_alike 23 [some (.ref 0), some (.int x1), l2] (r.toList ++ []) G K Q) := (wt_aload_n dX11_alike_15 rfl rfl).trans ((wt_iload_n dX11_alike_16 rfl).trans ((wt_bipush dX11_alike_17 (v := 10) (by decide)).trans ((wt_irem dX11_alike_19 (by decide)).trans (wt_callV dX11_alike_20 rfl (as := [.int (x1 - x1 / 10 * 10)]) (rest := []) rfl rfl (Nat.le_of_ble_eq_true rfl) rfl (Nat.le_of_ble_eq_true rfl)))))
set_option maxHeartbeats 100000 in
theorem kX11_alike_23 {d : Nat} {F : am_FT} {L : am_LT} {Q : am_QT} {l0 l1 l2 : Option Value} {s0 : Int32} : wt am_S0 d mX11_alike 23 [l0, l1, l2] [.int s0] F L Q = if s0 = 0 then wt am_S0 d mX11_alike 34 [l0, l1, l2] [] F L Q else wt am_S0 d mX11_alike 26 [l0, l1, l2] [] F L Q := wt_ifCond_eq dX11_alike_23 (t := 34) rfl
set_option maxHeartbeats 100000 in
theorem kX11_alike_26 {d : Nat} {F : am_FT} {L : am_LT} {Q : am_QT} {l1 : Option Value} {x2 : Int32} : wt am_S0 (d + 1) mX11_alike 26 [some (.ref 0), l1, some (.int x2)] [] F L Q = wc am_S0 d mX11_isMonth [.ref 0, .int x2] F L (fun r G K => wt am_S0 (d + 1) mX11_alike 31 [some (.ref 0), l1, some (.int x2)] (r.toList ++ []) G K Q) := (wt_aload_n dX11_alike_26 rfl rfl).trans ((wt_iload_n dX11_alike_27 rfl).trans (wt_callV dX11_alike_28 rfl (as := [.int x2]) (rest := []) rfl rfl (Nat.le_of_ble_eq_true rfl) rfl (Nat.le_of_ble_eq_true rfl)))
set_option maxHeartbeats 100000 in
theorem kX11_alike_31 {d : Nat} {F : am_FT} {L : am_LT} {Q : am_QT} {l0 l1 l2 : Option Value} {s0 : Int32} : wt am_S0 d mX11_alike 31 [l0, l1, l2] [.int s0] F L Q = if ¬ s0 = 0 then wt am_S0 d mX11_alike 36 [l0, l1, l2] [] F L Q else wt am_S0 d mX11_alike 34 [l0, l1, l2] [] F L Q := wt_ifCond_ne dX11_alike_31 (t := 36) rfl
set_option maxHeartbeats 100000 in
theorem kX11_alike_34 {d : Nat} {F : am_FT} {L : am_LT} {Q : am_QT} {l0 l1 l2 : Option Value} : wt am_S0 d mX11_alike 34 [l0, l1, l2] [] F L Q = Q (some (.int (-1))) F L := (wt_iconst dX11_alike_34 (v := (-1)) (by decide)).trans (wt_ireturn dX11_alike_35 rfl rfl)
set_option maxHeartbeats 100000 in
theorem kX11_alike_36 {d : Nat} {F : am_FT} {L : am_LT} {Q : am_QT} {x1 x2 : Int32} : wt am_S0 (d + 1) mX11_alike 36 [some (.ref 0), some (.int x1), some (.int x2)] [] F L Q = wc am_S0 d mX9_sameShade [.ref 12, .int (x1 / 10), .int (x1 - x1 / 10 * 10), .int x2] F L (fun r G K => wt am_S0 (d + 1) mX11_alike 52 [some (.ref 0), some (.int x1), some (.int x2)] (r.toList ++ []) G K Q) := (wt_aload_n dX11_alike_36 rfl rfl).trans ((wt_getfield dX11_alike_37 rfl rfl (v := .ref 12) rfl).trans ((wt_iload_n dX11_alike_40 rfl).trans ((wt_bipush dX11_alike_41 (v := 10) (by decide)).trans ((wt_idiv dX11_alike_43 (by decide)).trans ((wt_iload_n dX11_alike_44 rfl).trans ((wt_bipush dX11_alike_45 (v := 10) (by decide)).trans ((wt_irem dX11_alike_47 (by decide)).trans ((wt_iload_n dX11_alike_48 rfl).trans (wt_callV dX11_alike_49 rfl (as := [.int (x1 / 10), .int (x1 - x1 / 10 * 10), .int x2]) (rest := []) rfl rfl (Nat.le_of_ble_eq_true rfl) rfl (Nat.le_of_ble_eq_true rfl))))))))))
set_option maxHeartbeats 100000 in
theorem kX11_alike_52 {d : Nat} {F : am_FT} {L : am_LT} {Q : am_QT} {l0 l1 l2 : Option Value} {s0 : Int32} : wt am_S0 d mX11_alike 52 [l0, l1, l2] [.int s0] F L Q = if s0 = 0 then wt am_S0 d mX11_alike 59 [l0, l1, l2] [] F L Q else wt am_S0 d mX11_alike 55 [l0, l1, l2] [] F L Q := wt_ifCond_eq dX11_alike_52 (t := 59) rfl
set_option maxHeartbeats 100000 in
theorem kX11_alike_55 {d : Nat} {F : am_FT} {L : am_LT} {Q : am_QT} {l0 l1 l2 : Option Value} : wt am_S0 d mX11_alike 55 [l0, l1, l2] [] F L Q = wt am_S0 d mX11_alike 60 [l0, l1, l2] [.int 1] F L Q := (wt_iconst dX11_alike_55 (v := 1) (by decide)).trans (wt_goto dX11_alike_56 (t := 60) rfl)
set_option maxHeartbeats 100000 in
theorem kX11_alike_59 {d : Nat} {F : am_FT} {L : am_LT} {Q : am_QT} {l0 l1 l2 : Option Value} : wt am_S0 d mX11_alike 59 [l0, l1, l2] [] F L Q = wt am_S0 d mX11_alike 60 [l0, l1, l2] [.int 0] F L Q := wt_iconst dX11_alike_59 (v := 0) (by decide)
set_option maxHeartbeats 100000 in
theorem kX11_alike_60 {d : Nat} {F : am_FT} {L : am_LT} {Q : am_QT} {l0 l1 l2 : Option Value} {s0 : Int32} : wt am_S0 d mX11_alike 60 [l0, l1, l2] [.int s0] F L Q = Q (some (.int s0)) F L := wt_ireturn dX11_alike_60 rfl rfl
