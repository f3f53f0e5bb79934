theorem dX11_drawn_0 : decode mX11_drawn.2.2.1 0 = .ok (.iload_n 2, 1) := by decide +kernel
theorem dX11_drawn_1 : decode mX11_drawn.2.2.1 1 = .ok (.ifCond .lt 29, 3) := by decide +kernel
theorem dX11_drawn_4 : decode mX11_drawn.2.2.1 4 = .ok (.iload_n 2, 1) := by decide +kernel
theorem dX11_drawn_5 : decode mX11_drawn.2.2.1 5 = .ok (.bipush 100, 2) := by decide +kernel
theorem dX11_drawn_7 : decode mX11_drawn.2.2.1 7 = .ok (.idiv, 1) := by decide +kernel
theorem dX11_drawn_8 : decode mX11_drawn.2.2.1 8 = .ok (.iconst 1, 1) := by decide +kernel
theorem dX11_drawn_9 : decode mX11_drawn.2.2.1 9 = .ok (.bipush 30, 2) := by decide +kernel
theorem dX11_drawn_11 : decode mX11_drawn.2.2.1 11 = .ok (.invokestatic 117, 3) := by decide +kernel
theorem dX11_drawn_14 : decode mX11_drawn.2.2.1 14 = .ok (.ifCond .eq 16, 3) := by decide +kernel
theorem dX11_drawn_17 : decode mX11_drawn.2.2.1 17 = .ok (.iload_n 2, 1) := by decide +kernel
theorem dX11_drawn_18 : decode mX11_drawn.2.2.1 18 = .ok (.bipush 100, 2) := by decide +kernel
theorem dX11_drawn_20 : decode mX11_drawn.2.2.1 20 = .ok (.irem, 1) := by decide +kernel
theorem dX11_drawn_21 : decode mX11_drawn.2.2.1 21 = .ok (.iconst 0, 1) := by decide +kernel
theorem dX11_drawn_22 : decode mX11_drawn.2.2.1 22 = .ok (.bipush 12, 2) := by decide +kernel
theorem dX11_drawn_24 : decode mX11_drawn.2.2.1 24 = .ok (.invokestatic 117, 3) := by decide +kernel
theorem dX11_drawn_27 : decode mX11_drawn.2.2.1 27 = .ok (.ifCond .ne 5, 3) := by decide +kernel
theorem dX11_drawn_30 : decode mX11_drawn.2.2.1 30 = .ok (.iconst (-1), 1) := by decide +kernel
theorem dX11_drawn_31 : decode mX11_drawn.2.2.1 31 = .ok (.ireturn, 1) := by decide +kernel
theorem dX11_drawn_32 : decode mX11_drawn.2.2.1 32 = .ok (.iload_n 3, 1) := by decide +kernel
theorem dX11_drawn_33 : decode mX11_drawn.2.2.1 33 = .ok (.iconst (-1), 1) := by decide +kernel
theorem dX11_drawn_34 : decode mX11_drawn.2.2.1 34 = .ok (.if_icmp .eq 13, 3) := by decide +kernel
theorem dX11_drawn_37 : decode mX11_drawn.2.2.1 37 = .ok (.aload_n 0, 1) := by decide +kernel
theorem dX11_drawn_38 : decode mX11_drawn.2.2.1 38 = .ok (.iload_n 3, 1) := by decide +kernel
theorem dX11_drawn_39 : decode mX11_drawn.2.2.1 39 = .ok (.invokevirtual 255, 3) := by decide +kernel
theorem dX11_drawn_42 : decode mX11_drawn.2.2.1 42 = .ok (.ifCond .ne 5, 3) := by decide +kernel
theorem dX11_drawn_45 : decode mX11_drawn.2.2.1 45 = .ok (.iconst (-1), 1) := by decide +kernel
theorem dX11_drawn_46 : decode mX11_drawn.2.2.1 46 = .ok (.ireturn, 1) := by decide +kernel
theorem dX11_drawn_47 : decode mX11_drawn.2.2.1 47 = .ok (.aload_n 0, 1) := by decide +kernel
theorem dX11_drawn_48 : decode mX11_drawn.2.2.1 48 = .ok (.getfield 44, 3) := by decide +kernel
theorem dX11_drawn_51 : decode mX11_drawn.2.2.1 51 = .ok (.iload_n 1, 1) := by decide +kernel
theorem dX11_drawn_52 : decode mX11_drawn.2.2.1 52 = .ok (.iload_n 2, 1) := by decide +kernel
theorem dX11_drawn_53 : decode mX11_drawn.2.2.1 53 = .ok (.bipush 100, 2) := by decide +kernel
theorem dX11_drawn_55 : decode mX11_drawn.2.2.1 55 = .ok (.idiv, 1) := by decide +kernel
theorem dX11_drawn_56 : decode mX11_drawn.2.2.1 56 = .ok (.iload_n 2, 1) := by decide +kernel
theorem dX11_drawn_57 : decode mX11_drawn.2.2.1 57 = .ok (.bipush 100, 2) := by decide +kernel
theorem dX11_drawn_59 : decode mX11_drawn.2.2.1 59 = .ok (.irem, 1) := by decide +kernel
theorem dX11_drawn_60 : decode mX11_drawn.2.2.1 60 = .ok (.iload_n 3, 1) := by decide +kernel
theorem dX11_drawn_61 : decode mX11_drawn.2.2.1 61 = .ok (.invokevirtual 300, 3) := by decide +kernel
theorem dX11_drawn_64 : decode mX11_drawn.2.2.1 64 = .ok (.ireturn, 1) := by decide +kernel
set_option maxHeartbeats 100000 in
theorem kX11_drawn_0 {d : Nat} {F : am_FT} {L : am_LT} {Q : am_QT} {l0 l1 l3 : Option Value} {x2 : Int32} : wt am_S0 d mX11_drawn 0 [l0, l1, some (.int x2), l3] [] F L Q = if x2 < 0 then wt am_S0 d mX11_drawn 30 [l0, l1, some (.int x2), l3] [] F L Q else wt am_S0 d mX11_drawn 4 [l0, l1, some (.int x2), l3] [] F L Q := (wt_iload_n dX11_drawn_0 rfl).trans (wt_ifCond_lt dX11_drawn_1 (t := 30) rfl)
set_option maxHeartbeats 100000 in
theorem kX11_drawn_4 {d : Nat} {F : am_FT} {L : am_LT} {Q : am_QT} {l0 l1 l3 : Option Value} {x2 : Int32} : wt am_S0 (d + 1) mX11_drawn 4 [l0, l1, some (.int x2), l3] [] F L Q = wc am_S0 d mX11_within [.int (x2 / 100), .int 1, .int 30] F L (fun r G K => wt am_S0 (d + 1) mX11_drawn 14 [l0, l1, some (.int x2), l3] (r.toList ++ []) G K Q) := (wt_iload_n dX11_drawn_4 rfl).trans ((wt_bipush dX11_drawn_5 (v := 100) (by decide)).trans ((wt_idiv dX11_drawn_7 (by decide)).trans ((wt_iconst dX11_drawn_8 (v := 1) (by decide)).trans ((wt_bipush dX11_drawn_9 (v := 30) (by decide)).trans (wt_callS dX11_drawn_11 rfl (as := [.int (x2 / 100), .int 1, .int 30]) (rest := []) rfl rfl (Nat.le_of_ble_eq_true rfl) (Nat.le_of_ble_eq_true rfl))))))
set_option maxHeartbeats 100000 in
theorem kX11_drawn_14 {d : Nat} {F : am_FT} {L : am_LT} {Q : am_QT} {l0 l1 l2 l3 : Option Value} {s0 : Int32} : wt am_S0 d mX11_drawn 14 [l0, l1, l2, l3] [.int s0] F L Q = if s0 = 0 then wt am_S0 d mX11_drawn 30 [l0, l1, l2, l3] [] F L Q else wt am_S0 d mX11_drawn 17 [l0, l1, l2, l3] [] F L Q := wt_ifCond_eq dX11_drawn_14 (t := 30) rfl
set_option maxHeartbeats 100000 in
theorem kX11_drawn_17 {d : Nat} {F : am_FT} {L : am_LT} {Q : am_QT} {l0 l1 l3 : Option Value} {x2 : Int32} : wt am_S0 (d + 1) mX11_drawn 17 [l0, l1, some (.int x2), l3] [] F L Q = wc am_S0 d mX11_within [.int (x2 - x2 / 100 * 100), .int 0, .int 12] F L (fun r G K => wt am_S0 (d + 1) mX11_drawn 27 [l0, l1, some (.int x2), l3] (r.toList ++ []) G K Q) := (wt_iload_n dX11_drawn_17 rfl).trans ((wt_bipush dX11_drawn_18 (v := 100) (by decide)).trans ((wt_irem dX11_drawn_20 (by decide)).trans ((wt_iconst dX11_drawn_21 (v := 0) (by decide)).trans ((wt_bipush dX11_drawn_22 (v := 12) (by decide)).trans (wt_callS dX11_drawn_24 rfl (as := [.int (x2 - x2 / 100 * 100), .int 0, .int 12]) (rest := []) rfl rfl (Nat.le_of_ble_eq_true rfl) (Nat.le_of_ble_eq_true rfl))))))
set_option maxHeartbeats 100000 in
theorem kX11_drawn_27 {d : Nat} {F : am_FT} {L : am_LT} {Q : am_QT} {l0 l1 l2 l3 : Option Value} {s0 : Int32} : wt am_S0 d mX11_drawn 27 [l0, l1, l2, l3] [.int s0] F L Q = if ¬ s0 = 0 then wt am_S0 d mX11_drawn 32 [l0, l1, l2, l3] [] F L Q else wt am_S0 d mX11_drawn 30 [l0, l1, l2, l3] [] F L Q := wt_ifCond_ne dX11_drawn_27 (t := 32) rfl
set_option maxHeartbeats 100000 in
theorem kX11_drawn_30 {d : Nat} {F : am_FT} {L : am_LT} {Q : am_QT} {l0 l1 l2 l3 : Option Value} : wt am_S0 d mX11_drawn 30 [l0, l1, l2, l3] [] F L Q = Q (some (.int (-1))) F L := (wt_iconst dX11_drawn_30 (v := (-1)) (by decide)).trans (wt_ireturn dX11_drawn_31 rfl rfl)
set_option maxHeartbeats 100000 in
theorem kX11_drawn_32 {d : Nat} {F : am_FT} {L : am_LT} {Q : am_QT} {l0 l1 l2 : Option Value} {x3 : Int32} : wt am_S0 d mX11_drawn 32 [l0, l1, l2, some (.int x3)] [] F L Q = if x3 = (-1) then wt am_S0 d mX11_drawn 47 [l0, l1, l2, some (.int x3)] [] F L Q else wt am_S0 d mX11_drawn 37 [l0, l1, l2, some (.int x3)] [] F L Q := (wt_iload_n dX11_drawn_32 rfl).trans ((wt_iconst dX11_drawn_33 (v := (-1)) (by decide)).trans (wt_if_icmp_eq dX11_drawn_34 (t := 47) rfl))
set_option maxHeartbeats 100000 in
theorem kX11_drawn_37 {d : Nat} {F : am_FT} {L : am_LT} {Q : am_QT} {l1 l2 : Option Value} {x3 : Int32} : wt am_S0 (d + 1) mX11_drawn 37 [some (.ref 0), l1, l2, some (.int x3)] [] F L Q = wc am_S0 d mX11_isTree [.ref 0, .int x3] F L (fun r G K => wt am_S0 (d + 1) mX11_drawn 42 [some (.ref 0), l1, l2, some (.int x3)] (r.toList ++ []) G K Q) := (wt_aload_n dX11_drawn_37 rfl rfl).trans ((wt_iload_n dX11_drawn_38 rfl).trans (wt_callV dX11_drawn_39 rfl (as := [.int x3]) (rest := []) rfl rfl (Nat.le_of_ble_eq_true rfl) rfl (Nat.le_of_ble_eq_true rfl)))
set_option maxHeartbeats 100000 in
theorem kX11_drawn_42 {d : Nat} {F : am_FT} {L : am_LT} {Q : am_QT} {l0 l1 l2 l3 : Option Value} {s0 : Int32} : wt am_S0 d mX11_drawn 42 [l0, l1, l2, l3] [.int s0] F L Q = if ¬ s0 = 0 then wt am_S0 d mX11_drawn 47 [l0, l1, l2, l3] [] F L Q else wt am_S0 d mX11_drawn 45 [l0, l1, l2, l3] [] F L Q := wt_ifCond_ne dX11_drawn_42 (t := 47) rfl
set_option maxHeartbeats 100000 in
theorem kX11_drawn_45 {d : Nat} {F : am_FT} {L : am_LT} {Q : am_QT} {l0 l1 l2 l3 : Option Value} : wt am_S0 d mX11_drawn 45 [l0, l1, l2, l3] [] F L Q = Q (some (.int (-1))) F L := (wt_iconst dX11_drawn_45 (v := (-1)) (by decide)).trans (wt_ireturn dX11_drawn_46 rfl rfl)
set_option maxHeartbeats 100000 in
theorem kX11_drawn_47 {d : Nat} {F : am_FT} {L : am_LT} {Q : am_QT} {x1 x2 x3 : Int32} : wt am_S0 (d + 1) mX11_drawn 47 [some (.ref 0), some (.int x1), some (.int x2), some (.int x3)] [] F L Q = wc am_S0 d mX9_drawYears [.ref 12, .int x1, .int (x2 / 100), .int (x2 - x2 / 100 * 100), .int x3] F L (fun r G K => wt am_S0 (d + 1) mX11_drawn 64 [some (.ref 0), some (.int x1), some (.int x2), some (.int x3)] (r.toList ++ []) G K Q) := (wt_aload_n dX11_drawn_47 rfl rfl).trans ((wt_getfield dX11_drawn_48 rfl rfl (v := .ref 12) rfl).trans ((wt_iload_n dX11_drawn_51 rfl).trans ((wt_iload_n dX11_drawn_52 rfl).trans ((wt_bipush dX11_drawn_53 (v := 100) (by decide)).trans ((wt_idiv dX11_drawn_55 (by decide)).trans ((wt_iload_n dX11_drawn_56 rfl).trans ((wt_bipush dX11_drawn_57 (v := 100) (by decide)).trans ((wt_irem dX11_drawn_59 (by decide)).trans ((wt_iload_n dX11_drawn_60 rfl).trans (wt_callV dX11_drawn_61 rfl (as := [.int x1, .int (x2 / 100), .int (x2 - x2 / 100 * 100), .int x3]) (rest := []) rfl rfl (Nat.le_of_ble_eq_true rfl) rfl (Nat.le_of_ble_eq_true rfl)))))))))))
set_option maxHeartbeats 100000 in
theorem kX11_drawn_64 {d : Nat} {F : am_FT} {L : am_LT} {Q : am_QT} {l0 l1 l2 l3 : Option Value} {s0 : Int32} : wt am_S0 d mX11_drawn 64 [l0, l1, l2, l3] [.int s0] F L Q = Q (some (.int s0)) F L := wt_ireturn dX11_drawn_64 rfl rfl
theorem dX11_noon_0 : decode mX11_noon.2.2.1 0 = .ok (.aload_n 0, 1) := by decide +kernel
theorem dX11_noon_1 : decode mX11_noon.2.2.1 1 = .ok (.getfield 44, 3) := by decide +kernel
theorem dX11_noon_4 : decode mX11_noon.2.2.1 4 = .ok (.aload_n 0, 1) := by decide +kernel
theorem dX11_noon_5 : decode mX11_noon.2.2.1 5 = .ok (.getfield 76, 3) := by decide +kernel
theorem dX11_noon_8 : decode mX11_noon.2.2.1 8 = .ok (.iconst 4, 1) := by decide +kernel
theorem dX11_noon_9 : decode mX11_noon.2.2.1 9 = .ok (.invokevirtual 303, 3) := by decide +kernel
theorem dX11_noon_12 : decode mX11_noon.2.2.1 12 = .ok (.invokevirtual 209, 3) := by decide +kernel
theorem dX11_noon_15 : decode mX11_noon.2.2.1 15 = .ok (.istore_n 1, 1) := by decide +kernel
theorem dX11_noon_16 : decode mX11_noon.2.2.1 16 = .ok (.aload_n 0, 1) := by decide +kernel
theorem dX11_noon_17 : decode mX11_noon.2.2.1 17 = .ok (.getfield 76, 3) := by decide +kernel
theorem dX11_noon_20 : decode mX11_noon.2.2.1 20 = .ok (.iload_n 1, 1) := by decide +kernel
theorem dX11_noon_21 : decode mX11_noon.2.2.1 21 = .ok (.invokevirtual 306, 3) := by decide +kernel
theorem dX11_noon_24 : decode mX11_noon.2.2.1 24 = .ok (.iload_n 1, 1) := by decide +kernel
theorem dX11_noon_25 : decode mX11_noon.2.2.1 25 = .ok (.ireturn, 1) := by decide +kernel
set_option maxHeartbeats 100000 in
theorem kX11_noon_0 {d : Nat} {F : am_FT} {L : am_LT} {Q : am_QT} {l1 : Option Value} : wt am_S0 (d + 1) mX11_noon 0 [some (.ref 0), l1] [] F L Q = wc am_S0 d mX3_tell [.ref 18, .int 4] F L (fun r G K => wt am_S0 (d + 1) mX11_noon 12 [some (.ref 0), l1] (r.toList ++ [.ref 12]) G K Q) := (wt_aload_n dX11_noon_0 rfl rfl).trans ((wt_getfield dX11_noon_1 rfl rfl (v := .ref 12) rfl).trans ((wt_aload_n dX11_noon_4 rfl rfl).trans ((wt_getfield dX11_noon_5 rfl rfl (v := .ref 18) rfl).trans ((wt_iconst dX11_noon_8 (v := 4) (by decide)).trans (wt_callV dX11_noon_9 rfl (as := [.int 4]) (rest := [.ref 12]) rfl rfl (Nat.le_of_ble_eq_true rfl) rfl (Nat.le_of_ble_eq_true rfl))))))
set_option maxHeartbeats 100000 in
theorem kX11_noon_12 {d : Nat} {F : am_FT} {L : am_LT} {Q : am_QT} {l0 l1 : Option Value} {s1 : Int32} : wt am_S0 (d + 1) mX11_noon 12 [l0, l1] [.int s1, .ref 12] F L Q = wc am_S0 d mX9_falling [.ref 12, .int s1] F L (fun r G K => wt am_S0 (d + 1) mX11_noon 15 [l0, l1] (r.toList ++ []) G K Q) := wt_callV dX11_noon_12 rfl (as := [.int s1]) (rest := []) rfl rfl (Nat.le_of_ble_eq_true rfl) rfl (Nat.le_of_ble_eq_true rfl)
set_option maxHeartbeats 100000 in
theorem kX11_noon_15 {d : Nat} {F : am_FT} {L : am_LT} {Q : am_QT} {l1 : Option Value} {s0 : Int32} : wt am_S0 (d + 1) mX11_noon 15 [some (.ref 0), l1] [.int s0] F L Q = wc am_S0 d mX3_fell [.ref 18, .int s0] F L (fun r G K => wt am_S0 (d + 1) mX11_noon 24 [some (.ref 0), some (.int s0)] (r.toList ++ []) G K Q) := (wt_istore_n dX11_noon_15 (lv1 := [some (.ref 0), some (.int s0)]) (Nat.le_of_ble_eq_true rfl) rfl).trans ((wt_aload_n dX11_noon_16 rfl rfl).trans ((wt_getfield dX11_noon_17 rfl rfl (v := .ref 18) rfl).trans ((wt_iload_n dX11_noon_20 rfl).trans (wt_callV dX11_noon_21 rfl (as := [.int s0]) (rest := []) rfl rfl (Nat.le_of_ble_eq_true rfl) rfl (Nat.le_of_ble_eq_true rfl)))))
set_option maxHeartbeats 100000 in
theorem kX11_noon_24 {d : Nat} {F : am_FT} {L : am_LT} {Q : am_QT} {l0 : Option Value} {x1 : Int32} : wt am_S0 d mX11_noon 24 [l0, some (.int x1)] [] F L Q = Q (some (.int x1)) F L := (wt_iload_n dX11_noon_24 rfl).trans (wt_ireturn dX11_noon_25 rfl rfl)
theorem dX11_sits_0 : decode mX11_sits.2.2.1 0 = .ok (.aload_n 0, 1) := by decide +kernel
theorem dX11_sits_1 : decode mX11_sits.2.2.1 1 = .ok (.getfield 12, 3) := by decide +kernel
theorem dX11_sits_4 : decode mX11_sits.2.2.1 4 = .ok (.iload_n 1, 1) := by decide +kernel
theorem dX11_sits_5 : decode mX11_sits.2.2.1 5 = .ok (.iconst 4, 1) := by decide +kernel
theorem dX11_sits_6 : decode mX11_sits.2.2.1 6 = .ok (.invokevirtual 146, 3) := by decide +kernel
theorem dX11_sits_9 : decode mX11_sits.2.2.1 9 = .ok (.ifCond .eq 15, 3) := by decide +kernel
theorem dX11_sits_12 : decode mX11_sits.2.2.1 12 = .ok (.aload_n 0, 1) := by decide +kernel
theorem dX11_sits_13 : decode mX11_sits.2.2.1 13 = .ok (.getfield 12, 3) := by decide +kernel
theorem dX11_sits_16 : decode mX11_sits.2.2.1 16 = .ok (.iconst 4, 1) := by decide +kernel
theorem dX11_sits_17 : decode mX11_sits.2.2.1 17 = .ok (.iload_n 2, 1) := by decide +kernel
theorem dX11_sits_18 : decode mX11_sits.2.2.1 18 = .ok (.invokevirtual 101, 3) := by decide +kernel
theorem dX11_sits_21 : decode mX11_sits.2.2.1 21 = .ok (.ifCond .ne 5, 3) := by decide +kernel
theorem dX11_sits_24 : decode mX11_sits.2.2.1 24 = .ok (.iconst (-1), 1) := by decide +kernel
theorem dX11_sits_25 : decode mX11_sits.2.2.1 25 = .ok (.ireturn, 1) := by decide +kernel
theorem dX11_sits_26 : decode mX11_sits.2.2.1 26 = .ok (.aload_n 0, 1) := by decide +kernel
theorem dX11_sits_27 : decode mX11_sits.2.2.1 27 = .ok (.getfield 76, 3) := by decide +kernel
theorem dX11_sits_30 : decode mX11_sits.2.2.1 30 = .ok (.iload_n 1, 1) := by decide +kernel
theorem dX11_sits_31 : decode mX11_sits.2.2.1 31 = .ok (.iload_n 2, 1) := by decide +kernel
theorem dX11_sits_32 : decode mX11_sits.2.2.1 32 = .ok (.invokevirtual 310, 3) := by decide +kernel
theorem dX11_sits_35 : decode mX11_sits.2.2.1 35 = .ok (.ireturn, 1) := by decide +kernel
set_option maxHeartbeats 100000 in
theorem kX11_sits_0 {d : Nat} {F : am_FT} {L : am_LT} {Q : am_QT} {l2 : Option Value} {x1 : Int32} : wt am_S0 (d + 1) mX11_sits 0 [some (.ref 0), some (.int x1), l2] [] F L Q = wc am_S0 d mX5_has [.ref 1, .int x1, .int 4] F L (fun r G K => wt am_S0 (d + 1) mX11_sits 9 [some (.ref 0), some (.int x1), l2] (r.toList ++ []) G K Q) := (wt_aload_n dX11_sits_0 rfl rfl).trans ((wt_getfield dX11_sits_1 rfl rfl (v := .ref 1) rfl).trans ((wt_iload_n dX11_sits_4 rfl).trans ((wt_iconst dX11_sits_5 (v := 4) (by decide)).trans (wt_callV dX11_sits_6 rfl (as := [.int x1, .int 4]) (rest := []) rfl rfl (Nat.le_of_ble_eq_true rfl) rfl (Nat.le_of_ble_eq_true rfl)))))
set_option maxHeartbeats 100000 in
theorem kX11_sits_9 {d : Nat} {F : am_FT} {L : am_LT} {Q : am_QT} {l0 l1 l2 : Option Value} {s0 : Int32} : wt am_S0 d mX11_sits 9 [l0, l1, l2] [.int s0] F L Q = if s0 = 0 then wt am_S0 d mX11_sits 24 [l0, l1, l2] [] F L Q else wt am_S0 d mX11_sits 12 [l0, l1, l2] [] F L Q := wt_ifCond_eq dX11_sits_9 (t := 24) rfl
set_option maxHeartbeats 100000 in
theorem kX11_sits_12 {d : Nat} {F : am_FT} {L : am_LT} {Q : am_QT} {l1 : Option Value} {x2 : Int32} : wt am_S0 (d + 1) mX11_sits 12 [some (.ref 0), l1, some (.int x2)] [] F L Q = wc am_S0 d mX5_fits [.ref 1, .int 4, .int x2] F L (fun r G K => wt am_S0 (d + 1) mX11_sits 21 [some (.ref 0), l1, some (.int x2)] (r.toList ++ []) G K Q) := (wt_aload_n dX11_sits_12 rfl rfl).trans ((wt_getfield dX11_sits_13 rfl rfl (v := .ref 1) rfl).trans ((wt_iconst dX11_sits_16 (v := 4) (by decide)).trans ((wt_iload_n dX11_sits_17 rfl).trans (wt_callV dX11_sits_18 rfl (as := [.int 4, .int x2]) (rest := []) rfl rfl (Nat.le_of_ble_eq_true rfl) rfl (Nat.le_of_ble_eq_true rfl)))))
set_option maxHeartbeats 100000 in
theorem kX11_sits_21 {d : Nat} {F : am_FT} {L : am_LT} {Q : am_QT} {l0 l1 l2 : Option Value} {s0 : Int32} : wt am_S0 d mX11_sits 21 [l0, l1, l2] [.int s0] F L Q = if ¬ s0 = 0 then wt am_S0 d mX11_sits 26 [l0, l1, l2] [] F L Q else wt am_S0 d mX11_sits 24 [l0, l1, l2] [] F L Q := wt_ifCond_ne dX11_sits_21 (t := 26) rfl
set_option maxHeartbeats 100000 in
theorem kX11_sits_24 {d : Nat} {F : am_FT} {L : am_LT} {Q : am_QT} {l0 l1 l2 : Option Value} : wt am_S0 d mX11_sits 24 [l0, l1, l2] [] F L Q = Q (some (.int (-1))) F L := (wt_iconst dX11_sits_24 (v := (-1)) (by decide)).trans (wt_ireturn dX11_sits_25 rfl rfl)
set_option maxHeartbeats 100000 in
theorem kX11_sits_26 {d : Nat} {F : am_FT} {L : am_LT} {Q : am_QT} {x1 x2 : Int32} : wt am_S0 (d + 1) mX11_sits 26 [some (.ref 0), some (.int x1), some (.int x2)] [] F L Q = wc am_S0 d mX3_seat [.ref 18, .int x1, .int x2] F L (fun r G K => wt am_S0 (d + 1) mX11_sits 35 [some (.ref 0), some (.int x1), some (.int x2)] (r.toList ++ []) G K Q) := (wt_aload_n dX11_sits_26 rfl rfl).trans ((wt_getfield dX11_sits_27 rfl rfl (v := .ref 18) rfl).trans ((wt_iload_n dX11_sits_30 rfl).trans ((wt_iload_n dX11_sits_31 rfl).trans (wt_callV dX11_sits_32 rfl (as := [.int x1, .int x2]) (rest := []) rfl rfl (Nat.le_of_ble_eq_true rfl) rfl (Nat.le_of_ble_eq_true rfl)))))
set_option maxHeartbeats 100000 in
theorem kX11_sits_35 {d : Nat} {F : am_FT} {L : am_LT} {Q : am_QT} {l0 l1 l2 : Option Value} {s0 : Int32} : wt am_S0 d mX11_sits 35 [l0, l1, l2] [.int s0] F L Q = Q (some (.int s0)) F L := wt_ireturn dX11_sits_35 rfl rfl
theorem dX11_lopped_0 : decode mX11_lopped.2.2.1 0 = .ok (.aload_n 0, 1) := by decide +kernel
theorem dX11_lopped_1 : decode mX11_lopped.2.2.1 1 = .ok (.iload_n 1, 1) := by decide +kernel
theorem dX11_lopped_2 : decode mX11_lopped.2.2.1 2 = .ok (.invokevirtual 255, 3) := by decide +kernel
theorem dX11_lopped_5 : decode mX11_lopped.2.2.1 5 = .ok (.ifCond .eq 14, 3) := by decide +kernel
theorem dX11_lopped_8 : decode mX11_lopped.2.2.1 8 = .ok (.aload_n 0, 1) := by decide +kernel
theorem dX11_lopped_9 : decode mX11_lopped.2.2.1 9 = .ok (.getfield 76, 3) := by decide +kernel
theorem dX11_lopped_12 : decode mX11_lopped.2.2.1 12 = .ok (.iload_n 1, 1) := by decide +kernel
theorem dX11_lopped_13 : decode mX11_lopped.2.2.1 13 = .ok (.invokevirtual 313, 3) := by decide +kernel
theorem dX11_lopped_16 : decode mX11_lopped.2.2.1 16 = .ok (.goto 4, 3) := by decide +kernel
theorem dX11_lopped_19 : decode mX11_lopped.2.2.1 19 = .ok (.iconst (-1), 1) := by decide +kernel
theorem dX11_lopped_20 : decode mX11_lopped.2.2.1 20 = .ok (.ireturn, 1) := by decide +kernel
set_option maxHeartbeats 100000 in
theorem kX11_lopped_0 {d : Nat} {F : am_FT} {L : am_LT} {Q : am_QT} {x1 : Int32} : wt am_S0 (d + 1) mX11_lopped 0 [some (.ref 0), some (.int x1)] [] F L Q = wc am_S0 d mX11_isTree [.ref 0, .int x1] F L (fun r G K => wt am_S0 (d + 1) mX11_lopped 5 [some (.ref 0), some (.int x1)] (r.toList ++ []) G K Q) := (wt_aload_n dX11_lopped_0 rfl rfl).trans ((wt_iload_n dX11_lopped_1 rfl).trans (wt_callV dX11_lopped_2 rfl (as := [.int x1]) (rest := []) rfl rfl (Nat.le_of_ble_eq_true rfl) rfl (Nat.le_of_ble_eq_true rfl)))
set_option maxHeartbeats 100000 in
theorem kX11_lopped_5 {d : Nat} {F : am_FT} {L : am_LT} {Q : am_QT} {l0 l1 : Option Value} {s0 : Int32} : wt am_S0 d mX11_lopped 5 [l0, l1] [.int s0] F L Q = if s0 = 0 then wt am_S0 d mX11_lopped 19 [l0, l1] [] F L Q else wt am_S0 d mX11_lopped 8 [l0, l1] [] F L Q := wt_ifCond_eq dX11_lopped_5 (t := 19) rfl
set_option maxHeartbeats 100000 in
theorem kX11_lopped_8 {d : Nat} {F : am_FT} {L : am_LT} {Q : am_QT} {x1 : Int32} : wt am_S0 (d + 1) mX11_lopped 8 [some (.ref 0), some (.int x1)] [] F L Q = wc am_S0 d mX3_lopOne [.ref 18, .int x1] F L (fun r G K => wt am_S0 (d + 1) mX11_lopped 16 [some (.ref 0), some (.int x1)] (r.toList ++ []) G K Q) := (wt_aload_n dX11_lopped_8 rfl rfl).trans ((wt_getfield dX11_lopped_9 rfl rfl (v := .ref 18) rfl).trans ((wt_iload_n dX11_lopped_12 rfl).trans (wt_callV dX11_lopped_13 rfl (as := [.int x1]) (rest := []) rfl rfl (Nat.le_of_ble_eq_true rfl) rfl (Nat.le_of_ble_eq_true rfl))))
set_option maxHeartbeats 100000 in
theorem kX11_lopped_16 {d : Nat} {F : am_FT} {L : am_LT} {Q : am_QT} {l0 l1 : Option Value} {s0 : Int32} : wt am_S0 d mX11_lopped 16 [l0, l1] [.int s0] F L Q = wt am_S0 d mX11_lopped 20 [l0, l1] [.int s0] F L Q := wt_goto dX11_lopped_16 (t := 20) rfl
set_option maxHeartbeats 100000 in
theorem kX11_lopped_19 {d : Nat} {F : am_FT} {L : am_LT} {Q : am_QT} {l0 l1 : Option Value} : wt am_S0 d mX11_lopped 19 [l0, l1] [] F L Q = wt am_S0 d mX11_lopped 20 [l0, l1] [.int (-1)] F L Q := wt_iconst dX11_lopped_19 (v := (-1)) (by decide)
set_option maxHeartbeats 100000 in
theorem kX11_lopped_20 {d : Nat} {F : am_FT} {L : am_LT} {Q : am_QT} {l0 l1 : Option Value} {s0 : Int32} : wt am_S0 d mX11_lopped 20 [l0, l1] [.int s0] F L Q = Q (some (.int s0)) F L := wt_ireturn dX11_lopped_20 rfl rfl
theorem dX11_led_0 : decode mX11_led.2.2.1 0 = .ok (.iload_n 1, 1) := by decide +kernel
theorem dX11_led_1 : decode mX11_led.2.2.1 1 = .ok (.iconst 0, 1) := by decide +kernel
theorem dX11_led_2 : decode mX11_led.2.2.1 2 = .ok (.iconst 4, 1) := by decide +kernel
theorem dX11_led_3 : decode mX11_led.2.2.1 3 = .ok (.invokestatic 117, 3) := by decide +kernel
theorem dX11_led_6 : decode mX11_led.2.2.1 6 = .ok (.ifCond .eq 14, 3) := by decide +kernel
theorem dX11_led_9 : decode mX11_led.2.2.1 9 = .ok (.aload_n 0, 1) := by decide +kernel
theorem dX11_led_10 : decode mX11_led.2.2.1 10 = .ok (.getfield 76, 3) := by decide +kernel
theorem dX11_led_13 : decode mX11_led.2.2.1 13 = .ok (.iload_n 1, 1) := by decide +kernel
theorem dX11_led_14 : decode mX11_led.2.2.1 14 = .ok (.invokevirtual 303, 3) := by decide +kernel
theorem dX11_led_17 : decode mX11_led.2.2.1 17 = .ok (.goto 4, 3) := by decide +kernel
theorem dX11_led_20 : decode mX11_led.2.2.1 20 = .ok (.iconst (-1), 1) := by decide +kernel
theorem dX11_led_21 : decode mX11_led.2.2.1 21 = .ok (.ireturn, 1) := by decide +kernel
set_option maxHeartbeats 100000 in
theorem kX11_led_0 {d : Nat} {F : am_FT} {L : am_LT} {Q : am_QT} {l0 : Option Value} {x1 : Int32} : wt am_S0 (d + 1) mX11_led 0 [l0, some (.int x1)] [] F L Q = wc am_S0 d mX11_within [.int x1, .int 0, .int 4] F L (fun r G K => wt am_S0 (d + 1) mX11_led 6 [l0, some (.int x1)] (r.toList ++ []) G K Q) := (wt_iload_n dX11_led_0 rfl).trans ((wt_iconst dX11_led_1 (v := 0) (by decide)).trans ((wt_iconst dX11_led_2 (v := 4) (by decide)).trans (wt_callS dX11_led_3 rfl (as := [.int x1, .int 0, .int 4]) (rest := []) rfl rfl (Nat.le_of_ble_eq_true rfl) (Nat.le_of_ble_eq_true rfl))))
set_option maxHeartbeats 100000 in
theorem kX11_led_6 {d : Nat} {F : am_FT} {L : am_LT} {Q : am_QT} {l0 l1 : Option Value} {s0 : Int32} : wt am_S0 d mX11_led 6 [l0, l1] [.int s0] F L Q = if s0 = 0 then wt am_S0 d mX11_led 20 [l0, l1] [] F L Q else wt am_S0 d mX11_led 9 [l0, l1] [] F L Q := wt_ifCond_eq dX11_led_6 (t := 20) rfl
set_option maxHeartbeats 100000 in
theorem kX11_led_9 {d : Nat} {F : am_FT} {L : am_LT} {Q : am_QT} {x1 : Int32} : wt am_S0 (d + 1) mX11_led 9 [some (.ref 0), some (.int x1)] [] F L Q = wc am_S0 d mX3_tell [.ref 18, .int x1] F L (fun r G K => wt am_S0 (d + 1) mX11_led 17 [some (.ref 0), some (.int x1)] (r.toList ++ []) G K Q) := (wt_aload_n dX11_led_9 rfl rfl).trans ((wt_getfield dX11_led_10 rfl rfl (v := .ref 18) rfl).trans ((wt_iload_n dX11_led_13 rfl).trans (wt_callV dX11_led_14 rfl (as := [.int x1]) (rest := []) rfl rfl (Nat.le_of_ble_eq_true rfl) rfl (Nat.le_of_ble_eq_true rfl))))
set_option maxHeartbeats 100000 in
theorem kX11_led_17 {d : Nat} {F : am_FT} {L : am_LT} {Q : am_QT} {l0 l1 : Option Value} {s0 : Int32} : wt am_S0 d mX11_led 17 [l0, l1] [.int s0] F L Q = wt am_S0 d mX11_led 21 [l0, l1] [.int s0] F L Q := wt_goto dX11_led_17 (t := 21) rfl
set_option maxHeartbeats 100000 in
theorem kX11_led_20 {d : Nat} {F : am_FT} {L : am_LT} {Q : am_QT} {l0 l1 : Option Value} : wt am_S0 d mX11_led 20 [l0, l1] [] F L Q = wt am_S0 d mX11_led 21 [l0, l1] [.int (-1)] F L Q := wt_iconst dX11_led_20 (v := (-1)) (by decide)
set_option maxHeartbeats 100000 in
theorem kX11_led_21 {d : Nat} {F : am_FT} {L : am_LT} {Q : am_QT} {l0 l1 : Option Value} {s0 : Int32} : wt am_S0 d mX11_led 21 [l0, l1] [.int s0] F L Q = Q (some (.int s0)) F L := wt_ireturn dX11_led_21 rfl rfl
theorem dX11_image_0 : decode mX11_image.2.2.1 0 = .ok (.aload_n 0, 1) := by decide +kernel
theorem dX11_image_1 : decode mX11_image.2.2.1 1 = .ok (.getfield 76, 3) := by decide +kernel
theorem dX11_image_4 : decode mX11_image.2.2.1 4 = .ok (.invokevirtual 316, 3) := by decide +kernel
theorem dX11_image_7 : decode mX11_image.2.2.1 7 = .ok (.aload_n 0, 1) := by decide +kernel
theorem dX11_image_8 : decode mX11_image.2.2.1 8 = .ok (.getfield 76, 3) := by decide +kernel
theorem dX11_image_11 : decode mX11_image.2.2.1 11 = .ok (.iconst 0, 1) := by decide +kernel
theorem dX11_image_12 : decode mX11_image.2.2.1 12 = .ok (.invokevirtual 303, 3) := by decide +kernel
theorem dX11_image_15 : decode mX11_image.2.2.1 15 = .ok (.ireturn, 1) := by decide +kernel
set_option maxHeartbeats 100000 in
theorem kX11_image_0 {d : Nat} {F : am_FT} {L : am_LT} {Q : am_QT} : wt am_S0 (d + 1) mX11_image 0 [some (.ref 0)] [] F L Q = wc am_S0 d mX3_keepImage [.ref 18] F L (fun r G K => wt am_S0 (d + 1) mX11_image 7 [some (.ref 0)] (r.toList ++ []) G K Q) := (wt_aload_n dX11_image_0 rfl rfl).trans ((wt_getfield dX11_image_1 rfl rfl (v := .ref 18) rfl).trans (wt_callV dX11_image_4 rfl (as := []) (rest := []) rfl rfl (Nat.le_of_ble_eq_true rfl) rfl (Nat.le_of_ble_eq_true rfl)))
set_option maxHeartbeats 100000 in
theorem kX11_image_7 {d : Nat} {F : am_FT} {L : am_LT} {Q : am_QT} : wt am_S0 (d + 1) mX11_image 7 [some (.ref 0)] [] F L Q = wc am_S0 d mX3_tell [.ref 18, .int 0] F L (fun r G K => wt am_S0 (d + 1) mX11_image 15 [some (.ref 0)] (r.toList ++ []) G K Q) := (wt_aload_n dX11_image_7 rfl rfl).trans ((wt_getfield dX11_image_8 rfl rfl (v := .ref 18) rfl).trans ((wt_iconst dX11_image_11 (v := 0) (by decide)).trans (wt_callV dX11_image_12 rfl (as := [.int 0]) (rest := []) rfl rfl (Nat.le_of_ble_eq_true rfl) rfl (Nat.le_of_ble_eq_true rfl))))
set_option maxHeartbeats 100000 in
theorem kX11_image_15 {d : Nat} {F : am_FT} {L : am_LT} {Q : am_QT} {l0 : Option Value} {s0 : Int32} : wt am_S0 d mX11_image 15 [l0] [.int s0] F L Q = Q (some (.int s0)) F L := wt_ireturn dX11_image_15 rfl rfl
theorem dX11_back_0 : decode mX11_back.2.2.1 0 = .ok (.aload_n 0, 1) := by decide +kernel
theorem dX11_back_1 : decode mX11_back.2.2.1 1 = .ok (.getfield 76, 3) := by decide +kernel
theorem dX11_back_4 : decode mX11_back.2.2.1 4 = .ok (.invokevirtual 319, 3) := by decide +kernel
theorem dX11_back_7 : decode mX11_back.2.2.1 7 = .ok (.ifCond .eq 14, 3) := by decide +kernel
theorem dX11_back_10 : decode mX11_back.2.2.1 10 = .ok (.aload_n 0, 1) := by decide +kernel
theorem dX11_back_11 : decode mX11_back.2.2.1 11 = .ok (.getfield 76, 3) := by decide +kernel
theorem dX11_back_14 : decode mX11_back.2.2.1 14 = .ok (.iconst 0, 1) := by decide +kernel
theorem dX11_back_15 : decode mX11_back.2.2.1 15 = .ok (.invokevirtual 303, 3) := by decide +kernel
theorem dX11_back_18 : decode mX11_back.2.2.1 18 = .ok (.goto 5, 3) := by decide +kernel
theorem dX11_back_21 : decode mX11_back.2.2.1 21 = .ok (.bipush (-5), 2) := by decide +kernel
theorem dX11_back_23 : decode mX11_back.2.2.1 23 = .ok (.ireturn, 1) := by decide +kernel
set_option maxHeartbeats 100000 in
theorem kX11_back_0 {d : Nat} {F : am_FT} {L : am_LT} {Q : am_QT} : wt am_S0 (d + 1) mX11_back 0 [some (.ref 0)] [] F L Q = wc am_S0 d mX3_layBack [.ref 18] F L (fun r G K => wt am_S0 (d + 1) mX11_back 7 [some (.ref 0)] (r.toList ++ []) G K Q) := (wt_aload_n dX11_back_0 rfl rfl).trans ((wt_getfield dX11_back_1 rfl rfl (v := .ref 18) rfl).trans (wt_callV dX11_back_4 rfl (as := []) (rest := []) rfl rfl (Nat.le_of_ble_eq_true rfl) rfl (Nat.le_of_ble_eq_true rfl)))
set_option maxHeartbeats 100000 in
theorem kX11_back_7 {d : Nat} {F : am_FT} {L : am_LT} {Q : am_QT} {l0 : Option Value} {s0 : Int32} : wt am_S0 d mX11_back 7 [l0] [.int s0] F L Q = if s0 = 0 then wt am_S0 d mX11_back 21 [l0] [] F L Q else wt am_S0 d mX11_back 10 [l0] [] F L Q := wt_ifCond_eq dX11_back_7 (t := 21) rfl
set_option maxHeartbeats 100000 in
theorem kX11_back_10 {d : Nat} {F : am_FT} {L : am_LT} {Q : am_QT} : wt am_S0 (d + 1) mX11_back 10 [some (.ref 0)] [] F L Q = wc am_S0 d mX3_tell [.ref 18, .int 0] F L (fun r G K => wt am_S0 (d + 1) mX11_back 18 [some (.ref 0)] (r.toList ++ []) G K Q) := (wt_aload_n dX11_back_10 rfl rfl).trans ((wt_getfield dX11_back_11 rfl rfl (v := .ref 18) rfl).trans ((wt_iconst dX11_back_14 (v := 0) (by decide)).trans (wt_callV dX11_back_15 rfl (as := [.int 0]) (rest := []) rfl rfl (Nat.le_of_ble_eq_true rfl) rfl (Nat.le_of_ble_eq_true rfl))))
set_option maxHeartbeats 100000 in
theorem kX11_back_18 {d : Nat} {F : am_FT} {L : am_LT} {Q : am_QT} {l0 : Option Value} {s0 : Int32} : wt am_S0 d mX11_back 18 [l0] [.int s0] F L Q = wt am_S0 d mX11_back 23 [l0] [.int s0] F L Q := wt_goto dX11_back_18 (t := 23) rfl
set_option maxHeartbeats 100000 in
theorem kX11_back_21 {d : Nat} {F : am_FT} {L : am_LT} {Q : am_QT} {l0 : Option Value} : wt am_S0 d mX11_back 21 [l0] [] F L Q = wt am_S0 d mX11_back 23 [l0] [.int (-5)] F L Q := wt_bipush dX11_back_21 (v := (-5)) (by decide)
set_option maxHeartbeats 100000 in
theorem kX11_back_23 {d : Nat} {F : am_FT} {L : am_LT} {Q : am_QT} {l0 : Option Value} {s0 : Int32} : wt am_S0 d mX11_back 23 [l0] [.int s0] F L Q = Q (some (.int s0)) F L := wt_ireturn dX11_back_23 rfl rfl
theorem dX11_undo_0 : decode mX11_undo.2.2.1 0 = .ok (.aload_n 0, 1) := by decide +kernel
theorem dX11_undo_1 : decode mX11_undo.2.2.1 1 = .ok (.getfield 83, 3) := by decide +kernel
theorem dX11_undo_4 : decode mX11_undo.2.2.1 4 = .ok (.invokevirtual 322, 3) := by decide +kernel
theorem dX11_undo_7 : decode mX11_undo.2.2.1 7 = .ok (.ifCond .eq 13, 3) := by decide +kernel
theorem dX11_undo_10 : decode mX11_undo.2.2.1 10 = .ok (.aload_n 0, 1) := by decide +kernel
theorem dX11_undo_11 : decode mX11_undo.2.2.1 11 = .ok (.getfield 83, 3) := by decide +kernel
theorem dX11_undo_14 : decode mX11_undo.2.2.1 14 = .ok (.getfield 325, 3) := by decide +kernel
theorem dX11_undo_17 : decode mX11_undo.2.2.1 17 = .ok (.goto 5, 3) := by decide +kernel
theorem dX11_undo_20 : decode mX11_undo.2.2.1 20 = .ok (.bipush (-5), 2) := by decide +kernel
theorem dX11_undo_22 : decode mX11_undo.2.2.1 22 = .ok (.ireturn, 1) := by decide +kernel
set_option maxHeartbeats 100000 in
theorem kX11_undo_0 {d : Nat} {F : am_FT} {L : am_LT} {Q : am_QT} : wt am_S0 (d + 1) mX11_undo 0 [some (.ref 0)] [] F L Q = wc am_S0 d mX2_takeBack [.ref 24] F L (fun r G K => wt am_S0 (d + 1) mX11_undo 7 [some (.ref 0)] (r.toList ++ []) G K Q) := (wt_aload_n dX11_undo_0 rfl rfl).trans ((wt_getfield dX11_undo_1 rfl rfl (v := .ref 24) rfl).trans (wt_callV dX11_undo_4 rfl (as := []) (rest := []) rfl rfl (Nat.le_of_ble_eq_true rfl) rfl (Nat.le_of_ble_eq_true rfl)))
set_option maxHeartbeats 100000 in
theorem kX11_undo_7 {d : Nat} {F : am_FT} {L : am_LT} {Q : am_QT} {l0 : Option Value} {s0 : Int32} : wt am_S0 d mX11_undo 7 [l0] [.int s0] F L Q = if s0 = 0 then wt am_S0 d mX11_undo 20 [l0] [] F L Q else wt am_S0 d mX11_undo 10 [l0] [] F L Q := wt_ifCond_eq dX11_undo_7 (t := 20) rfl
set_option maxHeartbeats 100000 in
theorem kX11_undo_10 {d : Nat} {F : am_FT} {L : am_LT} {Q : am_QT} : wt am_S0 d mX11_undo 10 [some (.ref 0)] [] F L Q = wt am_S0 d mX11_undo 22 [some (.ref 0)] [.int (F 24 6)] F L Q := (wt_aload_n dX11_undo_10 rfl rfl).trans ((wt_getfield dX11_undo_11 rfl rfl (v := .ref 24) rfl).trans ((wt_getfield dX11_undo_14 rfl rfl (v := .int (F 24 6)) rfl).trans (wt_goto dX11_undo_17 (t := 22) rfl)))
set_option maxHeartbeats 100000 in
theorem kX11_undo_20 {d : Nat} {F : am_FT} {L : am_LT} {Q : am_QT} {l0 : Option Value} : wt am_S0 d mX11_undo 20 [l0] [] F L Q = wt am_S0 d mX11_undo 22 [l0] [.int (-5)] F L Q := wt_bipush dX11_undo_20 (v := (-5)) (by decide)
set_option maxHeartbeats 100000 in
theorem kX11_undo_22 {d : Nat} {F : am_FT} {L : am_LT} {Q : am_QT} {l0 : Option Value} {s0 : Int32} : wt am_S0 d mX11_undo 22 [l0] [.int s0] F L Q = Q (some (.int s0)) F L := wt_ireturn dX11_undo_22 rfl rfl
theorem dX11_redo_0 : decode mX11_redo.2.2.1 0 = .ok (.aload_n 0, 1) := by decide +kernel
theorem dX11_redo_1 : decode mX11_redo.2.2.1 1 = .ok (.getfield 83, 3) := by decide +kernel
theorem dX11_redo_4 : decode mX11_redo.2.2.1 4 = .ok (.invokevirtual 328, 3) := by decide +kernel
theorem dX11_redo_7 : decode mX11_redo.2.2.1 7 = .ok (.ifCond .eq 13, 3) := by decide +kernel
theorem dX11_redo_10 : decode mX11_redo.2.2.1 10 = .ok (.aload_n 0, 1) := by decide +kernel
theorem dX11_redo_11 : decode mX11_redo.2.2.1 11 = .ok (.getfield 83, 3) := by decide +kernel
theorem dX11_redo_14 : decode mX11_redo.2.2.1 14 = .ok (.getfield 331, 3) := by decide +kernel
theorem dX11_redo_17 : decode mX11_redo.2.2.1 17 = .ok (.goto 5, 3) := by decide +kernel
theorem dX11_redo_20 : decode mX11_redo.2.2.1 20 = .ok (.bipush (-5), 2) := by decide +kernel
theorem dX11_redo_22 : decode mX11_redo.2.2.1 22 = .ok (.ireturn, 1) := by decide +kernel
set_option maxHeartbeats 100000 in
theorem kX11_redo_0 {d : Nat} {F : am_FT} {L : am_LT} {Q : am_QT} : wt am_S0 (d + 1) mX11_redo 0 [some (.ref 0)] [] F L Q = wc am_S0 d mX2_doAgain [.ref 24] F L (fun r G K => wt am_S0 (d + 1) mX11_redo 7 [some (.ref 0)] (r.toList ++ []) G K Q) := (wt_aload_n dX11_redo_0 rfl rfl).trans ((wt_getfield dX11_redo_1 rfl rfl (v := .ref 24) rfl).trans (wt_callV dX11_redo_4 rfl (as := []) (rest := []) rfl rfl (Nat.le_of_ble_eq_true rfl) rfl (Nat.le_of_ble_eq_true rfl)))
set_option maxHeartbeats 100000 in
theorem kX11_redo_7 {d : Nat} {F : am_FT} {L : am_LT} {Q : am_QT} {l0 : Option Value} {s0 : Int32} : wt am_S0 d mX11_redo 7 [l0] [.int s0] F L Q = if s0 = 0 then wt am_S0 d mX11_redo 20 [l0] [] F L Q else wt am_S0 d mX11_redo 10 [l0] [] F L Q := wt_ifCond_eq dX11_redo_7 (t := 20) rfl
set_option maxHeartbeats 100000 in
theorem kX11_redo_10 {d : Nat} {F : am_FT} {L : am_LT} {Q : am_QT} : wt am_S0 d mX11_redo 10 [some (.ref 0)] [] F L Q = wt am_S0 d mX11_redo 22 [some (.ref 0)] [.int (F 24 7)] F L Q := (wt_aload_n dX11_redo_10 rfl rfl).trans ((wt_getfield dX11_redo_11 rfl rfl (v := .ref 24) rfl).trans ((wt_getfield dX11_redo_14 rfl rfl (v := .int (F 24 7)) rfl).trans (wt_goto dX11_redo_17 (t := 22) rfl)))
set_option maxHeartbeats 100000 in
theorem kX11_redo_20 {d : Nat} {F : am_FT} {L : am_LT} {Q : am_QT} {l0 : Option Value} : wt am_S0 d mX11_redo 20 [l0] [] F L Q = wt am_S0 d mX11_redo 22 [l0] [.int (-5)] F L Q := wt_bipush dX11_redo_20 (v := (-5)) (by decide)
set_option maxHeartbeats 100000 in
theorem kX11_redo_22 {d : Nat} {F : am_FT} {L : am_LT} {Q : am_QT} {l0 : Option Value} {s0 : Int32} : wt am_S0 d mX11_redo 22 [l0] [.int s0] F L Q = Q (some (.int s0)) F L := wt_ireturn dX11_redo_22 rfl rfl
theorem dX11_body_0 : decode mX11_body.2.2.1 0 = .ok (.iload_n 1, 1) := by decide +kernel
theorem dX11_body_1 : decode mX11_body.2.2.1 1 = .ok (.iconst 0, 1) := by decide +kernel
theorem dX11_body_2 : decode mX11_body.2.2.1 2 = .ok (.bipush 7, 2) := by decide +kernel
theorem dX11_body_4 : decode mX11_body.2.2.1 4 = .ok (.invokestatic 117, 3) := by decide +kernel
theorem dX11_body_7 : decode mX11_body.2.2.1 7 = .ok (.ifCond .eq 14, 3) := by decide +kernel
theorem dX11_body_10 : decode mX11_body.2.2.1 10 = .ok (.aload_n 0, 1) := by decide +kernel
theorem dX11_body_11 : decode mX11_body.2.2.1 11 = .ok (.getfield 90, 3) := by decide +kernel
theorem dX11_body_14 : decode mX11_body.2.2.1 14 = .ok (.iload_n 1, 1) := by decide +kernel
theorem dX11_body_15 : decode mX11_body.2.2.1 15 = .ok (.invokevirtual 334, 3) := by decide +kernel
theorem dX11_body_18 : decode mX11_body.2.2.1 18 = .ok (.goto 4, 3) := by decide +kernel
theorem dX11_body_21 : decode mX11_body.2.2.1 21 = .ok (.iconst (-1), 1) := by decide +kernel
theorem dX11_body_22 : decode mX11_body.2.2.1 22 = .ok (.ireturn, 1) := by decide +kernel
set_option maxHeartbeats 100000 in
theorem kX11_body_0 {d : Nat} {F : am_FT} {L : am_LT} {Q : am_QT} {l0 : Option Value} {x1 : Int32} : wt am_S0 (d + 1) mX11_body 0 [l0, some (.int x1)] [] F L Q = wc am_S0 d mX11_within [.int x1, .int 0, .int 7] F L (fun r G K => wt am_S0 (d + 1) mX11_body 7 [l0, some (.int x1)] (r.toList ++ []) G K Q) := (wt_iload_n dX11_body_0 rfl).trans ((wt_iconst dX11_body_1 (v := 0) (by decide)).trans ((wt_bipush dX11_body_2 (v := 7) (by decide)).trans (wt_callS dX11_body_4 rfl (as := [.int x1, .int 0, .int 7]) (rest := []) rfl rfl (Nat.le_of_ble_eq_true rfl) (Nat.le_of_ble_eq_true rfl))))
set_option maxHeartbeats 100000 in
theorem kX11_body_7 {d : Nat} {F : am_FT} {L : am_LT} {Q : am_QT} {l0 l1 : Option Value} {s0 : Int32} : wt am_S0 d mX11_body 7 [l0, l1] [.int s0] F L Q = if s0 = 0 then wt am_S0 d mX11_body 21 [l0, l1] [] F L Q else wt am_S0 d mX11_body 10 [l0, l1] [] F L Q := wt_ifCond_eq dX11_body_7 (t := 21) rfl
set_option maxHeartbeats 100000 in
theorem kX11_body_10 {d : Nat} {F : am_FT} {L : am_LT} {Q : am_QT} {x1 : Int32} : wt am_S0 (d + 1) mX11_body 10 [some (.ref 0), some (.int x1)] [] F L Q = wc am_S0 d mX10_add [.ref 29, .int x1] F L (fun r G K => wt am_S0 (d + 1) mX11_body 18 [some (.ref 0), some (.int x1)] (r.toList ++ []) G K Q) := (wt_aload_n dX11_body_10 rfl rfl).trans ((wt_getfield dX11_body_11 rfl rfl (v := .ref 29) rfl).trans ((wt_iload_n dX11_body_14 rfl).trans (wt_callV dX11_body_15 rfl (as := [.int x1]) (rest := []) rfl rfl (Nat.le_of_ble_eq_true rfl) rfl (Nat.le_of_ble_eq_true rfl))))
set_option maxHeartbeats 100000 in
theorem kX11_body_18 {d : Nat} {F : am_FT} {L : am_LT} {Q : am_QT} {l0 l1 : Option Value} {s0 : Int32} : wt am_S0 d mX11_body 18 [l0, l1] [.int s0] F L Q = wt am_S0 d mX11_body 22 [l0, l1] [.int s0] F L Q := wt_goto dX11_body_18 (t := 22) rfl
set_option maxHeartbeats 100000 in
theorem kX11_body_21 {d : Nat} {F : am_FT} {L : am_LT} {Q : am_QT} {l0 l1 : Option Value} : wt am_S0 d mX11_body 21 [l0, l1] [] F L Q = wt am_S0 d mX11_body 22 [l0, l1] [.int (-1)] F L Q := wt_iconst dX11_body_21 (v := (-1)) (by decide)
set_option maxHeartbeats 100000 in
theorem kX11_body_22 {d : Nat} {F : am_FT} {L : am_LT} {Q : am_QT} {l0 l1 : Option Value} {s0 : Int32} : wt am_S0 d mX11_body 22 [l0, l1] [.int s0] F L Q = Q (some (.int s0)) F L := wt_ireturn dX11_body_22 rfl rfl
theorem dX11_act_0 : decode mX11_act.2.2.1 0 = .ok (.aload_n 0, 1) := by decide +kernel
theorem dX11_act_1 : decode mX11_act.2.2.1 1 = .ok (.getfield 90, 3) := by decide +kernel
theorem dX11_act_4 : decode mX11_act.2.2.1 4 = .ok (.iload_n 1, 1) := by decide +kernel
theorem dX11_act_5 : decode mX11_act.2.2.1 5 = .ok (.iload_n 2, 1) := by decide +kernel
theorem dX11_act_6 : decode mX11_act.2.2.1 6 = .ok (.iload_n 3, 1) := by decide +kernel
theorem dX11_act_7 : decode mX11_act.2.2.1 7 = .ok (.invokevirtual 336, 3) := by decide +kernel
theorem dX11_act_10 : decode mX11_act.2.2.1 10 = .ok (.ireturn, 1) := by decide +kernel
set_option maxHeartbeats 100000 in
theorem kX11_act_0 {d : Nat} {F : am_FT} {L : am_LT} {Q : am_QT} {x1 x2 x3 : Int32} : wt am_S0 (d + 1) mX11_act 0 [some (.ref 0), some (.int x1), some (.int x2), some (.int x3)] [] F L Q = wc am_S0 d mX10_start [.ref 29, .int x1, .int x2, .int x3] F L (fun r G K => wt am_S0 (d + 1) mX11_act 10 [some (.ref 0), some (.int x1), some (.int x2), some (.int x3)] (r.toList ++ []) G K Q) := (wt_aload_n dX11_act_0 rfl rfl).trans ((wt_getfield dX11_act_1 rfl rfl (v := .ref 29) rfl).trans ((wt_iload_n dX11_act_4 rfl).trans ((wt_iload_n dX11_act_5 rfl).trans ((wt_iload_n dX11_act_6 rfl).trans (wt_callV dX11_act_7 rfl (as := [.int x1, .int x2, .int x3]) (rest := []) rfl rfl (Nat.le_of_ble_eq_true rfl) rfl (Nat.le_of_ble_eq_true rfl))))))
set_option maxHeartbeats 100000 in
theorem kX11_act_10 {d : Nat} {F : am_FT} {L : am_LT} {Q : am_QT} {l0 l1 l2 l3 : Option Value} {s0 : Int32} : wt am_S0 d mX11_act 10 [l0, l1, l2, l3] [.int s0] F L Q = Q (some (.int s0)) F L := wt_ireturn dX11_act_10 rfl rfl
theorem dX11_trace_0 : decode mX11_trace.2.2.1 0 = .ok (.iload_n 1, 1) := by decide +kernel
theorem dX11_trace_1 : decode mX11_trace.2.2.1 1 = .ok (.iconst 0, 1) := by decide +kernel
theorem dX11_trace_2 : decode mX11_trace.2.2.1 2 = .ok (.aload_n 0, 1) := by decide +kernel
theorem dX11_trace_3 : decode mX11_trace.2.2.1 3 = .ok (.getfield 90, 3) := by decide +kernel
theorem dX11_trace_6 : decode mX11_trace.2.2.1 6 = .ok (.invokevirtual 339, 3) := by decide +kernel
theorem dX11_trace_9 : decode mX11_trace.2.2.1 9 = .ok (.iconst 1, 1) := by decide +kernel
theorem dX11_trace_10 : decode mX11_trace.2.2.1 10 = .ok (.isub, 1) := by decide +kernel
theorem dX11_trace_11 : decode mX11_trace.2.2.1 11 = .ok (.invokestatic 117, 3) := by decide +kernel
theorem dX11_trace_14 : decode mX11_trace.2.2.1 14 = .ok (.ifCond .eq 14, 3) := by decide +kernel
theorem dX11_trace_17 : decode mX11_trace.2.2.1 17 = .ok (.aload_n 0, 1) := by decide +kernel
theorem dX11_trace_18 : decode mX11_trace.2.2.1 18 = .ok (.getfield 90, 3) := by decide +kernel
theorem dX11_trace_21 : decode mX11_trace.2.2.1 21 = .ok (.iload_n 1, 1) := by decide +kernel
theorem dX11_trace_22 : decode mX11_trace.2.2.1 22 = .ok (.invokevirtual 342, 3) := by decide +kernel
theorem dX11_trace_25 : decode mX11_trace.2.2.1 25 = .ok (.goto 4, 3) := by decide +kernel
theorem dX11_trace_28 : decode mX11_trace.2.2.1 28 = .ok (.iconst (-1), 1) := by decide +kernel
theorem dX11_trace_29 : decode mX11_trace.2.2.1 29 = .ok (.ireturn, 1) := by decide +kernel
set_option maxHeartbeats 100000 in
theorem kX11_trace_0 {d : Nat} {F : am_FT} {L : am_LT} {Q : am_QT} {x1 : Int32} : wt am_S0 (d + 1) mX11_trace 0 [some (.ref 0), some (.int x1)] [] F L Q = wc am_S0 d mX10_tracesKept [.ref 29] F L (fun r G K => wt am_S0 (d + 1) mX11_trace 9 [some (.ref 0), some (.int x1)] (r.toList ++ [.int 0, .int x1]) G K Q) := (wt_iload_n dX11_trace_0 rfl).trans ((wt_iconst dX11_trace_1 (v := 0) (by decide)).trans ((wt_aload_n dX11_trace_2 rfl rfl).trans ((wt_getfield dX11_trace_3 rfl rfl (v := .ref 29) rfl).trans (wt_callV dX11_trace_6 rfl (as := []) (rest := [.int 0, .int x1]) rfl rfl (Nat.le_of_ble_eq_true rfl) rfl (Nat.le_of_ble_eq_true rfl)))))
set_option maxHeartbeats 100000 in
theorem kX11_trace_9 {d : Nat} {F : am_FT} {L : am_LT} {Q : am_QT} {l0 l1 : Option Value} {s0 s1 s2 : Int32} : wt am_S0 (d + 1) mX11_trace 9 [l0, l1] [.int s2, .int s1, .int s0] F L Q = wc am_S0 d mX11_within [.int s0, .int s1, .int (s2 - 1)] F L (fun r G K => wt am_S0 (d + 1) mX11_trace 14 [l0, l1] (r.toList ++ []) G K Q) := (wt_iconst dX11_trace_9 (v := 1) (by decide)).trans ((wt_isub dX11_trace_10).trans (wt_callS dX11_trace_11 rfl (as := [.int s0, .int s1, .int (s2 - 1)]) (rest := []) rfl rfl (Nat.le_of_ble_eq_true rfl) (Nat.le_of_ble_eq_true rfl)))
set_option maxHeartbeats 100000 in
theorem kX11_trace_14 {d : Nat} {F : am_FT} {L : am_LT} {Q : am_QT} {l0 l1 : Option Value} {s0 : Int32} : wt am_S0 d mX11_trace 14 [l0, l1] [.int s0] F L Q = if s0 = 0 then wt am_S0 d mX11_trace 28 [l0, l1] [] F L Q else wt am_S0 d mX11_trace 17 [l0, l1] [] F L Q := wt_ifCond_eq dX11_trace_14 (t := 28) rfl
set_option maxHeartbeats 100000 in
theorem kX11_trace_17 {d : Nat} {F : am_FT} {L : am_LT} {Q : am_QT} {x1 : Int32} : wt am_S0 (d + 1) mX11_trace 17 [some (.ref 0), some (.int x1)] [] F L Q = wc am_S0 d mX10_traceAt [.ref 29, .int x1] F L (fun r G K => wt am_S0 (d + 1) mX11_trace 25 [some (.ref 0), some (.int x1)] (r.toList ++ []) G K Q) := (wt_aload_n dX11_trace_17 rfl rfl).trans ((wt_getfield dX11_trace_18 rfl rfl (v := .ref 29) rfl).trans ((wt_iload_n dX11_trace_21 rfl).trans (wt_callV dX11_trace_22 rfl (as := [.int x1]) (rest := []) rfl rfl (Nat.le_of_ble_eq_true rfl) rfl (Nat.le_of_ble_eq_true rfl))))
set_option maxHeartbeats 100000 in
theorem kX11_trace_25 {d : Nat} {F : am_FT} {L : am_LT} {Q : am_QT} {l0 l1 : Option Value} {s0 : Int32} : wt am_S0 d mX11_trace 25 [l0, l1] [.int s0] F L Q = wt am_S0 d mX11_trace 29 [l0, l1] [.int s0] F L Q := wt_goto dX11_trace_25 (t := 29) rfl
set_option maxHeartbeats 100000 in
theorem kX11_trace_28 {d : Nat} {F : am_FT} {L : am_LT} {Q : am_QT} {l0 l1 : Option Value} : wt am_S0 d mX11_trace 28 [l0, l1] [] F L Q = wt am_S0 d mX11_trace 29 [l0, l1] [.int (-1)] F L Q := wt_iconst dX11_trace_28 (v := (-1)) (by decide)
set_option maxHeartbeats 100000 in
theorem kX11_trace_29 {d : Nat} {F : am_FT} {L : am_LT} {Q : am_QT} {l0 l1 : Option Value} {s0 : Int32} : wt am_S0 d mX11_trace 29 [l0, l1] [.int s0] F L Q = Q (some (.int s0)) F L := wt_ireturn dX11_trace_29 rfl rfl
theorem dX11_keep_0 : decode mX11_keep.2.2.1 0 = .ok (.aload_n 0, 1) := by decide +kernel
theorem dX11_keep_1 : decode mX11_keep.2.2.1 1 = .ok (.iload_n 1, 1) := by decide +kernel
theorem dX11_keep_2 : decode mX11_keep.2.2.1 2 = .ok (.invokevirtual 113, 3) := by decide +kernel
theorem dX11_keep_5 : decode mX11_keep.2.2.1 5 = .ok (.astore_n 3, 1) := by decide +kernel
theorem dX11_keep_6 : decode mX11_keep.2.2.1 6 = .ok (.aload_n 3, 1) := by decide +kernel
theorem dX11_keep_7 : decode mX11_keep.2.2.1 7 = .ok (.ifnull 20, 3) := by decide +kernel
theorem dX11_keep_10 : decode mX11_keep.2.2.1 10 = .ok (.iload_n 2, 1) := by decide +kernel
theorem dX11_keep_11 : decode mX11_keep.2.2.1 11 = .ok (.iconst (-1), 1) := by decide +kernel
theorem dX11_keep_12 : decode mX11_keep.2.2.1 12 = .ok (.aload_n 0, 1) := by decide +kernel
theorem dX11_keep_13 : decode mX11_keep.2.2.1 13 = .ok (.getfield 90, 3) := by decide +kernel
theorem dX11_keep_16 : decode mX11_keep.2.2.1 16 = .ok (.getfield 345, 3) := by decide +kernel
theorem dX11_keep_19 : decode mX11_keep.2.2.1 19 = .ok (.iconst 1, 1) := by decide +kernel
theorem dX11_keep_20 : decode mX11_keep.2.2.1 20 = .ok (.isub, 1) := by decide +kernel
theorem dX11_keep_21 : decode mX11_keep.2.2.1 21 = .ok (.invokestatic 117, 3) := by decide +kernel
theorem dX11_keep_24 : decode mX11_keep.2.2.1 24 = .ok (.ifCond .ne 5, 3) := by decide +kernel
theorem dX11_keep_27 : decode mX11_keep.2.2.1 27 = .ok (.iconst (-1), 1) := by decide +kernel
theorem dX11_keep_28 : decode mX11_keep.2.2.1 28 = .ok (.ireturn, 1) := by decide +kernel
theorem dX11_keep_29 : decode mX11_keep.2.2.1 29 = .ok (.aload_n 3, 1) := by decide +kernel
theorem dX11_keep_30 : decode mX11_keep.2.2.1 30 = .ok (.iload_n 2, 1) := by decide +kernel
theorem dX11_keep_31 : decode mX11_keep.2.2.1 31 = .ok (.invokevirtual 348, 3) := by decide +kernel
theorem dX11_keep_34 : decode mX11_keep.2.2.1 34 = .ok (.iconst 1, 1) := by decide +kernel
theorem dX11_keep_35 : decode mX11_keep.2.2.1 35 = .ok (.ireturn, 1) := by decide +kernel
set_option maxHeartbeats 100000 in
theorem kX11_keep_0 {d : Nat} {F : am_FT} {L : am_LT} {Q : am_QT} {l2 l3 : Option Value} {x1 : Int32} : wt am_S0 (d + 1) mX11_keep 0 [some (.ref 0), some (.int x1), l2, l3] [] F L Q = wc am_S0 d mX11_shelfAt [.ref 0, .int x1] F L (fun r G K => wt am_S0 (d + 1) mX11_keep 5 [some (.ref 0), some (.int x1), l2, l3] (r.toList ++ []) G K Q) := (wt_aload_n dX11_keep_0 rfl rfl).trans ((wt_iload_n dX11_keep_1 rfl).trans (wt_callV dX11_keep_2 rfl (as := [.int x1]) (rest := []) rfl rfl (Nat.le_of_ble_eq_true rfl) rfl (Nat.le_of_ble_eq_true rfl)))
set_option maxHeartbeats 100000 in
theorem kX11_keep_5 {d : Nat} {F : am_FT} {L : am_LT} {Q : am_QT} {l0 l1 l3 : Option Value} {q0 : Nat} {x2 : Int32} : wt am_S0 d mX11_keep 5 [l0, l1, some (.int x2), l3] [.ref q0] F L Q = wt am_S0 d mX11_keep 10 [l0, l1, some (.int x2), some (.ref q0)] [] F L Q := (wt_astore_n dX11_keep_5 (lv1 := [l0, l1, some (.int x2), some (.ref q0)]) rfl (Nat.le_of_ble_eq_true rfl) rfl).trans ((wt_aload_n dX11_keep_6 rfl rfl).trans (wt_ifnull dX11_keep_7))
set_option maxHeartbeats 100000 in
theorem kX11_keep_5N {d : Nat} {F : am_FT} {L : am_LT} {Q : am_QT} {l0 l1 l3 : Option Value} {x2 : Int32} : wt am_S0 d mX11_keep 5 [l0, l1, some (.int x2), l3] [.null] F L Q = wt am_S0 d mX11_keep 27 [l0, l1, some (.int x2), some .null] [] F L Q := (wt_astore_n dX11_keep_5 (lv1 := [l0, l1, some (.int x2), some .null]) rfl (Nat.le_of_ble_eq_true rfl) rfl).trans ((wt_aload_n dX11_keep_6 rfl rfl).trans (wt_ifnullN dX11_keep_7 (t := 27) rfl))
set_option maxHeartbeats 100000 in
theorem kX11_keep_10 {d : Nat} {F : am_FT} {L : am_LT} {Q : am_QT} {l1 l3 : Option Value} {x2 : Int32} : wt am_S0 (d + 1) mX11_keep 10 [some (.ref 0), l1, some (.int x2), l3] [] F L Q = wc am_S0 d mX11_within [.int x2, .int (-1), .int ((F 29 2) - 1)] F L (fun r G K => wt am_S0 (d + 1) mX11_keep 24 [some (.ref 0), l1, some (.int x2), l3] (r.toList ++ []) G K Q) := (wt_iload_n dX11_keep_10 rfl).trans ((wt_iconst dX11_keep_11 (v := (-1)) (by decide)).trans ((wt_aload_n dX11_keep_12 rfl rfl).trans ((wt_getfield dX11_keep_13 rfl rfl (v := .ref 29) rfl).trans ((wt_getfield dX11_keep_16 rfl rfl (v := .int (F 29 2)) rfl).trans ((wt_iconst dX11_keep_19 (v := 1) (by decide)).trans ((wt_isub dX11_keep_20).trans (wt_callS dX11_keep_21 rfl (as := [.int x2, .int (-1), .int ((F 29 2) - 1)]) (rest := []) rfl rfl (Nat.le_of_ble_eq_true rfl) (Nat.le_of_ble_eq_true rfl))))))))
set_option maxHeartbeats 100000 in
theorem kX11_keep_24 {d : Nat} {F : am_FT} {L : am_LT} {Q : am_QT} {l0 l1 l2 l3 : Option Value} {s0 : Int32} : wt am_S0 d mX11_keep 24 [l0, l1, l2, l3] [.int s0] F L Q = if ¬ s0 = 0 then wt am_S0 d mX11_keep 29 [l0, l1, l2, l3] [] F L Q else wt am_S0 d mX11_keep 27 [l0, l1, l2, l3] [] F L Q := wt_ifCond_ne dX11_keep_24 (t := 29) rfl
set_option maxHeartbeats 100000 in
theorem kX11_keep_27 {d : Nat} {F : am_FT} {L : am_LT} {Q : am_QT} {l0 l1 l2 l3 : Option Value} : wt am_S0 d mX11_keep 27 [l0, l1, l2, l3] [] F L Q = Q (some (.int (-1))) F L := (wt_iconst dX11_keep_27 (v := (-1)) (by decide)).trans (wt_ireturn dX11_keep_28 rfl rfl)
set_option maxHeartbeats 100000 in
theorem kX11_keep_29 {d : Nat} {F : am_FT} {L : am_LT} {Q : am_QT} {l0 l1 : Option Value} {p3 e1 : Nat} {x2 : Int32} (h1 : am_S0[p3]? = some (8, 4, [some e1, none, none, none])) : wt am_S0 (d + 1) mX11_keep 29 [l0, l1, some (.int x2), some (.ref p3)] [] F L Q = wc am_S0 d mX8_holdVoter [.ref p3, .int x2] F L (fun r G K => wt am_S0 (d + 1) mX11_keep 34 [l0, l1, some (.int x2), some (.ref p3)] (r.toList ++ []) G K Q) := (wt_aload_n dX11_keep_29 rfl rfl).trans ((wt_iload_n dX11_keep_30 rfl).trans (wt_callV dX11_keep_31 rfl (as := [.int x2]) (rest := []) rfl rfl (Nat.le_of_ble_eq_true rfl) h1 (Nat.le_of_ble_eq_true rfl)))
set_option maxHeartbeats 100000 in
theorem kX11_keep_34 {d : Nat} {F : am_FT} {L : am_LT} {Q : am_QT} {l0 l1 l2 l3 : Option Value} : wt am_S0 d mX11_keep 34 [l0, l1, l2, l3] [] F L Q = Q (some (.int 1)) F L := (wt_iconst dX11_keep_34 (v := 1) (by decide)).trans (wt_ireturn dX11_keep_35 rfl rfl)
theorem dX11_row_0 : decode mX11_row.2.2.1 0 = .ok (.aload_n 0, 1) := by decide +kernel
theorem dX11_row_1 : decode mX11_row.2.2.1 1 = .ok (.iload_n 1, 1) := by decide +kernel
theorem dX11_row_2 : decode mX11_row.2.2.1 2 = .ok (.invokevirtual 113, 3) := by decide +kernel
theorem dX11_row_5 : decode mX11_row.2.2.1 5 = .ok (.astore 4, 2) := by decide +kernel
theorem dX11_row_7 : decode mX11_row.2.2.1 7 = .ok (.aload 4, 2) := by decide +kernel
theorem dX11_row_9 : decode mX11_row.2.2.1 9 = .ok (.ifnull 18, 3) := by decide +kernel
theorem dX11_row_12 : decode mX11_row.2.2.1 12 = .ok (.iload_n 2, 1) := by decide +kernel
theorem dX11_row_13 : decode mX11_row.2.2.1 13 = .ok (.iconst 0, 1) := by decide +kernel
theorem dX11_row_14 : decode mX11_row.2.2.1 14 = .ok (.iconst 4, 1) := by decide +kernel
theorem dX11_row_15 : decode mX11_row.2.2.1 15 = .ok (.invokestatic 117, 3) := by decide +kernel
theorem dX11_row_18 : decode mX11_row.2.2.1 18 = .ok (.ifCond .eq 9, 3) := by decide +kernel
theorem dX11_row_21 : decode mX11_row.2.2.1 21 = .ok (.iload_n 3, 1) := by decide +kernel
theorem dX11_row_22 : decode mX11_row.2.2.1 22 = .ok (.bipush 60, 2) := by decide +kernel
theorem dX11_row_24 : decode mX11_row.2.2.1 24 = .ok (.if_icmp .le 5, 3) := by decide +kernel
theorem dX11_row_27 : decode mX11_row.2.2.1 27 = .ok (.iconst (-1), 1) := by decide +kernel
theorem dX11_row_28 : decode mX11_row.2.2.1 28 = .ok (.ireturn, 1) := by decide +kernel
theorem dX11_row_29 : decode mX11_row.2.2.1 29 = .ok (.iload_n 3, 1) := by decide +kernel
theorem dX11_row_30 : decode mX11_row.2.2.1 30 = .ok (.ifCond .ge 6, 3) := by decide +kernel
theorem dX11_row_33 : decode mX11_row.2.2.1 33 = .ok (.bipush (-14), 2) := by decide +kernel
theorem dX11_row_35 : decode mX11_row.2.2.1 35 = .ok (.ireturn, 1) := by decide +kernel
theorem dX11_row_36 : decode mX11_row.2.2.1 36 = .ok (.aload 4, 2) := by decide +kernel
theorem dX11_row_38 : decode mX11_row.2.2.1 38 = .ok (.iload_n 2, 1) := by decide +kernel
theorem dX11_row_39 : decode mX11_row.2.2.1 39 = .ok (.iload_n 3, 1) := by decide +kernel
theorem dX11_row_40 : decode mX11_row.2.2.1 40 = .ok (.invokevirtual 351, 3) := by decide +kernel
theorem dX11_row_43 : decode mX11_row.2.2.1 43 = .ok (.iconst 1, 1) := by decide +kernel
theorem dX11_row_44 : decode mX11_row.2.2.1 44 = .ok (.ireturn, 1) := by decide +kernel
set_option maxHeartbeats 100000 in
theorem kX11_row_0 {d : Nat} {F : am_FT} {L : am_LT} {Q : am_QT} {l2 l3 l4 : Option Value} {x1 : Int32} : wt am_S0 (d + 1) mX11_row 0 [some (.ref 0), some (.int x1), l2, l3, l4] [] F L Q = wc am_S0 d mX11_shelfAt [.ref 0, .int x1] F L (fun r G K => wt am_S0 (d + 1) mX11_row 5 [some (.ref 0), some (.int x1), l2, l3, l4] (r.toList ++ []) G K Q) := (wt_aload_n dX11_row_0 rfl rfl).trans ((wt_iload_n dX11_row_1 rfl).trans (wt_callV dX11_row_2 rfl (as := [.int x1]) (rest := []) rfl rfl (Nat.le_of_ble_eq_true rfl) rfl (Nat.le_of_ble_eq_true rfl)))
set_option maxHeartbeats 100000 in
theorem kX11_row_5 {d : Nat} {F : am_FT} {L : am_LT} {Q : am_QT} {l0 l1 l2 l4 : Option Value} {q0 : Nat} {x3 : Int32} : wt am_S0 d mX11_row 5 [l0, l1, l2, some (.int x3), l4] [.ref q0] F L Q = wt am_S0 d mX11_row 12 [l0, l1, l2, some (.int x3), some (.ref q0)] [] F L Q := (wt_astore dX11_row_5 (lv1 := [l0, l1, l2, some (.int x3), some (.ref q0)]) rfl (Nat.le_of_ble_eq_true rfl) rfl).trans ((wt_aload dX11_row_7 rfl rfl).trans (wt_ifnull dX11_row_9))
set_option maxHeartbeats 100000 in
theorem kX11_row_5N {d : Nat} {F : am_FT} {L : am_LT} {Q : am_QT} {l0 l1 l2 l4 : Option Value} {x3 : Int32} : wt am_S0 d mX11_row 5 [l0, l1, l2, some (.int x3), l4] [.null] F L Q = wt am_S0 d mX11_row 27 [l0, l1, l2, some (.int x3), some .null] [] F L Q := (wt_astore dX11_row_5 (lv1 := [l0, l1, l2, some (.int x3), some .null]) rfl (Nat.le_of_ble_eq_true rfl) rfl).trans ((wt_aload dX11_row_7 rfl rfl).trans (wt_ifnullN dX11_row_9 (t := 27) rfl))
set_option maxHeartbeats 100000 in
theorem kX11_row_12 {d : Nat} {F : am_FT} {L : am_LT} {Q : am_QT} {l0 l1 l3 l4 : Option Value} {x2 : Int32} : wt am_S0 (d + 1) mX11_row 12 [l0, l1, some (.int x2), l3, l4] [] F L Q = wc am_S0 d mX11_within [.int x2, .int 0, .int 4] F L (fun r G K => wt am_S0 (d + 1) mX11_row 18 [l0, l1, some (.int x2), l3, l4] (r.toList ++ []) G K Q) := (wt_iload_n dX11_row_12 rfl).trans ((wt_iconst dX11_row_13 (v := 0) (by decide)).trans ((wt_iconst dX11_row_14 (v := 4) (by decide)).trans (wt_callS dX11_row_15 rfl (as := [.int x2, .int 0, .int 4]) (rest := []) rfl rfl (Nat.le_of_ble_eq_true rfl) (Nat.le_of_ble_eq_true rfl))))
set_option maxHeartbeats 100000 in
theorem kX11_row_18 {d : Nat} {F : am_FT} {L : am_LT} {Q : am_QT} {l0 l1 l2 l3 l4 : Option Value} {s0 : Int32} : wt am_S0 d mX11_row 18 [l0, l1, l2, l3, l4] [.int s0] F L Q = if s0 = 0 then wt am_S0 d mX11_row 27 [l0, l1, l2, l3, l4] [] F L Q else wt am_S0 d mX11_row 21 [l0, l1, l2, l3, l4] [] F L Q := wt_ifCond_eq dX11_row_18 (t := 27) rfl
set_option maxHeartbeats 100000 in
theorem kX11_row_21 {d : Nat} {F : am_FT} {L : am_LT} {Q : am_QT} {l0 l1 l2 l4 : Option Value} {x3 : Int32} : wt am_S0 d mX11_row 21 [l0, l1, l2, some (.int x3), l4] [] F L Q = if x3 ≤ 60 then wt am_S0 d mX11_row 29 [l0, l1, l2, some (.int x3), l4] [] F L Q else wt am_S0 d mX11_row 27 [l0, l1, l2, some (.int x3), l4] [] F L Q := (wt_iload_n dX11_row_21 rfl).trans ((wt_bipush dX11_row_22 (v := 60) (by decide)).trans (wt_if_icmp_le dX11_row_24 (t := 29) rfl))
set_option maxHeartbeats 100000 in
theorem kX11_row_27 {d : Nat} {F : am_FT} {L : am_LT} {Q : am_QT} {l0 l1 l2 l3 l4 : Option Value} : wt am_S0 d mX11_row 27 [l0, l1, l2, l3, l4] [] F L Q = Q (some (.int (-1))) F L := (wt_iconst dX11_row_27 (v := (-1)) (by decide)).trans (wt_ireturn dX11_row_28 rfl rfl)
set_option maxHeartbeats 100000 in
theorem kX11_row_29 {d : Nat} {F : am_FT} {L : am_LT} {Q : am_QT} {l0 l1 l2 l4 : Option Value} {x3 : Int32} : wt am_S0 d mX11_row 29 [l0, l1, l2, some (.int x3), l4] [] F L Q = if 0 ≤ x3 then wt am_S0 d mX11_row 36 [l0, l1, l2, some (.int x3), l4] [] F L Q else wt am_S0 d mX11_row 33 [l0, l1, l2, some (.int x3), l4] [] F L Q := (wt_iload_n dX11_row_29 rfl).trans (wt_ifCond_ge dX11_row_30 (t := 36) rfl)
set_option maxHeartbeats 100000 in
theorem kX11_row_33 {d : Nat} {F : am_FT} {L : am_LT} {Q : am_QT} {l0 l1 l2 l3 l4 : Option Value} : wt am_S0 d mX11_row 33 [l0, l1, l2, l3, l4] [] F L Q = Q (some (.int (-14))) F L := (wt_bipush dX11_row_33 (v := (-14)) (by decide)).trans (wt_ireturn dX11_row_35 rfl rfl)
set_option maxHeartbeats 100000 in
theorem kX11_row_36 {d : Nat} {F : am_FT} {L : am_LT} {Q : am_QT} {l0 l1 : Option Value} {p4 e1 : Nat} {x2 x3 : Int32} (h1 : am_S0[p4]? = some (8, 4, [some e1, none, none, none])) : wt am_S0 (d + 1) mX11_row 36 [l0, l1, some (.int x2), some (.int x3), some (.ref p4)] [] F L Q = wc am_S0 d mX8_holdRow [.ref p4, .int x2, .int x3] F L (fun r G K => wt am_S0 (d + 1) mX11_row 43 [l0, l1, some (.int x2), some (.int x3), some (.ref p4)] (r.toList ++ []) G K Q) := (wt_aload dX11_row_36 rfl rfl).trans ((wt_iload_n dX11_row_38 rfl).trans ((wt_iload_n dX11_row_39 rfl).trans (wt_callV dX11_row_40 rfl (as := [.int x2, .int x3]) (rest := []) rfl rfl (Nat.le_of_ble_eq_true rfl) h1 (Nat.le_of_ble_eq_true rfl))))
set_option maxHeartbeats 100000 in
theorem kX11_row_43 {d : Nat} {F : am_FT} {L : am_LT} {Q : am_QT} {l0 l1 l2 l3 l4 : Option Value} : wt am_S0 d mX11_row 43 [l0, l1, l2, l3, l4] [] F L Q = Q (some (.int 1)) F L := (wt_iconst dX11_row_43 (v := 1) (by decide)).trans (wt_ireturn dX11_row_44 rfl rfl)
theorem dX11_put_0 : decode mX11_put.2.2.1 0 = .ok (.aload_n 0, 1) := by decide +kernel
theorem dX11_put_1 : decode mX11_put.2.2.1 1 = .ok (.iload_n 1, 1) := by decide +kernel
theorem dX11_put_2 : decode mX11_put.2.2.1 2 = .ok (.invokevirtual 113, 3) := by decide +kernel
theorem dX11_put_5 : decode mX11_put.2.2.1 5 = .ok (.astore 5, 2) := by decide +kernel
theorem dX11_put_7 : decode mX11_put.2.2.1 7 = .ok (.aload 5, 2) := by decide +kernel
theorem dX11_put_9 : decode mX11_put.2.2.1 9 = .ok (.ifnonnull 5, 3) := by decide +kernel
theorem dX11_put_12 : decode mX11_put.2.2.1 12 = .ok (.iconst (-1), 1) := by decide +kernel
theorem dX11_put_13 : decode mX11_put.2.2.1 13 = .ok (.ireturn, 1) := by decide +kernel
theorem dX11_put_14 : decode mX11_put.2.2.1 14 = .ok (.aload 5, 2) := by decide +kernel
theorem dX11_put_16 : decode mX11_put.2.2.1 16 = .ok (.invokevirtual 133, 3) := by decide +kernel
theorem dX11_put_19 : decode mX11_put.2.2.1 19 = .ok (.ifCond .ne 9, 3) := by decide +kernel
theorem dX11_put_22 : decode mX11_put.2.2.1 22 = .ok (.aload 5, 2) := by decide +kernel
theorem dX11_put_24 : decode mX11_put.2.2.1 24 = .ok (.invokestatic 271, 3) := by decide +kernel
theorem dX11_put_27 : decode mX11_put.2.2.1 27 = .ok (.ireturn, 1) := by decide +kernel
theorem dX11_put_28 : decode mX11_put.2.2.1 28 = .ok (.iload_n 2, 1) := by decide +kernel
theorem dX11_put_29 : decode mX11_put.2.2.1 29 = .ok (.iconst 0, 1) := by decide +kernel
theorem dX11_put_30 : decode mX11_put.2.2.1 30 = .ok (.aload 5, 2) := by decide +kernel
theorem dX11_put_32 : decode mX11_put.2.2.1 32 = .ok (.invokevirtual 138, 3) := by decide +kernel
theorem dX11_put_35 : decode mX11_put.2.2.1 35 = .ok (.iconst 1, 1) := by decide +kernel
theorem dX11_put_36 : decode mX11_put.2.2.1 36 = .ok (.isub, 1) := by decide +kernel
theorem dX11_put_37 : decode mX11_put.2.2.1 37 = .ok (.invokestatic 117, 3) := by decide +kernel
theorem dX11_put_40 : decode mX11_put.2.2.1 40 = .ok (.ifCond .ne 6, 3) := by decide +kernel
theorem dX11_put_43 : decode mX11_put.2.2.1 43 = .ok (.bipush (-13), 2) := by decide +kernel
theorem dX11_put_45 : decode mX11_put.2.2.1 45 = .ok (.ireturn, 1) := by decide +kernel
theorem dX11_put_46 : decode mX11_put.2.2.1 46 = .ok (.aload 5, 2) := by decide +kernel
theorem dX11_put_48 : decode mX11_put.2.2.1 48 = .ok (.iload_n 2, 1) := by decide +kernel
theorem dX11_put_49 : decode mX11_put.2.2.1 49 = .ok (.lload_n 3, 1) := by decide +kernel
theorem dX11_put_50 : decode mX11_put.2.2.1 50 = .ok (.invokevirtual 354, 3) := by decide +kernel
theorem dX11_put_53 : decode mX11_put.2.2.1 53 = .ok (.iconst 1, 1) := by decide +kernel
theorem dX11_put_54 : decode mX11_put.2.2.1 54 = .ok (.ireturn, 1) := by decide +kernel
set_option maxHeartbeats 100000 in
theorem kX11_put_0 {d : Nat} {F : am_FT} {L : am_LT} {Q : am_QT} {l2 l3 l4 l5 : Option Value} {x1 : Int32} : wt am_S0 (d + 1) mX11_put 0 [some (.ref 0), some (.int x1), l2, l3, l4, l5] [] F L Q = wc am_S0 d mX11_shelfAt [.ref 0, .int x1] F L (fun r G K => wt am_S0 (d + 1) mX11_put 5 [some (.ref 0), some (.int x1), l2, l3, l4, l5] (r.toList ++ []) G K Q) := (wt_aload_n dX11_put_0 rfl rfl).trans ((wt_iload_n dX11_put_1 rfl).trans (wt_callV dX11_put_2 rfl (as := [.int x1]) (rest := []) rfl rfl (Nat.le_of_ble_eq_true rfl) rfl (Nat.le_of_ble_eq_true rfl)))
set_option maxHeartbeats 100000 in
theorem kX11_put_5 {d : Nat} {F : am_FT} {L : am_LT} {Q : am_QT} {l0 l1 l2 l3 l5 : Option Value} {q0 : Nat} : wt am_S0 d mX11_put 5 [l0, l1, l2, l3, none, l5] [.ref q0] F L Q = wt am_S0 d mX11_put 14 [l0, l1, l2, l3, none, some (.ref q0)] [] F L Q := (wt_astore dX11_put_5 (lv1 := [l0, l1, l2, l3, none, some (.ref q0)]) rfl (Nat.le_of_ble_eq_true rfl) rfl).trans ((wt_aload dX11_put_7 rfl rfl).trans (wt_ifnonnull dX11_put_9 (t := 14) rfl))
set_option maxHeartbeats 100000 in
theorem kX11_put_5N {d : Nat} {F : am_FT} {L : am_LT} {Q : am_QT} {l0 l1 l2 l3 l5 : Option Value} : wt am_S0 d mX11_put 5 [l0, l1, l2, l3, none, l5] [.null] F L Q = wt am_S0 d mX11_put 12 [l0, l1, l2, l3, none, some .null] [] F L Q := (wt_astore dX11_put_5 (lv1 := [l0, l1, l2, l3, none, some .null]) rfl (Nat.le_of_ble_eq_true rfl) rfl).trans ((wt_aload dX11_put_7 rfl rfl).trans (wt_ifnonnullN dX11_put_9))
set_option maxHeartbeats 100000 in
theorem kX11_put_12 {d : Nat} {F : am_FT} {L : am_LT} {Q : am_QT} {l0 l1 l2 l3 l4 l5 : Option Value} : wt am_S0 d mX11_put 12 [l0, l1, l2, l3, l4, l5] [] F L Q = Q (some (.int (-1))) F L := (wt_iconst dX11_put_12 (v := (-1)) (by decide)).trans (wt_ireturn dX11_put_13 rfl rfl)
set_option maxHeartbeats 100000 in
theorem kX11_put_14 {d : Nat} {F : am_FT} {L : am_LT} {Q : am_QT} {l0 l1 l2 l3 l4 : Option Value} {p5 e1 : Nat} (h1 : am_S0[p5]? = some (8, 4, [some e1, none, none, none])) : wt am_S0 (d + 1) mX11_put 14 [l0, l1, l2, l3, l4, some (.ref p5)] [] F L Q = wc am_S0 d mX8_isRow [.ref p5] F L (fun r G K => wt am_S0 (d + 1) mX11_put 19 [l0, l1, l2, l3, l4, some (.ref p5)] (r.toList ++ []) G K Q) := (wt_aload dX11_put_14 rfl rfl).trans (wt_callV dX11_put_16 rfl (as := []) (rest := []) rfl rfl (Nat.le_of_ble_eq_true rfl) h1 (Nat.le_of_ble_eq_true rfl))
set_option maxHeartbeats 100000 in
theorem kX11_put_19 {d : Nat} {F : am_FT} {L : am_LT} {Q : am_QT} {l0 l1 l2 l3 l4 l5 : Option Value} {s0 : Int32} : wt am_S0 d mX11_put 19 [l0, l1, l2, l3, l4, l5] [.int s0] F L Q = if ¬ s0 = 0 then wt am_S0 d mX11_put 28 [l0, l1, l2, l3, l4, l5] [] F L Q else wt am_S0 d mX11_put 22 [l0, l1, l2, l3, l4, l5] [] F L Q := wt_ifCond_ne dX11_put_19 (t := 28) rfl
set_option maxHeartbeats 100000 in
theorem kX11_put_22 {d : Nat} {F : am_FT} {L : am_LT} {Q : am_QT} {l0 l1 l2 l3 l4 : Option Value} {p5 : Nat} : wt am_S0 (d + 1) mX11_put 22 [l0, l1, l2, l3, l4, some (.ref p5)] [] F L Q = wc am_S0 d mX11_refusalOf [.ref p5] F L (fun r G K => wt am_S0 (d + 1) mX11_put 27 [l0, l1, l2, l3, l4, some (.ref p5)] (r.toList ++ []) G K Q) := (wt_aload dX11_put_22 rfl rfl).trans (wt_callS dX11_put_24 rfl (as := [.ref p5]) (rest := []) rfl rfl (Nat.le_of_ble_eq_true rfl) (Nat.le_of_ble_eq_true rfl))
set_option maxHeartbeats 100000 in
theorem kX11_put_22N {d : Nat} {F : am_FT} {L : am_LT} {Q : am_QT} {l0 l1 l2 l3 l4 : Option Value} : wt am_S0 (d + 1) mX11_put 22 [l0, l1, l2, l3, l4, some .null] [] F L Q = wc am_S0 d mX11_refusalOf [.null] F L (fun r G K => wt am_S0 (d + 1) mX11_put 27 [l0, l1, l2, l3, l4, some .null] (r.toList ++ []) G K Q) := (wt_aload dX11_put_22 rfl rfl).trans (wt_callS dX11_put_24 rfl (as := [.null]) (rest := []) rfl rfl (Nat.le_of_ble_eq_true rfl) (Nat.le_of_ble_eq_true rfl))
set_option maxHeartbeats 100000 in
theorem kX11_put_27 {d : Nat} {F : am_FT} {L : am_LT} {Q : am_QT} {l0 l1 l2 l3 l4 l5 : Option Value} {s0 : Int32} : wt am_S0 d mX11_put 27 [l0, l1, l2, l3, l4, l5] [.int s0] F L Q = Q (some (.int s0)) F L := wt_ireturn dX11_put_27 rfl rfl
set_option maxHeartbeats 100000 in
theorem kX11_put_28 {d : Nat} {F : am_FT} {L : am_LT} {Q : am_QT} {l0 l1 l3 l4 : Option Value} {x2 : Int32} {p5 e1 : Nat} (h1 : am_S0[p5]? = some (8, 4, [some e1, none, none, none])) : wt am_S0 (d + 1) mX11_put 28 [l0, l1, some (.int x2), l3, l4, some (.ref p5)] [] F L Q = wc am_S0 d mX8_size [.ref p5] F L (fun r G K => wt am_S0 (d + 1) mX11_put 35 [l0, l1, some (.int x2), l3, l4, some (.ref p5)] (r.toList ++ [.int 0, .int x2]) G K Q) := (wt_iload_n dX11_put_28 rfl).trans ((wt_iconst dX11_put_29 (v := 0) (by decide)).trans ((wt_aload dX11_put_30 rfl rfl).trans (wt_callV dX11_put_32 rfl (as := []) (rest := [.int 0, .int x2]) rfl rfl (Nat.le_of_ble_eq_true rfl) h1 (Nat.le_of_ble_eq_true rfl))))
set_option maxHeartbeats 100000 in
theorem kX11_put_35 {d : Nat} {F : am_FT} {L : am_LT} {Q : am_QT} {l0 l1 l2 l3 l4 l5 : Option Value} {s0 s1 s2 : Int32} : wt am_S0 (d + 1) mX11_put 35 [l0, l1, l2, l3, l4, l5] [.int s2, .int s1, .int s0] F L Q = wc am_S0 d mX11_within [.int s0, .int s1, .int (s2 - 1)] F L (fun r G K => wt am_S0 (d + 1) mX11_put 40 [l0, l1, l2, l3, l4, l5] (r.toList ++ []) G K Q) := (wt_iconst dX11_put_35 (v := 1) (by decide)).trans ((wt_isub dX11_put_36).trans (wt_callS dX11_put_37 rfl (as := [.int s0, .int s1, .int (s2 - 1)]) (rest := []) rfl rfl (Nat.le_of_ble_eq_true rfl) (Nat.le_of_ble_eq_true rfl)))
set_option maxHeartbeats 100000 in
theorem kX11_put_40 {d : Nat} {F : am_FT} {L : am_LT} {Q : am_QT} {l0 l1 l2 l3 l4 l5 : Option Value} {s0 : Int32} : wt am_S0 d mX11_put 40 [l0, l1, l2, l3, l4, l5] [.int s0] F L Q = if ¬ s0 = 0 then wt am_S0 d mX11_put 46 [l0, l1, l2, l3, l4, l5] [] F L Q else wt am_S0 d mX11_put 43 [l0, l1, l2, l3, l4, l5] [] F L Q := wt_ifCond_ne dX11_put_40 (t := 46) rfl
set_option maxHeartbeats 100000 in
theorem kX11_put_43 {d : Nat} {F : am_FT} {L : am_LT} {Q : am_QT} {l0 l1 l2 l3 l4 l5 : Option Value} : wt am_S0 d mX11_put 43 [l0, l1, l2, l3, l4, l5] [] F L Q = Q (some (.int (-13))) F L := (wt_bipush dX11_put_43 (v := (-13)) (by decide)).trans (wt_ireturn dX11_put_45 rfl rfl)
set_option maxHeartbeats 100000 in
theorem kX11_put_46 {d : Nat} {F : am_FT} {L : am_LT} {Q : am_QT} {l0 l1 l4 : Option Value} {p5 e1 : Nat} {x2 : Int32} {x3 : Int64} (h1 : am_S0[p5]? = some (8, 4, [some e1, none, none, none])) : wt am_S0 (d + 1) mX11_put 46 [l0, l1, some (.int x2), some (.long x3), l4, some (.ref p5)] [] F L Q = wc am_S0 d mX8_write [.ref p5, .int x2, .long x3] F L (fun r G K => wt am_S0 (d + 1) mX11_put 53 [l0, l1, some (.int x2), some (.long x3), l4, some (.ref p5)] (r.toList ++ []) G K Q) := (wt_aload dX11_put_46 rfl rfl).trans ((wt_iload_n dX11_put_48 rfl).trans ((wt_lload_n dX11_put_49 rfl).trans (wt_callV dX11_put_50 rfl (as := [.int x2, .long x3]) (rest := []) rfl rfl (Nat.le_of_ble_eq_true rfl) h1 (Nat.le_of_ble_eq_true rfl))))
set_option maxHeartbeats 100000 in
theorem kX11_put_53 {d : Nat} {F : am_FT} {L : am_LT} {Q : am_QT} {l0 l1 l2 l3 l4 l5 : Option Value} : wt am_S0 d mX11_put 53 [l0, l1, l2, l3, l4, l5] [] F L Q = Q (some (.int 1)) F L := (wt_iconst dX11_put_53 (v := 1) (by decide)).trans (wt_ireturn dX11_put_54 rfl rfl)
theorem dX11_element_0 : decode mX11_element.2.2.1 0 = .ok (.aload_n 0, 1) := by decide +kernel
theorem dX11_element_1 : decode mX11_element.2.2.1 1 = .ok (.iload_n 1, 1) := by decide +kernel
theorem dX11_element_2 : decode mX11_element.2.2.1 2 = .ok (.invokevirtual 113, 3) := by decide +kernel
theorem dX11_element_5 : decode mX11_element.2.2.1 5 = .ok (.astore_n 3, 1) := by decide +kernel
theorem dX11_element_6 : decode mX11_element.2.2.1 6 = .ok (.aload_n 3, 1) := by decide +kernel
theorem dX11_element_7 : decode mX11_element.2.2.1 7 = .ok (.ifnull 24, 3) := by decide +kernel
theorem dX11_element_10 : decode mX11_element.2.2.1 10 = .ok (.aload_n 3, 1) := by decide +kernel
theorem dX11_element_11 : decode mX11_element.2.2.1 11 = .ok (.invokevirtual 133, 3) := by decide +kernel
theorem dX11_element_14 : decode mX11_element.2.2.1 14 = .ok (.ifCond .eq 17, 3) := by decide +kernel
theorem dX11_element_17 : decode mX11_element.2.2.1 17 = .ok (.iload_n 2, 1) := by decide +kernel
theorem dX11_element_18 : decode mX11_element.2.2.1 18 = .ok (.iconst 0, 1) := by decide +kernel
theorem dX11_element_19 : decode mX11_element.2.2.1 19 = .ok (.aload_n 3, 1) := by decide +kernel
theorem dX11_element_20 : decode mX11_element.2.2.1 20 = .ok (.invokevirtual 138, 3) := by decide +kernel
theorem dX11_element_23 : decode mX11_element.2.2.1 23 = .ok (.iconst 1, 1) := by decide +kernel
theorem dX11_element_24 : decode mX11_element.2.2.1 24 = .ok (.isub, 1) := by decide +kernel
theorem dX11_element_25 : decode mX11_element.2.2.1 25 = .ok (.invokestatic 117, 3) := by decide +kernel
theorem dX11_element_28 : decode mX11_element.2.2.1 28 = .ok (.ifCond .ne 7, 3) := by decide +kernel
theorem dX11_element_31 : decode mX11_element.2.2.1 31 = .ok (.ldc2_w 234, 3) := by decide +kernel
theorem dX11_element_34 : decode mX11_element.2.2.1 34 = .ok (.lreturn, 1) := by decide +kernel
theorem dX11_element_35 : decode mX11_element.2.2.1 35 = .ok (.aload_n 3, 1) := by decide +kernel
theorem dX11_element_36 : decode mX11_element.2.2.1 36 = .ok (.iload_n 2, 1) := by decide +kernel
theorem dX11_element_37 : decode mX11_element.2.2.1 37 = .ok (.invokevirtual 142, 3) := by decide +kernel
theorem dX11_element_40 : decode mX11_element.2.2.1 40 = .ok (.lreturn, 1) := by decide +kernel
set_option maxHeartbeats 100000 in
theorem kX11_element_0 {d : Nat} {F : am_FT} {L : am_LT} {Q : am_QT} {l2 l3 : Option Value} {x1 : Int32} : wt am_S0 (d + 1) mX11_element 0 [some (.ref 0), some (.int x1), l2, l3] [] F L Q = wc am_S0 d mX11_shelfAt [.ref 0, .int x1] F L (fun r G K => wt am_S0 (d + 1) mX11_element 5 [some (.ref 0), some (.int x1), l2, l3] (r.toList ++ []) G K Q) := (wt_aload_n dX11_element_0 rfl rfl).trans ((wt_iload_n dX11_element_1 rfl).trans (wt_callV dX11_element_2 rfl (as := [.int x1]) (rest := []) rfl rfl (Nat.le_of_ble_eq_true rfl) rfl (Nat.le_of_ble_eq_true rfl)))
set_option maxHeartbeats 100000 in
theorem kX11_element_5 {d : Nat} {F : am_FT} {L : am_LT} {Q : am_QT} {l0 l1 l3 : Option Value} {q0 : Nat} {x2 : Int32} : wt am_S0 d mX11_element 5 [l0, l1, some (.int x2), l3] [.ref q0] F L Q = wt am_S0 d mX11_element 10 [l0, l1, some (.int x2), some (.ref q0)] [] F L Q := (wt_astore_n dX11_element_5 (lv1 := [l0, l1, some (.int x2), some (.ref q0)]) rfl (Nat.le_of_ble_eq_true rfl) rfl).trans ((wt_aload_n dX11_element_6 rfl rfl).trans (wt_ifnull dX11_element_7))
set_option maxHeartbeats 100000 in
theorem kX11_element_5N {d : Nat} {F : am_FT} {L : am_LT} {Q : am_QT} {l0 l1 l3 : Option Value} {x2 : Int32} : wt am_S0 d mX11_element 5 [l0, l1, some (.int x2), l3] [.null] F L Q = wt am_S0 d mX11_element 31 [l0, l1, some (.int x2), some .null] [] F L Q := (wt_astore_n dX11_element_5 (lv1 := [l0, l1, some (.int x2), some .null]) rfl (Nat.le_of_ble_eq_true rfl) rfl).trans ((wt_aload_n dX11_element_6 rfl rfl).trans (wt_ifnullN dX11_element_7 (t := 31) rfl))
set_option maxHeartbeats 100000 in
theorem kX11_element_10 {d : Nat} {F : am_FT} {L : am_LT} {Q : am_QT} {l0 l1 l2 : Option Value} {p3 e1 : Nat} (h1 : am_S0[p3]? = some (8, 4, [some e1, none, none, none])) : wt am_S0 (d + 1) mX11_element 10 [l0, l1, l2, some (.ref p3)] [] F L Q = wc am_S0 d mX8_isRow [.ref p3] F L (fun r G K => wt am_S0 (d + 1) mX11_element 14 [l0, l1, l2, some (.ref p3)] (r.toList ++ []) G K Q) := (wt_aload_n dX11_element_10 rfl rfl).trans (wt_callV dX11_element_11 rfl (as := []) (rest := []) rfl rfl (Nat.le_of_ble_eq_true rfl) h1 (Nat.le_of_ble_eq_true rfl))
set_option maxHeartbeats 100000 in
theorem kX11_element_14 {d : Nat} {F : am_FT} {L : am_LT} {Q : am_QT} {l0 l1 l2 l3 : Option Value} {s0 : Int32} : wt am_S0 d mX11_element 14 [l0, l1, l2, l3] [.int s0] F L Q = if s0 = 0 then wt am_S0 d mX11_element 31 [l0, l1, l2, l3] [] F L Q else wt am_S0 d mX11_element 17 [l0, l1, l2, l3] [] F L Q := wt_ifCond_eq dX11_element_14 (t := 31) rfl
set_option maxHeartbeats 100000 in
theorem kX11_element_17 {d : Nat} {F : am_FT} {L : am_LT} {Q : am_QT} {l0 l1 : Option Value} {x2 : Int32} {p3 e1 : Nat} (h1 : am_S0[p3]? = some (8, 4, [some e1, none, none, none])) : wt am_S0 (d + 1) mX11_element 17 [l0, l1, some (.int x2), some (.ref p3)] [] F L Q = wc am_S0 d mX8_size [.ref p3] F L (fun r G K => wt am_S0 (d + 1) mX11_element 23 [l0, l1, some (.int x2), some (.ref p3)] (r.toList ++ [.int 0, .int x2]) G K Q) := (wt_iload_n dX11_element_17 rfl).trans ((wt_iconst dX11_element_18 (v := 0) (by decide)).trans ((wt_aload_n dX11_element_19 rfl rfl).trans (wt_callV dX11_element_20 rfl (as := []) (rest := [.int 0, .int x2]) rfl rfl (Nat.le_of_ble_eq_true rfl) h1 (Nat.le_of_ble_eq_true rfl))))
set_option maxHeartbeats 100000 in
theorem kX11_element_23 {d : Nat} {F : am_FT} {L : am_LT} {Q : am_QT} {l0 l1 l2 l3 : Option Value} {s0 s1 s2 : Int32} : wt am_S0 (d + 1) mX11_element 23 [l0, l1, l2, l3] [.int s2, .int s1, .int s0] F L Q = wc am_S0 d mX11_within [.int s0, .int s1, .int (s2 - 1)] F L (fun r G K => wt am_S0 (d + 1) mX11_element 28 [l0, l1, l2, l3] (r.toList ++ []) G K Q) := (wt_iconst dX11_element_23 (v := 1) (by decide)).trans ((wt_isub dX11_element_24).trans (wt_callS dX11_element_25 rfl (as := [.int s0, .int s1, .int (s2 - 1)]) (rest := []) rfl rfl (Nat.le_of_ble_eq_true rfl) (Nat.le_of_ble_eq_true rfl)))
set_option maxHeartbeats 100000 in
theorem kX11_element_28 {d : Nat} {F : am_FT} {L : am_LT} {Q : am_QT} {l0 l1 l2 l3 : Option Value} {s0 : Int32} : wt am_S0 d mX11_element 28 [l0, l1, l2, l3] [.int s0] F L Q = if ¬ s0 = 0 then wt am_S0 d mX11_element 35 [l0, l1, l2, l3] [] F L Q else wt am_S0 d mX11_element 31 [l0, l1, l2, l3] [] F L Q := wt_ifCond_ne dX11_element_28 (t := 35) rfl
set_option maxHeartbeats 100000 in
theorem kX11_element_31 {d : Nat} {F : am_FT} {L : am_LT} {Q : am_QT} {l0 l1 l2 l3 : Option Value} : wt am_S0 d mX11_element 31 [l0, l1, l2, l3] [] F L Q = Q (some (.long (-9223372036854775808))) F L := (wt_ldc2_w dX11_element_31 (v := -9223372036854775808) rfl).trans (wt_lreturn dX11_element_34 rfl)
set_option maxHeartbeats 100000 in
theorem kX11_element_35 {d : Nat} {F : am_FT} {L : am_LT} {Q : am_QT} {l0 l1 : Option Value} {p3 e1 : Nat} {x2 : Int32} (h1 : am_S0[p3]? = some (8, 4, [some e1, none, none, none])) : wt am_S0 (d + 1) mX11_element 35 [l0, l1, some (.int x2), some (.ref p3)] [] F L Q = wc am_S0 d mX8_valueAt [.ref p3, .int x2] F L (fun r G K => wt am_S0 (d + 1) mX11_element 40 [l0, l1, some (.int x2), some (.ref p3)] (r.toList ++ []) G K Q) := (wt_aload_n dX11_element_35 rfl rfl).trans ((wt_iload_n dX11_element_36 rfl).trans (wt_callV dX11_element_37 rfl (as := [.int x2]) (rest := []) rfl rfl (Nat.le_of_ble_eq_true rfl) h1 (Nat.le_of_ble_eq_true rfl)))
set_option maxHeartbeats 100000 in
theorem kX11_element_40 {d : Nat} {F : am_FT} {L : am_LT} {Q : am_QT} {l0 l1 l2 l3 : Option Value} {s0 : Int64} : wt am_S0 d mX11_element 40 [l0, l1, l2, l3] [.long s0] F L Q = Q (some (.long s0)) F L := wt_lreturn dX11_element_40 rfl
theorem dX11_shift_0 : decode mX11_shift.2.2.1 0 = .ok (.aload_n 0, 1) := by decide +kernel
theorem dX11_shift_1 : decode mX11_shift.2.2.1 1 = .ok (.iload_n 1, 1) := by decide +kernel
theorem dX11_shift_2 : decode mX11_shift.2.2.1 2 = .ok (.invokevirtual 113, 3) := by decide +kernel
theorem dX11_shift_5 : decode mX11_shift.2.2.1 5 = .ok (.astore 6, 2) := by decide +kernel
theorem dX11_shift_7 : decode mX11_shift.2.2.1 7 = .ok (.aload_n 0, 1) := by decide +kernel
theorem dX11_shift_8 : decode mX11_shift.2.2.1 8 = .ok (.iload_n 3, 1) := by decide +kernel
theorem dX11_shift_9 : decode mX11_shift.2.2.1 9 = .ok (.invokevirtual 113, 3) := by decide +kernel
theorem dX11_shift_12 : decode mX11_shift.2.2.1 12 = .ok (.astore 7, 2) := by decide +kernel
theorem dX11_shift_14 : decode mX11_shift.2.2.1 14 = .ok (.aload 6, 2) := by decide +kernel
theorem dX11_shift_16 : decode mX11_shift.2.2.1 16 = .ok (.ifnull 8, 3) := by decide +kernel
theorem dX11_shift_19 : decode mX11_shift.2.2.1 19 = .ok (.aload 7, 2) := by decide +kernel
theorem dX11_shift_21 : decode mX11_shift.2.2.1 21 = .ok (.ifnonnull 5, 3) := by decide +kernel
theorem dX11_shift_24 : decode mX11_shift.2.2.1 24 = .ok (.iconst (-1), 1) := by decide +kernel
theorem dX11_shift_25 : decode mX11_shift.2.2.1 25 = .ok (.ireturn, 1) := by decide +kernel
theorem dX11_shift_26 : decode mX11_shift.2.2.1 26 = .ok (.aload 6, 2) := by decide +kernel
theorem dX11_shift_28 : decode mX11_shift.2.2.1 28 = .ok (.invokevirtual 121, 3) := by decide +kernel
theorem dX11_shift_31 : decode mX11_shift.2.2.1 31 = .ok (.ifCond .ne 11, 3) := by decide +kernel
theorem dX11_shift_34 : decode mX11_shift.2.2.1 34 = .ok (.aload 7, 2) := by decide +kernel
theorem dX11_shift_36 : decode mX11_shift.2.2.1 36 = .ok (.invokevirtual 121, 3) := by decide +kernel
theorem dX11_shift_39 : decode mX11_shift.2.2.1 39 = .ok (.ifCond .eq 6, 3) := by decide +kernel
theorem dX11_shift_42 : decode mX11_shift.2.2.1 42 = .ok (.bipush (-11), 2) := by decide +kernel
theorem dX11_shift_44 : decode mX11_shift.2.2.1 44 = .ok (.ireturn, 1) := by decide +kernel
theorem dX11_shift_45 : decode mX11_shift.2.2.1 45 = .ok (.aload 6, 2) := by decide +kernel
theorem dX11_shift_47 : decode mX11_shift.2.2.1 47 = .ok (.invokevirtual 133, 3) := by decide +kernel
theorem dX11_shift_50 : decode mX11_shift.2.2.1 50 = .ok (.ifCond .eq 16, 3) := by decide +kernel
theorem dX11_shift_53 : decode mX11_shift.2.2.1 53 = .ok (.aload 7, 2) := by decide +kernel
theorem dX11_shift_55 : decode mX11_shift.2.2.1 55 = .ok (.aload 6, 2) := by decide +kernel
theorem dX11_shift_57 : decode mX11_shift.2.2.1 57 = .ok (.getfield 357, 3) := by decide +kernel
theorem dX11_shift_60 : decode mX11_shift.2.2.1 60 = .ok (.invokevirtual 125, 3) := by decide +kernel
theorem dX11_shift_63 : decode mX11_shift.2.2.1 63 = .ok (.ifCond .ne 6, 3) := by decide +kernel
theorem dX11_shift_66 : decode mX11_shift.2.2.1 66 = .ok (.bipush (-12), 2) := by decide +kernel
theorem dX11_shift_68 : decode mX11_shift.2.2.1 68 = .ok (.ireturn, 1) := by decide +kernel
theorem dX11_shift_69 : decode mX11_shift.2.2.1 69 = .ok (.aload 7, 2) := by decide +kernel
theorem dX11_shift_71 : decode mX11_shift.2.2.1 71 = .ok (.aload 6, 2) := by decide +kernel
theorem dX11_shift_73 : decode mX11_shift.2.2.1 73 = .ok (.iload_n 2, 1) := by decide +kernel
theorem dX11_shift_74 : decode mX11_shift.2.2.1 74 = .ok (.iload 4, 2) := by decide +kernel
theorem dX11_shift_76 : decode mX11_shift.2.2.1 76 = .ok (.iload 5, 2) := by decide +kernel
theorem dX11_shift_78 : decode mX11_shift.2.2.1 78 = .ok (.invokevirtual 360, 3) := by decide +kernel
theorem dX11_shift_81 : decode mX11_shift.2.2.1 81 = .ok (.ifCond .eq 8, 3) := by decide +kernel
theorem dX11_shift_84 : decode mX11_shift.2.2.1 84 = .ok (.iload 5, 2) := by decide +kernel
theorem dX11_shift_86 : decode mX11_shift.2.2.1 86 = .ok (.goto 5, 3) := by decide +kernel
theorem dX11_shift_89 : decode mX11_shift.2.2.1 89 = .ok (.bipush (-13), 2) := by decide +kernel
theorem dX11_shift_91 : decode mX11_shift.2.2.1 91 = .ok (.ireturn, 1) := by decide +kernel
set_option maxHeartbeats 100000 in
theorem kX11_shift_0 {d : Nat} {F : am_FT} {L : am_LT} {Q : am_QT} {l2 l3 l4 l5 l6 l7 : Option Value} {x1 : Int32} : wt am_S0 (d + 1) mX11_shift 0 [some (.ref 0), some (.int x1), l2, l3, l4, l5, l6, l7] [] F L Q = wc am_S0 d mX11_shelfAt [.ref 0, .int x1] F L (fun r G K => wt am_S0 (d + 1) mX11_shift 5 [some (.ref 0), some (.int x1), l2, l3, l4, l5, l6, l7] (r.toList ++ []) G K Q) := (wt_aload_n dX11_shift_0 rfl rfl).trans ((wt_iload_n dX11_shift_1 rfl).trans (wt_callV dX11_shift_2 rfl (as := [.int x1]) (rest := []) rfl rfl (Nat.le_of_ble_eq_true rfl) rfl (Nat.le_of_ble_eq_true rfl)))
set_option maxHeartbeats 100000 in
theorem kX11_shift_5 {d : Nat} {F : am_FT} {L : am_LT} {Q : am_QT} {l1 l2 l4 l6 l7 : Option Value} {q0 : Nat} {x5 x3 : Int32} : wt am_S0 (d + 1) mX11_shift 5 [some (.ref 0), l1, l2, some (.int x3), l4, some (.int x5), l6, l7] [.ref q0] F L Q = wc am_S0 d mX11_shelfAt [.ref 0, .int x3] F L (fun r G K => wt am_S0 (d + 1) mX11_shift 12 [some (.ref 0), l1, l2, some (.int x3), l4, some (.int x5), some (.ref q0), l7] (r.toList ++ []) G K Q) := (wt_astore dX11_shift_5 (lv1 := [some (.ref 0), l1, l2, some (.int x3), l4, some (.int x5), some (.ref q0), l7]) rfl (Nat.le_of_ble_eq_true rfl) rfl).trans ((wt_aload_n dX11_shift_7 rfl rfl).trans ((wt_iload_n dX11_shift_8 rfl).trans (wt_callV dX11_shift_9 rfl (as := [.int x3]) (rest := []) rfl rfl (Nat.le_of_ble_eq_true rfl) rfl (Nat.le_of_ble_eq_true rfl))))
set_option maxHeartbeats 100000 in
theorem kX11_shift_5N {d : Nat} {F : am_FT} {L : am_LT} {Q : am_QT} {l1 l2 l4 l6 l7 : Option Value} {x5 x3 : Int32} : wt am_S0 (d + 1) mX11_shift 5 [some (.ref 0), l1, l2, some (.int x3), l4, some (.int x5), l6, l7] [.null] F L Q = wc am_S0 d mX11_shelfAt [.ref 0, .int x3] F L (fun r G K => wt am_S0 (d + 1) mX11_shift 12 [some (.ref 0), l1, l2, some (.int x3), l4, some (.int x5), some .null, l7] (r.toList ++ []) G K Q) := (wt_astore dX11_shift_5 (lv1 := [some (.ref 0), l1, l2, some (.int x3), l4, some (.int x5), some .null, l7]) rfl (Nat.le_of_ble_eq_true rfl) rfl).trans ((wt_aload_n dX11_shift_7 rfl rfl).trans ((wt_iload_n dX11_shift_8 rfl).trans (wt_callV dX11_shift_9 rfl (as := [.int x3]) (rest := []) rfl rfl (Nat.le_of_ble_eq_true rfl) rfl (Nat.le_of_ble_eq_true rfl))))
set_option maxHeartbeats 100000 in
theorem kX11_shift_12 {d : Nat} {F : am_FT} {L : am_LT} {Q : am_QT} {l0 l1 l2 l3 l4 l5 l7 : Option Value} {q0 p6 : Nat} : wt am_S0 d mX11_shift 12 [l0, l1, l2, l3, l4, l5, some (.ref p6), l7] [.ref q0] F L Q = wt am_S0 d mX11_shift 19 [l0, l1, l2, l3, l4, l5, some (.ref p6), some (.ref q0)] [] F L Q := (wt_astore dX11_shift_12 (lv1 := [l0, l1, l2, l3, l4, l5, some (.ref p6), some (.ref q0)]) rfl (Nat.le_of_ble_eq_true rfl) rfl).trans ((wt_aload dX11_shift_14 rfl rfl).trans (wt_ifnull dX11_shift_16))
set_option maxHeartbeats 100000 in
theorem kX11_shift_12N {d : Nat} {F : am_FT} {L : am_LT} {Q : am_QT} {l0 l1 l2 l3 l4 l5 l7 : Option Value} : wt am_S0 d mX11_shift 12 [l0, l1, l2, l3, l4, l5, some .null, l7] [.null] F L Q = wt am_S0 d mX11_shift 24 [l0, l1, l2, l3, l4, l5, some .null, some .null] [] F L Q := (wt_astore dX11_shift_12 (lv1 := [l0, l1, l2, l3, l4, l5, some .null, some .null]) rfl (Nat.le_of_ble_eq_true rfl) rfl).trans ((wt_aload dX11_shift_14 rfl rfl).trans (wt_ifnullN dX11_shift_16 (t := 24) rfl))
set_option maxHeartbeats 100000 in
theorem kX11_shift_19 {d : Nat} {F : am_FT} {L : am_LT} {Q : am_QT} {l0 l1 l2 l3 l4 l5 l6 : Option Value} {p7 : Nat} : wt am_S0 d mX11_shift 19 [l0, l1, l2, l3, l4, l5, l6, some (.ref p7)] [] F L Q = wt am_S0 d mX11_shift 26 [l0, l1, l2, l3, l4, l5, l6, some (.ref p7)] [] F L Q := (wt_aload dX11_shift_19 rfl rfl).trans (wt_ifnonnull dX11_shift_21 (t := 26) rfl)
set_option maxHeartbeats 100000 in
theorem kX11_shift_19N {d : Nat} {F : am_FT} {L : am_LT} {Q : am_QT} {l0 l1 l2 l3 l4 l5 l6 : Option Value} : wt am_S0 d mX11_shift 19 [l0, l1, l2, l3, l4, l5, l6, some .null] [] F L Q = wt am_S0 d mX11_shift 24 [l0, l1, l2, l3, l4, l5, l6, some .null] [] F L Q := (wt_aload dX11_shift_19 rfl rfl).trans (wt_ifnonnullN dX11_shift_21)
set_option maxHeartbeats 100000 in
theorem kX11_shift_24 {d : Nat} {F : am_FT} {L : am_LT} {Q : am_QT} {l0 l1 l2 l3 l4 l5 l6 l7 : Option Value} : wt am_S0 d mX11_shift 24 [l0, l1, l2, l3, l4, l5, l6, l7] [] F L Q = Q (some (.int (-1))) F L := (wt_iconst dX11_shift_24 (v := (-1)) (by decide)).trans (wt_ireturn dX11_shift_25 rfl rfl)
set_option maxHeartbeats 100000 in
theorem kX11_shift_26 {d : Nat} {F : am_FT} {L : am_LT} {Q : am_QT} {l0 l1 l2 l3 l4 l5 l7 : Option Value} {p6 e1 : Nat} (h1 : am_S0[p6]? = some (8, 4, [some e1, none, none, none])) : wt am_S0 (d + 1) mX11_shift 26 [l0, l1, l2, l3, l4, l5, some (.ref p6), l7] [] F L Q = wc am_S0 d mX8_isEmpty [.ref p6] F L (fun r G K => wt am_S0 (d + 1) mX11_shift 31 [l0, l1, l2, l3, l4, l5, some (.ref p6), l7] (r.toList ++ []) G K Q) := (wt_aload dX11_shift_26 rfl rfl).trans (wt_callV dX11_shift_28 rfl (as := []) (rest := []) rfl rfl (Nat.le_of_ble_eq_true rfl) h1 (Nat.le_of_ble_eq_true rfl))
set_option maxHeartbeats 100000 in
theorem kX11_shift_31 {d : Nat} {F : am_FT} {L : am_LT} {Q : am_QT} {l0 l1 l2 l3 l4 l5 l6 l7 : Option Value} {s0 : Int32} : wt am_S0 d mX11_shift 31 [l0, l1, l2, l3, l4, l5, l6, l7] [.int s0] F L Q = if ¬ s0 = 0 then wt am_S0 d mX11_shift 42 [l0, l1, l2, l3, l4, l5, l6, l7] [] F L Q else wt am_S0 d mX11_shift 34 [l0, l1, l2, l3, l4, l5, l6, l7] [] F L Q := wt_ifCond_ne dX11_shift_31 (t := 42) rfl
set_option maxHeartbeats 100000 in
theorem kX11_shift_34 {d : Nat} {F : am_FT} {L : am_LT} {Q : am_QT} {l0 l1 l2 l3 l4 l5 l6 : Option Value} {p7 e1 : Nat} (h1 : am_S0[p7]? = some (8, 4, [some e1, none, none, none])) : wt am_S0 (d + 1) mX11_shift 34 [l0, l1, l2, l3, l4, l5, l6, some (.ref p7)] [] F L Q = wc am_S0 d mX8_isEmpty [.ref p7] F L (fun r G K => wt am_S0 (d + 1) mX11_shift 39 [l0, l1, l2, l3, l4, l5, l6, some (.ref p7)] (r.toList ++ []) G K Q) := (wt_aload dX11_shift_34 rfl rfl).trans (wt_callV dX11_shift_36 rfl (as := []) (rest := []) rfl rfl (Nat.le_of_ble_eq_true rfl) h1 (Nat.le_of_ble_eq_true rfl))
set_option maxHeartbeats 100000 in
theorem kX11_shift_39 {d : Nat} {F : am_FT} {L : am_LT} {Q : am_QT} {l0 l1 l2 l3 l4 l5 l6 l7 : Option Value} {s0 : Int32} : wt am_S0 d mX11_shift 39 [l0, l1, l2, l3, l4, l5, l6, l7] [.int s0] F L Q = if s0 = 0 then wt am_S0 d mX11_shift 45 [l0, l1, l2, l3, l4, l5, l6, l7] [] F L Q else wt am_S0 d mX11_shift 42 [l0, l1, l2, l3, l4, l5, l6, l7] [] F L Q := wt_ifCond_eq dX11_shift_39 (t := 45) rfl
set_option maxHeartbeats 100000 in
theorem kX11_shift_42 {d : Nat} {F : am_FT} {L : am_LT} {Q : am_QT} {l0 l1 l2 l3 l4 l5 l6 l7 : Option Value} : wt am_S0 d mX11_shift 42 [l0, l1, l2, l3, l4, l5, l6, l7] [] F L Q = Q (some (.int (-11))) F L := (wt_bipush dX11_shift_42 (v := (-11)) (by decide)).trans (wt_ireturn dX11_shift_44 rfl rfl)
set_option maxHeartbeats 100000 in
theorem kX11_shift_45 {d : Nat} {F : am_FT} {L : am_LT} {Q : am_QT} {l0 l1 l2 l3 l4 l5 l7 : Option Value} {p6 e1 : Nat} (h1 : am_S0[p6]? = some (8, 4, [some e1, none, none, none])) : wt am_S0 (d + 1) mX11_shift 45 [l0, l1, l2, l3, l4, l5, some (.ref p6), l7] [] F L Q = wc am_S0 d mX8_isRow [.ref p6] F L (fun r G K => wt am_S0 (d + 1) mX11_shift 50 [l0, l1, l2, l3, l4, l5, some (.ref p6), l7] (r.toList ++ []) G K Q) := (wt_aload dX11_shift_45 rfl rfl).trans (wt_callV dX11_shift_47 rfl (as := []) (rest := []) rfl rfl (Nat.le_of_ble_eq_true rfl) h1 (Nat.le_of_ble_eq_true rfl))
set_option maxHeartbeats 100000 in
theorem kX11_shift_50 {d : Nat} {F : am_FT} {L : am_LT} {Q : am_QT} {l0 l1 l2 l3 l4 l5 l6 l7 : Option Value} {s0 : Int32} : wt am_S0 d mX11_shift 50 [l0, l1, l2, l3, l4, l5, l6, l7] [.int s0] F L Q = if s0 = 0 then wt am_S0 d mX11_shift 66 [l0, l1, l2, l3, l4, l5, l6, l7] [] F L Q else wt am_S0 d mX11_shift 53 [l0, l1, l2, l3, l4, l5, l6, l7] [] F L Q := wt_ifCond_eq dX11_shift_50 (t := 66) rfl
set_option maxHeartbeats 100000 in
theorem kX11_shift_53 {d : Nat} {F : am_FT} {L : am_LT} {Q : am_QT} {l0 l1 l2 l3 l4 l5 : Option Value} {p7 p6 e1 e2 : Nat} (h1 : am_S0[p6]? = some (8, 4, [some e1, none, none, none])) (h2 : am_S0[p7]? = some (8, 4, [some e2, none, none, none])) : wt am_S0 (d + 1) mX11_shift 53 [l0, l1, l2, l3, l4, l5, some (.ref p6), some (.ref p7)] [] F L Q = wc am_S0 d mX8_isRowOf [.ref p7, .int (F p6 1)] F L (fun r G K => wt am_S0 (d + 1) mX11_shift 63 [l0, l1, l2, l3, l4, l5, some (.ref p6), some (.ref p7)] (r.toList ++ []) G K Q) := (wt_aload dX11_shift_53 rfl rfl).trans ((wt_aload dX11_shift_55 rfl rfl).trans ((wt_getfield dX11_shift_57 rfl h1 (v := .int (F p6 1)) rfl).trans (wt_callV dX11_shift_60 rfl (as := [.int (F p6 1)]) (rest := []) rfl rfl (Nat.le_of_ble_eq_true rfl) h2 (Nat.le_of_ble_eq_true rfl))))
set_option maxHeartbeats 100000 in
theorem kX11_shift_63 {d : Nat} {F : am_FT} {L : am_LT} {Q : am_QT} {l0 l1 l2 l3 l4 l5 l6 l7 : Option Value} {s0 : Int32} : wt am_S0 d mX11_shift 63 [l0, l1, l2, l3, l4, l5, l6, l7] [.int s0] F L Q = if ¬ s0 = 0 then wt am_S0 d mX11_shift 69 [l0, l1, l2, l3, l4, l5, l6, l7] [] F L Q else wt am_S0 d mX11_shift 66 [l0, l1, l2, l3, l4, l5, l6, l7] [] F L Q := wt_ifCond_ne dX11_shift_63 (t := 69) rfl
set_option maxHeartbeats 100000 in
theorem kX11_shift_66 {d : Nat} {F : am_FT} {L : am_LT} {Q : am_QT} {l0 l1 l2 l3 l4 l5 l6 l7 : Option Value} : wt am_S0 d mX11_shift 66 [l0, l1, l2, l3, l4, l5, l6, l7] [] F L Q = Q (some (.int (-12))) F L := (wt_bipush dX11_shift_66 (v := (-12)) (by decide)).trans (wt_ireturn dX11_shift_68 rfl rfl)
set_option maxHeartbeats 100000 in
theorem kX11_shift_69 {d : Nat} {F : am_FT} {L : am_LT} {Q : am_QT} {l0 l1 l3 : Option Value} {p7 p6 e1 : Nat} {x2 x4 x5 : Int32} (h1 : am_S0[p7]? = some (8, 4, [some e1, none, none, none])) : wt am_S0 (d + 1) mX11_shift 69 [l0, l1, some (.int x2), l3, some (.int x4), some (.int x5), some (.ref p6), some (.ref p7)] [] F L Q = wc am_S0 d mX8_takeFrom [.ref p7, .ref p6, .int x2, .int x4, .int x5] F L (fun r G K => wt am_S0 (d + 1) mX11_shift 81 [l0, l1, some (.int x2), l3, some (.int x4), some (.int x5), some (.ref p6), some (.ref p7)] (r.toList ++ []) G K Q) := (wt_aload dX11_shift_69 rfl rfl).trans ((wt_aload dX11_shift_71 rfl rfl).trans ((wt_iload_n dX11_shift_73 rfl).trans ((wt_iload dX11_shift_74 rfl).trans ((wt_iload dX11_shift_76 rfl).trans (wt_callV dX11_shift_78 rfl (as := [.ref p6, .int x2, .int x4, .int x5]) (rest := []) rfl rfl (Nat.le_of_ble_eq_true rfl) h1 (Nat.le_of_ble_eq_true rfl))))))
set_option maxHeartbeats 100000 in
theorem kX11_shift_81 {d : Nat} {F : am_FT} {L : am_LT} {Q : am_QT} {l0 l1 l2 l3 l4 l5 l6 l7 : Option Value} {s0 : Int32} : wt am_S0 d mX11_shift 81 [l0, l1, l2, l3, l4, l5, l6, l7] [.int s0] F L Q = if s0 = 0 then wt am_S0 d mX11_shift 89 [l0, l1, l2, l3, l4, l5, l6, l7] [] F L Q else wt am_S0 d mX11_shift 84 [l0, l1, l2, l3, l4, l5, l6, l7] [] F L Q := wt_ifCond_eq dX11_shift_81 (t := 89) rfl
set_option maxHeartbeats 100000 in
theorem kX11_shift_84 {d : Nat} {F : am_FT} {L : am_LT} {Q : am_QT} {l0 l1 l2 l3 l4 l6 l7 : Option Value} {x5 : Int32} : wt am_S0 d mX11_shift 84 [l0, l1, l2, l3, l4, some (.int x5), l6, l7] [] F L Q = wt am_S0 d mX11_shift 91 [l0, l1, l2, l3, l4, some (.int x5), l6, l7] [.int x5] F L Q := (wt_iload dX11_shift_84 rfl).trans (wt_goto dX11_shift_86 (t := 91) rfl)
set_option maxHeartbeats 100000 in
theorem kX11_shift_89 {d : Nat} {F : am_FT} {L : am_LT} {Q : am_QT} {l0 l1 l2 l3 l4 l5 l6 l7 : Option Value} : wt am_S0 d mX11_shift 89 [l0, l1, l2, l3, l4, l5, l6, l7] [] F L Q = wt am_S0 d mX11_shift 91 [l0, l1, l2, l3, l4, l5, l6, l7] [.int (-13)] F L Q := wt_bipush dX11_shift_89 (v := (-13)) (by decide)
set_option maxHeartbeats 100000 in
theorem kX11_shift_91 {d : Nat} {F : am_FT} {L : am_LT} {Q : am_QT} {l0 l1 l2 l3 l4 l5 l6 l7 : Option Value} {s0 : Int32} : wt am_S0 d mX11_shift 91 [l0, l1, l2, l3, l4, l5, l6, l7] [.int s0] F L Q = Q (some (.int s0)) F L := wt_ireturn dX11_shift_91 rfl rfl
theorem dX11_taken_0 : decode mX11_taken.2.2.1 0 = .ok (.aload_n 0, 1) := by decide +kernel
theorem dX11_taken_1 : decode mX11_taken.2.2.1 1 = .ok (.iload_n 1, 1) := by decide +kernel
theorem dX11_taken_2 : decode mX11_taken.2.2.1 2 = .ok (.invokevirtual 113, 3) := by decide +kernel
theorem dX11_taken_5 : decode mX11_taken.2.2.1 5 = .ok (.astore_n 3, 1) := by decide +kernel
theorem dX11_taken_6 : decode mX11_taken.2.2.1 6 = .ok (.aload_n 3, 1) := by decide +kernel
theorem dX11_taken_7 : decode mX11_taken.2.2.1 7 = .ok (.ifnull 13, 3) := by decide +kernel
theorem dX11_taken_10 : decode mX11_taken.2.2.1 10 = .ok (.iload_n 2, 1) := by decide +kernel
theorem dX11_taken_11 : decode mX11_taken.2.2.1 11 = .ok (.iconst 0, 1) := by decide +kernel
theorem dX11_taken_12 : decode mX11_taken.2.2.1 12 = .ok (.bipush 7, 2) := by decide +kernel
theorem dX11_taken_14 : decode mX11_taken.2.2.1 14 = .ok (.invokestatic 117, 3) := by decide +kernel
theorem dX11_taken_17 : decode mX11_taken.2.2.1 17 = .ok (.ifCond .ne 5, 3) := by decide +kernel
theorem dX11_taken_20 : decode mX11_taken.2.2.1 20 = .ok (.iconst (-1), 1) := by decide +kernel
theorem dX11_taken_21 : decode mX11_taken.2.2.1 21 = .ok (.ireturn, 1) := by decide +kernel
theorem dX11_taken_22 : decode mX11_taken.2.2.1 22 = .ok (.aload_n 3, 1) := by decide +kernel
theorem dX11_taken_23 : decode mX11_taken.2.2.1 23 = .ok (.invokevirtual 121, 3) := by decide +kernel
theorem dX11_taken_26 : decode mX11_taken.2.2.1 26 = .ok (.ifCond .eq 6, 3) := by decide +kernel
theorem dX11_taken_29 : decode mX11_taken.2.2.1 29 = .ok (.bipush (-11), 2) := by decide +kernel
theorem dX11_taken_31 : decode mX11_taken.2.2.1 31 = .ok (.ireturn, 1) := by decide +kernel
theorem dX11_taken_32 : decode mX11_taken.2.2.1 32 = .ok (.aload_n 0, 1) := by decide +kernel
theorem dX11_taken_33 : decode mX11_taken.2.2.1 33 = .ok (.getfield 90, 3) := by decide +kernel
theorem dX11_taken_36 : decode mX11_taken.2.2.1 36 = .ok (.aload_n 3, 1) := by decide +kernel
theorem dX11_taken_37 : decode mX11_taken.2.2.1 37 = .ok (.getfield 364, 3) := by decide +kernel
theorem dX11_taken_40 : decode mX11_taken.2.2.1 40 = .ok (.invokevirtual 367, 3) := by decide +kernel
theorem dX11_taken_43 : decode mX11_taken.2.2.1 43 = .ok (.istore 4, 2) := by decide +kernel
theorem dX11_taken_45 : decode mX11_taken.2.2.1 45 = .ok (.aload_n 3, 1) := by decide +kernel
theorem dX11_taken_46 : decode mX11_taken.2.2.1 46 = .ok (.invokevirtual 133, 3) := by decide +kernel
theorem dX11_taken_49 : decode mX11_taken.2.2.1 49 = .ok (.ifCond .ne 21, 3) := by decide +kernel
theorem dX11_taken_52 : decode mX11_taken.2.2.1 52 = .ok (.aload_n 0, 1) := by decide +kernel
theorem dX11_taken_53 : decode mX11_taken.2.2.1 53 = .ok (.getfield 90, 3) := by decide +kernel
theorem dX11_taken_56 : decode mX11_taken.2.2.1 56 = .ok (.iload 4, 2) := by decide +kernel
theorem dX11_taken_58 : decode mX11_taken.2.2.1 58 = .ok (.iload_n 2, 1) := by decide +kernel
theorem dX11_taken_59 : decode mX11_taken.2.2.1 59 = .ok (.invokevirtual 370, 3) := by decide +kernel
theorem dX11_taken_62 : decode mX11_taken.2.2.1 62 = .ok (.ifCond .eq 8, 3) := by decide +kernel
theorem dX11_taken_65 : decode mX11_taken.2.2.1 65 = .ok (.iload 4, 2) := by decide +kernel
theorem dX11_taken_67 : decode mX11_taken.2.2.1 67 = .ok (.goto 5, 3) := by decide +kernel
theorem dX11_taken_70 : decode mX11_taken.2.2.1 70 = .ok (.bipush (-12), 2) := by decide +kernel
theorem dX11_taken_72 : decode mX11_taken.2.2.1 72 = .ok (.ireturn, 1) := by decide +kernel
set_option maxHeartbeats 100000 in
theorem kX11_taken_0 {d : Nat} {F : am_FT} {L : am_LT} {Q : am_QT} {l2 l3 l4 : Option Value} {x1 : Int32} : wt am_S0 (d + 1) mX11_taken 0 [some (.ref 0), some (.int x1), l2, l3, l4] [] F L Q = wc am_S0 d mX11_shelfAt [.ref 0, .int x1] F L (fun r G K => wt am_S0 (d + 1) mX11_taken 5 [some (.ref 0), some (.int x1), l2, l3, l4] (r.toList ++ []) G K Q) := (wt_aload_n dX11_taken_0 rfl rfl).trans ((wt_iload_n dX11_taken_1 rfl).trans (wt_callV dX11_taken_2 rfl (as := [.int x1]) (rest := []) rfl rfl (Nat.le_of_ble_eq_true rfl) rfl (Nat.le_of_ble_eq_true rfl)))
set_option maxHeartbeats 100000 in
theorem kX11_taken_5 {d : Nat} {F : am_FT} {L : am_LT} {Q : am_QT} {l0 l1 l3 l4 : Option Value} {q0 : Nat} {x2 : Int32} : wt am_S0 d mX11_taken 5 [l0, l1, some (.int x2), l3, l4] [.ref q0] F L Q = wt am_S0 d mX11_taken 10 [l0, l1, some (.int x2), some (.ref q0), l4] [] F L Q := (wt_astore_n dX11_taken_5 (lv1 := [l0, l1, some (.int x2), some (.ref q0), l4]) rfl (Nat.le_of_ble_eq_true rfl) rfl).trans ((wt_aload_n dX11_taken_6 rfl rfl).trans (wt_ifnull dX11_taken_7))
set_option maxHeartbeats 100000 in
theorem kX11_taken_5N {d : Nat} {F : am_FT} {L : am_LT} {Q : am_QT} {l0 l1 l3 l4 : Option Value} {x2 : Int32} : wt am_S0 d mX11_taken 5 [l0, l1, some (.int x2), l3, l4] [.null] F L Q = wt am_S0 d mX11_taken 20 [l0, l1, some (.int x2), some .null, l4] [] F L Q := (wt_astore_n dX11_taken_5 (lv1 := [l0, l1, some (.int x2), some .null, l4]) rfl (Nat.le_of_ble_eq_true rfl) rfl).trans ((wt_aload_n dX11_taken_6 rfl rfl).trans (wt_ifnullN dX11_taken_7 (t := 20) rfl))
set_option maxHeartbeats 100000 in
theorem kX11_taken_10 {d : Nat} {F : am_FT} {L : am_LT} {Q : am_QT} {l0 l1 l3 l4 : Option Value} {x2 : Int32} : wt am_S0 (d + 1) mX11_taken 10 [l0, l1, some (.int x2), l3, l4] [] F L Q = wc am_S0 d mX11_within [.int x2, .int 0, .int 7] F L (fun r G K => wt am_S0 (d + 1) mX11_taken 17 [l0, l1, some (.int x2), l3, l4] (r.toList ++ []) G K Q) := (wt_iload_n dX11_taken_10 rfl).trans ((wt_iconst dX11_taken_11 (v := 0) (by decide)).trans ((wt_bipush dX11_taken_12 (v := 7) (by decide)).trans (wt_callS dX11_taken_14 rfl (as := [.int x2, .int 0, .int 7]) (rest := []) rfl rfl (Nat.le_of_ble_eq_true rfl) (Nat.le_of_ble_eq_true rfl))))
set_option maxHeartbeats 100000 in
theorem kX11_taken_17 {d : Nat} {F : am_FT} {L : am_LT} {Q : am_QT} {l0 l1 l2 l3 l4 : Option Value} {s0 : Int32} : wt am_S0 d mX11_taken 17 [l0, l1, l2, l3, l4] [.int s0] F L Q = if ¬ s0 = 0 then wt am_S0 d mX11_taken 22 [l0, l1, l2, l3, l4] [] F L Q else wt am_S0 d mX11_taken 20 [l0, l1, l2, l3, l4] [] F L Q := wt_ifCond_ne dX11_taken_17 (t := 22) rfl
set_option maxHeartbeats 100000 in
theorem kX11_taken_20 {d : Nat} {F : am_FT} {L : am_LT} {Q : am_QT} {l0 l1 l2 l3 l4 : Option Value} : wt am_S0 d mX11_taken 20 [l0, l1, l2, l3, l4] [] F L Q = Q (some (.int (-1))) F L := (wt_iconst dX11_taken_20 (v := (-1)) (by decide)).trans (wt_ireturn dX11_taken_21 rfl rfl)
set_option maxHeartbeats 100000 in
theorem kX11_taken_22 {d : Nat} {F : am_FT} {L : am_LT} {Q : am_QT} {l0 l1 l2 l4 : Option Value} {p3 e1 : Nat} (h1 : am_S0[p3]? = some (8, 4, [some e1, none, none, none])) : wt am_S0 (d + 1) mX11_taken 22 [l0, l1, l2, some (.ref p3), l4] [] F L Q = wc am_S0 d mX8_isEmpty [.ref p3] F L (fun r G K => wt am_S0 (d + 1) mX11_taken 26 [l0, l1, l2, some (.ref p3), l4] (r.toList ++ []) G K Q) := (wt_aload_n dX11_taken_22 rfl rfl).trans (wt_callV dX11_taken_23 rfl (as := []) (rest := []) rfl rfl (Nat.le_of_ble_eq_true rfl) h1 (Nat.le_of_ble_eq_true rfl))
set_option maxHeartbeats 100000 in
theorem kX11_taken_26 {d : Nat} {F : am_FT} {L : am_LT} {Q : am_QT} {l0 l1 l2 l3 l4 : Option Value} {s0 : Int32} : wt am_S0 d mX11_taken 26 [l0, l1, l2, l3, l4] [.int s0] F L Q = if s0 = 0 then wt am_S0 d mX11_taken 32 [l0, l1, l2, l3, l4] [] F L Q else wt am_S0 d mX11_taken 29 [l0, l1, l2, l3, l4] [] F L Q := wt_ifCond_eq dX11_taken_26 (t := 32) rfl
set_option maxHeartbeats 100000 in
theorem kX11_taken_29 {d : Nat} {F : am_FT} {L : am_LT} {Q : am_QT} {l0 l1 l2 l3 l4 : Option Value} : wt am_S0 d mX11_taken 29 [l0, l1, l2, l3, l4] [] F L Q = Q (some (.int (-11))) F L := (wt_bipush dX11_taken_29 (v := (-11)) (by decide)).trans (wt_ireturn dX11_taken_31 rfl rfl)
set_option maxHeartbeats 100000 in
theorem kX11_taken_32 {d : Nat} {F : am_FT} {L : am_LT} {Q : am_QT} {l1 l2 l4 : Option Value} {p3 e1 : Nat} (h1 : am_S0[p3]? = some (8, 4, [some e1, none, none, none])) : wt am_S0 (d + 1) mX11_taken 32 [some (.ref 0), l1, l2, some (.ref p3), l4] [] F L Q = wc am_S0 d mX10_kindOf [.ref 29, .int (F p3 3)] F L (fun r G K => wt am_S0 (d + 1) mX11_taken 43 [some (.ref 0), l1, l2, some (.ref p3), l4] (r.toList ++ []) G K Q) := (wt_aload_n dX11_taken_32 rfl rfl).trans ((wt_getfield dX11_taken_33 rfl rfl (v := .ref 29) rfl).trans ((wt_aload_n dX11_taken_36 rfl rfl).trans ((wt_getfield dX11_taken_37 rfl h1 (v := .int (F p3 3)) rfl).trans (wt_callV dX11_taken_40 rfl (as := [.int (F p3 3)]) (rest := []) rfl rfl (Nat.le_of_ble_eq_true rfl) rfl (Nat.le_of_ble_eq_true rfl)))))
set_option maxHeartbeats 100000 in
theorem kX11_taken_43 {d : Nat} {F : am_FT} {L : am_LT} {Q : am_QT} {l0 l1 l2 l4 : Option Value} {s0 : Int32} {p3 e1 : Nat} (h1 : am_S0[p3]? = some (8, 4, [some e1, none, none, none])) : wt am_S0 (d + 1) mX11_taken 43 [l0, l1, l2, some (.ref p3), l4] [.int s0] F L Q = wc am_S0 d mX8_isRow [.ref p3] F L (fun r G K => wt am_S0 (d + 1) mX11_taken 49 [l0, l1, l2, some (.ref p3), some (.int s0)] (r.toList ++ []) G K Q) := (wt_istore dX11_taken_43 (lv1 := [l0, l1, l2, some (.ref p3), some (.int s0)]) (Nat.le_of_ble_eq_true rfl) rfl).trans ((wt_aload_n dX11_taken_45 rfl rfl).trans (wt_callV dX11_taken_46 rfl (as := []) (rest := []) rfl rfl (Nat.le_of_ble_eq_true rfl) h1 (Nat.le_of_ble_eq_true rfl)))
set_option maxHeartbeats 100000 in
theorem kX11_taken_49 {d : Nat} {F : am_FT} {L : am_LT} {Q : am_QT} {l0 l1 l2 l3 l4 : Option Value} {s0 : Int32} : wt am_S0 d mX11_taken 49 [l0, l1, l2, l3, l4] [.int s0] F L Q = if ¬ s0 = 0 then wt am_S0 d mX11_taken 70 [l0, l1, l2, l3, l4] [] F L Q else wt am_S0 d mX11_taken 52 [l0, l1, l2, l3, l4] [] F L Q := wt_ifCond_ne dX11_taken_49 (t := 70) rfl
set_option maxHeartbeats 100000 in
theorem kX11_taken_52 {d : Nat} {F : am_FT} {L : am_LT} {Q : am_QT} {l1 l3 : Option Value} {x4 x2 : Int32} : wt am_S0 (d + 1) mX11_taken 52 [some (.ref 0), l1, some (.int x2), l3, some (.int x4)] [] F L Q = wc am_S0 d mX10_isUnder [.ref 29, .int x4, .int x2] F L (fun r G K => wt am_S0 (d + 1) mX11_taken 62 [some (.ref 0), l1, some (.int x2), l3, some (.int x4)] (r.toList ++ []) G K Q) := (wt_aload_n dX11_taken_52 rfl rfl).trans ((wt_getfield dX11_taken_53 rfl rfl (v := .ref 29) rfl).trans ((wt_iload dX11_taken_56 rfl).trans ((wt_iload_n dX11_taken_58 rfl).trans (wt_callV dX11_taken_59 rfl (as := [.int x4, .int x2]) (rest := []) rfl rfl (Nat.le_of_ble_eq_true rfl) rfl (Nat.le_of_ble_eq_true rfl)))))
set_option maxHeartbeats 100000 in
theorem kX11_taken_62 {d : Nat} {F : am_FT} {L : am_LT} {Q : am_QT} {l0 l1 l2 l3 l4 : Option Value} {s0 : Int32} : wt am_S0 d mX11_taken 62 [l0, l1, l2, l3, l4] [.int s0] F L Q = if s0 = 0 then wt am_S0 d mX11_taken 70 [l0, l1, l2, l3, l4] [] F L Q else wt am_S0 d mX11_taken 65 [l0, l1, l2, l3, l4] [] F L Q := wt_ifCond_eq dX11_taken_62 (t := 70) rfl
set_option maxHeartbeats 100000 in
theorem kX11_taken_65 {d : Nat} {F : am_FT} {L : am_LT} {Q : am_QT} {l0 l1 l2 l3 : Option Value} {x4 : Int32} : wt am_S0 d mX11_taken 65 [l0, l1, l2, l3, some (.int x4)] [] F L Q = wt am_S0 d mX11_taken 72 [l0, l1, l2, l3, some (.int x4)] [.int x4] F L Q := (wt_iload dX11_taken_65 rfl).trans (wt_goto dX11_taken_67 (t := 72) rfl)
set_option maxHeartbeats 100000 in
theorem kX11_taken_70 {d : Nat} {F : am_FT} {L : am_LT} {Q : am_QT} {l0 l1 l2 l3 l4 : Option Value} : wt am_S0 d mX11_taken 70 [l0, l1, l2, l3, l4] [] F L Q = wt am_S0 d mX11_taken 72 [l0, l1, l2, l3, l4] [.int (-12)] F L Q := wt_bipush dX11_taken_70 (v := (-12)) (by decide)
set_option maxHeartbeats 100000 in
theorem kX11_taken_72 {d : Nat} {F : am_FT} {L : am_LT} {Q : am_QT} {l0 l1 l2 l3 l4 : Option Value} {s0 : Int32} : wt am_S0 d mX11_taken 72 [l0, l1, l2, l3, l4] [.int s0] F L Q = Q (some (.int s0)) F L := wt_ireturn dX11_taken_72 rfl rfl
theorem dX11_count_0 : decode mX11_count.2.2.1 0 = .ok (.iload_n 1, 1) := by decide +kernel
theorem dX11_count_1 : decode mX11_count.2.2.1 1 = .ok (.tableswitch 87 0 5 #[39, 47, 55, 63, 71, 79], 39) := by decide +kernel
theorem dX11_count_40 : decode mX11_count.2.2.1 40 = .ok (.aload_n 0, 1) := by decide +kernel
theorem dX11_count_41 : decode mX11_count.2.2.1 41 = .ok (.getfield 12, 3) := by decide +kernel
theorem dX11_count_44 : decode mX11_count.2.2.1 44 = .ok (.getfield 373, 3) := by decide +kernel
theorem dX11_count_47 : decode mX11_count.2.2.1 47 = .ok (.ireturn, 1) := by decide +kernel
theorem dX11_count_48 : decode mX11_count.2.2.1 48 = .ok (.aload_n 0, 1) := by decide +kernel
theorem dX11_count_49 : decode mX11_count.2.2.1 49 = .ok (.getfield 12, 3) := by decide +kernel
theorem dX11_count_52 : decode mX11_count.2.2.1 52 = .ok (.getfield 376, 3) := by decide +kernel
theorem dX11_count_55 : decode mX11_count.2.2.1 55 = .ok (.ireturn, 1) := by decide +kernel
theorem dX11_count_56 : decode mX11_count.2.2.1 56 = .ok (.aload_n 0, 1) := by decide +kernel
theorem dX11_count_57 : decode mX11_count.2.2.1 57 = .ok (.getfield 19, 3) := by decide +kernel
theorem dX11_count_60 : decode mX11_count.2.2.1 60 = .ok (.getfield 379, 3) := by decide +kernel
theorem dX11_count_63 : decode mX11_count.2.2.1 63 = .ok (.ireturn, 1) := by decide +kernel
theorem dX11_count_64 : decode mX11_count.2.2.1 64 = .ok (.aload_n 0, 1) := by decide +kernel
theorem dX11_count_65 : decode mX11_count.2.2.1 65 = .ok (.getfield 83, 3) := by decide +kernel
theorem dX11_count_68 : decode mX11_count.2.2.1 68 = .ok (.getfield 325, 3) := by decide +kernel
theorem dX11_count_71 : decode mX11_count.2.2.1 71 = .ok (.ireturn, 1) := by decide +kernel
theorem dX11_count_72 : decode mX11_count.2.2.1 72 = .ok (.aload_n 0, 1) := by decide +kernel
theorem dX11_count_73 : decode mX11_count.2.2.1 73 = .ok (.getfield 90, 3) := by decide +kernel
theorem dX11_count_76 : decode mX11_count.2.2.1 76 = .ok (.getfield 345, 3) := by decide +kernel
theorem dX11_count_79 : decode mX11_count.2.2.1 79 = .ok (.ireturn, 1) := by decide +kernel
theorem dX11_count_80 : decode mX11_count.2.2.1 80 = .ok (.aload_n 0, 1) := by decide +kernel
theorem dX11_count_81 : decode mX11_count.2.2.1 81 = .ok (.getfield 90, 3) := by decide +kernel
theorem dX11_count_84 : decode mX11_count.2.2.1 84 = .ok (.getfield 382, 3) := by decide +kernel
theorem dX11_count_87 : decode mX11_count.2.2.1 87 = .ok (.ireturn, 1) := by decide +kernel
theorem dX11_count_88 : decode mX11_count.2.2.1 88 = .ok (.iconst (-1), 1) := by decide +kernel
theorem dX11_count_89 : decode mX11_count.2.2.1 89 = .ok (.ireturn, 1) := by decide +kernel
set_option maxHeartbeats 100000 in
theorem kX11_count_0 {d : Nat} {F : am_FT} {L : am_LT} {Q : am_QT} {l0 : Option Value} {x1 : Int32} : wt am_S0 d mX11_count 0 [l0, some (.int x1)] [] F L Q = if x1 = 0 then wt am_S0 d mX11_count 40 [l0, some (.int x1)] [] F L Q else if x1 = 1 then wt am_S0 d mX11_count 48 [l0, some (.int x1)] [] F L Q else if x1 = 2 then wt am_S0 d mX11_count 56 [l0, some (.int x1)] [] F L Q else if x1 = 3 then wt am_S0 d mX11_count 64 [l0, some (.int x1)] [] F L Q else if x1 = 4 then wt am_S0 d mX11_count 72 [l0, some (.int x1)] [] F L Q else if x1 = 5 then wt am_S0 d mX11_count 80 [l0, some (.int x1)] [] F L Q else wt am_S0 d mX11_count 88 [l0, some (.int x1)] [] F L Q := by
  rw [wt_iload_n dX11_count_0 rfl]
  by_cases g0 : x1 = 0
  · rw [if_pos g0, g0]
    exact wt_tableI dX11_count_1 (by decide) (off := 39) rfl (t := 40) rfl
  rw [if_neg g0]
  by_cases g1 : x1 = 1
  · rw [if_pos g1, g1]
    exact wt_tableI dX11_count_1 (by decide) (off := 47) rfl (t := 48) rfl
  rw [if_neg g1]
  by_cases g2 : x1 = 2
  · rw [if_pos g2, g2]
    exact wt_tableI dX11_count_1 (by decide) (off := 55) rfl (t := 56) rfl
  rw [if_neg g2]
  by_cases g3 : x1 = 3
  · rw [if_pos g3, g3]
    exact wt_tableI dX11_count_1 (by decide) (off := 63) rfl (t := 64) rfl
  rw [if_neg g3]
  by_cases g4 : x1 = 4
  · rw [if_pos g4, g4]
    exact wt_tableI dX11_count_1 (by decide) (off := 71) rfl (t := 72) rfl
  rw [if_neg g4]
  by_cases g5 : x1 = 5
  · rw [if_pos g5, g5]
    exact wt_tableI dX11_count_1 (by decide) (off := 79) rfl (t := 80) rfl
  rw [if_neg g5]
  have i0 : ¬ ((x1 : Int32)).toInt = 0 := fun z => g0 (Int32.toInt_inj.mp (z.trans (by decide)))
  have i1 : ¬ ((x1 : Int32)).toInt = 1 := fun z => g1 (Int32.toInt_inj.mp (z.trans (by decide)))
  have i2 : ¬ ((x1 : Int32)).toInt = 2 := fun z => g2 (Int32.toInt_inj.mp (z.trans (by decide)))
  have i3 : ¬ ((x1 : Int32)).toInt = 3 := fun z => g3 (Int32.toInt_inj.mp (z.trans (by decide)))
  have i4 : ¬ ((x1 : Int32)).toInt = 4 := fun z => g4 (Int32.toInt_inj.mp (z.trans (by decide)))
  have i5 : ¬ ((x1 : Int32)).toInt = 5 := fun z => g5 (Int32.toInt_inj.mp (z.trans (by decide)))
  exact wt_tableO dX11_count_1 (by omega) (t := 88) rfl
set_option maxHeartbeats 100000 in
theorem kX11_count_40 {d : Nat} {F : am_FT} {L : am_LT} {Q : am_QT} {l1 : Option Value} : wt am_S0 d mX11_count 40 [some (.ref 0), l1] [] F L Q = Q (some (.int (F 1 1))) F L := (wt_aload_n dX11_count_40 rfl rfl).trans ((wt_getfield dX11_count_41 rfl rfl (v := .ref 1) rfl).trans ((wt_getfield dX11_count_44 rfl rfl (v := .int (F 1 1)) rfl).trans (wt_ireturn dX11_count_47 rfl rfl)))
set_option maxHeartbeats 100000 in
theorem kX11_count_48 {d : Nat} {F : am_FT} {L : am_LT} {Q : am_QT} {l1 : Option Value} : wt am_S0 d mX11_count 48 [some (.ref 0), l1] [] F L Q = Q (some (.int (F 1 2))) F L := (wt_aload_n dX11_count_48 rfl rfl).trans ((wt_getfield dX11_count_49 rfl rfl (v := .ref 1) rfl).trans ((wt_getfield dX11_count_52 rfl rfl (v := .int (F 1 2)) rfl).trans (wt_ireturn dX11_count_55 rfl rfl)))
set_option maxHeartbeats 100000 in
theorem kX11_count_56 {d : Nat} {F : am_FT} {L : am_LT} {Q : am_QT} {l1 : Option Value} : wt am_S0 d mX11_count 56 [some (.ref 0), l1] [] F L Q = Q (some (.int (F 3 2))) F L := (wt_aload_n dX11_count_56 rfl rfl).trans ((wt_getfield dX11_count_57 rfl rfl (v := .ref 3) rfl).trans ((wt_getfield dX11_count_60 rfl rfl (v := .int (F 3 2)) rfl).trans (wt_ireturn dX11_count_63 rfl rfl)))
set_option maxHeartbeats 100000 in
theorem kX11_count_64 {d : Nat} {F : am_FT} {L : am_LT} {Q : am_QT} {l1 : Option Value} : wt am_S0 d mX11_count 64 [some (.ref 0), l1] [] F L Q = Q (some (.int (F 24 6))) F L := (wt_aload_n dX11_count_64 rfl rfl).trans ((wt_getfield dX11_count_65 rfl rfl (v := .ref 24) rfl).trans ((wt_getfield dX11_count_68 rfl rfl (v := .int (F 24 6)) rfl).trans (wt_ireturn dX11_count_71 rfl rfl)))
set_option maxHeartbeats 100000 in
theorem kX11_count_72 {d : Nat} {F : am_FT} {L : am_LT} {Q : am_QT} {l1 : Option Value} : wt am_S0 d mX11_count 72 [some (.ref 0), l1] [] F L Q = Q (some (.int (F 29 2))) F L := (wt_aload_n dX11_count_72 rfl rfl).trans ((wt_getfield dX11_count_73 rfl rfl (v := .ref 29) rfl).trans ((wt_getfield dX11_count_76 rfl rfl (v := .int (F 29 2)) rfl).trans (wt_ireturn dX11_count_79 rfl rfl)))
set_option maxHeartbeats 100000 in
theorem kX11_count_80 {d : Nat} {F : am_FT} {L : am_LT} {Q : am_QT} {l1 : Option Value} : wt am_S0 d mX11_count 80 [some (.ref 0), l1] [] F L Q = Q (some (.int (F 29 3))) F L := (wt_aload_n dX11_count_80 rfl rfl).trans ((wt_getfield dX11_count_81 rfl rfl (v := .ref 29) rfl).trans ((wt_getfield dX11_count_84 rfl rfl (v := .int (F 29 3)) rfl).trans (wt_ireturn dX11_count_87 rfl rfl)))
set_option maxHeartbeats 100000 in
theorem kX11_count_88 {d : Nat} {F : am_FT} {L : am_LT} {Q : am_QT} {l0 l1 : Option Value} : wt am_S0 d mX11_count 88 [l0, l1] [] F L Q = Q (some (.int (-1))) F L := (wt_iconst dX11_count_88 (v := (-1)) (by decide)).trans (wt_ireturn dX11_count_89 rfl rfl)
