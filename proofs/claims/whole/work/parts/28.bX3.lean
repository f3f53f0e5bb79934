theorem dX3_tell_0 : decode mX3_tell.2.2.1 0 = .ok (.aload_n 0, 1) := by decide +kernel
theorem dX3_tell_1 : decode mX3_tell.2.2.1 1 = .ok (.getfield 9, 3) := by decide +kernel
theorem dX3_tell_4 : decode mX3_tell.2.2.1 4 = .ok (.iload_n 1, 1) := by decide +kernel
theorem dX3_tell_5 : decode mX3_tell.2.2.1 5 = .ok (.invokestatic 31, 3) := by decide +kernel
theorem dX3_tell_8 : decode mX3_tell.2.2.1 8 = .ok (.ireturn, 1) := by decide +kernel
set_option maxHeartbeats 100000 in
theorem kX3_tell_0 {d : Nat} {F : am_FT} {L : am_LT} {Q : am_QT} {x1 : Int32} : wt am_S0 (d + 1) mX3_tell 0 [some (.ref 18), some (.int x1)] [] F L Q = wc am_S0 d mX11_at [.ref 19, .int x1] F L (fun r G K => wt am_S0 (d + 1) mX3_tell 8 [some (.ref 18), some (.int x1)] (r.toList ++ []) G K Q) := (wt_aload_n dX3_tell_0 rfl rfl).trans ((wt_getfield dX3_tell_1 rfl rfl (v := .ref 19) rfl).trans ((wt_iload_n dX3_tell_4 rfl).trans (wt_callS dX3_tell_5 rfl (as := [.ref 19, .int x1]) (rest := []) rfl rfl (Nat.le_of_ble_eq_true rfl) (Nat.le_of_ble_eq_true rfl))))
set_option maxHeartbeats 100000 in
theorem kX3_tell_8 {d : Nat} {F : am_FT} {L : am_LT} {Q : am_QT} {l0 l1 : Option Value} {s0 : Int32} : wt am_S0 d mX3_tell 8 [l0, l1] [.int s0] F L Q = Q (some (.int s0)) F L := wt_ireturn dX3_tell_8 rfl rfl
theorem dX3_fell_0 : decode mX3_fell.2.2.1 0 = .ok (.iconst 0, 1) := by decide +kernel
theorem dX3_fell_1 : decode mX3_fell.2.2.1 1 = .ok (.istore_n 2, 1) := by decide +kernel
theorem dX3_fell_2 : decode mX3_fell.2.2.1 2 = .ok (.iload_n 2, 1) := by decide +kernel
theorem dX3_fell_3 : decode mX3_fell.2.2.1 3 = .ok (.aload_n 0, 1) := by decide +kernel
theorem dX3_fell_4 : decode mX3_fell.2.2.1 4 = .ok (.getfield 27, 3) := by decide +kernel
theorem dX3_fell_7 : decode mX3_fell.2.2.1 7 = .ok (.getfield 39, 3) := by decide +kernel
theorem dX3_fell_10 : decode mX3_fell.2.2.1 10 = .ok (.if_icmp .ge 28, 3) := by decide +kernel
theorem dX3_fell_13 : decode mX3_fell.2.2.1 13 = .ok (.iload_n 1, 1) := by decide +kernel
theorem dX3_fell_14 : decode mX3_fell.2.2.1 14 = .ok (.iload_n 2, 1) := by decide +kernel
theorem dX3_fell_15 : decode mX3_fell.2.2.1 15 = .ok (.invokestatic 45, 3) := by decide +kernel
theorem dX3_fell_18 : decode mX3_fell.2.2.1 18 = .ok (.ifCond .eq 14, 3) := by decide +kernel
theorem dX3_fell_21 : decode mX3_fell.2.2.1 21 = .ok (.aload_n 0, 1) := by decide +kernel
theorem dX3_fell_22 : decode mX3_fell.2.2.1 22 = .ok (.getfield 27, 3) := by decide +kernel
theorem dX3_fell_25 : decode mX3_fell.2.2.1 25 = .ok (.iload_n 2, 1) := by decide +kernel
theorem dX3_fell_26 : decode mX3_fell.2.2.1 26 = .ok (.bipush 7, 2) := by decide +kernel
theorem dX3_fell_28 : decode mX3_fell.2.2.1 28 = .ok (.iconst 0, 1) := by decide +kernel
theorem dX3_fell_29 : decode mX3_fell.2.2.1 29 = .ok (.invokevirtual 49, 3) := by decide +kernel
theorem dX3_fell_32 : decode mX3_fell.2.2.1 32 = .ok (.iinc 2 1, 3) := by decide +kernel
theorem dX3_fell_35 : decode mX3_fell.2.2.1 35 = .ok (.goto (-33), 3) := by decide +kernel
theorem dX3_fell_38 : decode mX3_fell.2.2.1 38 = .ok (.aload_n 0, 1) := by decide +kernel
theorem dX3_fell_39 : decode mX3_fell.2.2.1 39 = .ok (.iconst 1, 1) := by decide +kernel
theorem dX3_fell_40 : decode mX3_fell.2.2.1 40 = .ok (.iload_n 1, 1) := by decide +kernel
theorem dX3_fell_41 : decode mX3_fell.2.2.1 41 = .ok (.invokestatic 53, 3) := by decide +kernel
theorem dX3_fell_44 : decode mX3_fell.2.2.1 44 = .ok (.invokevirtual 59, 3) := by decide +kernel
theorem dX3_fell_47 : decode mX3_fell.2.2.1 47 = .ok (.aload_n 0, 1) := by decide +kernel
theorem dX3_fell_48 : decode mX3_fell.2.2.1 48 = .ok (.iconst 0, 1) := by decide +kernel
theorem dX3_fell_49 : decode mX3_fell.2.2.1 49 = .ok (.iconst 1, 1) := by decide +kernel
theorem dX3_fell_50 : decode mX3_fell.2.2.1 50 = .ok (.invokevirtual 59, 3) := by decide +kernel
theorem dX3_fell_53 : decode mX3_fell.2.2.1 53 = .ok (.aload_n 0, 1) := by decide +kernel
theorem dX3_fell_54 : decode mX3_fell.2.2.1 54 = .ok (.getfield 9, 3) := by decide +kernel
theorem dX3_fell_57 : decode mX3_fell.2.2.1 57 = .ok (.iconst 4, 1) := by decide +kernel
theorem dX3_fell_58 : decode mX3_fell.2.2.1 58 = .ok (.aload_n 0, 1) := by decide +kernel
theorem dX3_fell_59 : decode mX3_fell.2.2.1 59 = .ok (.getfield 9, 3) := by decide +kernel
theorem dX3_fell_62 : decode mX3_fell.2.2.1 62 = .ok (.iconst 4, 1) := by decide +kernel
theorem dX3_fell_63 : decode mX3_fell.2.2.1 63 = .ok (.invokestatic 31, 3) := by decide +kernel
theorem dX3_fell_66 : decode mX3_fell.2.2.1 66 = .ok (.iconst 1, 1) := by decide +kernel
theorem dX3_fell_67 : decode mX3_fell.2.2.1 67 = .ok (.iadd, 1) := by decide +kernel
theorem dX3_fell_68 : decode mX3_fell.2.2.1 68 = .ok (.bipush 12, 2) := by decide +kernel
theorem dX3_fell_70 : decode mX3_fell.2.2.1 70 = .ok (.irem, 1) := by decide +kernel
theorem dX3_fell_71 : decode mX3_fell.2.2.1 71 = .ok (.invokestatic 35, 3) := by decide +kernel
theorem dX3_fell_74 : decode mX3_fell.2.2.1 74 = .ok (.return_, 1) := by decide +kernel
set_option maxHeartbeats 100000 in
theorem kX3_fell_0 {d : Nat} {F : am_FT} {L : am_LT} {Q : am_QT} {l0 l2 : Option Value} {x1 : Int32} : wt am_S0 d mX3_fell 0 [l0, some (.int x1), l2] [] F L Q = wt am_S0 d mX3_fell 2 [l0, some (.int x1), some (.int 0)] [] F L Q := (wt_iconst dX3_fell_0 (v := 0) (by decide)).trans (wt_istore_n dX3_fell_1 (lv1 := [l0, some (.int x1), some (.int 0)]) (Nat.le_of_ble_eq_true rfl) rfl)
set_option maxHeartbeats 100000 in
theorem kX3_fell_2 {d : Nat} {F : am_FT} {L : am_LT} {Q : am_QT} {l1 : Option Value} {x2 : Int32} : wt am_S0 d mX3_fell 2 [some (.ref 18), l1, some (.int x2)] [] F L Q = if (F 1 1) ≤ x2 then wt am_S0 d mX3_fell 38 [some (.ref 18), l1, some (.int x2)] [] F L Q else wt am_S0 d mX3_fell 13 [some (.ref 18), l1, some (.int x2)] [] F L Q := (wt_iload_n dX3_fell_2 rfl).trans ((wt_aload_n dX3_fell_3 rfl rfl).trans ((wt_getfield dX3_fell_4 rfl rfl (v := .ref 1) rfl).trans ((wt_getfield dX3_fell_7 rfl rfl (v := .int (F 1 1)) rfl).trans (wt_if_icmp_ge dX3_fell_10 (t := 38) rfl))))
set_option maxHeartbeats 100000 in
theorem kX3_fell_13 {d : Nat} {F : am_FT} {L : am_LT} {Q : am_QT} {l0 : Option Value} {x1 x2 : Int32} : wt am_S0 (d + 1) mX3_fell 13 [l0, some (.int x1), some (.int x2)] [] F L Q = wc am_S0 d mX11_holds [.int x1, .int x2] F L (fun r G K => wt am_S0 (d + 1) mX3_fell 18 [l0, some (.int x1), some (.int x2)] (r.toList ++ []) G K Q) := (wt_iload_n dX3_fell_13 rfl).trans ((wt_iload_n dX3_fell_14 rfl).trans (wt_callS dX3_fell_15 rfl (as := [.int x1, .int x2]) (rest := []) rfl rfl (Nat.le_of_ble_eq_true rfl) (Nat.le_of_ble_eq_true rfl)))
set_option maxHeartbeats 100000 in
theorem kX3_fell_18 {d : Nat} {F : am_FT} {L : am_LT} {Q : am_QT} {l0 l1 l2 : Option Value} {s0 : Int32} : wt am_S0 d mX3_fell 18 [l0, l1, l2] [.int s0] F L Q = if s0 = 0 then wt am_S0 d mX3_fell 32 [l0, l1, l2] [] F L Q else wt am_S0 d mX3_fell 21 [l0, l1, l2] [] F L Q := wt_ifCond_eq dX3_fell_18 (t := 32) rfl
set_option maxHeartbeats 100000 in
theorem kX3_fell_21 {d : Nat} {F : am_FT} {L : am_LT} {Q : am_QT} {l1 : Option Value} {x2 : Int32} : wt am_S0 (d + 1) mX3_fell 21 [some (.ref 18), l1, some (.int x2)] [] F L Q = wc am_S0 d mX5_write [.ref 1, .int x2, .int 7, .int 0] F L (fun r G K => wt am_S0 (d + 1) mX3_fell 32 [some (.ref 18), l1, some (.int x2)] (r.toList ++ []) G K Q) := (wt_aload_n dX3_fell_21 rfl rfl).trans ((wt_getfield dX3_fell_22 rfl rfl (v := .ref 1) rfl).trans ((wt_iload_n dX3_fell_25 rfl).trans ((wt_bipush dX3_fell_26 (v := 7) (by decide)).trans ((wt_iconst dX3_fell_28 (v := 0) (by decide)).trans (wt_callV dX3_fell_29 rfl (as := [.int x2, .int 7, .int 0]) (rest := []) rfl rfl (Nat.le_of_ble_eq_true rfl) rfl (Nat.le_of_ble_eq_true rfl))))))
set_option maxHeartbeats 100000 in
theorem kX3_fell_32 {d : Nat} {F : am_FT} {L : am_LT} {Q : am_QT} {l0 : Option Value} {x2 x1 : Int32} : wt am_S0 d mX3_fell 32 [l0, some (.int x1), some (.int x2)] [] F L Q = wt am_S0 d mX3_fell 2 [l0, some (.int x1), some (.int (x2 + 1))] [] F L Q := (wt_iinc dX3_fell_32 (v := 1) (lv1 := [l0, some (.int x1), some (.int (x2 + 1))]) rfl (Nat.le_of_ble_eq_true rfl) (by decide) rfl).trans (wt_goto dX3_fell_35 (t := 2) rfl)
set_option maxHeartbeats 100000 in
theorem kX3_fell_38 {d : Nat} {F : am_FT} {L : am_LT} {Q : am_QT} {l2 : Option Value} {x1 : Int32} : wt am_S0 (d + 1) mX3_fell 38 [some (.ref 18), some (.int x1), l2] [] F L Q = wc am_S0 d mJ6_bitCount_0f7a4 [.int x1] F L (fun r G K => wt am_S0 (d + 1) mX3_fell 44 [some (.ref 18), some (.int x1), l2] (r.toList ++ [.int 1, .ref 18]) G K Q) := (wt_aload_n dX3_fell_38 rfl rfl).trans ((wt_iconst dX3_fell_39 (v := 1) (by decide)).trans ((wt_iload_n dX3_fell_40 rfl).trans (wt_callS dX3_fell_41 rfl (as := [.int x1]) (rest := [.int 1, .ref 18]) rfl rfl (Nat.le_of_ble_eq_true rfl) (Nat.le_of_ble_eq_true rfl))))
set_option maxHeartbeats 100000 in
theorem kX3_fell_44 {d : Nat} {F : am_FT} {L : am_LT} {Q : am_QT} {l0 l1 l2 : Option Value} {s1 s2 : Int32} : wt am_S0 (d + 1) mX3_fell 44 [l0, l1, l2] [.int s2, .int s1, .ref 18] F L Q = wc am_S0 d mX3_countOn [.ref 18, .int s1, .int s2] F L (fun r G K => wt am_S0 (d + 1) mX3_fell 47 [l0, l1, l2] (r.toList ++ []) G K Q) := wt_callV dX3_fell_44 rfl (as := [.int s1, .int s2]) (rest := []) rfl rfl (Nat.le_of_ble_eq_true rfl) rfl (Nat.le_of_ble_eq_true rfl)
set_option maxHeartbeats 100000 in
theorem kX3_fell_47 {d : Nat} {F : am_FT} {L : am_LT} {Q : am_QT} {l1 l2 : Option Value} : wt am_S0 (d + 1) mX3_fell 47 [some (.ref 18), l1, l2] [] F L Q = wc am_S0 d mX3_countOn [.ref 18, .int 0, .int 1] F L (fun r G K => wt am_S0 (d + 1) mX3_fell 53 [some (.ref 18), l1, l2] (r.toList ++ []) G K Q) := (wt_aload_n dX3_fell_47 rfl rfl).trans ((wt_iconst dX3_fell_48 (v := 0) (by decide)).trans ((wt_iconst dX3_fell_49 (v := 1) (by decide)).trans (wt_callV dX3_fell_50 rfl (as := [.int 0, .int 1]) (rest := []) rfl rfl (Nat.le_of_ble_eq_true rfl) rfl (Nat.le_of_ble_eq_true rfl))))
set_option maxHeartbeats 100000 in
theorem kX3_fell_53 {d : Nat} {F : am_FT} {L : am_LT} {Q : am_QT} {l1 l2 : Option Value} : wt am_S0 (d + 1) mX3_fell 53 [some (.ref 18), l1, l2] [] F L Q = wc am_S0 d mX11_at [.ref 19, .int 4] F L (fun r G K => wt am_S0 (d + 1) mX3_fell 66 [some (.ref 18), l1, l2] (r.toList ++ [.int 4, .ref 19]) G K Q) := (wt_aload_n dX3_fell_53 rfl rfl).trans ((wt_getfield dX3_fell_54 rfl rfl (v := .ref 19) rfl).trans ((wt_iconst dX3_fell_57 (v := 4) (by decide)).trans ((wt_aload_n dX3_fell_58 rfl rfl).trans ((wt_getfield dX3_fell_59 rfl rfl (v := .ref 19) rfl).trans ((wt_iconst dX3_fell_62 (v := 4) (by decide)).trans (wt_callS dX3_fell_63 rfl (as := [.ref 19, .int 4]) (rest := [.int 4, .ref 19]) rfl rfl (Nat.le_of_ble_eq_true rfl) (Nat.le_of_ble_eq_true rfl)))))))
set_option maxHeartbeats 100000 in
theorem kX3_fell_66 {d : Nat} {F : am_FT} {L : am_LT} {Q : am_QT} {l0 l1 l2 : Option Value} {s1 s2 : Int32} : wt am_S0 (d + 1) mX3_fell 66 [l0, l1, l2] [.int s2, .int s1, .ref 19] F L Q = wc am_S0 d mX11_lay [.ref 19, .int s1, .int ((s2 + 1) - (s2 + 1) / 12 * 12)] F L (fun r G K => wt am_S0 (d + 1) mX3_fell 74 [l0, l1, l2] (r.toList ++ []) G K Q) := (wt_iconst dX3_fell_66 (v := 1) (by decide)).trans ((wt_iadd dX3_fell_67).trans ((wt_bipush dX3_fell_68 (v := 12) (by decide)).trans ((wt_irem dX3_fell_70 (by decide)).trans (wt_callS dX3_fell_71 rfl (as := [.ref 19, .int s1, .int ((s2 + 1) - (s2 + 1) / 12 * 12)]) (rest := []) rfl rfl (Nat.le_of_ble_eq_true rfl) (Nat.le_of_ble_eq_true rfl)))))
set_option maxHeartbeats 100000 in
theorem kX3_fell_74 {d : Nat} {F : am_FT} {L : am_LT} {Q : am_QT} {l0 l1 l2 : Option Value} : wt am_S0 d mX3_fell 74 [l0, l1, l2] [] F L Q = Q none F L := wt_return dX3_fell_74 rfl
theorem dX3_countOn_0 : decode mX3_countOn.2.2.1 0 = .ok (.aload_n 0, 1) := by decide +kernel
theorem dX3_countOn_1 : decode mX3_countOn.2.2.1 1 = .ok (.getfield 9, 3) := by decide +kernel
theorem dX3_countOn_4 : decode mX3_countOn.2.2.1 4 = .ok (.iload_n 1, 1) := by decide +kernel
theorem dX3_countOn_5 : decode mX3_countOn.2.2.1 5 = .ok (.aload_n 0, 1) := by decide +kernel
theorem dX3_countOn_6 : decode mX3_countOn.2.2.1 6 = .ok (.getfield 9, 3) := by decide +kernel
theorem dX3_countOn_9 : decode mX3_countOn.2.2.1 9 = .ok (.iload_n 1, 1) := by decide +kernel
theorem dX3_countOn_10 : decode mX3_countOn.2.2.1 10 = .ok (.invokestatic 31, 3) := by decide +kernel
theorem dX3_countOn_13 : decode mX3_countOn.2.2.1 13 = .ok (.iload_n 2, 1) := by decide +kernel
theorem dX3_countOn_14 : decode mX3_countOn.2.2.1 14 = .ok (.iadd, 1) := by decide +kernel
theorem dX3_countOn_15 : decode mX3_countOn.2.2.1 15 = .ok (.invokestatic 35, 3) := by decide +kernel
theorem dX3_countOn_18 : decode mX3_countOn.2.2.1 18 = .ok (.return_, 1) := by decide +kernel
set_option maxHeartbeats 100000 in
theorem kX3_countOn_0 {d : Nat} {F : am_FT} {L : am_LT} {Q : am_QT} {l2 : Option Value} {x1 : Int32} : wt am_S0 (d + 1) mX3_countOn 0 [some (.ref 18), some (.int x1), l2] [] F L Q = wc am_S0 d mX11_at [.ref 19, .int x1] F L (fun r G K => wt am_S0 (d + 1) mX3_countOn 13 [some (.ref 18), some (.int x1), l2] (r.toList ++ [.int x1, .ref 19]) G K Q) := (wt_aload_n dX3_countOn_0 rfl rfl).trans ((wt_getfield dX3_countOn_1 rfl rfl (v := .ref 19) rfl).trans ((wt_iload_n dX3_countOn_4 rfl).trans ((wt_aload_n dX3_countOn_5 rfl rfl).trans ((wt_getfield dX3_countOn_6 rfl rfl (v := .ref 19) rfl).trans ((wt_iload_n dX3_countOn_9 rfl).trans (wt_callS dX3_countOn_10 rfl (as := [.ref 19, .int x1]) (rest := [.int x1, .ref 19]) rfl rfl (Nat.le_of_ble_eq_true rfl) (Nat.le_of_ble_eq_true rfl)))))))
set_option maxHeartbeats 100000 in
theorem kX3_countOn_13 {d : Nat} {F : am_FT} {L : am_LT} {Q : am_QT} {l0 l1 : Option Value} {s1 s2 x2 : Int32} : wt am_S0 (d + 1) mX3_countOn 13 [l0, l1, some (.int x2)] [.int s2, .int s1, .ref 19] F L Q = wc am_S0 d mX11_lay [.ref 19, .int s1, .int (s2 + x2)] F L (fun r G K => wt am_S0 (d + 1) mX3_countOn 18 [l0, l1, some (.int x2)] (r.toList ++ []) G K Q) := (wt_iload_n dX3_countOn_13 rfl).trans ((wt_iadd dX3_countOn_14).trans (wt_callS dX3_countOn_15 rfl (as := [.ref 19, .int s1, .int (s2 + x2)]) (rest := []) rfl rfl (Nat.le_of_ble_eq_true rfl) (Nat.le_of_ble_eq_true rfl)))
set_option maxHeartbeats 100000 in
theorem kX3_countOn_18 {d : Nat} {F : am_FT} {L : am_LT} {Q : am_QT} {l0 l1 l2 : Option Value} : wt am_S0 d mX3_countOn 18 [l0, l1, l2] [] F L Q = Q none F L := wt_return dX3_countOn_18 rfl
theorem dX3_seat_0 : decode mX3_seat.2.2.1 0 = .ok (.aload_n 0, 1) := by decide +kernel
theorem dX3_seat_1 : decode mX3_seat.2.2.1 1 = .ok (.getfield 27, 3) := by decide +kernel
theorem dX3_seat_4 : decode mX3_seat.2.2.1 4 = .ok (.iload_n 1, 1) := by decide +kernel
theorem dX3_seat_5 : decode mX3_seat.2.2.1 5 = .ok (.iconst 4, 1) := by decide +kernel
theorem dX3_seat_6 : decode mX3_seat.2.2.1 6 = .ok (.invokevirtual 63, 3) := by decide +kernel
theorem dX3_seat_9 : decode mX3_seat.2.2.1 9 = .ok (.istore_n 3, 1) := by decide +kernel
theorem dX3_seat_10 : decode mX3_seat.2.2.1 10 = .ok (.aload_n 0, 1) := by decide +kernel
theorem dX3_seat_11 : decode mX3_seat.2.2.1 11 = .ok (.getfield 27, 3) := by decide +kernel
theorem dX3_seat_14 : decode mX3_seat.2.2.1 14 = .ok (.iload_n 1, 1) := by decide +kernel
theorem dX3_seat_15 : decode mX3_seat.2.2.1 15 = .ok (.iconst 4, 1) := by decide +kernel
theorem dX3_seat_16 : decode mX3_seat.2.2.1 16 = .ok (.iload_n 2, 1) := by decide +kernel
theorem dX3_seat_17 : decode mX3_seat.2.2.1 17 = .ok (.invokevirtual 49, 3) := by decide +kernel
theorem dX3_seat_20 : decode mX3_seat.2.2.1 20 = .ok (.aload_n 0, 1) := by decide +kernel
theorem dX3_seat_21 : decode mX3_seat.2.2.1 21 = .ok (.iconst 2, 1) := by decide +kernel
theorem dX3_seat_22 : decode mX3_seat.2.2.1 22 = .ok (.iconst 1, 1) := by decide +kernel
theorem dX3_seat_23 : decode mX3_seat.2.2.1 23 = .ok (.invokevirtual 59, 3) := by decide +kernel
theorem dX3_seat_26 : decode mX3_seat.2.2.1 26 = .ok (.iload_n 3, 1) := by decide +kernel
theorem dX3_seat_27 : decode mX3_seat.2.2.1 27 = .ok (.ireturn, 1) := by decide +kernel
set_option maxHeartbeats 100000 in
theorem kX3_seat_0 {d : Nat} {F : am_FT} {L : am_LT} {Q : am_QT} {l2 l3 : Option Value} {x1 : Int32} : wt am_S0 (d + 1) mX3_seat 0 [some (.ref 18), some (.int x1), l2, l3] [] F L Q = wc am_S0 d mX5_read [.ref 1, .int x1, .int 4] F L (fun r G K => wt am_S0 (d + 1) mX3_seat 9 [some (.ref 18), some (.int x1), l2, l3] (r.toList ++ []) G K Q) := (wt_aload_n dX3_seat_0 rfl rfl).trans ((wt_getfield dX3_seat_1 rfl rfl (v := .ref 1) rfl).trans ((wt_iload_n dX3_seat_4 rfl).trans ((wt_iconst dX3_seat_5 (v := 4) (by decide)).trans (wt_callV dX3_seat_6 rfl (as := [.int x1, .int 4]) (rest := []) rfl rfl (Nat.le_of_ble_eq_true rfl) rfl (Nat.le_of_ble_eq_true rfl)))))
set_option maxHeartbeats 100000 in
theorem kX3_seat_9 {d : Nat} {F : am_FT} {L : am_LT} {Q : am_QT} {l3 : Option Value} {s0 x2 x1 : Int32} : wt am_S0 (d + 1) mX3_seat 9 [some (.ref 18), some (.int x1), some (.int x2), l3] [.int s0] F L Q = wc am_S0 d mX5_write [.ref 1, .int x1, .int 4, .int x2] F L (fun r G K => wt am_S0 (d + 1) mX3_seat 20 [some (.ref 18), some (.int x1), some (.int x2), some (.int s0)] (r.toList ++ []) G K Q) := (wt_istore_n dX3_seat_9 (lv1 := [some (.ref 18), some (.int x1), some (.int x2), some (.int s0)]) (Nat.le_of_ble_eq_true rfl) rfl).trans ((wt_aload_n dX3_seat_10 rfl rfl).trans ((wt_getfield dX3_seat_11 rfl rfl (v := .ref 1) rfl).trans ((wt_iload_n dX3_seat_14 rfl).trans ((wt_iconst dX3_seat_15 (v := 4) (by decide)).trans ((wt_iload_n dX3_seat_16 rfl).trans (wt_callV dX3_seat_17 rfl (as := [.int x1, .int 4, .int x2]) (rest := []) rfl rfl (Nat.le_of_ble_eq_true rfl) rfl (Nat.le_of_ble_eq_true rfl)))))))
set_option maxHeartbeats 100000 in
theorem kX3_seat_20 {d : Nat} {F : am_FT} {L : am_LT} {Q : am_QT} {l1 l2 l3 : Option Value} : wt am_S0 (d + 1) mX3_seat 20 [some (.ref 18), l1, l2, l3] [] F L Q = wc am_S0 d mX3_countOn [.ref 18, .int 2, .int 1] F L (fun r G K => wt am_S0 (d + 1) mX3_seat 26 [some (.ref 18), l1, l2, l3] (r.toList ++ []) G K Q) := (wt_aload_n dX3_seat_20 rfl rfl).trans ((wt_iconst dX3_seat_21 (v := 2) (by decide)).trans ((wt_iconst dX3_seat_22 (v := 1) (by decide)).trans (wt_callV dX3_seat_23 rfl (as := [.int 2, .int 1]) (rest := []) rfl rfl (Nat.le_of_ble_eq_true rfl) rfl (Nat.le_of_ble_eq_true rfl))))
set_option maxHeartbeats 100000 in
theorem kX3_seat_26 {d : Nat} {F : am_FT} {L : am_LT} {Q : am_QT} {l0 l1 l2 : Option Value} {x3 : Int32} : wt am_S0 d mX3_seat 26 [l0, l1, l2, some (.int x3)] [] F L Q = Q (some (.int x3)) F L := (wt_iload_n dX3_seat_26 rfl).trans (wt_ireturn dX3_seat_27 rfl rfl)
theorem dX3_lopOne_0 : decode mX3_lopOne.2.2.1 0 = .ok (.aload_n 0, 1) := by decide +kernel
theorem dX3_lopOne_1 : decode mX3_lopOne.2.2.1 1 = .ok (.getfield 27, 3) := by decide +kernel
theorem dX3_lopOne_4 : decode mX3_lopOne.2.2.1 4 = .ok (.iload_n 1, 1) := by decide +kernel
theorem dX3_lopOne_5 : decode mX3_lopOne.2.2.1 5 = .ok (.iconst 1, 1) := by decide +kernel
theorem dX3_lopOne_6 : decode mX3_lopOne.2.2.1 6 = .ok (.invokevirtual 63, 3) := by decide +kernel
theorem dX3_lopOne_9 : decode mX3_lopOne.2.2.1 9 = .ok (.iconst 1, 1) := by decide +kernel
theorem dX3_lopOne_10 : decode mX3_lopOne.2.2.1 10 = .ok (.isub, 1) := by decide +kernel
theorem dX3_lopOne_11 : decode mX3_lopOne.2.2.1 11 = .ok (.istore_n 2, 1) := by decide +kernel
theorem dX3_lopOne_12 : decode mX3_lopOne.2.2.1 12 = .ok (.iload_n 2, 1) := by decide +kernel
theorem dX3_lopOne_13 : decode mX3_lopOne.2.2.1 13 = .ok (.iconst 1, 1) := by decide +kernel
theorem dX3_lopOne_14 : decode mX3_lopOne.2.2.1 14 = .ok (.if_icmp .lt 14, 3) := by decide +kernel
theorem dX3_lopOne_17 : decode mX3_lopOne.2.2.1 17 = .ok (.aload_n 0, 1) := by decide +kernel
theorem dX3_lopOne_18 : decode mX3_lopOne.2.2.1 18 = .ok (.getfield 27, 3) := by decide +kernel
theorem dX3_lopOne_21 : decode mX3_lopOne.2.2.1 21 = .ok (.iload_n 1, 1) := by decide +kernel
theorem dX3_lopOne_22 : decode mX3_lopOne.2.2.1 22 = .ok (.invokevirtual 67, 3) := by decide +kernel
theorem dX3_lopOne_25 : decode mX3_lopOne.2.2.1 25 = .ok (.ifCond .ne 6, 3) := by decide +kernel
theorem dX3_lopOne_28 : decode mX3_lopOne.2.2.1 28 = .ok (.bipush (-5), 2) := by decide +kernel
theorem dX3_lopOne_30 : decode mX3_lopOne.2.2.1 30 = .ok (.ireturn, 1) := by decide +kernel
theorem dX3_lopOne_31 : decode mX3_lopOne.2.2.1 31 = .ok (.aload_n 0, 1) := by decide +kernel
theorem dX3_lopOne_32 : decode mX3_lopOne.2.2.1 32 = .ok (.getfield 27, 3) := by decide +kernel
theorem dX3_lopOne_35 : decode mX3_lopOne.2.2.1 35 = .ok (.iload_n 1, 1) := by decide +kernel
theorem dX3_lopOne_36 : decode mX3_lopOne.2.2.1 36 = .ok (.iconst 1, 1) := by decide +kernel
theorem dX3_lopOne_37 : decode mX3_lopOne.2.2.1 37 = .ok (.iload_n 2, 1) := by decide +kernel
theorem dX3_lopOne_38 : decode mX3_lopOne.2.2.1 38 = .ok (.invokevirtual 49, 3) := by decide +kernel
theorem dX3_lopOne_41 : decode mX3_lopOne.2.2.1 41 = .ok (.aload_n 0, 1) := by decide +kernel
theorem dX3_lopOne_42 : decode mX3_lopOne.2.2.1 42 = .ok (.iconst 3, 1) := by decide +kernel
theorem dX3_lopOne_43 : decode mX3_lopOne.2.2.1 43 = .ok (.iconst 1, 1) := by decide +kernel
theorem dX3_lopOne_44 : decode mX3_lopOne.2.2.1 44 = .ok (.invokevirtual 59, 3) := by decide +kernel
theorem dX3_lopOne_47 : decode mX3_lopOne.2.2.1 47 = .ok (.iload_n 2, 1) := by decide +kernel
theorem dX3_lopOne_48 : decode mX3_lopOne.2.2.1 48 = .ok (.ireturn, 1) := by decide +kernel
set_option maxHeartbeats 100000 in
theorem kX3_lopOne_0 {d : Nat} {F : am_FT} {L : am_LT} {Q : am_QT} {l2 : Option Value} {x1 : Int32} : wt am_S0 (d + 1) mX3_lopOne 0 [some (.ref 18), some (.int x1), l2] [] F L Q = wc am_S0 d mX5_read [.ref 1, .int x1, .int 1] F L (fun r G K => wt am_S0 (d + 1) mX3_lopOne 9 [some (.ref 18), some (.int x1), l2] (r.toList ++ []) G K Q) := (wt_aload_n dX3_lopOne_0 rfl rfl).trans ((wt_getfield dX3_lopOne_1 rfl rfl (v := .ref 1) rfl).trans ((wt_iload_n dX3_lopOne_4 rfl).trans ((wt_iconst dX3_lopOne_5 (v := 1) (by decide)).trans (wt_callV dX3_lopOne_6 rfl (as := [.int x1, .int 1]) (rest := []) rfl rfl (Nat.le_of_ble_eq_true rfl) rfl (Nat.le_of_ble_eq_true rfl)))))
set_option maxHeartbeats 100000 in
theorem kX3_lopOne_9 {d : Nat} {F : am_FT} {L : am_LT} {Q : am_QT} {l0 l2 : Option Value} {s0 x1 : Int32} : wt am_S0 d mX3_lopOne 9 [l0, some (.int x1), l2] [.int s0] F L Q = if (s0 - 1) < 1 then wt am_S0 d mX3_lopOne 28 [l0, some (.int x1), some (.int (s0 - 1))] [] F L Q else wt am_S0 d mX3_lopOne 17 [l0, some (.int x1), some (.int (s0 - 1))] [] F L Q := (wt_iconst dX3_lopOne_9 (v := 1) (by decide)).trans ((wt_isub dX3_lopOne_10).trans ((wt_istore_n dX3_lopOne_11 (lv1 := [l0, some (.int x1), some (.int (s0 - 1))]) (Nat.le_of_ble_eq_true rfl) rfl).trans ((wt_iload_n dX3_lopOne_12 rfl).trans ((wt_iconst dX3_lopOne_13 (v := 1) (by decide)).trans (wt_if_icmp_lt dX3_lopOne_14 (t := 28) rfl)))))
set_option maxHeartbeats 100000 in
theorem kX3_lopOne_17 {d : Nat} {F : am_FT} {L : am_LT} {Q : am_QT} {l2 : Option Value} {x1 : Int32} : wt am_S0 (d + 1) mX3_lopOne 17 [some (.ref 18), some (.int x1), l2] [] F L Q = wc am_S0 d mX5_stands [.ref 1, .int x1] F L (fun r G K => wt am_S0 (d + 1) mX3_lopOne 25 [some (.ref 18), some (.int x1), l2] (r.toList ++ []) G K Q) := (wt_aload_n dX3_lopOne_17 rfl rfl).trans ((wt_getfield dX3_lopOne_18 rfl rfl (v := .ref 1) rfl).trans ((wt_iload_n dX3_lopOne_21 rfl).trans (wt_callV dX3_lopOne_22 rfl (as := [.int x1]) (rest := []) rfl rfl (Nat.le_of_ble_eq_true rfl) rfl (Nat.le_of_ble_eq_true rfl))))
set_option maxHeartbeats 100000 in
theorem kX3_lopOne_25 {d : Nat} {F : am_FT} {L : am_LT} {Q : am_QT} {l0 l1 l2 : Option Value} {s0 : Int32} : wt am_S0 d mX3_lopOne 25 [l0, l1, l2] [.int s0] F L Q = if ¬ s0 = 0 then wt am_S0 d mX3_lopOne 31 [l0, l1, l2] [] F L Q else wt am_S0 d mX3_lopOne 28 [l0, l1, l2] [] F L Q := wt_ifCond_ne dX3_lopOne_25 (t := 31) rfl
set_option maxHeartbeats 100000 in
theorem kX3_lopOne_28 {d : Nat} {F : am_FT} {L : am_LT} {Q : am_QT} {l0 l1 l2 : Option Value} : wt am_S0 d mX3_lopOne 28 [l0, l1, l2] [] F L Q = Q (some (.int (-5))) F L := (wt_bipush dX3_lopOne_28 (v := (-5)) (by decide)).trans (wt_ireturn dX3_lopOne_30 rfl rfl)
set_option maxHeartbeats 100000 in
theorem kX3_lopOne_31 {d : Nat} {F : am_FT} {L : am_LT} {Q : am_QT} {x1 x2 : Int32} : wt am_S0 (d + 1) mX3_lopOne 31 [some (.ref 18), some (.int x1), some (.int x2)] [] F L Q = wc am_S0 d mX5_write [.ref 1, .int x1, .int 1, .int x2] F L (fun r G K => wt am_S0 (d + 1) mX3_lopOne 41 [some (.ref 18), some (.int x1), some (.int x2)] (r.toList ++ []) G K Q) := (wt_aload_n dX3_lopOne_31 rfl rfl).trans ((wt_getfield dX3_lopOne_32 rfl rfl (v := .ref 1) rfl).trans ((wt_iload_n dX3_lopOne_35 rfl).trans ((wt_iconst dX3_lopOne_36 (v := 1) (by decide)).trans ((wt_iload_n dX3_lopOne_37 rfl).trans (wt_callV dX3_lopOne_38 rfl (as := [.int x1, .int 1, .int x2]) (rest := []) rfl rfl (Nat.le_of_ble_eq_true rfl) rfl (Nat.le_of_ble_eq_true rfl))))))
set_option maxHeartbeats 100000 in
theorem kX3_lopOne_41 {d : Nat} {F : am_FT} {L : am_LT} {Q : am_QT} {l1 l2 : Option Value} : wt am_S0 (d + 1) mX3_lopOne 41 [some (.ref 18), l1, l2] [] F L Q = wc am_S0 d mX3_countOn [.ref 18, .int 3, .int 1] F L (fun r G K => wt am_S0 (d + 1) mX3_lopOne 47 [some (.ref 18), l1, l2] (r.toList ++ []) G K Q) := (wt_aload_n dX3_lopOne_41 rfl rfl).trans ((wt_iconst dX3_lopOne_42 (v := 3) (by decide)).trans ((wt_iconst dX3_lopOne_43 (v := 1) (by decide)).trans (wt_callV dX3_lopOne_44 rfl (as := [.int 3, .int 1]) (rest := []) rfl rfl (Nat.le_of_ble_eq_true rfl) rfl (Nat.le_of_ble_eq_true rfl))))
set_option maxHeartbeats 100000 in
theorem kX3_lopOne_47 {d : Nat} {F : am_FT} {L : am_LT} {Q : am_QT} {l0 l1 : Option Value} {x2 : Int32} : wt am_S0 d mX3_lopOne 47 [l0, l1, some (.int x2)] [] F L Q = Q (some (.int x2)) F L := (wt_iload_n dX3_lopOne_47 rfl).trans (wt_ireturn dX3_lopOne_48 rfl rfl)
theorem dX3_keepImage_0 : decode mX3_keepImage.2.2.1 0 = .ok (.aload_n 0, 1) := by decide +kernel
theorem dX3_keepImage_1 : decode mX3_keepImage.2.2.1 1 = .ok (.iconst 1, 1) := by decide +kernel
theorem dX3_keepImage_2 : decode mX3_keepImage.2.2.1 2 = .ok (.putfield 71, 3) := by decide +kernel
theorem dX3_keepImage_5 : decode mX3_keepImage.2.2.1 5 = .ok (.aload_n 0, 1) := by decide +kernel
theorem dX3_keepImage_6 : decode mX3_keepImage.2.2.1 6 = .ok (.aload_n 0, 1) := by decide +kernel
theorem dX3_keepImage_7 : decode mX3_keepImage.2.2.1 7 = .ok (.getfield 27, 3) := by decide +kernel
theorem dX3_keepImage_10 : decode mX3_keepImage.2.2.1 10 = .ok (.getfield 39, 3) := by decide +kernel
theorem dX3_keepImage_13 : decode mX3_keepImage.2.2.1 13 = .ok (.putfield 75, 3) := by decide +kernel
theorem dX3_keepImage_16 : decode mX3_keepImage.2.2.1 16 = .ok (.aload_n 0, 1) := by decide +kernel
theorem dX3_keepImage_17 : decode mX3_keepImage.2.2.1 17 = .ok (.aload_n 0, 1) := by decide +kernel
theorem dX3_keepImage_18 : decode mX3_keepImage.2.2.1 18 = .ok (.getfield 27, 3) := by decide +kernel
theorem dX3_keepImage_21 : decode mX3_keepImage.2.2.1 21 = .ok (.getfield 78, 3) := by decide +kernel
theorem dX3_keepImage_24 : decode mX3_keepImage.2.2.1 24 = .ok (.putfield 81, 3) := by decide +kernel
theorem dX3_keepImage_27 : decode mX3_keepImage.2.2.1 27 = .ok (.iconst 0, 1) := by decide +kernel
theorem dX3_keepImage_28 : decode mX3_keepImage.2.2.1 28 = .ok (.istore_n 1, 1) := by decide +kernel
theorem dX3_keepImage_29 : decode mX3_keepImage.2.2.1 29 = .ok (.iload_n 1, 1) := by decide +kernel
theorem dX3_keepImage_30 : decode mX3_keepImage.2.2.1 30 = .ok (.aload_n 0, 1) := by decide +kernel
theorem dX3_keepImage_31 : decode mX3_keepImage.2.2.1 31 = .ok (.getfield 75, 3) := by decide +kernel
theorem dX3_keepImage_34 : decode mX3_keepImage.2.2.1 34 = .ok (.if_icmp .ge 44, 3) := by decide +kernel
theorem dX3_keepImage_37 : decode mX3_keepImage.2.2.1 37 = .ok (.aload_n 0, 1) := by decide +kernel
theorem dX3_keepImage_38 : decode mX3_keepImage.2.2.1 38 = .ok (.getfield 18, 3) := by decide +kernel
theorem dX3_keepImage_41 : decode mX3_keepImage.2.2.1 41 = .ok (.iload_n 1, 1) := by decide +kernel
theorem dX3_keepImage_42 : decode mX3_keepImage.2.2.1 42 = .ok (.aload_n 0, 1) := by decide +kernel
theorem dX3_keepImage_43 : decode mX3_keepImage.2.2.1 43 = .ok (.getfield 27, 3) := by decide +kernel
theorem dX3_keepImage_46 : decode mX3_keepImage.2.2.1 46 = .ok (.iload_n 1, 1) := by decide +kernel
theorem dX3_keepImage_47 : decode mX3_keepImage.2.2.1 47 = .ok (.bipush 7, 2) := by decide +kernel
theorem dX3_keepImage_49 : decode mX3_keepImage.2.2.1 49 = .ok (.invokevirtual 63, 3) := by decide +kernel
theorem dX3_keepImage_52 : decode mX3_keepImage.2.2.1 52 = .ok (.invokestatic 35, 3) := by decide +kernel
theorem dX3_keepImage_55 : decode mX3_keepImage.2.2.1 55 = .ok (.aload_n 0, 1) := by decide +kernel
theorem dX3_keepImage_56 : decode mX3_keepImage.2.2.1 56 = .ok (.getfield 21, 3) := by decide +kernel
theorem dX3_keepImage_59 : decode mX3_keepImage.2.2.1 59 = .ok (.iload_n 1, 1) := by decide +kernel
theorem dX3_keepImage_60 : decode mX3_keepImage.2.2.1 60 = .ok (.aload_n 0, 1) := by decide +kernel
theorem dX3_keepImage_61 : decode mX3_keepImage.2.2.1 61 = .ok (.getfield 27, 3) := by decide +kernel
theorem dX3_keepImage_64 : decode mX3_keepImage.2.2.1 64 = .ok (.iload_n 1, 1) := by decide +kernel
theorem dX3_keepImage_65 : decode mX3_keepImage.2.2.1 65 = .ok (.iconst 1, 1) := by decide +kernel
theorem dX3_keepImage_66 : decode mX3_keepImage.2.2.1 66 = .ok (.invokevirtual 63, 3) := by decide +kernel
theorem dX3_keepImage_69 : decode mX3_keepImage.2.2.1 69 = .ok (.invokestatic 35, 3) := by decide +kernel
theorem dX3_keepImage_72 : decode mX3_keepImage.2.2.1 72 = .ok (.iinc 1 1, 3) := by decide +kernel
theorem dX3_keepImage_75 : decode mX3_keepImage.2.2.1 75 = .ok (.goto (-46), 3) := by decide +kernel
theorem dX3_keepImage_78 : decode mX3_keepImage.2.2.1 78 = .ok (.iconst 0, 1) := by decide +kernel
theorem dX3_keepImage_79 : decode mX3_keepImage.2.2.1 79 = .ok (.istore_n 1, 1) := by decide +kernel
theorem dX3_keepImage_80 : decode mX3_keepImage.2.2.1 80 = .ok (.iload_n 1, 1) := by decide +kernel
theorem dX3_keepImage_81 : decode mX3_keepImage.2.2.1 81 = .ok (.aload_n 0, 1) := by decide +kernel
theorem dX3_keepImage_82 : decode mX3_keepImage.2.2.1 82 = .ok (.getfield 81, 3) := by decide +kernel
theorem dX3_keepImage_85 : decode mX3_keepImage.2.2.1 85 = .ok (.if_icmp .ge 26, 3) := by decide +kernel
theorem dX3_keepImage_88 : decode mX3_keepImage.2.2.1 88 = .ok (.aload_n 0, 1) := by decide +kernel
theorem dX3_keepImage_89 : decode mX3_keepImage.2.2.1 89 = .ok (.getfield 24, 3) := by decide +kernel
theorem dX3_keepImage_92 : decode mX3_keepImage.2.2.1 92 = .ok (.iload_n 1, 1) := by decide +kernel
theorem dX3_keepImage_93 : decode mX3_keepImage.2.2.1 93 = .ok (.aload_n 0, 1) := by decide +kernel
theorem dX3_keepImage_94 : decode mX3_keepImage.2.2.1 94 = .ok (.getfield 27, 3) := by decide +kernel
theorem dX3_keepImage_97 : decode mX3_keepImage.2.2.1 97 = .ok (.iload_n 1, 1) := by decide +kernel
theorem dX3_keepImage_98 : decode mX3_keepImage.2.2.1 98 = .ok (.iconst 4, 1) := by decide +kernel
theorem dX3_keepImage_99 : decode mX3_keepImage.2.2.1 99 = .ok (.invokevirtual 63, 3) := by decide +kernel
theorem dX3_keepImage_102 : decode mX3_keepImage.2.2.1 102 = .ok (.invokestatic 35, 3) := by decide +kernel
theorem dX3_keepImage_105 : decode mX3_keepImage.2.2.1 105 = .ok (.iinc 1 1, 3) := by decide +kernel
theorem dX3_keepImage_108 : decode mX3_keepImage.2.2.1 108 = .ok (.goto (-28), 3) := by decide +kernel
theorem dX3_keepImage_111 : decode mX3_keepImage.2.2.1 111 = .ok (.iconst 0, 1) := by decide +kernel
theorem dX3_keepImage_112 : decode mX3_keepImage.2.2.1 112 = .ok (.istore_n 1, 1) := by decide +kernel
theorem dX3_keepImage_113 : decode mX3_keepImage.2.2.1 113 = .ok (.iload_n 1, 1) := by decide +kernel
theorem dX3_keepImage_114 : decode mX3_keepImage.2.2.1 114 = .ok (.iconst 5, 1) := by decide +kernel
theorem dX3_keepImage_115 : decode mX3_keepImage.2.2.1 115 = .ok (.if_icmp .ge 25, 3) := by decide +kernel
theorem dX3_keepImage_118 : decode mX3_keepImage.2.2.1 118 = .ok (.aload_n 0, 1) := by decide +kernel
theorem dX3_keepImage_119 : decode mX3_keepImage.2.2.1 119 = .ok (.getfield 15, 3) := by decide +kernel
theorem dX3_keepImage_122 : decode mX3_keepImage.2.2.1 122 = .ok (.iload_n 1, 1) := by decide +kernel
theorem dX3_keepImage_123 : decode mX3_keepImage.2.2.1 123 = .ok (.aload_n 0, 1) := by decide +kernel
theorem dX3_keepImage_124 : decode mX3_keepImage.2.2.1 124 = .ok (.getfield 9, 3) := by decide +kernel
theorem dX3_keepImage_127 : decode mX3_keepImage.2.2.1 127 = .ok (.iload_n 1, 1) := by decide +kernel
theorem dX3_keepImage_128 : decode mX3_keepImage.2.2.1 128 = .ok (.invokestatic 31, 3) := by decide +kernel
theorem dX3_keepImage_131 : decode mX3_keepImage.2.2.1 131 = .ok (.invokestatic 35, 3) := by decide +kernel
theorem dX3_keepImage_134 : decode mX3_keepImage.2.2.1 134 = .ok (.iinc 1 1, 3) := by decide +kernel
theorem dX3_keepImage_137 : decode mX3_keepImage.2.2.1 137 = .ok (.goto (-24), 3) := by decide +kernel
theorem dX3_keepImage_140 : decode mX3_keepImage.2.2.1 140 = .ok (.return_, 1) := by decide +kernel
set_option maxHeartbeats 100000 in
theorem kX3_keepImage_0 {d : Nat} {F : am_FT} {L : am_LT} {Q : am_QT} {l1 : Option Value} : wt am_S0 d mX3_keepImage 0 [some (.ref 18), l1] [] F L Q = wt am_S0 d mX3_keepImage 29 [some (.ref 18), some (.int 0)] [] (am_upF (am_upF (am_upF F 18 8 1) 18 6 (F 1 1)) 18 7 (F 1 2)) L Q := (wt_aload_n dX3_keepImage_0 rfl rfl).trans ((wt_iconst dX3_keepImage_1 (v := 1) (by decide)).trans ((wt_putfield dX3_keepImage_2 rfl rfl ⟨rfl, rfl, by decide, by decide⟩).trans ((wt_aload_n dX3_keepImage_5 rfl rfl).trans ((wt_aload_n dX3_keepImage_6 rfl rfl).trans ((wt_getfield dX3_keepImage_7 rfl rfl (v := .ref 1) rfl).trans ((wt_getfield dX3_keepImage_10 rfl rfl (v := .int (F 1 1)) (F := am_upF F 18 8 1) (p := 1) rfl).trans ((wt_putfield dX3_keepImage_13 rfl rfl ⟨rfl, rfl, rfl, rfl⟩).trans ((wt_aload_n dX3_keepImage_16 rfl rfl).trans ((wt_aload_n dX3_keepImage_17 rfl rfl).trans ((wt_getfield dX3_keepImage_18 rfl rfl (v := .ref 1) rfl).trans ((wt_getfield dX3_keepImage_21 rfl rfl (v := .int (F 1 2)) (F := am_upF (am_upF F 18 8 1) 18 6 (F 1 1)) (p := 1) rfl).trans ((wt_putfield dX3_keepImage_24 rfl rfl ⟨rfl, rfl, rfl, rfl⟩).trans ((wt_iconst dX3_keepImage_27 (v := 0) (by decide)).trans (wt_istore_n dX3_keepImage_28 (lv1 := [some (.ref 18), some (.int 0)]) (Nat.le_of_ble_eq_true rfl) rfl))))))))))))))
set_option maxHeartbeats 100000 in
theorem kX3_keepImage_29 {d : Nat} {F : am_FT} {L : am_LT} {Q : am_QT} {x1 : Int32} : wt am_S0 d mX3_keepImage 29 [some (.ref 18), some (.int x1)] [] F L Q = if (F 18 6) ≤ x1 then wt am_S0 d mX3_keepImage 78 [some (.ref 18), some (.int x1)] [] F L Q else wt am_S0 d mX3_keepImage 37 [some (.ref 18), some (.int x1)] [] F L Q := (wt_iload_n dX3_keepImage_29 rfl).trans ((wt_aload_n dX3_keepImage_30 rfl rfl).trans ((wt_getfield dX3_keepImage_31 rfl rfl (v := .int (F 18 6)) rfl).trans (wt_if_icmp_ge dX3_keepImage_34 (t := 78) rfl)))
set_option maxHeartbeats 100000 in
theorem kX3_keepImage_37 {d : Nat} {F : am_FT} {L : am_LT} {Q : am_QT} {x1 : Int32} : wt am_S0 (d + 1) mX3_keepImage 37 [some (.ref 18), some (.int x1)] [] F L Q = wc am_S0 d mX5_read [.ref 1, .int x1, .int 7] F L (fun r G K => wt am_S0 (d + 1) mX3_keepImage 52 [some (.ref 18), some (.int x1)] (r.toList ++ [.int x1, .ref 21]) G K Q) := (wt_aload_n dX3_keepImage_37 rfl rfl).trans ((wt_getfield dX3_keepImage_38 rfl rfl (v := .ref 21) rfl).trans ((wt_iload_n dX3_keepImage_41 rfl).trans ((wt_aload_n dX3_keepImage_42 rfl rfl).trans ((wt_getfield dX3_keepImage_43 rfl rfl (v := .ref 1) rfl).trans ((wt_iload_n dX3_keepImage_46 rfl).trans ((wt_bipush dX3_keepImage_47 (v := 7) (by decide)).trans (wt_callV dX3_keepImage_49 rfl (as := [.int x1, .int 7]) (rest := [.int x1, .ref 21]) rfl rfl (Nat.le_of_ble_eq_true rfl) rfl (Nat.le_of_ble_eq_true rfl))))))))
set_option maxHeartbeats 100000 in
theorem kX3_keepImage_52 {d : Nat} {F : am_FT} {L : am_LT} {Q : am_QT} {l0 l1 : Option Value} {s1 s2 : Int32} : wt am_S0 (d + 1) mX3_keepImage 52 [l0, l1] [.int s2, .int s1, .ref 21] F L Q = wc am_S0 d mX11_lay [.ref 21, .int s1, .int s2] F L (fun r G K => wt am_S0 (d + 1) mX3_keepImage 55 [l0, l1] (r.toList ++ []) G K Q) := wt_callS dX3_keepImage_52 rfl (as := [.ref 21, .int s1, .int s2]) (rest := []) rfl rfl (Nat.le_of_ble_eq_true rfl) (Nat.le_of_ble_eq_true rfl)
set_option maxHeartbeats 100000 in
theorem kX3_keepImage_55 {d : Nat} {F : am_FT} {L : am_LT} {Q : am_QT} {x1 : Int32} : wt am_S0 (d + 1) mX3_keepImage 55 [some (.ref 18), some (.int x1)] [] F L Q = wc am_S0 d mX5_read [.ref 1, .int x1, .int 1] F L (fun r G K => wt am_S0 (d + 1) mX3_keepImage 69 [some (.ref 18), some (.int x1)] (r.toList ++ [.int x1, .ref 22]) G K Q) := (wt_aload_n dX3_keepImage_55 rfl rfl).trans ((wt_getfield dX3_keepImage_56 rfl rfl (v := .ref 22) rfl).trans ((wt_iload_n dX3_keepImage_59 rfl).trans ((wt_aload_n dX3_keepImage_60 rfl rfl).trans ((wt_getfield dX3_keepImage_61 rfl rfl (v := .ref 1) rfl).trans ((wt_iload_n dX3_keepImage_64 rfl).trans ((wt_iconst dX3_keepImage_65 (v := 1) (by decide)).trans (wt_callV dX3_keepImage_66 rfl (as := [.int x1, .int 1]) (rest := [.int x1, .ref 22]) rfl rfl (Nat.le_of_ble_eq_true rfl) rfl (Nat.le_of_ble_eq_true rfl))))))))
set_option maxHeartbeats 100000 in
theorem kX3_keepImage_69 {d : Nat} {F : am_FT} {L : am_LT} {Q : am_QT} {l0 l1 : Option Value} {s1 s2 : Int32} : wt am_S0 (d + 1) mX3_keepImage 69 [l0, l1] [.int s2, .int s1, .ref 22] F L Q = wc am_S0 d mX11_lay [.ref 22, .int s1, .int s2] F L (fun r G K => wt am_S0 (d + 1) mX3_keepImage 72 [l0, l1] (r.toList ++ []) G K Q) := wt_callS dX3_keepImage_69 rfl (as := [.ref 22, .int s1, .int s2]) (rest := []) rfl rfl (Nat.le_of_ble_eq_true rfl) (Nat.le_of_ble_eq_true rfl)
set_option maxHeartbeats 100000 in
theorem kX3_keepImage_72 {d : Nat} {F : am_FT} {L : am_LT} {Q : am_QT} {x1 : Int32} : wt am_S0 d mX3_keepImage 72 [some (.ref 18), some (.int x1)] [] F L Q = wt am_S0 d mX3_keepImage 29 [some (.ref 18), some (.int (x1 + 1))] [] F L Q := (wt_iinc dX3_keepImage_72 (v := 1) (lv1 := [some (.ref 18), some (.int (x1 + 1))]) rfl (Nat.le_of_ble_eq_true rfl) (by decide) rfl).trans (wt_goto dX3_keepImage_75 (t := 29) rfl)
set_option maxHeartbeats 100000 in
theorem kX3_keepImage_78 {d : Nat} {F : am_FT} {L : am_LT} {Q : am_QT} {l1 : Option Value} : wt am_S0 d mX3_keepImage 78 [some (.ref 18), l1] [] F L Q = wt am_S0 d mX3_keepImage 80 [some (.ref 18), some (.int 0)] [] F L Q := (wt_iconst dX3_keepImage_78 (v := 0) (by decide)).trans (wt_istore_n dX3_keepImage_79 (lv1 := [some (.ref 18), some (.int 0)]) (Nat.le_of_ble_eq_true rfl) rfl)
set_option maxHeartbeats 100000 in
theorem kX3_keepImage_80 {d : Nat} {F : am_FT} {L : am_LT} {Q : am_QT} {x1 : Int32} : wt am_S0 d mX3_keepImage 80 [some (.ref 18), some (.int x1)] [] F L Q = if (F 18 7) ≤ x1 then wt am_S0 d mX3_keepImage 111 [some (.ref 18), some (.int x1)] [] F L Q else wt am_S0 d mX3_keepImage 88 [some (.ref 18), some (.int x1)] [] F L Q := (wt_iload_n dX3_keepImage_80 rfl).trans ((wt_aload_n dX3_keepImage_81 rfl rfl).trans ((wt_getfield dX3_keepImage_82 rfl rfl (v := .int (F 18 7)) rfl).trans (wt_if_icmp_ge dX3_keepImage_85 (t := 111) rfl)))
set_option maxHeartbeats 100000 in
theorem kX3_keepImage_88 {d : Nat} {F : am_FT} {L : am_LT} {Q : am_QT} {x1 : Int32} : wt am_S0 (d + 1) mX3_keepImage 88 [some (.ref 18), some (.int x1)] [] F L Q = wc am_S0 d mX5_read [.ref 1, .int x1, .int 4] F L (fun r G K => wt am_S0 (d + 1) mX3_keepImage 102 [some (.ref 18), some (.int x1)] (r.toList ++ [.int x1, .ref 23]) G K Q) := (wt_aload_n dX3_keepImage_88 rfl rfl).trans ((wt_getfield dX3_keepImage_89 rfl rfl (v := .ref 23) rfl).trans ((wt_iload_n dX3_keepImage_92 rfl).trans ((wt_aload_n dX3_keepImage_93 rfl rfl).trans ((wt_getfield dX3_keepImage_94 rfl rfl (v := .ref 1) rfl).trans ((wt_iload_n dX3_keepImage_97 rfl).trans ((wt_iconst dX3_keepImage_98 (v := 4) (by decide)).trans (wt_callV dX3_keepImage_99 rfl (as := [.int x1, .int 4]) (rest := [.int x1, .ref 23]) rfl rfl (Nat.le_of_ble_eq_true rfl) rfl (Nat.le_of_ble_eq_true rfl))))))))
set_option maxHeartbeats 100000 in
theorem kX3_keepImage_102 {d : Nat} {F : am_FT} {L : am_LT} {Q : am_QT} {l0 l1 : Option Value} {s1 s2 : Int32} : wt am_S0 (d + 1) mX3_keepImage 102 [l0, l1] [.int s2, .int s1, .ref 23] F L Q = wc am_S0 d mX11_lay [.ref 23, .int s1, .int s2] F L (fun r G K => wt am_S0 (d + 1) mX3_keepImage 105 [l0, l1] (r.toList ++ []) G K Q) := wt_callS dX3_keepImage_102 rfl (as := [.ref 23, .int s1, .int s2]) (rest := []) rfl rfl (Nat.le_of_ble_eq_true rfl) (Nat.le_of_ble_eq_true rfl)
set_option maxHeartbeats 100000 in
theorem kX3_keepImage_105 {d : Nat} {F : am_FT} {L : am_LT} {Q : am_QT} {x1 : Int32} : wt am_S0 d mX3_keepImage 105 [some (.ref 18), some (.int x1)] [] F L Q = wt am_S0 d mX3_keepImage 80 [some (.ref 18), some (.int (x1 + 1))] [] F L Q := (wt_iinc dX3_keepImage_105 (v := 1) (lv1 := [some (.ref 18), some (.int (x1 + 1))]) rfl (Nat.le_of_ble_eq_true rfl) (by decide) rfl).trans (wt_goto dX3_keepImage_108 (t := 80) rfl)
set_option maxHeartbeats 100000 in
theorem kX3_keepImage_111 {d : Nat} {F : am_FT} {L : am_LT} {Q : am_QT} {l1 : Option Value} : wt am_S0 d mX3_keepImage 111 [some (.ref 18), l1] [] F L Q = wt am_S0 d mX3_keepImage 113 [some (.ref 18), some (.int 0)] [] F L Q := (wt_iconst dX3_keepImage_111 (v := 0) (by decide)).trans (wt_istore_n dX3_keepImage_112 (lv1 := [some (.ref 18), some (.int 0)]) (Nat.le_of_ble_eq_true rfl) rfl)
set_option maxHeartbeats 100000 in
theorem kX3_keepImage_113 {d : Nat} {F : am_FT} {L : am_LT} {Q : am_QT} {l0 : Option Value} {x1 : Int32} : wt am_S0 d mX3_keepImage 113 [l0, some (.int x1)] [] F L Q = if 5 ≤ x1 then wt am_S0 d mX3_keepImage 140 [l0, some (.int x1)] [] F L Q else wt am_S0 d mX3_keepImage 118 [l0, some (.int x1)] [] F L Q := (wt_iload_n dX3_keepImage_113 rfl).trans ((wt_iconst dX3_keepImage_114 (v := 5) (by decide)).trans (wt_if_icmp_ge dX3_keepImage_115 (t := 140) rfl))
set_option maxHeartbeats 100000 in
theorem kX3_keepImage_118 {d : Nat} {F : am_FT} {L : am_LT} {Q : am_QT} {x1 : Int32} : wt am_S0 (d + 1) mX3_keepImage 118 [some (.ref 18), some (.int x1)] [] F L Q = wc am_S0 d mX11_at [.ref 19, .int x1] F L (fun r G K => wt am_S0 (d + 1) mX3_keepImage 131 [some (.ref 18), some (.int x1)] (r.toList ++ [.int x1, .ref 20]) G K Q) := (wt_aload_n dX3_keepImage_118 rfl rfl).trans ((wt_getfield dX3_keepImage_119 rfl rfl (v := .ref 20) rfl).trans ((wt_iload_n dX3_keepImage_122 rfl).trans ((wt_aload_n dX3_keepImage_123 rfl rfl).trans ((wt_getfield dX3_keepImage_124 rfl rfl (v := .ref 19) rfl).trans ((wt_iload_n dX3_keepImage_127 rfl).trans (wt_callS dX3_keepImage_128 rfl (as := [.ref 19, .int x1]) (rest := [.int x1, .ref 20]) rfl rfl (Nat.le_of_ble_eq_true rfl) (Nat.le_of_ble_eq_true rfl)))))))
set_option maxHeartbeats 100000 in
theorem kX3_keepImage_131 {d : Nat} {F : am_FT} {L : am_LT} {Q : am_QT} {l0 l1 : Option Value} {s1 s2 : Int32} : wt am_S0 (d + 1) mX3_keepImage 131 [l0, l1] [.int s2, .int s1, .ref 20] F L Q = wc am_S0 d mX11_lay [.ref 20, .int s1, .int s2] F L (fun r G K => wt am_S0 (d + 1) mX3_keepImage 134 [l0, l1] (r.toList ++ []) G K Q) := wt_callS dX3_keepImage_131 rfl (as := [.ref 20, .int s1, .int s2]) (rest := []) rfl rfl (Nat.le_of_ble_eq_true rfl) (Nat.le_of_ble_eq_true rfl)
set_option maxHeartbeats 100000 in
theorem kX3_keepImage_134 {d : Nat} {F : am_FT} {L : am_LT} {Q : am_QT} {x1 : Int32} : wt am_S0 d mX3_keepImage 134 [some (.ref 18), some (.int x1)] [] F L Q = wt am_S0 d mX3_keepImage 113 [some (.ref 18), some (.int (x1 + 1))] [] F L Q := (wt_iinc dX3_keepImage_134 (v := 1) (lv1 := [some (.ref 18), some (.int (x1 + 1))]) rfl (Nat.le_of_ble_eq_true rfl) (by decide) rfl).trans (wt_goto dX3_keepImage_137 (t := 113) rfl)
set_option maxHeartbeats 100000 in
theorem kX3_keepImage_140 {d : Nat} {F : am_FT} {L : am_LT} {Q : am_QT} {l0 l1 : Option Value} : wt am_S0 d mX3_keepImage 140 [l0, l1] [] F L Q = Q none F L := wt_return dX3_keepImage_140 rfl
theorem dX3_layBack_0 : decode mX3_layBack.2.2.1 0 = .ok (.aload_n 0, 1) := by decide +kernel
theorem dX3_layBack_1 : decode mX3_layBack.2.2.1 1 = .ok (.getfield 71, 3) := by decide +kernel
theorem dX3_layBack_4 : decode mX3_layBack.2.2.1 4 = .ok (.ifCond .ne 5, 3) := by decide +kernel
theorem dX3_layBack_7 : decode mX3_layBack.2.2.1 7 = .ok (.iconst 0, 1) := by decide +kernel
theorem dX3_layBack_8 : decode mX3_layBack.2.2.1 8 = .ok (.ireturn, 1) := by decide +kernel
theorem dX3_layBack_9 : decode mX3_layBack.2.2.1 9 = .ok (.iconst 0, 1) := by decide +kernel
theorem dX3_layBack_10 : decode mX3_layBack.2.2.1 10 = .ok (.istore_n 1, 1) := by decide +kernel
theorem dX3_layBack_11 : decode mX3_layBack.2.2.1 11 = .ok (.iload_n 1, 1) := by decide +kernel
theorem dX3_layBack_12 : decode mX3_layBack.2.2.1 12 = .ok (.aload_n 0, 1) := by decide +kernel
theorem dX3_layBack_13 : decode mX3_layBack.2.2.1 13 = .ok (.getfield 27, 3) := by decide +kernel
theorem dX3_layBack_16 : decode mX3_layBack.2.2.1 16 = .ok (.getfield 39, 3) := by decide +kernel
theorem dX3_layBack_19 : decode mX3_layBack.2.2.1 19 = .ok (.if_icmp .ge 70, 3) := by decide +kernel
theorem dX3_layBack_22 : decode mX3_layBack.2.2.1 22 = .ok (.iload_n 1, 1) := by decide +kernel
theorem dX3_layBack_23 : decode mX3_layBack.2.2.1 23 = .ok (.aload_n 0, 1) := by decide +kernel
theorem dX3_layBack_24 : decode mX3_layBack.2.2.1 24 = .ok (.getfield 75, 3) := by decide +kernel
theorem dX3_layBack_27 : decode mX3_layBack.2.2.1 27 = .ok (.if_icmp .lt 7, 3) := by decide +kernel
theorem dX3_layBack_30 : decode mX3_layBack.2.2.1 30 = .ok (.iconst 1, 1) := by decide +kernel
theorem dX3_layBack_31 : decode mX3_layBack.2.2.1 31 = .ok (.goto 4, 3) := by decide +kernel
theorem dX3_layBack_34 : decode mX3_layBack.2.2.1 34 = .ok (.iconst 0, 1) := by decide +kernel
theorem dX3_layBack_35 : decode mX3_layBack.2.2.1 35 = .ok (.istore_n 2, 1) := by decide +kernel
theorem dX3_layBack_36 : decode mX3_layBack.2.2.1 36 = .ok (.aload_n 0, 1) := by decide +kernel
theorem dX3_layBack_37 : decode mX3_layBack.2.2.1 37 = .ok (.getfield 27, 3) := by decide +kernel
theorem dX3_layBack_40 : decode mX3_layBack.2.2.1 40 = .ok (.iload_n 1, 1) := by decide +kernel
theorem dX3_layBack_41 : decode mX3_layBack.2.2.1 41 = .ok (.bipush 7, 2) := by decide +kernel
theorem dX3_layBack_43 : decode mX3_layBack.2.2.1 43 = .ok (.iload_n 2, 1) := by decide +kernel
theorem dX3_layBack_44 : decode mX3_layBack.2.2.1 44 = .ok (.ifCond .eq 7, 3) := by decide +kernel
theorem dX3_layBack_47 : decode mX3_layBack.2.2.1 47 = .ok (.iconst 1, 1) := by decide +kernel
theorem dX3_layBack_48 : decode mX3_layBack.2.2.1 48 = .ok (.goto 11, 3) := by decide +kernel
theorem dX3_layBack_51 : decode mX3_layBack.2.2.1 51 = .ok (.aload_n 0, 1) := by decide +kernel
theorem dX3_layBack_52 : decode mX3_layBack.2.2.1 52 = .ok (.getfield 18, 3) := by decide +kernel
theorem dX3_layBack_55 : decode mX3_layBack.2.2.1 55 = .ok (.iload_n 1, 1) := by decide +kernel
theorem dX3_layBack_56 : decode mX3_layBack.2.2.1 56 = .ok (.invokestatic 31, 3) := by decide +kernel
theorem dX3_layBack_59 : decode mX3_layBack.2.2.1 59 = .ok (.invokevirtual 49, 3) := by decide +kernel
theorem dX3_layBack_62 : decode mX3_layBack.2.2.1 62 = .ok (.iload_n 2, 1) := by decide +kernel
theorem dX3_layBack_63 : decode mX3_layBack.2.2.1 63 = .ok (.ifCond .ne 20, 3) := by decide +kernel
theorem dX3_layBack_66 : decode mX3_layBack.2.2.1 66 = .ok (.aload_n 0, 1) := by decide +kernel
theorem dX3_layBack_67 : decode mX3_layBack.2.2.1 67 = .ok (.getfield 27, 3) := by decide +kernel
theorem dX3_layBack_70 : decode mX3_layBack.2.2.1 70 = .ok (.iload_n 1, 1) := by decide +kernel
theorem dX3_layBack_71 : decode mX3_layBack.2.2.1 71 = .ok (.iconst 1, 1) := by decide +kernel
theorem dX3_layBack_72 : decode mX3_layBack.2.2.1 72 = .ok (.aload_n 0, 1) := by decide +kernel
theorem dX3_layBack_73 : decode mX3_layBack.2.2.1 73 = .ok (.getfield 21, 3) := by decide +kernel
theorem dX3_layBack_76 : decode mX3_layBack.2.2.1 76 = .ok (.iload_n 1, 1) := by decide +kernel
theorem dX3_layBack_77 : decode mX3_layBack.2.2.1 77 = .ok (.invokestatic 31, 3) := by decide +kernel
theorem dX3_layBack_80 : decode mX3_layBack.2.2.1 80 = .ok (.invokevirtual 49, 3) := by decide +kernel
theorem dX3_layBack_83 : decode mX3_layBack.2.2.1 83 = .ok (.iinc 1 1, 3) := by decide +kernel
theorem dX3_layBack_86 : decode mX3_layBack.2.2.1 86 = .ok (.goto (-75), 3) := by decide +kernel
theorem dX3_layBack_89 : decode mX3_layBack.2.2.1 89 = .ok (.iconst 0, 1) := by decide +kernel
theorem dX3_layBack_90 : decode mX3_layBack.2.2.1 90 = .ok (.istore_n 1, 1) := by decide +kernel
theorem dX3_layBack_91 : decode mX3_layBack.2.2.1 91 = .ok (.iload_n 1, 1) := by decide +kernel
theorem dX3_layBack_92 : decode mX3_layBack.2.2.1 92 = .ok (.aload_n 0, 1) := by decide +kernel
theorem dX3_layBack_93 : decode mX3_layBack.2.2.1 93 = .ok (.getfield 81, 3) := by decide +kernel
theorem dX3_layBack_96 : decode mX3_layBack.2.2.1 96 = .ok (.if_icmp .ge 26, 3) := by decide +kernel
theorem dX3_layBack_99 : decode mX3_layBack.2.2.1 99 = .ok (.aload_n 0, 1) := by decide +kernel
theorem dX3_layBack_100 : decode mX3_layBack.2.2.1 100 = .ok (.getfield 27, 3) := by decide +kernel
theorem dX3_layBack_103 : decode mX3_layBack.2.2.1 103 = .ok (.iload_n 1, 1) := by decide +kernel
theorem dX3_layBack_104 : decode mX3_layBack.2.2.1 104 = .ok (.iconst 4, 1) := by decide +kernel
theorem dX3_layBack_105 : decode mX3_layBack.2.2.1 105 = .ok (.aload_n 0, 1) := by decide +kernel
theorem dX3_layBack_106 : decode mX3_layBack.2.2.1 106 = .ok (.getfield 24, 3) := by decide +kernel
theorem dX3_layBack_109 : decode mX3_layBack.2.2.1 109 = .ok (.iload_n 1, 1) := by decide +kernel
theorem dX3_layBack_110 : decode mX3_layBack.2.2.1 110 = .ok (.invokestatic 31, 3) := by decide +kernel
theorem dX3_layBack_113 : decode mX3_layBack.2.2.1 113 = .ok (.invokevirtual 49, 3) := by decide +kernel
theorem dX3_layBack_116 : decode mX3_layBack.2.2.1 116 = .ok (.iinc 1 1, 3) := by decide +kernel
theorem dX3_layBack_119 : decode mX3_layBack.2.2.1 119 = .ok (.goto (-28), 3) := by decide +kernel
theorem dX3_layBack_122 : decode mX3_layBack.2.2.1 122 = .ok (.iconst 0, 1) := by decide +kernel
theorem dX3_layBack_123 : decode mX3_layBack.2.2.1 123 = .ok (.istore_n 1, 1) := by decide +kernel
theorem dX3_layBack_124 : decode mX3_layBack.2.2.1 124 = .ok (.iload_n 1, 1) := by decide +kernel
theorem dX3_layBack_125 : decode mX3_layBack.2.2.1 125 = .ok (.iconst 5, 1) := by decide +kernel
theorem dX3_layBack_126 : decode mX3_layBack.2.2.1 126 = .ok (.if_icmp .ge 25, 3) := by decide +kernel
theorem dX3_layBack_129 : decode mX3_layBack.2.2.1 129 = .ok (.aload_n 0, 1) := by decide +kernel
theorem dX3_layBack_130 : decode mX3_layBack.2.2.1 130 = .ok (.getfield 9, 3) := by decide +kernel
theorem dX3_layBack_133 : decode mX3_layBack.2.2.1 133 = .ok (.iload_n 1, 1) := by decide +kernel
theorem dX3_layBack_134 : decode mX3_layBack.2.2.1 134 = .ok (.aload_n 0, 1) := by decide +kernel
theorem dX3_layBack_135 : decode mX3_layBack.2.2.1 135 = .ok (.getfield 15, 3) := by decide +kernel
theorem dX3_layBack_138 : decode mX3_layBack.2.2.1 138 = .ok (.iload_n 1, 1) := by decide +kernel
theorem dX3_layBack_139 : decode mX3_layBack.2.2.1 139 = .ok (.invokestatic 31, 3) := by decide +kernel
theorem dX3_layBack_142 : decode mX3_layBack.2.2.1 142 = .ok (.invokestatic 35, 3) := by decide +kernel
theorem dX3_layBack_145 : decode mX3_layBack.2.2.1 145 = .ok (.iinc 1 1, 3) := by decide +kernel
theorem dX3_layBack_148 : decode mX3_layBack.2.2.1 148 = .ok (.goto (-24), 3) := by decide +kernel
theorem dX3_layBack_151 : decode mX3_layBack.2.2.1 151 = .ok (.iconst 1, 1) := by decide +kernel
theorem dX3_layBack_152 : decode mX3_layBack.2.2.1 152 = .ok (.ireturn, 1) := by decide +kernel
set_option maxHeartbeats 100000 in
theorem kX3_layBack_0 {d : Nat} {F : am_FT} {L : am_LT} {Q : am_QT} {l1 l2 : Option Value} : wt am_S0 d mX3_layBack 0 [some (.ref 18), l1, l2] [] F L Q = if ¬ (F 18 8) = 0 then wt am_S0 d mX3_layBack 9 [some (.ref 18), l1, l2] [] F L Q else wt am_S0 d mX3_layBack 7 [some (.ref 18), l1, l2] [] F L Q := (wt_aload_n dX3_layBack_0 rfl rfl).trans ((wt_getfield dX3_layBack_1 rfl rfl (v := .int (F 18 8)) rfl).trans (wt_ifCond_ne dX3_layBack_4 (t := 9) rfl))
set_option maxHeartbeats 100000 in
theorem kX3_layBack_7 {d : Nat} {F : am_FT} {L : am_LT} {Q : am_QT} {l0 l1 l2 : Option Value} : wt am_S0 d mX3_layBack 7 [l0, l1, l2] [] F L Q = Q (some (.int 0)) F L := (wt_iconst dX3_layBack_7 (v := 0) (by decide)).trans (wt_ireturn dX3_layBack_8 rfl (by decide))
set_option maxHeartbeats 100000 in
theorem kX3_layBack_9 {d : Nat} {F : am_FT} {L : am_LT} {Q : am_QT} {l1 l2 : Option Value} : wt am_S0 d mX3_layBack 9 [some (.ref 18), l1, l2] [] F L Q = wt am_S0 d mX3_layBack 11 [some (.ref 18), some (.int 0), l2] [] F L Q := (wt_iconst dX3_layBack_9 (v := 0) (by decide)).trans (wt_istore_n dX3_layBack_10 (lv1 := [some (.ref 18), some (.int 0), l2]) (Nat.le_of_ble_eq_true rfl) rfl)
set_option maxHeartbeats 100000 in
theorem kX3_layBack_11 {d : Nat} {F : am_FT} {L : am_LT} {Q : am_QT} {l2 : Option Value} {x1 : Int32} : wt am_S0 d mX3_layBack 11 [some (.ref 18), some (.int x1), l2] [] F L Q = if (F 1 1) ≤ x1 then wt am_S0 d mX3_layBack 89 [some (.ref 18), some (.int x1), l2] [] F L Q else wt am_S0 d mX3_layBack 22 [some (.ref 18), some (.int x1), l2] [] F L Q := (wt_iload_n dX3_layBack_11 rfl).trans ((wt_aload_n dX3_layBack_12 rfl rfl).trans ((wt_getfield dX3_layBack_13 rfl rfl (v := .ref 1) rfl).trans ((wt_getfield dX3_layBack_16 rfl rfl (v := .int (F 1 1)) rfl).trans (wt_if_icmp_ge dX3_layBack_19 (t := 89) rfl))))
set_option maxHeartbeats 100000 in
theorem kX3_layBack_22 {d : Nat} {F : am_FT} {L : am_LT} {Q : am_QT} {l2 : Option Value} {x1 : Int32} : wt am_S0 d mX3_layBack 22 [some (.ref 18), some (.int x1), l2] [] F L Q = if x1 < (F 18 6) then wt am_S0 d mX3_layBack 34 [some (.ref 18), some (.int x1), l2] [] F L Q else wt am_S0 d mX3_layBack 30 [some (.ref 18), some (.int x1), l2] [] F L Q := (wt_iload_n dX3_layBack_22 rfl).trans ((wt_aload_n dX3_layBack_23 rfl rfl).trans ((wt_getfield dX3_layBack_24 rfl rfl (v := .int (F 18 6)) rfl).trans (wt_if_icmp_lt dX3_layBack_27 (t := 34) rfl)))
set_option maxHeartbeats 100000 in
theorem kX3_layBack_30 {d : Nat} {F : am_FT} {L : am_LT} {Q : am_QT} {l0 l1 l2 : Option Value} : wt am_S0 d mX3_layBack 30 [l0, l1, l2] [] F L Q = wt am_S0 d mX3_layBack 35 [l0, l1, l2] [.int 1] F L Q := (wt_iconst dX3_layBack_30 (v := 1) (by decide)).trans (wt_goto dX3_layBack_31 (t := 35) rfl)
set_option maxHeartbeats 100000 in
theorem kX3_layBack_34 {d : Nat} {F : am_FT} {L : am_LT} {Q : am_QT} {l0 l1 l2 : Option Value} : wt am_S0 d mX3_layBack 34 [l0, l1, l2] [] F L Q = wt am_S0 d mX3_layBack 35 [l0, l1, l2] [.int 0] F L Q := wt_iconst dX3_layBack_34 (v := 0) (by decide)
set_option maxHeartbeats 100000 in
theorem kX3_layBack_35 {d : Nat} {F : am_FT} {L : am_LT} {Q : am_QT} {l2 : Option Value} {s0 x1 : Int32} : wt am_S0 d mX3_layBack 35 [some (.ref 18), some (.int x1), l2] [.int s0] F L Q = if s0 = 0 then wt am_S0 d mX3_layBack 51 [some (.ref 18), some (.int x1), some (.int s0)] [.int 7, .int x1, .ref 1] F L Q else wt am_S0 d mX3_layBack 47 [some (.ref 18), some (.int x1), some (.int s0)] [.int 7, .int x1, .ref 1] F L Q := (wt_istore_n dX3_layBack_35 (lv1 := [some (.ref 18), some (.int x1), some (.int s0)]) (Nat.le_of_ble_eq_true rfl) rfl).trans ((wt_aload_n dX3_layBack_36 rfl rfl).trans ((wt_getfield dX3_layBack_37 rfl rfl (v := .ref 1) rfl).trans ((wt_iload_n dX3_layBack_40 rfl).trans ((wt_bipush dX3_layBack_41 (v := 7) (by decide)).trans ((wt_iload_n dX3_layBack_43 rfl).trans (wt_ifCond_eq dX3_layBack_44 (t := 51) rfl))))))
set_option maxHeartbeats 100000 in
theorem kX3_layBack_47 {d : Nat} {F : am_FT} {L : am_LT} {Q : am_QT} {l0 l1 l2 : Option Value} {s1 s2 : Int32} : wt am_S0 d mX3_layBack 47 [l0, l1, l2] [.int s2, .int s1, .ref 1] F L Q = wt am_S0 d mX3_layBack 59 [l0, l1, l2] [.int 1, .int s2, .int s1, .ref 1] F L Q := (wt_iconst dX3_layBack_47 (v := 1) (by decide)).trans (wt_goto dX3_layBack_48 (t := 59) rfl)
set_option maxHeartbeats 100000 in
theorem kX3_layBack_51 {d : Nat} {F : am_FT} {L : am_LT} {Q : am_QT} {l2 : Option Value} {s1 s2 x1 : Int32} : wt am_S0 (d + 1) mX3_layBack 51 [some (.ref 18), some (.int x1), l2] [.int s2, .int s1, .ref 1] F L Q = wc am_S0 d mX11_at [.ref 21, .int x1] F L (fun r G K => wt am_S0 (d + 1) mX3_layBack 59 [some (.ref 18), some (.int x1), l2] (r.toList ++ [.int s2, .int s1, .ref 1]) G K Q) := (wt_aload_n dX3_layBack_51 rfl rfl).trans ((wt_getfield dX3_layBack_52 rfl rfl (v := .ref 21) rfl).trans ((wt_iload_n dX3_layBack_55 rfl).trans (wt_callS dX3_layBack_56 rfl (as := [.ref 21, .int x1]) (rest := [.int s2, .int s1, .ref 1]) rfl rfl (Nat.le_of_ble_eq_true rfl) (Nat.le_of_ble_eq_true rfl))))
set_option maxHeartbeats 100000 in
theorem kX3_layBack_59 {d : Nat} {F : am_FT} {L : am_LT} {Q : am_QT} {l0 l1 l2 : Option Value} {s1 s2 s3 : Int32} : wt am_S0 (d + 1) mX3_layBack 59 [l0, l1, l2] [.int s3, .int s2, .int s1, .ref 1] F L Q = wc am_S0 d mX5_write [.ref 1, .int s1, .int s2, .int s3] F L (fun r G K => wt am_S0 (d + 1) mX3_layBack 62 [l0, l1, l2] (r.toList ++ []) G K Q) := wt_callV dX3_layBack_59 rfl (as := [.int s1, .int s2, .int s3]) (rest := []) rfl rfl (Nat.le_of_ble_eq_true rfl) rfl (Nat.le_of_ble_eq_true rfl)
set_option maxHeartbeats 100000 in
theorem kX3_layBack_62 {d : Nat} {F : am_FT} {L : am_LT} {Q : am_QT} {l0 l1 : Option Value} {x2 : Int32} : wt am_S0 d mX3_layBack 62 [l0, l1, some (.int x2)] [] F L Q = if ¬ x2 = 0 then wt am_S0 d mX3_layBack 83 [l0, l1, some (.int x2)] [] F L Q else wt am_S0 d mX3_layBack 66 [l0, l1, some (.int x2)] [] F L Q := (wt_iload_n dX3_layBack_62 rfl).trans (wt_ifCond_ne dX3_layBack_63 (t := 83) rfl)
set_option maxHeartbeats 100000 in
theorem kX3_layBack_66 {d : Nat} {F : am_FT} {L : am_LT} {Q : am_QT} {l2 : Option Value} {x1 : Int32} : wt am_S0 (d + 1) mX3_layBack 66 [some (.ref 18), some (.int x1), l2] [] F L Q = wc am_S0 d mX11_at [.ref 22, .int x1] F L (fun r G K => wt am_S0 (d + 1) mX3_layBack 80 [some (.ref 18), some (.int x1), l2] (r.toList ++ [.int 1, .int x1, .ref 1]) G K Q) := (wt_aload_n dX3_layBack_66 rfl rfl).trans ((wt_getfield dX3_layBack_67 rfl rfl (v := .ref 1) rfl).trans ((wt_iload_n dX3_layBack_70 rfl).trans ((wt_iconst dX3_layBack_71 (v := 1) (by decide)).trans ((wt_aload_n dX3_layBack_72 rfl rfl).trans ((wt_getfield dX3_layBack_73 rfl rfl (v := .ref 22) rfl).trans ((wt_iload_n dX3_layBack_76 rfl).trans (wt_callS dX3_layBack_77 rfl (as := [.ref 22, .int x1]) (rest := [.int 1, .int x1, .ref 1]) rfl rfl (Nat.le_of_ble_eq_true rfl) (Nat.le_of_ble_eq_true rfl))))))))
set_option maxHeartbeats 100000 in
theorem kX3_layBack_80 {d : Nat} {F : am_FT} {L : am_LT} {Q : am_QT} {l0 l1 l2 : Option Value} {s1 s2 s3 : Int32} : wt am_S0 (d + 1) mX3_layBack 80 [l0, l1, l2] [.int s3, .int s2, .int s1, .ref 1] F L Q = wc am_S0 d mX5_write [.ref 1, .int s1, .int s2, .int s3] F L (fun r G K => wt am_S0 (d + 1) mX3_layBack 83 [l0, l1, l2] (r.toList ++ []) G K Q) := wt_callV dX3_layBack_80 rfl (as := [.int s1, .int s2, .int s3]) (rest := []) rfl rfl (Nat.le_of_ble_eq_true rfl) rfl (Nat.le_of_ble_eq_true rfl)
set_option maxHeartbeats 100000 in
theorem kX3_layBack_83 {d : Nat} {F : am_FT} {L : am_LT} {Q : am_QT} {l2 : Option Value} {x1 : Int32} : wt am_S0 d mX3_layBack 83 [some (.ref 18), some (.int x1), l2] [] F L Q = wt am_S0 d mX3_layBack 11 [some (.ref 18), some (.int (x1 + 1)), l2] [] F L Q := (wt_iinc dX3_layBack_83 (v := 1) (lv1 := [some (.ref 18), some (.int (x1 + 1)), l2]) rfl (Nat.le_of_ble_eq_true rfl) (by decide) rfl).trans (wt_goto dX3_layBack_86 (t := 11) rfl)
set_option maxHeartbeats 100000 in
theorem kX3_layBack_89 {d : Nat} {F : am_FT} {L : am_LT} {Q : am_QT} {l1 l2 : Option Value} : wt am_S0 d mX3_layBack 89 [some (.ref 18), l1, l2] [] F L Q = wt am_S0 d mX3_layBack 91 [some (.ref 18), some (.int 0), l2] [] F L Q := (wt_iconst dX3_layBack_89 (v := 0) (by decide)).trans (wt_istore_n dX3_layBack_90 (lv1 := [some (.ref 18), some (.int 0), l2]) (Nat.le_of_ble_eq_true rfl) rfl)
set_option maxHeartbeats 100000 in
theorem kX3_layBack_91 {d : Nat} {F : am_FT} {L : am_LT} {Q : am_QT} {l2 : Option Value} {x1 : Int32} : wt am_S0 d mX3_layBack 91 [some (.ref 18), some (.int x1), l2] [] F L Q = if (F 18 7) ≤ x1 then wt am_S0 d mX3_layBack 122 [some (.ref 18), some (.int x1), l2] [] F L Q else wt am_S0 d mX3_layBack 99 [some (.ref 18), some (.int x1), l2] [] F L Q := (wt_iload_n dX3_layBack_91 rfl).trans ((wt_aload_n dX3_layBack_92 rfl rfl).trans ((wt_getfield dX3_layBack_93 rfl rfl (v := .int (F 18 7)) rfl).trans (wt_if_icmp_ge dX3_layBack_96 (t := 122) rfl)))
set_option maxHeartbeats 100000 in
theorem kX3_layBack_99 {d : Nat} {F : am_FT} {L : am_LT} {Q : am_QT} {l2 : Option Value} {x1 : Int32} : wt am_S0 (d + 1) mX3_layBack 99 [some (.ref 18), some (.int x1), l2] [] F L Q = wc am_S0 d mX11_at [.ref 23, .int x1] F L (fun r G K => wt am_S0 (d + 1) mX3_layBack 113 [some (.ref 18), some (.int x1), l2] (r.toList ++ [.int 4, .int x1, .ref 1]) G K Q) := (wt_aload_n dX3_layBack_99 rfl rfl).trans ((wt_getfield dX3_layBack_100 rfl rfl (v := .ref 1) rfl).trans ((wt_iload_n dX3_layBack_103 rfl).trans ((wt_iconst dX3_layBack_104 (v := 4) (by decide)).trans ((wt_aload_n dX3_layBack_105 rfl rfl).trans ((wt_getfield dX3_layBack_106 rfl rfl (v := .ref 23) rfl).trans ((wt_iload_n dX3_layBack_109 rfl).trans (wt_callS dX3_layBack_110 rfl (as := [.ref 23, .int x1]) (rest := [.int 4, .int x1, .ref 1]) rfl rfl (Nat.le_of_ble_eq_true rfl) (Nat.le_of_ble_eq_true rfl))))))))
set_option maxHeartbeats 100000 in
theorem kX3_layBack_113 {d : Nat} {F : am_FT} {L : am_LT} {Q : am_QT} {l0 l1 l2 : Option Value} {s1 s2 s3 : Int32} : wt am_S0 (d + 1) mX3_layBack 113 [l0, l1, l2] [.int s3, .int s2, .int s1, .ref 1] F L Q = wc am_S0 d mX5_write [.ref 1, .int s1, .int s2, .int s3] F L (fun r G K => wt am_S0 (d + 1) mX3_layBack 116 [l0, l1, l2] (r.toList ++ []) G K Q) := wt_callV dX3_layBack_113 rfl (as := [.int s1, .int s2, .int s3]) (rest := []) rfl rfl (Nat.le_of_ble_eq_true rfl) rfl (Nat.le_of_ble_eq_true rfl)
set_option maxHeartbeats 100000 in
theorem kX3_layBack_116 {d : Nat} {F : am_FT} {L : am_LT} {Q : am_QT} {l2 : Option Value} {x1 : Int32} : wt am_S0 d mX3_layBack 116 [some (.ref 18), some (.int x1), l2] [] F L Q = wt am_S0 d mX3_layBack 91 [some (.ref 18), some (.int (x1 + 1)), l2] [] F L Q := (wt_iinc dX3_layBack_116 (v := 1) (lv1 := [some (.ref 18), some (.int (x1 + 1)), l2]) rfl (Nat.le_of_ble_eq_true rfl) (by decide) rfl).trans (wt_goto dX3_layBack_119 (t := 91) rfl)
set_option maxHeartbeats 100000 in
theorem kX3_layBack_122 {d : Nat} {F : am_FT} {L : am_LT} {Q : am_QT} {l1 l2 : Option Value} : wt am_S0 d mX3_layBack 122 [some (.ref 18), l1, l2] [] F L Q = wt am_S0 d mX3_layBack 124 [some (.ref 18), some (.int 0), l2] [] F L Q := (wt_iconst dX3_layBack_122 (v := 0) (by decide)).trans (wt_istore_n dX3_layBack_123 (lv1 := [some (.ref 18), some (.int 0), l2]) (Nat.le_of_ble_eq_true rfl) rfl)
set_option maxHeartbeats 100000 in
theorem kX3_layBack_124 {d : Nat} {F : am_FT} {L : am_LT} {Q : am_QT} {l0 l2 : Option Value} {x1 : Int32} : wt am_S0 d mX3_layBack 124 [l0, some (.int x1), l2] [] F L Q = if 5 ≤ x1 then wt am_S0 d mX3_layBack 151 [l0, some (.int x1), l2] [] F L Q else wt am_S0 d mX3_layBack 129 [l0, some (.int x1), l2] [] F L Q := (wt_iload_n dX3_layBack_124 rfl).trans ((wt_iconst dX3_layBack_125 (v := 5) (by decide)).trans (wt_if_icmp_ge dX3_layBack_126 (t := 151) rfl))
set_option maxHeartbeats 100000 in
theorem kX3_layBack_129 {d : Nat} {F : am_FT} {L : am_LT} {Q : am_QT} {l2 : Option Value} {x1 : Int32} : wt am_S0 (d + 1) mX3_layBack 129 [some (.ref 18), some (.int x1), l2] [] F L Q = wc am_S0 d mX11_at [.ref 20, .int x1] F L (fun r G K => wt am_S0 (d + 1) mX3_layBack 142 [some (.ref 18), some (.int x1), l2] (r.toList ++ [.int x1, .ref 19]) G K Q) := (wt_aload_n dX3_layBack_129 rfl rfl).trans ((wt_getfield dX3_layBack_130 rfl rfl (v := .ref 19) rfl).trans ((wt_iload_n dX3_layBack_133 rfl).trans ((wt_aload_n dX3_layBack_134 rfl rfl).trans ((wt_getfield dX3_layBack_135 rfl rfl (v := .ref 20) rfl).trans ((wt_iload_n dX3_layBack_138 rfl).trans (wt_callS dX3_layBack_139 rfl (as := [.ref 20, .int x1]) (rest := [.int x1, .ref 19]) rfl rfl (Nat.le_of_ble_eq_true rfl) (Nat.le_of_ble_eq_true rfl)))))))
set_option maxHeartbeats 100000 in
theorem kX3_layBack_142 {d : Nat} {F : am_FT} {L : am_LT} {Q : am_QT} {l0 l1 l2 : Option Value} {s1 s2 : Int32} : wt am_S0 (d + 1) mX3_layBack 142 [l0, l1, l2] [.int s2, .int s1, .ref 19] F L Q = wc am_S0 d mX11_lay [.ref 19, .int s1, .int s2] F L (fun r G K => wt am_S0 (d + 1) mX3_layBack 145 [l0, l1, l2] (r.toList ++ []) G K Q) := wt_callS dX3_layBack_142 rfl (as := [.ref 19, .int s1, .int s2]) (rest := []) rfl rfl (Nat.le_of_ble_eq_true rfl) (Nat.le_of_ble_eq_true rfl)
set_option maxHeartbeats 100000 in
theorem kX3_layBack_145 {d : Nat} {F : am_FT} {L : am_LT} {Q : am_QT} {l2 : Option Value} {x1 : Int32} : wt am_S0 d mX3_layBack 145 [some (.ref 18), some (.int x1), l2] [] F L Q = wt am_S0 d mX3_layBack 124 [some (.ref 18), some (.int (x1 + 1)), l2] [] F L Q := (wt_iinc dX3_layBack_145 (v := 1) (lv1 := [some (.ref 18), some (.int (x1 + 1)), l2]) rfl (Nat.le_of_ble_eq_true rfl) (by decide) rfl).trans (wt_goto dX3_layBack_148 (t := 124) rfl)
set_option maxHeartbeats 100000 in
theorem kX3_layBack_151 {d : Nat} {F : am_FT} {L : am_LT} {Q : am_QT} {l0 l1 l2 : Option Value} : wt am_S0 d mX3_layBack 151 [l0, l1, l2] [] F L Q = Q (some (.int 1)) F L := (wt_iconst dX3_layBack_151 (v := 1) (by decide)).trans (wt_ireturn dX3_layBack_152 rfl (by decide))
