theorem dX9_sittersIn_0 : decode mX9_sittersIn.2.2.1 0 = .ok (.aload_n 0, 1) := by decide +kernel
theorem dX9_sittersIn_1 : decode mX9_sittersIn.2.2.1 1 = .ok (.getfield 15, 3) := by decide +kernel
theorem dX9_sittersIn_4 : decode mX9_sittersIn.2.2.1 4 = .ok (.iload_n 1, 1) := by decide +kernel
theorem dX9_sittersIn_5 : decode mX9_sittersIn.2.2.1 5 = .ok (.invokevirtual 23, 3) := by decide +kernel
theorem dX9_sittersIn_8 : decode mX9_sittersIn.2.2.1 8 = .ok (.ifCond .eq 24, 3) := by decide +kernel
theorem dX9_sittersIn_11 : decode mX9_sittersIn.2.2.1 11 = .ok (.aload_n 0, 1) := by decide +kernel
theorem dX9_sittersIn_12 : decode mX9_sittersIn.2.2.1 12 = .ok (.getfield 15, 3) := by decide +kernel
theorem dX9_sittersIn_15 : decode mX9_sittersIn.2.2.1 15 = .ok (.iload_n 1, 1) := by decide +kernel
theorem dX9_sittersIn_16 : decode mX9_sittersIn.2.2.1 16 = .ok (.iload_n 2, 1) := by decide +kernel
theorem dX9_sittersIn_17 : decode mX9_sittersIn.2.2.1 17 = .ok (.aload_n 0, 1) := by decide +kernel
theorem dX9_sittersIn_18 : decode mX9_sittersIn.2.2.1 18 = .ok (.getfield 15, 3) := by decide +kernel
theorem dX9_sittersIn_21 : decode mX9_sittersIn.2.2.1 21 = .ok (.iload_n 1, 1) := by decide +kernel
theorem dX9_sittersIn_22 : decode mX9_sittersIn.2.2.1 22 = .ok (.iconst 1, 1) := by decide +kernel
theorem dX9_sittersIn_23 : decode mX9_sittersIn.2.2.1 23 = .ok (.invokevirtual 29, 3) := by decide +kernel
theorem dX9_sittersIn_26 : decode mX9_sittersIn.2.2.1 26 = .ok (.invokevirtual 33, 3) := by decide +kernel
theorem dX9_sittersIn_29 : decode mX9_sittersIn.2.2.1 29 = .ok (.goto 4, 3) := by decide +kernel
theorem dX9_sittersIn_32 : decode mX9_sittersIn.2.2.1 32 = .ok (.iconst 0, 1) := by decide +kernel
theorem dX9_sittersIn_33 : decode mX9_sittersIn.2.2.1 33 = .ok (.ireturn, 1) := by decide +kernel
set_option maxHeartbeats 100000 in
theorem kX9_sittersIn_0 {d : Nat} {F : am_FT} {L : am_LT} {Q : am_QT} {l2 : Option Value} {x1 : Int32} : wt am_S0 (d + 1) mX9_sittersIn 0 [some (.ref 12), some (.int x1), l2] [] F L Q = wc am_S0 d mX5_stands [.ref 1, .int x1] F L (fun r G K => wt am_S0 (d + 1) mX9_sittersIn 8 [some (.ref 12), some (.int x1), l2] (r.toList ++ []) G K Q) := (wt_aload_n dX9_sittersIn_0 rfl rfl).trans ((wt_getfield dX9_sittersIn_1 rfl rfl (v := .ref 1) rfl).trans ((wt_iload_n dX9_sittersIn_4 rfl).trans (wt_callV dX9_sittersIn_5 rfl (as := [.int x1]) (rest := []) rfl rfl (Nat.le_of_ble_eq_true rfl) rfl (Nat.le_of_ble_eq_true rfl))))
set_option maxHeartbeats 100000 in
theorem kX9_sittersIn_8 {d : Nat} {F : am_FT} {L : am_LT} {Q : am_QT} {l0 l1 l2 : Option Value} {s0 : Int32} : wt am_S0 d mX9_sittersIn 8 [l0, l1, l2] [.int s0] F L Q = if s0 = 0 then wt am_S0 d mX9_sittersIn 32 [l0, l1, l2] [] F L Q else wt am_S0 d mX9_sittersIn 11 [l0, l1, l2] [] F L Q := wt_ifCond_eq dX9_sittersIn_8 (t := 32) rfl
set_option maxHeartbeats 100000 in
theorem kX9_sittersIn_11 {d : Nat} {F : am_FT} {L : am_LT} {Q : am_QT} {x1 x2 : Int32} : wt am_S0 (d + 1) mX9_sittersIn 11 [some (.ref 12), some (.int x1), some (.int x2)] [] F L Q = wc am_S0 d mX5_read [.ref 1, .int x1, .int 1] F L (fun r G K => wt am_S0 (d + 1) mX9_sittersIn 26 [some (.ref 12), some (.int x1), some (.int x2)] (r.toList ++ [.int x2, .int x1, .ref 1]) G K Q) := (wt_aload_n dX9_sittersIn_11 rfl rfl).trans ((wt_getfield dX9_sittersIn_12 rfl rfl (v := .ref 1) rfl).trans ((wt_iload_n dX9_sittersIn_15 rfl).trans ((wt_iload_n dX9_sittersIn_16 rfl).trans ((wt_aload_n dX9_sittersIn_17 rfl rfl).trans ((wt_getfield dX9_sittersIn_18 rfl rfl (v := .ref 1) rfl).trans ((wt_iload_n dX9_sittersIn_21 rfl).trans ((wt_iconst dX9_sittersIn_22 (v := 1) (by decide)).trans (wt_callV dX9_sittersIn_23 rfl (as := [.int x1, .int 1]) (rest := [.int x2, .int x1, .ref 1]) rfl rfl (Nat.le_of_ble_eq_true rfl) rfl (Nat.le_of_ble_eq_true rfl)))))))))
set_option maxHeartbeats 100000 in
theorem kX9_sittersIn_26 {d : Nat} {F : am_FT} {L : am_LT} {Q : am_QT} {l0 l1 l2 : Option Value} {s1 s2 s3 : Int32} : wt am_S0 (d + 1) mX9_sittersIn 26 [l0, l1, l2] [.int s3, .int s2, .int s1, .ref 1] F L Q = wc am_S0 d mX5_coveredBy [.ref 1, .int s1, .int s2, .int s3] F L (fun r G K => wt am_S0 (d + 1) mX9_sittersIn 29 [l0, l1, l2] (r.toList ++ []) G K Q) := wt_callV dX9_sittersIn_26 rfl (as := [.int s1, .int s2, .int s3]) (rest := []) rfl rfl (Nat.le_of_ble_eq_true rfl) rfl (Nat.le_of_ble_eq_true rfl)
set_option maxHeartbeats 100000 in
theorem kX9_sittersIn_29 {d : Nat} {F : am_FT} {L : am_LT} {Q : am_QT} {l0 l1 l2 : Option Value} {s0 : Int32} : wt am_S0 d mX9_sittersIn 29 [l0, l1, l2] [.int s0] F L Q = wt am_S0 d mX9_sittersIn 33 [l0, l1, l2] [.int s0] F L Q := wt_goto dX9_sittersIn_29 (t := 33) rfl
set_option maxHeartbeats 100000 in
theorem kX9_sittersIn_32 {d : Nat} {F : am_FT} {L : am_LT} {Q : am_QT} {l0 l1 l2 : Option Value} : wt am_S0 d mX9_sittersIn 32 [l0, l1, l2] [] F L Q = wt am_S0 d mX9_sittersIn 33 [l0, l1, l2] [.int 0] F L Q := wt_iconst dX9_sittersIn_32 (v := 0) (by decide)
set_option maxHeartbeats 100000 in
theorem kX9_sittersIn_33 {d : Nat} {F : am_FT} {L : am_LT} {Q : am_QT} {l0 l1 l2 : Option Value} {s0 : Int32} : wt am_S0 d mX9_sittersIn 33 [l0, l1, l2] [.int s0] F L Q = Q (some (.int s0)) F L := wt_ireturn dX9_sittersIn_33 rfl rfl
theorem dX9_neverFalling_0 : decode mX9_neverFalling.2.2.1 0 = .ok (.iconst 0, 1) := by decide +kernel
theorem dX9_neverFalling_1 : decode mX9_neverFalling.2.2.1 1 = .ok (.istore_n 1, 1) := by decide +kernel
theorem dX9_neverFalling_2 : decode mX9_neverFalling.2.2.1 2 = .ok (.iconst 0, 1) := by decide +kernel
theorem dX9_neverFalling_3 : decode mX9_neverFalling.2.2.1 3 = .ok (.istore_n 2, 1) := by decide +kernel
theorem dX9_neverFalling_4 : decode mX9_neverFalling.2.2.1 4 = .ok (.iload_n 2, 1) := by decide +kernel
theorem dX9_neverFalling_5 : decode mX9_neverFalling.2.2.1 5 = .ok (.aload_n 0, 1) := by decide +kernel
theorem dX9_neverFalling_6 : decode mX9_neverFalling.2.2.1 6 = .ok (.getfield 15, 3) := by decide +kernel
theorem dX9_neverFalling_9 : decode mX9_neverFalling.2.2.1 9 = .ok (.getfield 54, 3) := by decide +kernel
theorem dX9_neverFalling_12 : decode mX9_neverFalling.2.2.1 12 = .ok (.if_icmp .ge 26, 3) := by decide +kernel
theorem dX9_neverFalling_15 : decode mX9_neverFalling.2.2.1 15 = .ok (.aload_n 0, 1) := by decide +kernel
theorem dX9_neverFalling_16 : decode mX9_neverFalling.2.2.1 16 = .ok (.iload_n 2, 1) := by decide +kernel
theorem dX9_neverFalling_17 : decode mX9_neverFalling.2.2.1 17 = .ok (.iconst 0, 1) := by decide +kernel
theorem dX9_neverFalling_18 : decode mX9_neverFalling.2.2.1 18 = .ok (.invokevirtual 60, 3) := by decide +kernel
theorem dX9_neverFalling_21 : decode mX9_neverFalling.2.2.1 21 = .ok (.bipush (-2), 2) := by decide +kernel
theorem dX9_neverFalling_23 : decode mX9_neverFalling.2.2.1 23 = .ok (.if_icmp .ne 9, 3) := by decide +kernel
theorem dX9_neverFalling_26 : decode mX9_neverFalling.2.2.1 26 = .ok (.iload_n 1, 1) := by decide +kernel
theorem dX9_neverFalling_27 : decode mX9_neverFalling.2.2.1 27 = .ok (.iconst 1, 1) := by decide +kernel
theorem dX9_neverFalling_28 : decode mX9_neverFalling.2.2.1 28 = .ok (.iload_n 2, 1) := by decide +kernel
theorem dX9_neverFalling_29 : decode mX9_neverFalling.2.2.1 29 = .ok (.ishl, 1) := by decide +kernel
theorem dX9_neverFalling_30 : decode mX9_neverFalling.2.2.1 30 = .ok (.ior, 1) := by decide +kernel
theorem dX9_neverFalling_31 : decode mX9_neverFalling.2.2.1 31 = .ok (.istore_n 1, 1) := by decide +kernel
theorem dX9_neverFalling_32 : decode mX9_neverFalling.2.2.1 32 = .ok (.iinc 2 1, 3) := by decide +kernel
theorem dX9_neverFalling_35 : decode mX9_neverFalling.2.2.1 35 = .ok (.goto (-31), 3) := by decide +kernel
theorem dX9_neverFalling_38 : decode mX9_neverFalling.2.2.1 38 = .ok (.iload_n 1, 1) := by decide +kernel
theorem dX9_neverFalling_39 : decode mX9_neverFalling.2.2.1 39 = .ok (.ireturn, 1) := by decide +kernel
set_option maxHeartbeats 100000 in
theorem kX9_neverFalling_0 {d : Nat} {F : am_FT} {L : am_LT} {Q : am_QT} {l1 l2 : Option Value} : wt am_S0 d mX9_neverFalling 0 [some (.ref 12), l1, l2] [] F L Q = wt am_S0 d mX9_neverFalling 4 [some (.ref 12), some (.int 0), some (.int 0)] [] F L Q := (wt_iconst dX9_neverFalling_0 (v := 0) (by decide)).trans ((wt_istore_n dX9_neverFalling_1 (lv1 := [some (.ref 12), some (.int 0), l2]) (Nat.le_of_ble_eq_true rfl) rfl).trans ((wt_iconst dX9_neverFalling_2 (v := 0) (by decide)).trans (wt_istore_n dX9_neverFalling_3 (lv1 := [some (.ref 12), some (.int 0), some (.int 0)]) (Nat.le_of_ble_eq_true rfl) rfl)))
set_option maxHeartbeats 100000 in
theorem kX9_neverFalling_4 {d : Nat} {F : am_FT} {L : am_LT} {Q : am_QT} {l1 : Option Value} {x2 : Int32} : wt am_S0 d mX9_neverFalling 4 [some (.ref 12), l1, some (.int x2)] [] F L Q = if (F 1 1) ≤ x2 then wt am_S0 d mX9_neverFalling 38 [some (.ref 12), l1, some (.int x2)] [] F L Q else wt am_S0 d mX9_neverFalling 15 [some (.ref 12), l1, some (.int x2)] [] F L Q := (wt_iload_n dX9_neverFalling_4 rfl).trans ((wt_aload_n dX9_neverFalling_5 rfl rfl).trans ((wt_getfield dX9_neverFalling_6 rfl rfl (v := .ref 1) rfl).trans ((wt_getfield dX9_neverFalling_9 rfl rfl (v := .int (F 1 1)) rfl).trans (wt_if_icmp_ge dX9_neverFalling_12 (t := 38) rfl))))
set_option maxHeartbeats 100000 in
theorem kX9_neverFalling_15 {d : Nat} {F : am_FT} {L : am_LT} {Q : am_QT} {l1 : Option Value} {x2 : Int32} : wt am_S0 (d + 1) mX9_neverFalling 15 [some (.ref 12), l1, some (.int x2)] [] F L Q = wc am_S0 d mX9_firstFall [.ref 12, .int x2, .int 0] F L (fun r G K => wt am_S0 (d + 1) mX9_neverFalling 21 [some (.ref 12), l1, some (.int x2)] (r.toList ++ []) G K Q) := (wt_aload_n dX9_neverFalling_15 rfl rfl).trans ((wt_iload_n dX9_neverFalling_16 rfl).trans ((wt_iconst dX9_neverFalling_17 (v := 0) (by decide)).trans (wt_callV dX9_neverFalling_18 rfl (as := [.int x2, .int 0]) (rest := []) rfl rfl (Nat.le_of_ble_eq_true rfl) rfl (Nat.le_of_ble_eq_true rfl))))
set_option maxHeartbeats 100000 in
theorem kX9_neverFalling_21 {d : Nat} {F : am_FT} {L : am_LT} {Q : am_QT} {l0 l1 l2 : Option Value} {s0 : Int32} : wt am_S0 d mX9_neverFalling 21 [l0, l1, l2] [.int s0] F L Q = if ¬ s0 = (-2) then wt am_S0 d mX9_neverFalling 32 [l0, l1, l2] [] F L Q else wt am_S0 d mX9_neverFalling 26 [l0, l1, l2] [] F L Q := (wt_bipush dX9_neverFalling_21 (v := (-2)) (by decide)).trans (wt_if_icmp_ne dX9_neverFalling_23 (t := 32) rfl)
set_option maxHeartbeats 100000 in
theorem kX9_neverFalling_26 {d : Nat} {F : am_FT} {L : am_LT} {Q : am_QT} {x1 x2 : Int32} : wt am_S0 d mX9_neverFalling 26 [some (.ref 12), some (.int x1), some (.int x2)] [] F L Q = wt am_S0 d mX9_neverFalling 32 [some (.ref 12), some (.int (x1 ||| ((1 : Int32) <<< (x2 &&& 31)))), some (.int x2)] [] F L Q := (wt_iload_n dX9_neverFalling_26 rfl).trans ((wt_iconst dX9_neverFalling_27 (v := 1) (by decide)).trans ((wt_iload_n dX9_neverFalling_28 rfl).trans ((wt_ishl dX9_neverFalling_29).trans ((wt_ior dX9_neverFalling_30).trans (wt_istore_n dX9_neverFalling_31 (lv1 := [some (.ref 12), some (.int (x1 ||| ((1 : Int32) <<< (x2 &&& 31)))), some (.int x2)]) (Nat.le_of_ble_eq_true rfl) rfl)))))
set_option maxHeartbeats 100000 in
theorem kX9_neverFalling_32 {d : Nat} {F : am_FT} {L : am_LT} {Q : am_QT} {l0 : Option Value} {x2 x1 : Int32} : wt am_S0 d mX9_neverFalling 32 [l0, some (.int x1), some (.int x2)] [] F L Q = wt am_S0 d mX9_neverFalling 4 [l0, some (.int x1), some (.int (x2 + 1))] [] F L Q := (wt_iinc dX9_neverFalling_32 (v := 1) (lv1 := [l0, some (.int x1), some (.int (x2 + 1))]) rfl (Nat.le_of_ble_eq_true rfl) (by decide) rfl).trans (wt_goto dX9_neverFalling_35 (t := 4) rfl)
set_option maxHeartbeats 100000 in
theorem kX9_neverFalling_38 {d : Nat} {F : am_FT} {L : am_LT} {Q : am_QT} {l0 l2 : Option Value} {x1 : Int32} : wt am_S0 d mX9_neverFalling 38 [l0, some (.int x1), l2] [] F L Q = Q (some (.int x1)) F L := (wt_iload_n dX9_neverFalling_38 rfl).trans (wt_ireturn dX9_neverFalling_39 rfl rfl)
theorem dX9_firstFall_0 : decode mX9_firstFall.2.2.1 0 = .ok (.iconst 0, 1) := by decide +kernel
theorem dX9_firstFall_1 : decode mX9_firstFall.2.2.1 1 = .ok (.istore_n 3, 1) := by decide +kernel
theorem dX9_firstFall_2 : decode mX9_firstFall.2.2.1 2 = .ok (.iload_n 3, 1) := by decide +kernel
theorem dX9_firstFall_3 : decode mX9_firstFall.2.2.1 3 = .ok (.bipush 12, 2) := by decide +kernel
theorem dX9_firstFall_5 : decode mX9_firstFall.2.2.1 5 = .ok (.if_icmp .ge 30, 3) := by decide +kernel
theorem dX9_firstFall_8 : decode mX9_firstFall.2.2.1 8 = .ok (.iload_n 2, 1) := by decide +kernel
theorem dX9_firstFall_9 : decode mX9_firstFall.2.2.1 9 = .ok (.iload_n 3, 1) := by decide +kernel
theorem dX9_firstFall_10 : decode mX9_firstFall.2.2.1 10 = .ok (.iadd, 1) := by decide +kernel
theorem dX9_firstFall_11 : decode mX9_firstFall.2.2.1 11 = .ok (.bipush 12, 2) := by decide +kernel
theorem dX9_firstFall_13 : decode mX9_firstFall.2.2.1 13 = .ok (.irem, 1) := by decide +kernel
theorem dX9_firstFall_14 : decode mX9_firstFall.2.2.1 14 = .ok (.istore 4, 2) := by decide +kernel
theorem dX9_firstFall_16 : decode mX9_firstFall.2.2.1 16 = .ok (.aload_n 0, 1) := by decide +kernel
theorem dX9_firstFall_17 : decode mX9_firstFall.2.2.1 17 = .ok (.iload_n 1, 1) := by decide +kernel
theorem dX9_firstFall_18 : decode mX9_firstFall.2.2.1 18 = .ok (.iload 4, 2) := by decide +kernel
theorem dX9_firstFall_20 : decode mX9_firstFall.2.2.1 20 = .ok (.invokevirtual 57, 3) := by decide +kernel
theorem dX9_firstFall_23 : decode mX9_firstFall.2.2.1 23 = .ok (.ifCond .eq 6, 3) := by decide +kernel
theorem dX9_firstFall_26 : decode mX9_firstFall.2.2.1 26 = .ok (.iload 4, 2) := by decide +kernel
theorem dX9_firstFall_28 : decode mX9_firstFall.2.2.1 28 = .ok (.ireturn, 1) := by decide +kernel
theorem dX9_firstFall_29 : decode mX9_firstFall.2.2.1 29 = .ok (.iinc 3 1, 3) := by decide +kernel
theorem dX9_firstFall_32 : decode mX9_firstFall.2.2.1 32 = .ok (.goto (-30), 3) := by decide +kernel
theorem dX9_firstFall_35 : decode mX9_firstFall.2.2.1 35 = .ok (.bipush (-2), 2) := by decide +kernel
theorem dX9_firstFall_37 : decode mX9_firstFall.2.2.1 37 = .ok (.ireturn, 1) := by decide +kernel
set_option maxHeartbeats 100000 in
theorem kX9_firstFall_0 {d : Nat} {F : am_FT} {L : am_LT} {Q : am_QT} {l0 l1 l3 l4 : Option Value} {x2 : Int32} : wt am_S0 d mX9_firstFall 0 [l0, l1, some (.int x2), l3, l4] [] F L Q = wt am_S0 d mX9_firstFall 2 [l0, l1, some (.int x2), some (.int 0), l4] [] F L Q := (wt_iconst dX9_firstFall_0 (v := 0) (by decide)).trans (wt_istore_n dX9_firstFall_1 (lv1 := [l0, l1, some (.int x2), some (.int 0), l4]) (Nat.le_of_ble_eq_true rfl) rfl)
set_option maxHeartbeats 100000 in
theorem kX9_firstFall_2 {d : Nat} {F : am_FT} {L : am_LT} {Q : am_QT} {l0 l1 l2 l4 : Option Value} {x3 : Int32} : wt am_S0 d mX9_firstFall 2 [l0, l1, l2, some (.int x3), l4] [] F L Q = if 12 ≤ x3 then wt am_S0 d mX9_firstFall 35 [l0, l1, l2, some (.int x3), l4] [] F L Q else wt am_S0 d mX9_firstFall 8 [l0, l1, l2, some (.int x3), l4] [] F L Q := (wt_iload_n dX9_firstFall_2 rfl).trans ((wt_bipush dX9_firstFall_3 (v := 12) (by decide)).trans (wt_if_icmp_ge dX9_firstFall_5 (t := 35) rfl))
set_option maxHeartbeats 100000 in
theorem kX9_firstFall_8 {d : Nat} {F : am_FT} {L : am_LT} {Q : am_QT} {l4 : Option Value} {x2 x3 x1 : Int32} : wt am_S0 (d + 1) mX9_firstFall 8 [some (.ref 12), some (.int x1), some (.int x2), some (.int x3), l4] [] F L Q = wc am_S0 d mX9_fallsIn [.ref 12, .int x1, .int ((x2 + x3) - (x2 + x3) / 12 * 12)] F L (fun r G K => wt am_S0 (d + 1) mX9_firstFall 23 [some (.ref 12), some (.int x1), some (.int x2), some (.int x3), some (.int ((x2 + x3) - (x2 + x3) / 12 * 12))] (r.toList ++ []) G K Q) := (wt_iload_n dX9_firstFall_8 rfl).trans ((wt_iload_n dX9_firstFall_9 rfl).trans ((wt_iadd dX9_firstFall_10).trans ((wt_bipush dX9_firstFall_11 (v := 12) (by decide)).trans ((wt_irem dX9_firstFall_13 (by decide)).trans ((wt_istore dX9_firstFall_14 (lv1 := [some (.ref 12), some (.int x1), some (.int x2), some (.int x3), some (.int ((x2 + x3) - (x2 + x3) / 12 * 12))]) (Nat.le_of_ble_eq_true rfl) rfl).trans ((wt_aload_n dX9_firstFall_16 rfl rfl).trans ((wt_iload_n dX9_firstFall_17 rfl).trans ((wt_iload dX9_firstFall_18 rfl).trans (wt_callV dX9_firstFall_20 rfl (as := [.int x1, .int ((x2 + x3) - (x2 + x3) / 12 * 12)]) (rest := []) rfl rfl (Nat.le_of_ble_eq_true rfl) rfl (Nat.le_of_ble_eq_true rfl))))))))))
set_option maxHeartbeats 100000 in
theorem kX9_firstFall_23 {d : Nat} {F : am_FT} {L : am_LT} {Q : am_QT} {l0 l1 l2 l3 l4 : Option Value} {s0 : Int32} : wt am_S0 d mX9_firstFall 23 [l0, l1, l2, l3, l4] [.int s0] F L Q = if s0 = 0 then wt am_S0 d mX9_firstFall 29 [l0, l1, l2, l3, l4] [] F L Q else wt am_S0 d mX9_firstFall 26 [l0, l1, l2, l3, l4] [] F L Q := wt_ifCond_eq dX9_firstFall_23 (t := 29) rfl
set_option maxHeartbeats 100000 in
theorem kX9_firstFall_26 {d : Nat} {F : am_FT} {L : am_LT} {Q : am_QT} {l0 l1 l2 l3 : Option Value} {x4 : Int32} : wt am_S0 d mX9_firstFall 26 [l0, l1, l2, l3, some (.int x4)] [] F L Q = Q (some (.int x4)) F L := (wt_iload dX9_firstFall_26 rfl).trans (wt_ireturn dX9_firstFall_28 rfl rfl)
set_option maxHeartbeats 100000 in
theorem kX9_firstFall_29 {d : Nat} {F : am_FT} {L : am_LT} {Q : am_QT} {l0 l1 l4 : Option Value} {x3 x2 : Int32} : wt am_S0 d mX9_firstFall 29 [l0, l1, some (.int x2), some (.int x3), l4] [] F L Q = wt am_S0 d mX9_firstFall 2 [l0, l1, some (.int x2), some (.int (x3 + 1)), l4] [] F L Q := (wt_iinc dX9_firstFall_29 (v := 1) (lv1 := [l0, l1, some (.int x2), some (.int (x3 + 1)), l4]) rfl (Nat.le_of_ble_eq_true rfl) (by decide) rfl).trans (wt_goto dX9_firstFall_32 (t := 2) rfl)
set_option maxHeartbeats 100000 in
theorem kX9_firstFall_35 {d : Nat} {F : am_FT} {L : am_LT} {Q : am_QT} {l0 l1 l2 l3 l4 : Option Value} : wt am_S0 d mX9_firstFall 35 [l0, l1, l2, l3, l4] [] F L Q = Q (some (.int (-2))) F L := (wt_bipush dX9_firstFall_35 (v := (-2)) (by decide)).trans (wt_ireturn dX9_firstFall_37 rfl rfl)
theorem dX9_fallsIn_0 : decode mX9_fallsIn.2.2.1 0 = .ok (.aload_n 0, 1) := by decide +kernel
theorem dX9_fallsIn_1 : decode mX9_fallsIn.2.2.1 1 = .ok (.getfield 19, 3) := by decide +kernel
theorem dX9_fallsIn_4 : decode mX9_fallsIn.2.2.1 4 = .ok (.iload_n 1, 1) := by decide +kernel
theorem dX9_fallsIn_5 : decode mX9_fallsIn.2.2.1 5 = .ok (.iload_n 2, 1) := by decide +kernel
theorem dX9_fallsIn_6 : decode mX9_fallsIn.2.2.1 6 = .ok (.invokevirtual 37, 3) := by decide +kernel
theorem dX9_fallsIn_9 : decode mX9_fallsIn.2.2.1 9 = .ok (.aload_n 0, 1) := by decide +kernel
theorem dX9_fallsIn_10 : decode mX9_fallsIn.2.2.1 10 = .ok (.getfield 19, 3) := by decide +kernel
theorem dX9_fallsIn_13 : decode mX9_fallsIn.2.2.1 13 = .ok (.aload_n 0, 1) := by decide +kernel
theorem dX9_fallsIn_14 : decode mX9_fallsIn.2.2.1 14 = .ok (.getfield 19, 3) := by decide +kernel
theorem dX9_fallsIn_17 : decode mX9_fallsIn.2.2.1 17 = .ok (.getfield 43, 3) := by decide +kernel
theorem dX9_fallsIn_20 : decode mX9_fallsIn.2.2.1 20 = .ok (.aload_n 0, 1) := by decide +kernel
theorem dX9_fallsIn_21 : decode mX9_fallsIn.2.2.1 21 = .ok (.getfield 19, 3) := by decide +kernel
theorem dX9_fallsIn_24 : decode mX9_fallsIn.2.2.1 24 = .ok (.getfield 47, 3) := by decide +kernel
theorem dX9_fallsIn_27 : decode mX9_fallsIn.2.2.1 27 = .ok (.invokevirtual 50, 3) := by decide +kernel
theorem dX9_fallsIn_30 : decode mX9_fallsIn.2.2.1 30 = .ok (.ireturn, 1) := by decide +kernel
set_option maxHeartbeats 100000 in
theorem kX9_fallsIn_0 {d : Nat} {F : am_FT} {L : am_LT} {Q : am_QT} {x1 x2 : Int32} : wt am_S0 (d + 1) mX9_fallsIn 0 [some (.ref 12), some (.int x1), some (.int x2)] [] F L Q = wc am_S0 d mX0_open [.ref 9, .int x1, .int x2] F L (fun r G K => wt am_S0 (d + 1) mX9_fallsIn 9 [some (.ref 12), some (.int x1), some (.int x2)] (r.toList ++ []) G K Q) := (wt_aload_n dX9_fallsIn_0 rfl rfl).trans ((wt_getfield dX9_fallsIn_1 rfl rfl (v := .ref 9) rfl).trans ((wt_iload_n dX9_fallsIn_4 rfl).trans ((wt_iload_n dX9_fallsIn_5 rfl).trans (wt_callV dX9_fallsIn_6 rfl (as := [.int x1, .int x2]) (rest := []) rfl rfl (Nat.le_of_ble_eq_true rfl) rfl (Nat.le_of_ble_eq_true rfl)))))
set_option maxHeartbeats 100000 in
theorem kX9_fallsIn_9 {d : Nat} {F : am_FT} {L : am_LT} {Q : am_QT} {l1 l2 : Option Value} : wt am_S0 (d + 1) mX9_fallsIn 9 [some (.ref 12), l1, l2] [] F L Q = wc am_S0 d mX0_passes [.ref 9, .int (F 9 5), .int (F 9 6)] F L (fun r G K => wt am_S0 (d + 1) mX9_fallsIn 30 [some (.ref 12), l1, l2] (r.toList ++ []) G K Q) := (wt_aload_n dX9_fallsIn_9 rfl rfl).trans ((wt_getfield dX9_fallsIn_10 rfl rfl (v := .ref 9) rfl).trans ((wt_aload_n dX9_fallsIn_13 rfl rfl).trans ((wt_getfield dX9_fallsIn_14 rfl rfl (v := .ref 9) rfl).trans ((wt_getfield dX9_fallsIn_17 rfl rfl (v := .int (F 9 5)) rfl).trans ((wt_aload_n dX9_fallsIn_20 rfl rfl).trans ((wt_getfield dX9_fallsIn_21 rfl rfl (v := .ref 9) rfl).trans ((wt_getfield dX9_fallsIn_24 rfl rfl (v := .int (F 9 6)) rfl).trans (wt_callV dX9_fallsIn_27 rfl (as := [.int (F 9 5), .int (F 9 6)]) (rest := []) rfl rfl (Nat.le_of_ble_eq_true rfl) rfl (Nat.le_of_ble_eq_true rfl)))))))))
set_option maxHeartbeats 100000 in
theorem kX9_fallsIn_30 {d : Nat} {F : am_FT} {L : am_LT} {Q : am_QT} {l0 l1 l2 : Option Value} {s0 : Int32} (h1 : narrow .boolean (.int s0) = .int s0) : wt am_S0 d mX9_fallsIn 30 [l0, l1, l2] [.int s0] F L Q = Q (some (.int s0)) F L := wt_ireturn dX9_fallsIn_30 rfl h1
theorem dX9_falling_0 : decode mX9_falling.2.2.1 0 = .ok (.iconst 0, 1) := by decide +kernel
theorem dX9_falling_1 : decode mX9_falling.2.2.1 1 = .ok (.istore_n 2, 1) := by decide +kernel
theorem dX9_falling_2 : decode mX9_falling.2.2.1 2 = .ok (.iconst 0, 1) := by decide +kernel
theorem dX9_falling_3 : decode mX9_falling.2.2.1 3 = .ok (.istore_n 3, 1) := by decide +kernel
theorem dX9_falling_4 : decode mX9_falling.2.2.1 4 = .ok (.iload_n 3, 1) := by decide +kernel
theorem dX9_falling_5 : decode mX9_falling.2.2.1 5 = .ok (.aload_n 0, 1) := by decide +kernel
theorem dX9_falling_6 : decode mX9_falling.2.2.1 6 = .ok (.getfield 15, 3) := by decide +kernel
theorem dX9_falling_9 : decode mX9_falling.2.2.1 9 = .ok (.getfield 54, 3) := by decide +kernel
theorem dX9_falling_12 : decode mX9_falling.2.2.1 12 = .ok (.if_icmp .ge 24, 3) := by decide +kernel
theorem dX9_falling_15 : decode mX9_falling.2.2.1 15 = .ok (.aload_n 0, 1) := by decide +kernel
theorem dX9_falling_16 : decode mX9_falling.2.2.1 16 = .ok (.iload_n 3, 1) := by decide +kernel
theorem dX9_falling_17 : decode mX9_falling.2.2.1 17 = .ok (.iload_n 1, 1) := by decide +kernel
theorem dX9_falling_18 : decode mX9_falling.2.2.1 18 = .ok (.invokevirtual 57, 3) := by decide +kernel
theorem dX9_falling_21 : decode mX9_falling.2.2.1 21 = .ok (.ifCond .eq 9, 3) := by decide +kernel
theorem dX9_falling_24 : decode mX9_falling.2.2.1 24 = .ok (.iload_n 2, 1) := by decide +kernel
theorem dX9_falling_25 : decode mX9_falling.2.2.1 25 = .ok (.iconst 1, 1) := by decide +kernel
theorem dX9_falling_26 : decode mX9_falling.2.2.1 26 = .ok (.iload_n 3, 1) := by decide +kernel
theorem dX9_falling_27 : decode mX9_falling.2.2.1 27 = .ok (.ishl, 1) := by decide +kernel
theorem dX9_falling_28 : decode mX9_falling.2.2.1 28 = .ok (.ior, 1) := by decide +kernel
theorem dX9_falling_29 : decode mX9_falling.2.2.1 29 = .ok (.istore_n 2, 1) := by decide +kernel
theorem dX9_falling_30 : decode mX9_falling.2.2.1 30 = .ok (.iinc 3 1, 3) := by decide +kernel
theorem dX9_falling_33 : decode mX9_falling.2.2.1 33 = .ok (.goto (-29), 3) := by decide +kernel
theorem dX9_falling_36 : decode mX9_falling.2.2.1 36 = .ok (.iload_n 2, 1) := by decide +kernel
theorem dX9_falling_37 : decode mX9_falling.2.2.1 37 = .ok (.ireturn, 1) := by decide +kernel
set_option maxHeartbeats 100000 in
theorem kX9_falling_0 {d : Nat} {F : am_FT} {L : am_LT} {Q : am_QT} {l0 l2 l3 : Option Value} {x1 : Int32} : wt am_S0 d mX9_falling 0 [l0, some (.int x1), l2, l3] [] F L Q = wt am_S0 d mX9_falling 4 [l0, some (.int x1), some (.int 0), some (.int 0)] [] F L Q := (wt_iconst dX9_falling_0 (v := 0) (by decide)).trans ((wt_istore_n dX9_falling_1 (lv1 := [l0, some (.int x1), some (.int 0), l3]) (Nat.le_of_ble_eq_true rfl) rfl).trans ((wt_iconst dX9_falling_2 (v := 0) (by decide)).trans (wt_istore_n dX9_falling_3 (lv1 := [l0, some (.int x1), some (.int 0), some (.int 0)]) (Nat.le_of_ble_eq_true rfl) rfl)))
set_option maxHeartbeats 100000 in
theorem kX9_falling_4 {d : Nat} {F : am_FT} {L : am_LT} {Q : am_QT} {l1 l2 : Option Value} {x3 : Int32} : wt am_S0 d mX9_falling 4 [some (.ref 12), l1, l2, some (.int x3)] [] F L Q = if (F 1 1) ≤ x3 then wt am_S0 d mX9_falling 36 [some (.ref 12), l1, l2, some (.int x3)] [] F L Q else wt am_S0 d mX9_falling 15 [some (.ref 12), l1, l2, some (.int x3)] [] F L Q := (wt_iload_n dX9_falling_4 rfl).trans ((wt_aload_n dX9_falling_5 rfl rfl).trans ((wt_getfield dX9_falling_6 rfl rfl (v := .ref 1) rfl).trans ((wt_getfield dX9_falling_9 rfl rfl (v := .int (F 1 1)) rfl).trans (wt_if_icmp_ge dX9_falling_12 (t := 36) rfl))))
set_option maxHeartbeats 100000 in
theorem kX9_falling_15 {d : Nat} {F : am_FT} {L : am_LT} {Q : am_QT} {l2 : Option Value} {x3 x1 : Int32} : wt am_S0 (d + 1) mX9_falling 15 [some (.ref 12), some (.int x1), l2, some (.int x3)] [] F L Q = wc am_S0 d mX9_fallsIn [.ref 12, .int x3, .int x1] F L (fun r G K => wt am_S0 (d + 1) mX9_falling 21 [some (.ref 12), some (.int x1), l2, some (.int x3)] (r.toList ++ []) G K Q) := (wt_aload_n dX9_falling_15 rfl rfl).trans ((wt_iload_n dX9_falling_16 rfl).trans ((wt_iload_n dX9_falling_17 rfl).trans (wt_callV dX9_falling_18 rfl (as := [.int x3, .int x1]) (rest := []) rfl rfl (Nat.le_of_ble_eq_true rfl) rfl (Nat.le_of_ble_eq_true rfl))))
set_option maxHeartbeats 100000 in
theorem kX9_falling_21 {d : Nat} {F : am_FT} {L : am_LT} {Q : am_QT} {l0 l1 l2 l3 : Option Value} {s0 : Int32} : wt am_S0 d mX9_falling 21 [l0, l1, l2, l3] [.int s0] F L Q = if s0 = 0 then wt am_S0 d mX9_falling 30 [l0, l1, l2, l3] [] F L Q else wt am_S0 d mX9_falling 24 [l0, l1, l2, l3] [] F L Q := wt_ifCond_eq dX9_falling_21 (t := 30) rfl
set_option maxHeartbeats 100000 in
theorem kX9_falling_24 {d : Nat} {F : am_FT} {L : am_LT} {Q : am_QT} {l0 : Option Value} {x2 x3 x1 : Int32} : wt am_S0 d mX9_falling 24 [l0, some (.int x1), some (.int x2), some (.int x3)] [] F L Q = wt am_S0 d mX9_falling 30 [l0, some (.int x1), some (.int (x2 ||| ((1 : Int32) <<< (x3 &&& 31)))), some (.int x3)] [] F L Q := (wt_iload_n dX9_falling_24 rfl).trans ((wt_iconst dX9_falling_25 (v := 1) (by decide)).trans ((wt_iload_n dX9_falling_26 rfl).trans ((wt_ishl dX9_falling_27).trans ((wt_ior dX9_falling_28).trans (wt_istore_n dX9_falling_29 (lv1 := [l0, some (.int x1), some (.int (x2 ||| ((1 : Int32) <<< (x3 &&& 31)))), some (.int x3)]) (Nat.le_of_ble_eq_true rfl) rfl)))))
set_option maxHeartbeats 100000 in
theorem kX9_falling_30 {d : Nat} {F : am_FT} {L : am_LT} {Q : am_QT} {l0 l1 : Option Value} {x3 x2 : Int32} : wt am_S0 d mX9_falling 30 [l0, l1, some (.int x2), some (.int x3)] [] F L Q = wt am_S0 d mX9_falling 4 [l0, l1, some (.int x2), some (.int (x3 + 1))] [] F L Q := (wt_iinc dX9_falling_30 (v := 1) (lv1 := [l0, l1, some (.int x2), some (.int (x3 + 1))]) rfl (Nat.le_of_ble_eq_true rfl) (by decide) rfl).trans (wt_goto dX9_falling_33 (t := 4) rfl)
set_option maxHeartbeats 100000 in
theorem kX9_falling_36 {d : Nat} {F : am_FT} {L : am_LT} {Q : am_QT} {l0 l1 l3 : Option Value} {x2 : Int32} : wt am_S0 d mX9_falling 36 [l0, l1, some (.int x2), l3] [] F L Q = Q (some (.int x2)) F L := (wt_iload_n dX9_falling_36 rfl).trans (wt_ireturn dX9_falling_37 rfl rfl)
theorem dX9_leftBehind_0 : decode mX9_leftBehind.2.2.1 0 = .ok (.aload_n 0, 1) := by decide +kernel
theorem dX9_leftBehind_1 : decode mX9_leftBehind.2.2.1 1 = .ok (.invokevirtual 63, 3) := by decide +kernel
theorem dX9_leftBehind_4 : decode mX9_leftBehind.2.2.1 4 = .ok (.istore_n 3, 1) := by decide +kernel
theorem dX9_leftBehind_5 : decode mX9_leftBehind.2.2.1 5 = .ok (.iload_n 2, 1) := by decide +kernel
theorem dX9_leftBehind_6 : decode mX9_leftBehind.2.2.1 6 = .ok (.bipush 12, 2) := by decide +kernel
theorem dX9_leftBehind_8 : decode mX9_leftBehind.2.2.1 8 = .ok (.invokestatic 67, 3) := by decide +kernel
theorem dX9_leftBehind_11 : decode mX9_leftBehind.2.2.1 11 = .ok (.istore 4, 2) := by decide +kernel
theorem dX9_leftBehind_13 : decode mX9_leftBehind.2.2.1 13 = .ok (.iconst 0, 1) := by decide +kernel
theorem dX9_leftBehind_14 : decode mX9_leftBehind.2.2.1 14 = .ok (.istore 5, 2) := by decide +kernel
theorem dX9_leftBehind_16 : decode mX9_leftBehind.2.2.1 16 = .ok (.iload 5, 2) := by decide +kernel
theorem dX9_leftBehind_18 : decode mX9_leftBehind.2.2.1 18 = .ok (.iload 4, 2) := by decide +kernel
theorem dX9_leftBehind_20 : decode mX9_leftBehind.2.2.1 20 = .ok (.if_icmp .ge 25, 3) := by decide +kernel
theorem dX9_leftBehind_23 : decode mX9_leftBehind.2.2.1 23 = .ok (.iload_n 3, 1) := by decide +kernel
theorem dX9_leftBehind_24 : decode mX9_leftBehind.2.2.1 24 = .ok (.aload_n 0, 1) := by decide +kernel
theorem dX9_leftBehind_25 : decode mX9_leftBehind.2.2.1 25 = .ok (.iload_n 1, 1) := by decide +kernel
theorem dX9_leftBehind_26 : decode mX9_leftBehind.2.2.1 26 = .ok (.iload 5, 2) := by decide +kernel
theorem dX9_leftBehind_28 : decode mX9_leftBehind.2.2.1 28 = .ok (.iadd, 1) := by decide +kernel
theorem dX9_leftBehind_29 : decode mX9_leftBehind.2.2.1 29 = .ok (.bipush 12, 2) := by decide +kernel
theorem dX9_leftBehind_31 : decode mX9_leftBehind.2.2.1 31 = .ok (.irem, 1) := by decide +kernel
theorem dX9_leftBehind_32 : decode mX9_leftBehind.2.2.1 32 = .ok (.invokevirtual 72, 3) := by decide +kernel
theorem dX9_leftBehind_35 : decode mX9_leftBehind.2.2.1 35 = .ok (.iconst (-1), 1) := by decide +kernel
theorem dX9_leftBehind_36 : decode mX9_leftBehind.2.2.1 36 = .ok (.ixor, 1) := by decide +kernel
theorem dX9_leftBehind_37 : decode mX9_leftBehind.2.2.1 37 = .ok (.iand, 1) := by decide +kernel
theorem dX9_leftBehind_38 : decode mX9_leftBehind.2.2.1 38 = .ok (.istore_n 3, 1) := by decide +kernel
theorem dX9_leftBehind_39 : decode mX9_leftBehind.2.2.1 39 = .ok (.iinc 5 1, 3) := by decide +kernel
theorem dX9_leftBehind_42 : decode mX9_leftBehind.2.2.1 42 = .ok (.goto (-26), 3) := by decide +kernel
theorem dX9_leftBehind_45 : decode mX9_leftBehind.2.2.1 45 = .ok (.iload_n 3, 1) := by decide +kernel
theorem dX9_leftBehind_46 : decode mX9_leftBehind.2.2.1 46 = .ok (.ireturn, 1) := by decide +kernel
set_option maxHeartbeats 100000 in
theorem kX9_leftBehind_0 {d : Nat} {F : am_FT} {L : am_LT} {Q : am_QT} {l1 l2 l3 l4 l5 : Option Value} : wt am_S0 (d + 1) mX9_leftBehind 0 [some (.ref 12), l1, l2, l3, l4, l5] [] F L Q = wc am_S0 d mX9_standing [.ref 12] F L (fun r G K => wt am_S0 (d + 1) mX9_leftBehind 4 [some (.ref 12), l1, l2, l3, l4, l5] (r.toList ++ []) G K Q) := (wt_aload_n dX9_leftBehind_0 rfl rfl).trans (wt_callV dX9_leftBehind_1 rfl (as := []) (rest := []) rfl rfl (Nat.le_of_ble_eq_true rfl) rfl (Nat.le_of_ble_eq_true rfl))
set_option maxHeartbeats 100000 in
theorem kX9_leftBehind_4 {d : Nat} {F : am_FT} {L : am_LT} {Q : am_QT} {l0 l1 l3 l4 l5 : Option Value} {s0 x2 : Int32} : wt am_S0 (d + 1) mX9_leftBehind 4 [l0, l1, some (.int x2), l3, l4, l5] [.int s0] F L Q = wt am_S0 (d + 1) mX9_leftBehind 16 [l0, l1, some (.int x2), some (.int s0), some (.int (if 12 < x2 then 12 else x2)), some (.int 0)] [] F L Q := (wt_istore_n dX9_leftBehind_4 (lv1 := [l0, l1, some (.int x2), some (.int s0), l4, l5]) (Nat.le_of_ble_eq_true rfl) rfl).trans ((wt_iload_n dX9_leftBehind_5 rfl).trans ((wt_bipush dX9_leftBehind_6 (v := 12) (by decide)).trans ((wt_min dX9_leftBehind_8 rfl (Nat.le_of_ble_eq_true rfl)).trans ((wt_istore dX9_leftBehind_11 (lv1 := [l0, l1, some (.int x2), some (.int s0), some (.int (if 12 < x2 then 12 else x2)), l5]) (Nat.le_of_ble_eq_true rfl) rfl).trans ((wt_iconst dX9_leftBehind_13 (v := 0) (by decide)).trans (wt_istore dX9_leftBehind_14 (lv1 := [l0, l1, some (.int x2), some (.int s0), some (.int (if 12 < x2 then 12 else x2)), some (.int 0)]) (Nat.le_of_ble_eq_true rfl) rfl))))))
set_option maxHeartbeats 100000 in
theorem kX9_leftBehind_16 {d : Nat} {F : am_FT} {L : am_LT} {Q : am_QT} {l0 l1 l2 l3 : Option Value} {x5 x4 : Int32} : wt am_S0 d mX9_leftBehind 16 [l0, l1, l2, l3, some (.int x4), some (.int x5)] [] F L Q = if x4 ≤ x5 then wt am_S0 d mX9_leftBehind 45 [l0, l1, l2, l3, some (.int x4), some (.int x5)] [] F L Q else wt am_S0 d mX9_leftBehind 23 [l0, l1, l2, l3, some (.int x4), some (.int x5)] [] F L Q := (wt_iload dX9_leftBehind_16 rfl).trans ((wt_iload dX9_leftBehind_18 rfl).trans (wt_if_icmp_ge dX9_leftBehind_20 (t := 45) rfl))
set_option maxHeartbeats 100000 in
theorem kX9_leftBehind_23 {d : Nat} {F : am_FT} {L : am_LT} {Q : am_QT} {l2 l4 : Option Value} {x3 x1 x5 : Int32} : wt am_S0 (d + 1) mX9_leftBehind 23 [some (.ref 12), some (.int x1), l2, some (.int x3), l4, some (.int x5)] [] F L Q = wc am_S0 d mX9_falling [.ref 12, .int ((x1 + x5) - (x1 + x5) / 12 * 12)] F L (fun r G K => wt am_S0 (d + 1) mX9_leftBehind 35 [some (.ref 12), some (.int x1), l2, some (.int x3), l4, some (.int x5)] (r.toList ++ [.int x3]) G K Q) := (wt_iload_n dX9_leftBehind_23 rfl).trans ((wt_aload_n dX9_leftBehind_24 rfl rfl).trans ((wt_iload_n dX9_leftBehind_25 rfl).trans ((wt_iload dX9_leftBehind_26 rfl).trans ((wt_iadd dX9_leftBehind_28).trans ((wt_bipush dX9_leftBehind_29 (v := 12) (by decide)).trans ((wt_irem dX9_leftBehind_31 (by decide)).trans (wt_callV dX9_leftBehind_32 rfl (as := [.int ((x1 + x5) - (x1 + x5) / 12 * 12)]) (rest := [.int x3]) rfl rfl (Nat.le_of_ble_eq_true rfl) rfl (Nat.le_of_ble_eq_true rfl))))))))
set_option maxHeartbeats 100000 in
theorem kX9_leftBehind_35 {d : Nat} {F : am_FT} {L : am_LT} {Q : am_QT} {l0 l1 l3 : Option Value} {s0 s1 x2 x5 x4 : Int32} : wt am_S0 d mX9_leftBehind 35 [l0, l1, some (.int x2), l3, some (.int x4), some (.int x5)] [.int s1, .int s0] F L Q = wt am_S0 d mX9_leftBehind 16 [l0, l1, some (.int x2), some (.int (s0 &&& (s1 ^^^ (-1)))), some (.int x4), some (.int (x5 + 1))] [] F L Q := (wt_iconst dX9_leftBehind_35 (v := (-1)) (by decide)).trans ((wt_ixor dX9_leftBehind_36).trans ((wt_iand dX9_leftBehind_37).trans ((wt_istore_n dX9_leftBehind_38 (lv1 := [l0, l1, some (.int x2), some (.int (s0 &&& (s1 ^^^ (-1)))), some (.int x4), some (.int x5)]) (Nat.le_of_ble_eq_true rfl) rfl).trans ((wt_iinc dX9_leftBehind_39 (v := 1) (lv1 := [l0, l1, some (.int x2), some (.int (s0 &&& (s1 ^^^ (-1)))), some (.int x4), some (.int (x5 + 1))]) rfl (Nat.le_of_ble_eq_true rfl) (by decide) rfl).trans (wt_goto dX9_leftBehind_42 (t := 16) rfl)))))
set_option maxHeartbeats 100000 in
theorem kX9_leftBehind_45 {d : Nat} {F : am_FT} {L : am_LT} {Q : am_QT} {l0 l1 l2 l4 l5 : Option Value} {x3 : Int32} : wt am_S0 d mX9_leftBehind 45 [l0, l1, l2, some (.int x3), l4, l5] [] F L Q = Q (some (.int x3)) F L := (wt_iload_n dX9_leftBehind_45 rfl).trans (wt_ireturn dX9_leftBehind_46 rfl rfl)
theorem dX9_standing_0 : decode mX9_standing.2.2.1 0 = .ok (.iconst 0, 1) := by decide +kernel
theorem dX9_standing_1 : decode mX9_standing.2.2.1 1 = .ok (.istore_n 1, 1) := by decide +kernel
theorem dX9_standing_2 : decode mX9_standing.2.2.1 2 = .ok (.iconst 0, 1) := by decide +kernel
theorem dX9_standing_3 : decode mX9_standing.2.2.1 3 = .ok (.istore_n 2, 1) := by decide +kernel
theorem dX9_standing_4 : decode mX9_standing.2.2.1 4 = .ok (.iload_n 2, 1) := by decide +kernel
theorem dX9_standing_5 : decode mX9_standing.2.2.1 5 = .ok (.aload_n 0, 1) := by decide +kernel
theorem dX9_standing_6 : decode mX9_standing.2.2.1 6 = .ok (.getfield 15, 3) := by decide +kernel
theorem dX9_standing_9 : decode mX9_standing.2.2.1 9 = .ok (.getfield 54, 3) := by decide +kernel
theorem dX9_standing_12 : decode mX9_standing.2.2.1 12 = .ok (.if_icmp .ge 26, 3) := by decide +kernel
theorem dX9_standing_15 : decode mX9_standing.2.2.1 15 = .ok (.aload_n 0, 1) := by decide +kernel
theorem dX9_standing_16 : decode mX9_standing.2.2.1 16 = .ok (.getfield 15, 3) := by decide +kernel
theorem dX9_standing_19 : decode mX9_standing.2.2.1 19 = .ok (.iload_n 2, 1) := by decide +kernel
theorem dX9_standing_20 : decode mX9_standing.2.2.1 20 = .ok (.invokevirtual 23, 3) := by decide +kernel
theorem dX9_standing_23 : decode mX9_standing.2.2.1 23 = .ok (.ifCond .eq 9, 3) := by decide +kernel
theorem dX9_standing_26 : decode mX9_standing.2.2.1 26 = .ok (.iload_n 1, 1) := by decide +kernel
theorem dX9_standing_27 : decode mX9_standing.2.2.1 27 = .ok (.iconst 1, 1) := by decide +kernel
theorem dX9_standing_28 : decode mX9_standing.2.2.1 28 = .ok (.iload_n 2, 1) := by decide +kernel
theorem dX9_standing_29 : decode mX9_standing.2.2.1 29 = .ok (.ishl, 1) := by decide +kernel
theorem dX9_standing_30 : decode mX9_standing.2.2.1 30 = .ok (.ior, 1) := by decide +kernel
theorem dX9_standing_31 : decode mX9_standing.2.2.1 31 = .ok (.istore_n 1, 1) := by decide +kernel
theorem dX9_standing_32 : decode mX9_standing.2.2.1 32 = .ok (.iinc 2 1, 3) := by decide +kernel
theorem dX9_standing_35 : decode mX9_standing.2.2.1 35 = .ok (.goto (-31), 3) := by decide +kernel
theorem dX9_standing_38 : decode mX9_standing.2.2.1 38 = .ok (.iload_n 1, 1) := by decide +kernel
theorem dX9_standing_39 : decode mX9_standing.2.2.1 39 = .ok (.ireturn, 1) := by decide +kernel
set_option maxHeartbeats 100000 in
theorem kX9_standing_0 {d : Nat} {F : am_FT} {L : am_LT} {Q : am_QT} {l1 l2 : Option Value} : wt am_S0 d mX9_standing 0 [some (.ref 12), l1, l2] [] F L Q = wt am_S0 d mX9_standing 4 [some (.ref 12), some (.int 0), some (.int 0)] [] F L Q := (wt_iconst dX9_standing_0 (v := 0) (by decide)).trans ((wt_istore_n dX9_standing_1 (lv1 := [some (.ref 12), some (.int 0), l2]) (Nat.le_of_ble_eq_true rfl) rfl).trans ((wt_iconst dX9_standing_2 (v := 0) (by decide)).trans (wt_istore_n dX9_standing_3 (lv1 := [some (.ref 12), some (.int 0), some (.int 0)]) (Nat.le_of_ble_eq_true rfl) rfl)))
set_option maxHeartbeats 100000 in
theorem kX9_standing_4 {d : Nat} {F : am_FT} {L : am_LT} {Q : am_QT} {l1 : Option Value} {x2 : Int32} : wt am_S0 d mX9_standing 4 [some (.ref 12), l1, some (.int x2)] [] F L Q = if (F 1 1) ≤ x2 then wt am_S0 d mX9_standing 38 [some (.ref 12), l1, some (.int x2)] [] F L Q else wt am_S0 d mX9_standing 15 [some (.ref 12), l1, some (.int x2)] [] F L Q := (wt_iload_n dX9_standing_4 rfl).trans ((wt_aload_n dX9_standing_5 rfl rfl).trans ((wt_getfield dX9_standing_6 rfl rfl (v := .ref 1) rfl).trans ((wt_getfield dX9_standing_9 rfl rfl (v := .int (F 1 1)) rfl).trans (wt_if_icmp_ge dX9_standing_12 (t := 38) rfl))))
set_option maxHeartbeats 100000 in
theorem kX9_standing_15 {d : Nat} {F : am_FT} {L : am_LT} {Q : am_QT} {l1 : Option Value} {x2 : Int32} : wt am_S0 (d + 1) mX9_standing 15 [some (.ref 12), l1, some (.int x2)] [] F L Q = wc am_S0 d mX5_stands [.ref 1, .int x2] F L (fun r G K => wt am_S0 (d + 1) mX9_standing 23 [some (.ref 12), l1, some (.int x2)] (r.toList ++ []) G K Q) := (wt_aload_n dX9_standing_15 rfl rfl).trans ((wt_getfield dX9_standing_16 rfl rfl (v := .ref 1) rfl).trans ((wt_iload_n dX9_standing_19 rfl).trans (wt_callV dX9_standing_20 rfl (as := [.int x2]) (rest := []) rfl rfl (Nat.le_of_ble_eq_true rfl) rfl (Nat.le_of_ble_eq_true rfl))))
set_option maxHeartbeats 100000 in
theorem kX9_standing_23 {d : Nat} {F : am_FT} {L : am_LT} {Q : am_QT} {l0 l1 l2 : Option Value} {s0 : Int32} : wt am_S0 d mX9_standing 23 [l0, l1, l2] [.int s0] F L Q = if s0 = 0 then wt am_S0 d mX9_standing 32 [l0, l1, l2] [] F L Q else wt am_S0 d mX9_standing 26 [l0, l1, l2] [] F L Q := wt_ifCond_eq dX9_standing_23 (t := 32) rfl
set_option maxHeartbeats 100000 in
theorem kX9_standing_26 {d : Nat} {F : am_FT} {L : am_LT} {Q : am_QT} {x1 x2 : Int32} : wt am_S0 d mX9_standing 26 [some (.ref 12), some (.int x1), some (.int x2)] [] F L Q = wt am_S0 d mX9_standing 32 [some (.ref 12), some (.int (x1 ||| ((1 : Int32) <<< (x2 &&& 31)))), some (.int x2)] [] F L Q := (wt_iload_n dX9_standing_26 rfl).trans ((wt_iconst dX9_standing_27 (v := 1) (by decide)).trans ((wt_iload_n dX9_standing_28 rfl).trans ((wt_ishl dX9_standing_29).trans ((wt_ior dX9_standing_30).trans (wt_istore_n dX9_standing_31 (lv1 := [some (.ref 12), some (.int (x1 ||| ((1 : Int32) <<< (x2 &&& 31)))), some (.int x2)]) (Nat.le_of_ble_eq_true rfl) rfl)))))
set_option maxHeartbeats 100000 in
theorem kX9_standing_32 {d : Nat} {F : am_FT} {L : am_LT} {Q : am_QT} {l0 : Option Value} {x2 x1 : Int32} : wt am_S0 d mX9_standing 32 [l0, some (.int x1), some (.int x2)] [] F L Q = wt am_S0 d mX9_standing 4 [l0, some (.int x1), some (.int (x2 + 1))] [] F L Q := (wt_iinc dX9_standing_32 (v := 1) (lv1 := [l0, some (.int x1), some (.int (x2 + 1))]) rfl (Nat.le_of_ble_eq_true rfl) (by decide) rfl).trans (wt_goto dX9_standing_35 (t := 4) rfl)
set_option maxHeartbeats 100000 in
theorem kX9_standing_38 {d : Nat} {F : am_FT} {L : am_LT} {Q : am_QT} {l0 l2 : Option Value} {x1 : Int32} : wt am_S0 d mX9_standing 38 [l0, some (.int x1), l2] [] F L Q = Q (some (.int x1)) F L := (wt_iload_n dX9_standing_38 rfl).trans (wt_ireturn dX9_standing_39 rfl rfl)
theorem dX9_deepestMonth_0 : decode mX9_deepestMonth.2.2.1 0 = .ok (.iconst 0, 1) := by decide +kernel
theorem dX9_deepestMonth_1 : decode mX9_deepestMonth.2.2.1 1 = .ok (.istore_n 2, 1) := by decide +kernel
theorem dX9_deepestMonth_2 : decode mX9_deepestMonth.2.2.1 2 = .ok (.iconst 0, 1) := by decide +kernel
theorem dX9_deepestMonth_3 : decode mX9_deepestMonth.2.2.1 3 = .ok (.istore_n 3, 1) := by decide +kernel
theorem dX9_deepestMonth_4 : decode mX9_deepestMonth.2.2.1 4 = .ok (.iconst 0, 1) := by decide +kernel
theorem dX9_deepestMonth_5 : decode mX9_deepestMonth.2.2.1 5 = .ok (.istore 4, 2) := by decide +kernel
theorem dX9_deepestMonth_7 : decode mX9_deepestMonth.2.2.1 7 = .ok (.iload 4, 2) := by decide +kernel
theorem dX9_deepestMonth_9 : decode mX9_deepestMonth.2.2.1 9 = .ok (.bipush 12, 2) := by decide +kernel
theorem dX9_deepestMonth_11 : decode mX9_deepestMonth.2.2.1 11 = .ok (.if_icmp .ge 33, 3) := by decide +kernel
theorem dX9_deepestMonth_14 : decode mX9_deepestMonth.2.2.1 14 = .ok (.aload_n 0, 1) := by decide +kernel
theorem dX9_deepestMonth_15 : decode mX9_deepestMonth.2.2.1 15 = .ok (.iload_n 1, 1) := by decide +kernel
theorem dX9_deepestMonth_16 : decode mX9_deepestMonth.2.2.1 16 = .ok (.iload 4, 2) := by decide +kernel
theorem dX9_deepestMonth_18 : decode mX9_deepestMonth.2.2.1 18 = .ok (.invokevirtual 76, 3) := by decide +kernel
theorem dX9_deepestMonth_21 : decode mX9_deepestMonth.2.2.1 21 = .ok (.invokestatic 79, 3) := by decide +kernel
theorem dX9_deepestMonth_24 : decode mX9_deepestMonth.2.2.1 24 = .ok (.istore 5, 2) := by decide +kernel
theorem dX9_deepestMonth_26 : decode mX9_deepestMonth.2.2.1 26 = .ok (.iload 5, 2) := by decide +kernel
theorem dX9_deepestMonth_28 : decode mX9_deepestMonth.2.2.1 28 = .ok (.iload_n 3, 1) := by decide +kernel
theorem dX9_deepestMonth_29 : decode mX9_deepestMonth.2.2.1 29 = .ok (.if_icmp .le 9, 3) := by decide +kernel
theorem dX9_deepestMonth_32 : decode mX9_deepestMonth.2.2.1 32 = .ok (.iload 5, 2) := by decide +kernel
theorem dX9_deepestMonth_34 : decode mX9_deepestMonth.2.2.1 34 = .ok (.istore_n 3, 1) := by decide +kernel
theorem dX9_deepestMonth_35 : decode mX9_deepestMonth.2.2.1 35 = .ok (.iload 4, 2) := by decide +kernel
theorem dX9_deepestMonth_37 : decode mX9_deepestMonth.2.2.1 37 = .ok (.istore_n 2, 1) := by decide +kernel
theorem dX9_deepestMonth_38 : decode mX9_deepestMonth.2.2.1 38 = .ok (.iinc 4 1, 3) := by decide +kernel
theorem dX9_deepestMonth_41 : decode mX9_deepestMonth.2.2.1 41 = .ok (.goto (-34), 3) := by decide +kernel
theorem dX9_deepestMonth_44 : decode mX9_deepestMonth.2.2.1 44 = .ok (.iload_n 2, 1) := by decide +kernel
theorem dX9_deepestMonth_45 : decode mX9_deepestMonth.2.2.1 45 = .ok (.ireturn, 1) := by decide +kernel
set_option maxHeartbeats 100000 in
theorem kX9_deepestMonth_0 {d : Nat} {F : am_FT} {L : am_LT} {Q : am_QT} {l0 l2 l3 l4 l5 : Option Value} {x1 : Int32} : wt am_S0 d mX9_deepestMonth 0 [l0, some (.int x1), l2, l3, l4, l5] [] F L Q = wt am_S0 d mX9_deepestMonth 7 [l0, some (.int x1), some (.int 0), some (.int 0), some (.int 0), l5] [] F L Q := (wt_iconst dX9_deepestMonth_0 (v := 0) (by decide)).trans ((wt_istore_n dX9_deepestMonth_1 (lv1 := [l0, some (.int x1), some (.int 0), l3, l4, l5]) (Nat.le_of_ble_eq_true rfl) rfl).trans ((wt_iconst dX9_deepestMonth_2 (v := 0) (by decide)).trans ((wt_istore_n dX9_deepestMonth_3 (lv1 := [l0, some (.int x1), some (.int 0), some (.int 0), l4, l5]) (Nat.le_of_ble_eq_true rfl) rfl).trans ((wt_iconst dX9_deepestMonth_4 (v := 0) (by decide)).trans (wt_istore dX9_deepestMonth_5 (lv1 := [l0, some (.int x1), some (.int 0), some (.int 0), some (.int 0), l5]) (Nat.le_of_ble_eq_true rfl) rfl)))))
set_option maxHeartbeats 100000 in
theorem kX9_deepestMonth_7 {d : Nat} {F : am_FT} {L : am_LT} {Q : am_QT} {l0 l1 l2 l3 l5 : Option Value} {x4 : Int32} : wt am_S0 d mX9_deepestMonth 7 [l0, l1, l2, l3, some (.int x4), l5] [] F L Q = if 12 ≤ x4 then wt am_S0 d mX9_deepestMonth 44 [l0, l1, l2, l3, some (.int x4), l5] [] F L Q else wt am_S0 d mX9_deepestMonth 14 [l0, l1, l2, l3, some (.int x4), l5] [] F L Q := (wt_iload dX9_deepestMonth_7 rfl).trans ((wt_bipush dX9_deepestMonth_9 (v := 12) (by decide)).trans (wt_if_icmp_ge dX9_deepestMonth_11 (t := 44) rfl))
set_option maxHeartbeats 100000 in
theorem kX9_deepestMonth_14 {d : Nat} {F : am_FT} {L : am_LT} {Q : am_QT} {l2 l3 l5 : Option Value} {x1 x4 : Int32} : wt am_S0 (d + 1) mX9_deepestMonth 14 [some (.ref 12), some (.int x1), l2, l3, some (.int x4), l5] [] F L Q = wc am_S0 d mX9_sittersIn [.ref 12, .int x1, .int x4] F L (fun r G K => wt am_S0 (d + 1) mX9_deepestMonth 21 [some (.ref 12), some (.int x1), l2, l3, some (.int x4), l5] (r.toList ++ []) G K Q) := (wt_aload_n dX9_deepestMonth_14 rfl rfl).trans ((wt_iload_n dX9_deepestMonth_15 rfl).trans ((wt_iload dX9_deepestMonth_16 rfl).trans (wt_callV dX9_deepestMonth_18 rfl (as := [.int x1, .int x4]) (rest := []) rfl rfl (Nat.le_of_ble_eq_true rfl) rfl (Nat.le_of_ble_eq_true rfl))))
set_option maxHeartbeats 100000 in
theorem kX9_deepestMonth_21 {d : Nat} {F : am_FT} {L : am_LT} {Q : am_QT} {l0 l1 l2 l3 l4 l5 : Option Value} {s0 : Int32} : wt am_S0 (d + 1) mX9_deepestMonth 21 [l0, l1, l2, l3, l4, l5] [.int s0] F L Q = wc am_S0 d mJ6_bitCount_0f7a4 [.int s0] F L (fun r G K => wt am_S0 (d + 1) mX9_deepestMonth 24 [l0, l1, l2, l3, l4, l5] (r.toList ++ []) G K Q) := wt_callS dX9_deepestMonth_21 rfl (as := [.int s0]) (rest := []) rfl rfl (Nat.le_of_ble_eq_true rfl) (Nat.le_of_ble_eq_true rfl)
set_option maxHeartbeats 100000 in
theorem kX9_deepestMonth_24 {d : Nat} {F : am_FT} {L : am_LT} {Q : am_QT} {l0 l1 l2 l5 : Option Value} {s0 x4 x3 : Int32} : wt am_S0 d mX9_deepestMonth 24 [l0, l1, l2, some (.int x3), some (.int x4), l5] [.int s0] F L Q = if s0 ≤ x3 then wt am_S0 d mX9_deepestMonth 38 [l0, l1, l2, some (.int x3), some (.int x4), some (.int s0)] [] F L Q else wt am_S0 d mX9_deepestMonth 32 [l0, l1, l2, some (.int x3), some (.int x4), some (.int s0)] [] F L Q := (wt_istore dX9_deepestMonth_24 (lv1 := [l0, l1, l2, some (.int x3), some (.int x4), some (.int s0)]) (Nat.le_of_ble_eq_true rfl) rfl).trans ((wt_iload dX9_deepestMonth_26 rfl).trans ((wt_iload_n dX9_deepestMonth_28 rfl).trans (wt_if_icmp_le dX9_deepestMonth_29 (t := 38) rfl)))
set_option maxHeartbeats 100000 in
theorem kX9_deepestMonth_32 {d : Nat} {F : am_FT} {L : am_LT} {Q : am_QT} {l0 l3 : Option Value} {x5 x2 x4 x1 : Int32} : wt am_S0 d mX9_deepestMonth 32 [l0, some (.int x1), some (.int x2), l3, some (.int x4), some (.int x5)] [] F L Q = wt am_S0 d mX9_deepestMonth 38 [l0, some (.int x1), some (.int x4), some (.int x5), some (.int x4), some (.int x5)] [] F L Q := (wt_iload dX9_deepestMonth_32 rfl).trans ((wt_istore_n dX9_deepestMonth_34 (lv1 := [l0, some (.int x1), some (.int x2), some (.int x5), some (.int x4), some (.int x5)]) (Nat.le_of_ble_eq_true rfl) rfl).trans ((wt_iload dX9_deepestMonth_35 rfl).trans (wt_istore_n dX9_deepestMonth_37 (lv1 := [l0, some (.int x1), some (.int x4), some (.int x5), some (.int x4), some (.int x5)]) (Nat.le_of_ble_eq_true rfl) rfl)))
set_option maxHeartbeats 100000 in
theorem kX9_deepestMonth_38 {d : Nat} {F : am_FT} {L : am_LT} {Q : am_QT} {l0 l1 l2 l5 : Option Value} {x4 x3 : Int32} : wt am_S0 d mX9_deepestMonth 38 [l0, l1, l2, some (.int x3), some (.int x4), l5] [] F L Q = wt am_S0 d mX9_deepestMonth 7 [l0, l1, l2, some (.int x3), some (.int (x4 + 1)), l5] [] F L Q := (wt_iinc dX9_deepestMonth_38 (v := 1) (lv1 := [l0, l1, l2, some (.int x3), some (.int (x4 + 1)), l5]) rfl (Nat.le_of_ble_eq_true rfl) (by decide) rfl).trans (wt_goto dX9_deepestMonth_41 (t := 7) rfl)
set_option maxHeartbeats 100000 in
theorem kX9_deepestMonth_44 {d : Nat} {F : am_FT} {L : am_LT} {Q : am_QT} {l0 l1 l3 l4 l5 : Option Value} {x2 : Int32} : wt am_S0 d mX9_deepestMonth 44 [l0, l1, some (.int x2), l3, l4, l5] [] F L Q = Q (some (.int x2)) F L := (wt_iload_n dX9_deepestMonth_44 rfl).trans (wt_ireturn dX9_deepestMonth_45 rfl rfl)
theorem dX9_shadiestOne_0 : decode mX9_shadiestOne.2.2.1 0 = .ok (.bipush (-2), 2) := by decide +kernel
theorem dX9_shadiestOne_2 : decode mX9_shadiestOne.2.2.1 2 = .ok (.istore_n 2, 1) := by decide +kernel
theorem dX9_shadiestOne_3 : decode mX9_shadiestOne.2.2.1 3 = .ok (.iconst 0, 1) := by decide +kernel
theorem dX9_shadiestOne_4 : decode mX9_shadiestOne.2.2.1 4 = .ok (.istore_n 3, 1) := by decide +kernel
theorem dX9_shadiestOne_5 : decode mX9_shadiestOne.2.2.1 5 = .ok (.iconst 0, 1) := by decide +kernel
theorem dX9_shadiestOne_6 : decode mX9_shadiestOne.2.2.1 6 = .ok (.istore 4, 2) := by decide +kernel
theorem dX9_shadiestOne_8 : decode mX9_shadiestOne.2.2.1 8 = .ok (.iload 4, 2) := by decide +kernel
theorem dX9_shadiestOne_10 : decode mX9_shadiestOne.2.2.1 10 = .ok (.aload_n 0, 1) := by decide +kernel
theorem dX9_shadiestOne_11 : decode mX9_shadiestOne.2.2.1 11 = .ok (.getfield 15, 3) := by decide +kernel
theorem dX9_shadiestOne_14 : decode mX9_shadiestOne.2.2.1 14 = .ok (.getfield 88, 3) := by decide +kernel
theorem dX9_shadiestOne_17 : decode mX9_shadiestOne.2.2.1 17 = .ok (.if_icmp .ge 30, 3) := by decide +kernel
theorem dX9_shadiestOne_20 : decode mX9_shadiestOne.2.2.1 20 = .ok (.aload_n 0, 1) := by decide +kernel
theorem dX9_shadiestOne_21 : decode mX9_shadiestOne.2.2.1 21 = .ok (.iload 4, 2) := by decide +kernel
theorem dX9_shadiestOne_23 : decode mX9_shadiestOne.2.2.1 23 = .ok (.iload_n 1, 1) := by decide +kernel
theorem dX9_shadiestOne_24 : decode mX9_shadiestOne.2.2.1 24 = .ok (.invokevirtual 91, 3) := by decide +kernel
theorem dX9_shadiestOne_27 : decode mX9_shadiestOne.2.2.1 27 = .ok (.istore 5, 2) := by decide +kernel
theorem dX9_shadiestOne_29 : decode mX9_shadiestOne.2.2.1 29 = .ok (.iload 5, 2) := by decide +kernel
theorem dX9_shadiestOne_31 : decode mX9_shadiestOne.2.2.1 31 = .ok (.iload_n 3, 1) := by decide +kernel
theorem dX9_shadiestOne_32 : decode mX9_shadiestOne.2.2.1 32 = .ok (.if_icmp .le 9, 3) := by decide +kernel
theorem dX9_shadiestOne_35 : decode mX9_shadiestOne.2.2.1 35 = .ok (.iload 5, 2) := by decide +kernel
theorem dX9_shadiestOne_37 : decode mX9_shadiestOne.2.2.1 37 = .ok (.istore_n 3, 1) := by decide +kernel
theorem dX9_shadiestOne_38 : decode mX9_shadiestOne.2.2.1 38 = .ok (.iload 4, 2) := by decide +kernel
theorem dX9_shadiestOne_40 : decode mX9_shadiestOne.2.2.1 40 = .ok (.istore_n 2, 1) := by decide +kernel
theorem dX9_shadiestOne_41 : decode mX9_shadiestOne.2.2.1 41 = .ok (.iinc 4 1, 3) := by decide +kernel
theorem dX9_shadiestOne_44 : decode mX9_shadiestOne.2.2.1 44 = .ok (.goto (-36), 3) := by decide +kernel
theorem dX9_shadiestOne_47 : decode mX9_shadiestOne.2.2.1 47 = .ok (.iload_n 2, 1) := by decide +kernel
theorem dX9_shadiestOne_48 : decode mX9_shadiestOne.2.2.1 48 = .ok (.ireturn, 1) := by decide +kernel
set_option maxHeartbeats 100000 in
theorem kX9_shadiestOne_0 {d : Nat} {F : am_FT} {L : am_LT} {Q : am_QT} {l0 l2 l3 l4 l5 : Option Value} {x1 : Int32} : wt am_S0 d mX9_shadiestOne 0 [l0, some (.int x1), l2, l3, l4, l5] [] F L Q = wt am_S0 d mX9_shadiestOne 8 [l0, some (.int x1), some (.int (-2)), some (.int 0), some (.int 0), l5] [] F L Q := (wt_bipush dX9_shadiestOne_0 (v := (-2)) (by decide)).trans ((wt_istore_n dX9_shadiestOne_2 (lv1 := [l0, some (.int x1), some (.int (-2)), l3, l4, l5]) (Nat.le_of_ble_eq_true rfl) rfl).trans ((wt_iconst dX9_shadiestOne_3 (v := 0) (by decide)).trans ((wt_istore_n dX9_shadiestOne_4 (lv1 := [l0, some (.int x1), some (.int (-2)), some (.int 0), l4, l5]) (Nat.le_of_ble_eq_true rfl) rfl).trans ((wt_iconst dX9_shadiestOne_5 (v := 0) (by decide)).trans (wt_istore dX9_shadiestOne_6 (lv1 := [l0, some (.int x1), some (.int (-2)), some (.int 0), some (.int 0), l5]) (Nat.le_of_ble_eq_true rfl) rfl)))))
set_option maxHeartbeats 100000 in
theorem kX9_shadiestOne_8 {d : Nat} {F : am_FT} {L : am_LT} {Q : am_QT} {l1 l2 l3 l5 : Option Value} {x4 : Int32} : wt am_S0 d mX9_shadiestOne 8 [some (.ref 12), l1, l2, l3, some (.int x4), l5] [] F L Q = if (F 1 2) ≤ x4 then wt am_S0 d mX9_shadiestOne 47 [some (.ref 12), l1, l2, l3, some (.int x4), l5] [] F L Q else wt am_S0 d mX9_shadiestOne 20 [some (.ref 12), l1, l2, l3, some (.int x4), l5] [] F L Q := (wt_iload dX9_shadiestOne_8 rfl).trans ((wt_aload_n dX9_shadiestOne_10 rfl rfl).trans ((wt_getfield dX9_shadiestOne_11 rfl rfl (v := .ref 1) rfl).trans ((wt_getfield dX9_shadiestOne_14 rfl rfl (v := .int (F 1 2)) rfl).trans (wt_if_icmp_ge dX9_shadiestOne_17 (t := 47) rfl))))
set_option maxHeartbeats 100000 in
theorem kX9_shadiestOne_20 {d : Nat} {F : am_FT} {L : am_LT} {Q : am_QT} {l2 l3 l5 : Option Value} {x4 x1 : Int32} : wt am_S0 (d + 1) mX9_shadiestOne 20 [some (.ref 12), some (.int x1), l2, l3, some (.int x4), l5] [] F L Q = wc am_S0 d mX9_shadesOver [.ref 12, .int x4, .int x1] F L (fun r G K => wt am_S0 (d + 1) mX9_shadiestOne 27 [some (.ref 12), some (.int x1), l2, l3, some (.int x4), l5] (r.toList ++ []) G K Q) := (wt_aload_n dX9_shadiestOne_20 rfl rfl).trans ((wt_iload dX9_shadiestOne_21 rfl).trans ((wt_iload_n dX9_shadiestOne_23 rfl).trans (wt_callV dX9_shadiestOne_24 rfl (as := [.int x4, .int x1]) (rest := []) rfl rfl (Nat.le_of_ble_eq_true rfl) rfl (Nat.le_of_ble_eq_true rfl))))
set_option maxHeartbeats 100000 in
theorem kX9_shadiestOne_27 {d : Nat} {F : am_FT} {L : am_LT} {Q : am_QT} {l0 l1 l2 l5 : Option Value} {s0 x4 x3 : Int32} : wt am_S0 d mX9_shadiestOne 27 [l0, l1, l2, some (.int x3), some (.int x4), l5] [.int s0] F L Q = if s0 ≤ x3 then wt am_S0 d mX9_shadiestOne 41 [l0, l1, l2, some (.int x3), some (.int x4), some (.int s0)] [] F L Q else wt am_S0 d mX9_shadiestOne 35 [l0, l1, l2, some (.int x3), some (.int x4), some (.int s0)] [] F L Q := (wt_istore dX9_shadiestOne_27 (lv1 := [l0, l1, l2, some (.int x3), some (.int x4), some (.int s0)]) (Nat.le_of_ble_eq_true rfl) rfl).trans ((wt_iload dX9_shadiestOne_29 rfl).trans ((wt_iload_n dX9_shadiestOne_31 rfl).trans (wt_if_icmp_le dX9_shadiestOne_32 (t := 41) rfl)))
set_option maxHeartbeats 100000 in
theorem kX9_shadiestOne_35 {d : Nat} {F : am_FT} {L : am_LT} {Q : am_QT} {l0 l3 : Option Value} {x5 x2 x4 x1 : Int32} : wt am_S0 d mX9_shadiestOne 35 [l0, some (.int x1), some (.int x2), l3, some (.int x4), some (.int x5)] [] F L Q = wt am_S0 d mX9_shadiestOne 41 [l0, some (.int x1), some (.int x4), some (.int x5), some (.int x4), some (.int x5)] [] F L Q := (wt_iload dX9_shadiestOne_35 rfl).trans ((wt_istore_n dX9_shadiestOne_37 (lv1 := [l0, some (.int x1), some (.int x2), some (.int x5), some (.int x4), some (.int x5)]) (Nat.le_of_ble_eq_true rfl) rfl).trans ((wt_iload dX9_shadiestOne_38 rfl).trans (wt_istore_n dX9_shadiestOne_40 (lv1 := [l0, some (.int x1), some (.int x4), some (.int x5), some (.int x4), some (.int x5)]) (Nat.le_of_ble_eq_true rfl) rfl)))
set_option maxHeartbeats 100000 in
theorem kX9_shadiestOne_41 {d : Nat} {F : am_FT} {L : am_LT} {Q : am_QT} {l0 l1 l2 l5 : Option Value} {x4 x3 : Int32} : wt am_S0 d mX9_shadiestOne 41 [l0, l1, l2, some (.int x3), some (.int x4), l5] [] F L Q = wt am_S0 d mX9_shadiestOne 8 [l0, l1, l2, some (.int x3), some (.int (x4 + 1)), l5] [] F L Q := (wt_iinc dX9_shadiestOne_41 (v := 1) (lv1 := [l0, l1, l2, some (.int x3), some (.int (x4 + 1)), l5]) rfl (Nat.le_of_ble_eq_true rfl) (by decide) rfl).trans (wt_goto dX9_shadiestOne_44 (t := 8) rfl)
set_option maxHeartbeats 100000 in
theorem kX9_shadiestOne_47 {d : Nat} {F : am_FT} {L : am_LT} {Q : am_QT} {l0 l1 l3 l4 l5 : Option Value} {x2 : Int32} : wt am_S0 d mX9_shadiestOne 47 [l0, l1, some (.int x2), l3, l4, l5] [] F L Q = Q (some (.int x2)) F L := (wt_iload_n dX9_shadiestOne_47 rfl).trans (wt_ireturn dX9_shadiestOne_48 rfl rfl)
theorem dX9_shadesOver_0 : decode mX9_shadesOver.2.2.1 0 = .ok (.iconst 0, 1) := by decide +kernel
theorem dX9_shadesOver_1 : decode mX9_shadesOver.2.2.1 1 = .ok (.istore_n 3, 1) := by decide +kernel
theorem dX9_shadesOver_2 : decode mX9_shadesOver.2.2.1 2 = .ok (.iconst 0, 1) := by decide +kernel
theorem dX9_shadesOver_3 : decode mX9_shadesOver.2.2.1 3 = .ok (.istore 4, 2) := by decide +kernel
theorem dX9_shadesOver_5 : decode mX9_shadesOver.2.2.1 5 = .ok (.iload 4, 2) := by decide +kernel
theorem dX9_shadesOver_7 : decode mX9_shadesOver.2.2.1 7 = .ok (.aload_n 0, 1) := by decide +kernel
theorem dX9_shadesOver_8 : decode mX9_shadesOver.2.2.1 8 = .ok (.getfield 15, 3) := by decide +kernel
theorem dX9_shadesOver_11 : decode mX9_shadesOver.2.2.1 11 = .ok (.getfield 54, 3) := by decide +kernel
theorem dX9_shadesOver_14 : decode mX9_shadesOver.2.2.1 14 = .ok (.if_icmp .ge 34, 3) := by decide +kernel
theorem dX9_shadesOver_17 : decode mX9_shadesOver.2.2.1 17 = .ok (.aload_n 0, 1) := by decide +kernel
theorem dX9_shadesOver_18 : decode mX9_shadesOver.2.2.1 18 = .ok (.getfield 15, 3) := by decide +kernel
theorem dX9_shadesOver_21 : decode mX9_shadesOver.2.2.1 21 = .ok (.iload 4, 2) := by decide +kernel
theorem dX9_shadesOver_23 : decode mX9_shadesOver.2.2.1 23 = .ok (.iload_n 2, 1) := by decide +kernel
theorem dX9_shadesOver_24 : decode mX9_shadesOver.2.2.1 24 = .ok (.aload_n 0, 1) := by decide +kernel
theorem dX9_shadesOver_25 : decode mX9_shadesOver.2.2.1 25 = .ok (.getfield 15, 3) := by decide +kernel
theorem dX9_shadesOver_28 : decode mX9_shadesOver.2.2.1 28 = .ok (.iload_n 1, 1) := by decide +kernel
theorem dX9_shadesOver_29 : decode mX9_shadesOver.2.2.1 29 = .ok (.iconst 4, 1) := by decide +kernel
theorem dX9_shadesOver_30 : decode mX9_shadesOver.2.2.1 30 = .ok (.invokevirtual 29, 3) := by decide +kernel
theorem dX9_shadesOver_33 : decode mX9_shadesOver.2.2.1 33 = .ok (.invokevirtual 84, 3) := by decide +kernel
theorem dX9_shadesOver_36 : decode mX9_shadesOver.2.2.1 36 = .ok (.ifCond .eq 6, 3) := by decide +kernel
theorem dX9_shadesOver_39 : decode mX9_shadesOver.2.2.1 39 = .ok (.iinc 3 1, 3) := by decide +kernel
theorem dX9_shadesOver_42 : decode mX9_shadesOver.2.2.1 42 = .ok (.iinc 4 1, 3) := by decide +kernel
theorem dX9_shadesOver_45 : decode mX9_shadesOver.2.2.1 45 = .ok (.goto (-40), 3) := by decide +kernel
theorem dX9_shadesOver_48 : decode mX9_shadesOver.2.2.1 48 = .ok (.iload_n 3, 1) := by decide +kernel
theorem dX9_shadesOver_49 : decode mX9_shadesOver.2.2.1 49 = .ok (.ireturn, 1) := by decide +kernel
set_option maxHeartbeats 100000 in
theorem kX9_shadesOver_0 {d : Nat} {F : am_FT} {L : am_LT} {Q : am_QT} {l0 l1 l3 l4 : Option Value} {x2 : Int32} : wt am_S0 d mX9_shadesOver 0 [l0, l1, some (.int x2), l3, l4] [] F L Q = wt am_S0 d mX9_shadesOver 5 [l0, l1, some (.int x2), some (.int 0), some (.int 0)] [] F L Q := (wt_iconst dX9_shadesOver_0 (v := 0) (by decide)).trans ((wt_istore_n dX9_shadesOver_1 (lv1 := [l0, l1, some (.int x2), some (.int 0), l4]) (Nat.le_of_ble_eq_true rfl) rfl).trans ((wt_iconst dX9_shadesOver_2 (v := 0) (by decide)).trans (wt_istore dX9_shadesOver_3 (lv1 := [l0, l1, some (.int x2), some (.int 0), some (.int 0)]) (Nat.le_of_ble_eq_true rfl) rfl)))
set_option maxHeartbeats 100000 in
theorem kX9_shadesOver_5 {d : Nat} {F : am_FT} {L : am_LT} {Q : am_QT} {l1 l2 l3 : Option Value} {x4 : Int32} : wt am_S0 d mX9_shadesOver 5 [some (.ref 12), l1, l2, l3, some (.int x4)] [] F L Q = if (F 1 1) ≤ x4 then wt am_S0 d mX9_shadesOver 48 [some (.ref 12), l1, l2, l3, some (.int x4)] [] F L Q else wt am_S0 d mX9_shadesOver 17 [some (.ref 12), l1, l2, l3, some (.int x4)] [] F L Q := (wt_iload dX9_shadesOver_5 rfl).trans ((wt_aload_n dX9_shadesOver_7 rfl rfl).trans ((wt_getfield dX9_shadesOver_8 rfl rfl (v := .ref 1) rfl).trans ((wt_getfield dX9_shadesOver_11 rfl rfl (v := .int (F 1 1)) rfl).trans (wt_if_icmp_ge dX9_shadesOver_14 (t := 48) rfl))))
set_option maxHeartbeats 100000 in
theorem kX9_shadesOver_17 {d : Nat} {F : am_FT} {L : am_LT} {Q : am_QT} {l3 : Option Value} {x4 x2 x1 : Int32} : wt am_S0 (d + 1) mX9_shadesOver 17 [some (.ref 12), some (.int x1), some (.int x2), l3, some (.int x4)] [] F L Q = wc am_S0 d mX5_read [.ref 1, .int x1, .int 4] F L (fun r G K => wt am_S0 (d + 1) mX9_shadesOver 33 [some (.ref 12), some (.int x1), some (.int x2), l3, some (.int x4)] (r.toList ++ [.int x2, .int x4, .ref 1]) G K Q) := (wt_aload_n dX9_shadesOver_17 rfl rfl).trans ((wt_getfield dX9_shadesOver_18 rfl rfl (v := .ref 1) rfl).trans ((wt_iload dX9_shadesOver_21 rfl).trans ((wt_iload_n dX9_shadesOver_23 rfl).trans ((wt_aload_n dX9_shadesOver_24 rfl rfl).trans ((wt_getfield dX9_shadesOver_25 rfl rfl (v := .ref 1) rfl).trans ((wt_iload_n dX9_shadesOver_28 rfl).trans ((wt_iconst dX9_shadesOver_29 (v := 4) (by decide)).trans (wt_callV dX9_shadesOver_30 rfl (as := [.int x1, .int 4]) (rest := [.int x2, .int x4, .ref 1]) rfl rfl (Nat.le_of_ble_eq_true rfl) rfl (Nat.le_of_ble_eq_true rfl)))))))))
set_option maxHeartbeats 100000 in
theorem kX9_shadesOver_33 {d : Nat} {F : am_FT} {L : am_LT} {Q : am_QT} {l0 l1 l2 l3 l4 : Option Value} {s1 s2 s3 : Int32} : wt am_S0 (d + 1) mX9_shadesOver 33 [l0, l1, l2, l3, l4] [.int s3, .int s2, .int s1, .ref 1] F L Q = wc am_S0 d mX5_shades [.ref 1, .int s1, .int s2, .int s3] F L (fun r G K => wt am_S0 (d + 1) mX9_shadesOver 36 [l0, l1, l2, l3, l4] (r.toList ++ []) G K Q) := wt_callV dX9_shadesOver_33 rfl (as := [.int s1, .int s2, .int s3]) (rest := []) rfl rfl (Nat.le_of_ble_eq_true rfl) rfl (Nat.le_of_ble_eq_true rfl)
set_option maxHeartbeats 100000 in
theorem kX9_shadesOver_36 {d : Nat} {F : am_FT} {L : am_LT} {Q : am_QT} {l0 l1 l2 l3 l4 : Option Value} {s0 : Int32} : wt am_S0 d mX9_shadesOver 36 [l0, l1, l2, l3, l4] [.int s0] F L Q = if s0 = 0 then wt am_S0 d mX9_shadesOver 42 [l0, l1, l2, l3, l4] [] F L Q else wt am_S0 d mX9_shadesOver 39 [l0, l1, l2, l3, l4] [] F L Q := wt_ifCond_eq dX9_shadesOver_36 (t := 42) rfl
set_option maxHeartbeats 100000 in
theorem kX9_shadesOver_39 {d : Nat} {F : am_FT} {L : am_LT} {Q : am_QT} {l0 l1 l4 : Option Value} {x3 x2 : Int32} : wt am_S0 d mX9_shadesOver 39 [l0, l1, some (.int x2), some (.int x3), l4] [] F L Q = wt am_S0 d mX9_shadesOver 42 [l0, l1, some (.int x2), some (.int (x3 + 1)), l4] [] F L Q := wt_iinc dX9_shadesOver_39 (v := 1) (lv1 := [l0, l1, some (.int x2), some (.int (x3 + 1)), l4]) rfl (Nat.le_of_ble_eq_true rfl) (by decide) rfl
set_option maxHeartbeats 100000 in
theorem kX9_shadesOver_42 {d : Nat} {F : am_FT} {L : am_LT} {Q : am_QT} {l0 l1 l2 : Option Value} {x4 x3 : Int32} : wt am_S0 d mX9_shadesOver 42 [l0, l1, l2, some (.int x3), some (.int x4)] [] F L Q = wt am_S0 d mX9_shadesOver 5 [l0, l1, l2, some (.int x3), some (.int (x4 + 1))] [] F L Q := (wt_iinc dX9_shadesOver_42 (v := 1) (lv1 := [l0, l1, l2, some (.int x3), some (.int (x4 + 1))]) rfl (Nat.le_of_ble_eq_true rfl) (by decide) rfl).trans (wt_goto dX9_shadesOver_45 (t := 5) rfl)
set_option maxHeartbeats 100000 in
theorem kX9_shadesOver_48 {d : Nat} {F : am_FT} {L : am_LT} {Q : am_QT} {l0 l1 l2 l4 : Option Value} {x3 : Int32} : wt am_S0 d mX9_shadesOver 48 [l0, l1, l2, some (.int x3), l4] [] F L Q = Q (some (.int x3)) F L := (wt_iload_n dX9_shadesOver_48 rfl).trans (wt_ireturn dX9_shadesOver_49 rfl rfl)
theorem dX9_findSeat_0 : decode mX9_findSeat.2.2.1 0 = .ok (.iconst 0, 1) := by decide +kernel
theorem dX9_findSeat_1 : decode mX9_findSeat.2.2.1 1 = .ok (.istore_n 3, 1) := by decide +kernel
theorem dX9_findSeat_2 : decode mX9_findSeat.2.2.1 2 = .ok (.iconst 0, 1) := by decide +kernel
theorem dX9_findSeat_3 : decode mX9_findSeat.2.2.1 3 = .ok (.istore 4, 2) := by decide +kernel
theorem dX9_findSeat_5 : decode mX9_findSeat.2.2.1 5 = .ok (.iconst 0, 1) := by decide +kernel
theorem dX9_findSeat_6 : decode mX9_findSeat.2.2.1 6 = .ok (.istore 5, 2) := by decide +kernel
theorem dX9_findSeat_8 : decode mX9_findSeat.2.2.1 8 = .ok (.iload 5, 2) := by decide +kernel
theorem dX9_findSeat_10 : decode mX9_findSeat.2.2.1 10 = .ok (.bipush 12, 2) := by decide +kernel
theorem dX9_findSeat_12 : decode mX9_findSeat.2.2.1 12 = .ok (.if_icmp .ge 92, 3) := by decide +kernel
theorem dX9_findSeat_15 : decode mX9_findSeat.2.2.1 15 = .ok (.aload_n 0, 1) := by decide +kernel
theorem dX9_findSeat_16 : decode mX9_findSeat.2.2.1 16 = .ok (.getfield 19, 3) := by decide +kernel
theorem dX9_findSeat_19 : decode mX9_findSeat.2.2.1 19 = .ok (.iload_n 1, 1) := by decide +kernel
theorem dX9_findSeat_20 : decode mX9_findSeat.2.2.1 20 = .ok (.iload 5, 2) := by decide +kernel
theorem dX9_findSeat_22 : decode mX9_findSeat.2.2.1 22 = .ok (.invokevirtual 37, 3) := by decide +kernel
theorem dX9_findSeat_25 : decode mX9_findSeat.2.2.1 25 = .ok (.aload_n 0, 1) := by decide +kernel
theorem dX9_findSeat_26 : decode mX9_findSeat.2.2.1 26 = .ok (.getfield 19, 3) := by decide +kernel
theorem dX9_findSeat_29 : decode mX9_findSeat.2.2.1 29 = .ok (.getfield 43, 3) := by decide +kernel
theorem dX9_findSeat_32 : decode mX9_findSeat.2.2.1 32 = .ok (.iconst 1, 1) := by decide +kernel
theorem dX9_findSeat_33 : decode mX9_findSeat.2.2.1 33 = .ok (.iload_n 2, 1) := by decide +kernel
theorem dX9_findSeat_34 : decode mX9_findSeat.2.2.1 34 = .ok (.ishl, 1) := by decide +kernel
theorem dX9_findSeat_35 : decode mX9_findSeat.2.2.1 35 = .ok (.iconst (-1), 1) := by decide +kernel
theorem dX9_findSeat_36 : decode mX9_findSeat.2.2.1 36 = .ok (.ixor, 1) := by decide +kernel
theorem dX9_findSeat_37 : decode mX9_findSeat.2.2.1 37 = .ok (.iand, 1) := by decide +kernel
theorem dX9_findSeat_38 : decode mX9_findSeat.2.2.1 38 = .ok (.istore 6, 2) := by decide +kernel
theorem dX9_findSeat_40 : decode mX9_findSeat.2.2.1 40 = .ok (.aload_n 0, 1) := by decide +kernel
theorem dX9_findSeat_41 : decode mX9_findSeat.2.2.1 41 = .ok (.getfield 19, 3) := by decide +kernel
theorem dX9_findSeat_44 : decode mX9_findSeat.2.2.1 44 = .ok (.iload 6, 2) := by decide +kernel
theorem dX9_findSeat_46 : decode mX9_findSeat.2.2.1 46 = .ok (.iconst 1, 1) := by decide +kernel
theorem dX9_findSeat_47 : decode mX9_findSeat.2.2.1 47 = .ok (.iload_n 2, 1) := by decide +kernel
theorem dX9_findSeat_48 : decode mX9_findSeat.2.2.1 48 = .ok (.ishl, 1) := by decide +kernel
theorem dX9_findSeat_49 : decode mX9_findSeat.2.2.1 49 = .ok (.ior, 1) := by decide +kernel
theorem dX9_findSeat_50 : decode mX9_findSeat.2.2.1 50 = .ok (.aload_n 0, 1) := by decide +kernel
theorem dX9_findSeat_51 : decode mX9_findSeat.2.2.1 51 = .ok (.getfield 19, 3) := by decide +kernel
theorem dX9_findSeat_54 : decode mX9_findSeat.2.2.1 54 = .ok (.getfield 47, 3) := by decide +kernel
theorem dX9_findSeat_57 : decode mX9_findSeat.2.2.1 57 = .ok (.invokevirtual 50, 3) := by decide +kernel
theorem dX9_findSeat_60 : decode mX9_findSeat.2.2.1 60 = .ok (.ifCond .ne 10, 3) := by decide +kernel
theorem dX9_findSeat_63 : decode mX9_findSeat.2.2.1 63 = .ok (.iload_n 3, 1) := by decide +kernel
theorem dX9_findSeat_64 : decode mX9_findSeat.2.2.1 64 = .ok (.iconst 1, 1) := by decide +kernel
theorem dX9_findSeat_65 : decode mX9_findSeat.2.2.1 65 = .ok (.iload 5, 2) := by decide +kernel
theorem dX9_findSeat_67 : decode mX9_findSeat.2.2.1 67 = .ok (.ishl, 1) := by decide +kernel
theorem dX9_findSeat_68 : decode mX9_findSeat.2.2.1 68 = .ok (.ior, 1) := by decide +kernel
theorem dX9_findSeat_69 : decode mX9_findSeat.2.2.1 69 = .ok (.istore_n 3, 1) := by decide +kernel
theorem dX9_findSeat_70 : decode mX9_findSeat.2.2.1 70 = .ok (.aload_n 0, 1) := by decide +kernel
theorem dX9_findSeat_71 : decode mX9_findSeat.2.2.1 71 = .ok (.getfield 19, 3) := by decide +kernel
theorem dX9_findSeat_74 : decode mX9_findSeat.2.2.1 74 = .ok (.iload 6, 2) := by decide +kernel
theorem dX9_findSeat_76 : decode mX9_findSeat.2.2.1 76 = .ok (.aload_n 0, 1) := by decide +kernel
theorem dX9_findSeat_77 : decode mX9_findSeat.2.2.1 77 = .ok (.getfield 19, 3) := by decide +kernel
theorem dX9_findSeat_80 : decode mX9_findSeat.2.2.1 80 = .ok (.getfield 47, 3) := by decide +kernel
theorem dX9_findSeat_83 : decode mX9_findSeat.2.2.1 83 = .ok (.invokevirtual 50, 3) := by decide +kernel
theorem dX9_findSeat_86 : decode mX9_findSeat.2.2.1 86 = .ok (.ifCond .ne 12, 3) := by decide +kernel
theorem dX9_findSeat_89 : decode mX9_findSeat.2.2.1 89 = .ok (.iload 4, 2) := by decide +kernel
theorem dX9_findSeat_91 : decode mX9_findSeat.2.2.1 91 = .ok (.iconst 1, 1) := by decide +kernel
theorem dX9_findSeat_92 : decode mX9_findSeat.2.2.1 92 = .ok (.iload 5, 2) := by decide +kernel
theorem dX9_findSeat_94 : decode mX9_findSeat.2.2.1 94 = .ok (.ishl, 1) := by decide +kernel
theorem dX9_findSeat_95 : decode mX9_findSeat.2.2.1 95 = .ok (.ior, 1) := by decide +kernel
theorem dX9_findSeat_96 : decode mX9_findSeat.2.2.1 96 = .ok (.istore 4, 2) := by decide +kernel
theorem dX9_findSeat_98 : decode mX9_findSeat.2.2.1 98 = .ok (.iinc 5 1, 3) := by decide +kernel
theorem dX9_findSeat_101 : decode mX9_findSeat.2.2.1 101 = .ok (.goto (-93), 3) := by decide +kernel
theorem dX9_findSeat_104 : decode mX9_findSeat.2.2.1 104 = .ok (.aload_n 0, 1) := by decide +kernel
theorem dX9_findSeat_105 : decode mX9_findSeat.2.2.1 105 = .ok (.iconst 0, 1) := by decide +kernel
theorem dX9_findSeat_106 : decode mX9_findSeat.2.2.1 106 = .ok (.putfield 94, 3) := by decide +kernel
theorem dX9_findSeat_109 : decode mX9_findSeat.2.2.1 109 = .ok (.aload_n 0, 1) := by decide +kernel
theorem dX9_findSeat_110 : decode mX9_findSeat.2.2.1 110 = .ok (.iconst (-1), 1) := by decide +kernel
theorem dX9_findSeat_111 : decode mX9_findSeat.2.2.1 111 = .ok (.putfield 97, 3) := by decide +kernel
theorem dX9_findSeat_114 : decode mX9_findSeat.2.2.1 114 = .ok (.iconst 0, 1) := by decide +kernel
theorem dX9_findSeat_115 : decode mX9_findSeat.2.2.1 115 = .ok (.istore 5, 2) := by decide +kernel
theorem dX9_findSeat_117 : decode mX9_findSeat.2.2.1 117 = .ok (.iload 5, 2) := by decide +kernel
theorem dX9_findSeat_119 : decode mX9_findSeat.2.2.1 119 = .ok (.sipush 256, 3) := by decide +kernel
theorem dX9_findSeat_122 : decode mX9_findSeat.2.2.1 122 = .ok (.if_icmp .ge 60, 3) := by decide +kernel
theorem dX9_findSeat_125 : decode mX9_findSeat.2.2.1 125 = .ok (.aload_n 0, 1) := by decide +kernel
theorem dX9_findSeat_126 : decode mX9_findSeat.2.2.1 126 = .ok (.iload_n 1, 1) := by decide +kernel
theorem dX9_findSeat_127 : decode mX9_findSeat.2.2.1 127 = .ok (.iload 5, 2) := by decide +kernel
theorem dX9_findSeat_129 : decode mX9_findSeat.2.2.1 129 = .ok (.invokevirtual 100, 3) := by decide +kernel
theorem dX9_findSeat_132 : decode mX9_findSeat.2.2.1 132 = .ok (.istore 6, 2) := by decide +kernel
theorem dX9_findSeat_134 : decode mX9_findSeat.2.2.1 134 = .ok (.iload 6, 2) := by decide +kernel
theorem dX9_findSeat_136 : decode mX9_findSeat.2.2.1 136 = .ok (.iload_n 3, 1) := by decide +kernel
theorem dX9_findSeat_137 : decode mX9_findSeat.2.2.1 137 = .ok (.iand, 1) := by decide +kernel
theorem dX9_findSeat_138 : decode mX9_findSeat.2.2.1 138 = .ok (.iload 6, 2) := by decide +kernel
theorem dX9_findSeat_140 : decode mX9_findSeat.2.2.1 140 = .ok (.iconst (-1), 1) := by decide +kernel
theorem dX9_findSeat_141 : decode mX9_findSeat.2.2.1 141 = .ok (.ixor, 1) := by decide +kernel
theorem dX9_findSeat_142 : decode mX9_findSeat.2.2.1 142 = .ok (.iload 4, 2) := by decide +kernel
theorem dX9_findSeat_144 : decode mX9_findSeat.2.2.1 144 = .ok (.iand, 1) := by decide +kernel
theorem dX9_findSeat_145 : decode mX9_findSeat.2.2.1 145 = .ok (.sipush 4095, 3) := by decide +kernel
theorem dX9_findSeat_148 : decode mX9_findSeat.2.2.1 148 = .ok (.iand, 1) := by decide +kernel
theorem dX9_findSeat_149 : decode mX9_findSeat.2.2.1 149 = .ok (.ior, 1) := by decide +kernel
theorem dX9_findSeat_150 : decode mX9_findSeat.2.2.1 150 = .ok (.invokestatic 79, 3) := by decide +kernel
theorem dX9_findSeat_153 : decode mX9_findSeat.2.2.1 153 = .ok (.istore 7, 2) := by decide +kernel
theorem dX9_findSeat_155 : decode mX9_findSeat.2.2.1 155 = .ok (.iload 7, 2) := by decide +kernel
theorem dX9_findSeat_157 : decode mX9_findSeat.2.2.1 157 = .ok (.aload_n 0, 1) := by decide +kernel
theorem dX9_findSeat_158 : decode mX9_findSeat.2.2.1 158 = .ok (.getfield 97, 3) := by decide +kernel
theorem dX9_findSeat_161 : decode mX9_findSeat.2.2.1 161 = .ok (.if_icmp .le 15, 3) := by decide +kernel
theorem dX9_findSeat_164 : decode mX9_findSeat.2.2.1 164 = .ok (.aload_n 0, 1) := by decide +kernel
theorem dX9_findSeat_165 : decode mX9_findSeat.2.2.1 165 = .ok (.iload 7, 2) := by decide +kernel
theorem dX9_findSeat_167 : decode mX9_findSeat.2.2.1 167 = .ok (.putfield 97, 3) := by decide +kernel
theorem dX9_findSeat_170 : decode mX9_findSeat.2.2.1 170 = .ok (.aload_n 0, 1) := by decide +kernel
theorem dX9_findSeat_171 : decode mX9_findSeat.2.2.1 171 = .ok (.iload 5, 2) := by decide +kernel
theorem dX9_findSeat_173 : decode mX9_findSeat.2.2.1 173 = .ok (.putfield 94, 3) := by decide +kernel
theorem dX9_findSeat_176 : decode mX9_findSeat.2.2.1 176 = .ok (.iinc 5 1, 3) := by decide +kernel
theorem dX9_findSeat_179 : decode mX9_findSeat.2.2.1 179 = .ok (.goto (-62), 3) := by decide +kernel
theorem dX9_findSeat_182 : decode mX9_findSeat.2.2.1 182 = .ok (.return_, 1) := by decide +kernel
set_option maxHeartbeats 100000 in
theorem kX9_findSeat_0 {d : Nat} {F : am_FT} {L : am_LT} {Q : am_QT} {l0 l1 l3 l4 l5 l6 l7 : Option Value} {x2 : Int32} : wt am_S0 d mX9_findSeat 0 [l0, l1, some (.int x2), l3, l4, l5, l6, l7] [] F L Q = wt am_S0 d mX9_findSeat 8 [l0, l1, some (.int x2), some (.int 0), some (.int 0), some (.int 0), l6, l7] [] F L Q := (wt_iconst dX9_findSeat_0 (v := 0) (by decide)).trans ((wt_istore_n dX9_findSeat_1 (lv1 := [l0, l1, some (.int x2), some (.int 0), l4, l5, l6, l7]) (Nat.le_of_ble_eq_true rfl) rfl).trans ((wt_iconst dX9_findSeat_2 (v := 0) (by decide)).trans ((wt_istore dX9_findSeat_3 (lv1 := [l0, l1, some (.int x2), some (.int 0), some (.int 0), l5, l6, l7]) (Nat.le_of_ble_eq_true rfl) rfl).trans ((wt_iconst dX9_findSeat_5 (v := 0) (by decide)).trans (wt_istore dX9_findSeat_6 (lv1 := [l0, l1, some (.int x2), some (.int 0), some (.int 0), some (.int 0), l6, l7]) (Nat.le_of_ble_eq_true rfl) rfl)))))
set_option maxHeartbeats 100000 in
theorem kX9_findSeat_8 {d : Nat} {F : am_FT} {L : am_LT} {Q : am_QT} {l0 l1 l2 l3 l4 l6 l7 : Option Value} {x5 : Int32} : wt am_S0 d mX9_findSeat 8 [l0, l1, l2, l3, l4, some (.int x5), l6, l7] [] F L Q = if 12 ≤ x5 then wt am_S0 d mX9_findSeat 104 [l0, l1, l2, l3, l4, some (.int x5), l6, l7] [] F L Q else wt am_S0 d mX9_findSeat 15 [l0, l1, l2, l3, l4, some (.int x5), l6, l7] [] F L Q := (wt_iload dX9_findSeat_8 rfl).trans ((wt_bipush dX9_findSeat_10 (v := 12) (by decide)).trans (wt_if_icmp_ge dX9_findSeat_12 (t := 104) rfl))
set_option maxHeartbeats 100000 in
theorem kX9_findSeat_15 {d : Nat} {F : am_FT} {L : am_LT} {Q : am_QT} {l2 l3 l4 l6 l7 : Option Value} {x1 x5 : Int32} : wt am_S0 (d + 1) mX9_findSeat 15 [some (.ref 12), some (.int x1), l2, l3, l4, some (.int x5), l6, l7] [] F L Q = wc am_S0 d mX0_open [.ref 9, .int x1, .int x5] F L (fun r G K => wt am_S0 (d + 1) mX9_findSeat 25 [some (.ref 12), some (.int x1), l2, l3, l4, some (.int x5), l6, l7] (r.toList ++ []) G K Q) := (wt_aload_n dX9_findSeat_15 rfl rfl).trans ((wt_getfield dX9_findSeat_16 rfl rfl (v := .ref 9) rfl).trans ((wt_iload_n dX9_findSeat_19 rfl).trans ((wt_iload dX9_findSeat_20 rfl).trans (wt_callV dX9_findSeat_22 rfl (as := [.int x1, .int x5]) (rest := []) rfl rfl (Nat.le_of_ble_eq_true rfl) rfl (Nat.le_of_ble_eq_true rfl)))))
set_option maxHeartbeats 100000 in
theorem kX9_findSeat_25 {d : Nat} {F : am_FT} {L : am_LT} {Q : am_QT} {l1 l3 l4 l6 l7 : Option Value} {x2 x5 : Int32} : wt am_S0 d mX9_findSeat 25 [some (.ref 12), l1, some (.int x2), l3, l4, some (.int x5), l6, l7] [] F L Q = wt am_S0 d mX9_findSeat 49 [some (.ref 12), l1, some (.int x2), l3, l4, some (.int x5), some (.int ((F 9 5) &&& (((1 : Int32) <<< (x2 &&& 31)) ^^^ (-1)))), l7] [.int ((1 : Int32) <<< (x2 &&& 31)), .int ((F 9 5) &&& (((1 : Int32) <<< (x2 &&& 31)) ^^^ (-1))), .ref 9] F L Q := (wt_aload_n dX9_findSeat_25 rfl rfl).trans ((wt_getfield dX9_findSeat_26 rfl rfl (v := .ref 9) rfl).trans ((wt_getfield dX9_findSeat_29 rfl rfl (v := .int (F 9 5)) rfl).trans ((wt_iconst dX9_findSeat_32 (v := 1) (by decide)).trans ((wt_iload_n dX9_findSeat_33 rfl).trans ((wt_ishl dX9_findSeat_34).trans ((wt_iconst dX9_findSeat_35 (v := (-1)) (by decide)).trans ((wt_ixor dX9_findSeat_36).trans ((wt_iand dX9_findSeat_37).trans ((wt_istore dX9_findSeat_38 (lv1 := [some (.ref 12), l1, some (.int x2), l3, l4, some (.int x5), some (.int ((F 9 5) &&& (((1 : Int32) <<< (x2 &&& 31)) ^^^ (-1)))), l7]) (Nat.le_of_ble_eq_true rfl) rfl).trans ((wt_aload_n dX9_findSeat_40 rfl rfl).trans ((wt_getfield dX9_findSeat_41 rfl rfl (v := .ref 9) rfl).trans ((wt_iload dX9_findSeat_44 rfl).trans ((wt_iconst dX9_findSeat_46 (v := 1) (by decide)).trans ((wt_iload_n dX9_findSeat_47 rfl).trans (wt_ishl dX9_findSeat_48)))))))))))))))
set_option maxHeartbeats 100000 in
theorem kX9_findSeat_49 {d : Nat} {F : am_FT} {L : am_LT} {Q : am_QT} {l1 l2 l3 l4 l5 l6 l7 : Option Value} {s1 s2 : Int32} : wt am_S0 (d + 1) mX9_findSeat 49 [some (.ref 12), l1, l2, l3, l4, l5, l6, l7] [.int s2, .int s1, .ref 9] F L Q = wc am_S0 d mX0_passes [.ref 9, .int (s1 ||| s2), .int (F 9 6)] F L (fun r G K => wt am_S0 (d + 1) mX9_findSeat 60 [some (.ref 12), l1, l2, l3, l4, l5, l6, l7] (r.toList ++ []) G K Q) := (wt_ior dX9_findSeat_49).trans ((wt_aload_n dX9_findSeat_50 rfl rfl).trans ((wt_getfield dX9_findSeat_51 rfl rfl (v := .ref 9) rfl).trans ((wt_getfield dX9_findSeat_54 rfl rfl (v := .int (F 9 6)) rfl).trans (wt_callV dX9_findSeat_57 rfl (as := [.int (s1 ||| s2), .int (F 9 6)]) (rest := []) rfl rfl (Nat.le_of_ble_eq_true rfl) rfl (Nat.le_of_ble_eq_true rfl)))))
set_option maxHeartbeats 100000 in
theorem kX9_findSeat_60 {d : Nat} {F : am_FT} {L : am_LT} {Q : am_QT} {l0 l1 l2 l3 l4 l5 l6 l7 : Option Value} {s0 : Int32} : wt am_S0 d mX9_findSeat 60 [l0, l1, l2, l3, l4, l5, l6, l7] [.int s0] F L Q = if ¬ s0 = 0 then wt am_S0 d mX9_findSeat 70 [l0, l1, l2, l3, l4, l5, l6, l7] [] F L Q else wt am_S0 d mX9_findSeat 63 [l0, l1, l2, l3, l4, l5, l6, l7] [] F L Q := wt_ifCond_ne dX9_findSeat_60 (t := 70) rfl
set_option maxHeartbeats 100000 in
theorem kX9_findSeat_63 {d : Nat} {F : am_FT} {L : am_LT} {Q : am_QT} {l0 l1 l4 l6 l7 : Option Value} {x3 x5 x2 : Int32} : wt am_S0 d mX9_findSeat 63 [l0, l1, some (.int x2), some (.int x3), l4, some (.int x5), l6, l7] [] F L Q = wt am_S0 d mX9_findSeat 70 [l0, l1, some (.int x2), some (.int (x3 ||| ((1 : Int32) <<< (x5 &&& 31)))), l4, some (.int x5), l6, l7] [] F L Q := (wt_iload_n dX9_findSeat_63 rfl).trans ((wt_iconst dX9_findSeat_64 (v := 1) (by decide)).trans ((wt_iload dX9_findSeat_65 rfl).trans ((wt_ishl dX9_findSeat_67).trans ((wt_ior dX9_findSeat_68).trans (wt_istore_n dX9_findSeat_69 (lv1 := [l0, l1, some (.int x2), some (.int (x3 ||| ((1 : Int32) <<< (x5 &&& 31)))), l4, some (.int x5), l6, l7]) (Nat.le_of_ble_eq_true rfl) rfl)))))
set_option maxHeartbeats 100000 in
theorem kX9_findSeat_70 {d : Nat} {F : am_FT} {L : am_LT} {Q : am_QT} {l1 l2 l3 l4 l5 l7 : Option Value} {x6 : Int32} : wt am_S0 (d + 1) mX9_findSeat 70 [some (.ref 12), l1, l2, l3, l4, l5, some (.int x6), l7] [] F L Q = wc am_S0 d mX0_passes [.ref 9, .int x6, .int (F 9 6)] F L (fun r G K => wt am_S0 (d + 1) mX9_findSeat 86 [some (.ref 12), l1, l2, l3, l4, l5, some (.int x6), l7] (r.toList ++ []) G K Q) := (wt_aload_n dX9_findSeat_70 rfl rfl).trans ((wt_getfield dX9_findSeat_71 rfl rfl (v := .ref 9) rfl).trans ((wt_iload dX9_findSeat_74 rfl).trans ((wt_aload_n dX9_findSeat_76 rfl rfl).trans ((wt_getfield dX9_findSeat_77 rfl rfl (v := .ref 9) rfl).trans ((wt_getfield dX9_findSeat_80 rfl rfl (v := .int (F 9 6)) rfl).trans (wt_callV dX9_findSeat_83 rfl (as := [.int x6, .int (F 9 6)]) (rest := []) rfl rfl (Nat.le_of_ble_eq_true rfl) rfl (Nat.le_of_ble_eq_true rfl)))))))
set_option maxHeartbeats 100000 in
theorem kX9_findSeat_86 {d : Nat} {F : am_FT} {L : am_LT} {Q : am_QT} {l0 l1 l2 l3 l4 l5 l6 l7 : Option Value} {s0 : Int32} : wt am_S0 d mX9_findSeat 86 [l0, l1, l2, l3, l4, l5, l6, l7] [.int s0] F L Q = if ¬ s0 = 0 then wt am_S0 d mX9_findSeat 98 [l0, l1, l2, l3, l4, l5, l6, l7] [] F L Q else wt am_S0 d mX9_findSeat 89 [l0, l1, l2, l3, l4, l5, l6, l7] [] F L Q := wt_ifCond_ne dX9_findSeat_86 (t := 98) rfl
set_option maxHeartbeats 100000 in
theorem kX9_findSeat_89 {d : Nat} {F : am_FT} {L : am_LT} {Q : am_QT} {l0 l1 l2 l6 l7 : Option Value} {x4 x5 x3 : Int32} : wt am_S0 d mX9_findSeat 89 [l0, l1, l2, some (.int x3), some (.int x4), some (.int x5), l6, l7] [] F L Q = wt am_S0 d mX9_findSeat 98 [l0, l1, l2, some (.int x3), some (.int (x4 ||| ((1 : Int32) <<< (x5 &&& 31)))), some (.int x5), l6, l7] [] F L Q := (wt_iload dX9_findSeat_89 rfl).trans ((wt_iconst dX9_findSeat_91 (v := 1) (by decide)).trans ((wt_iload dX9_findSeat_92 rfl).trans ((wt_ishl dX9_findSeat_94).trans ((wt_ior dX9_findSeat_95).trans (wt_istore dX9_findSeat_96 (lv1 := [l0, l1, l2, some (.int x3), some (.int (x4 ||| ((1 : Int32) <<< (x5 &&& 31)))), some (.int x5), l6, l7]) (Nat.le_of_ble_eq_true rfl) rfl)))))
set_option maxHeartbeats 100000 in
theorem kX9_findSeat_98 {d : Nat} {F : am_FT} {L : am_LT} {Q : am_QT} {l0 l1 l2 l3 l6 l7 : Option Value} {x5 x4 : Int32} : wt am_S0 d mX9_findSeat 98 [l0, l1, l2, l3, some (.int x4), some (.int x5), l6, l7] [] F L Q = wt am_S0 d mX9_findSeat 8 [l0, l1, l2, l3, some (.int x4), some (.int (x5 + 1)), l6, l7] [] F L Q := (wt_iinc dX9_findSeat_98 (v := 1) (lv1 := [l0, l1, l2, l3, some (.int x4), some (.int (x5 + 1)), l6, l7]) rfl (Nat.le_of_ble_eq_true rfl) (by decide) rfl).trans (wt_goto dX9_findSeat_101 (t := 8) rfl)
set_option maxHeartbeats 100000 in
theorem kX9_findSeat_104 {d : Nat} {F : am_FT} {L : am_LT} {Q : am_QT} {l1 l2 l3 l5 l6 l7 : Option Value} {x4 : Int32} : wt am_S0 d mX9_findSeat 104 [some (.ref 12), l1, l2, l3, some (.int x4), l5, l6, l7] [] F L Q = wt am_S0 d mX9_findSeat 117 [some (.ref 12), l1, l2, l3, some (.int x4), some (.int 0), l6, l7] [] (am_upF (am_upF F 12 3 0) 12 4 (-1)) L Q := (wt_aload_n dX9_findSeat_104 rfl rfl).trans ((wt_iconst dX9_findSeat_105 (v := 0) (by decide)).trans ((wt_putfield dX9_findSeat_106 rfl rfl ⟨rfl, rfl, rfl, rfl⟩).trans ((wt_aload_n dX9_findSeat_109 rfl rfl).trans ((wt_iconst dX9_findSeat_110 (v := (-1)) (by decide)).trans ((wt_putfield dX9_findSeat_111 rfl rfl ⟨rfl, rfl, rfl, rfl⟩).trans ((wt_iconst dX9_findSeat_114 (v := 0) (by decide)).trans (wt_istore dX9_findSeat_115 (lv1 := [some (.ref 12), l1, l2, l3, some (.int x4), some (.int 0), l6, l7]) (Nat.le_of_ble_eq_true rfl) rfl)))))))
set_option maxHeartbeats 100000 in
theorem kX9_findSeat_117 {d : Nat} {F : am_FT} {L : am_LT} {Q : am_QT} {l0 l1 l2 l3 l4 l6 l7 : Option Value} {x5 : Int32} : wt am_S0 d mX9_findSeat 117 [l0, l1, l2, l3, l4, some (.int x5), l6, l7] [] F L Q = if 256 ≤ x5 then wt am_S0 d mX9_findSeat 182 [l0, l1, l2, l3, l4, some (.int x5), l6, l7] [] F L Q else wt am_S0 d mX9_findSeat 125 [l0, l1, l2, l3, l4, some (.int x5), l6, l7] [] F L Q := (wt_iload dX9_findSeat_117 rfl).trans ((wt_sipush dX9_findSeat_119 (v := 256) (by decide)).trans (wt_if_icmp_ge dX9_findSeat_122 (t := 182) rfl))
set_option maxHeartbeats 100000 in
theorem kX9_findSeat_125 {d : Nat} {F : am_FT} {L : am_LT} {Q : am_QT} {l2 l3 l4 l6 l7 : Option Value} {x1 x5 : Int32} : wt am_S0 (d + 1) mX9_findSeat 125 [some (.ref 12), some (.int x1), l2, l3, l4, some (.int x5), l6, l7] [] F L Q = wc am_S0 d mX9_monthsOver [.ref 12, .int x1, .int x5] F L (fun r G K => wt am_S0 (d + 1) mX9_findSeat 132 [some (.ref 12), some (.int x1), l2, l3, l4, some (.int x5), l6, l7] (r.toList ++ []) G K Q) := (wt_aload_n dX9_findSeat_125 rfl rfl).trans ((wt_iload_n dX9_findSeat_126 rfl).trans ((wt_iload dX9_findSeat_127 rfl).trans (wt_callV dX9_findSeat_129 rfl (as := [.int x1, .int x5]) (rest := []) rfl rfl (Nat.le_of_ble_eq_true rfl) rfl (Nat.le_of_ble_eq_true rfl))))
set_option maxHeartbeats 100000 in
theorem kX9_findSeat_132 {d : Nat} {F : am_FT} {L : am_LT} {Q : am_QT} {l0 l1 l2 l6 l7 : Option Value} {s0 x5 x3 x4 : Int32} : wt am_S0 (d + 1) mX9_findSeat 132 [l0, l1, l2, some (.int x3), some (.int x4), some (.int x5), l6, l7] [.int s0] F L Q = wc am_S0 d mJ6_bitCount_0f7a4 [.int ((s0 &&& x3) ||| (((s0 ^^^ (-1)) &&& x4) &&& 4095))] F L (fun r G K => wt am_S0 (d + 1) mX9_findSeat 153 [l0, l1, l2, some (.int x3), some (.int x4), some (.int x5), some (.int s0), l7] (r.toList ++ []) G K Q) := (wt_istore dX9_findSeat_132 (lv1 := [l0, l1, l2, some (.int x3), some (.int x4), some (.int x5), some (.int s0), l7]) (Nat.le_of_ble_eq_true rfl) rfl).trans ((wt_iload dX9_findSeat_134 rfl).trans ((wt_iload_n dX9_findSeat_136 rfl).trans ((wt_iand dX9_findSeat_137).trans ((wt_iload dX9_findSeat_138 rfl).trans ((wt_iconst dX9_findSeat_140 (v := (-1)) (by decide)).trans ((wt_ixor dX9_findSeat_141).trans ((wt_iload dX9_findSeat_142 rfl).trans ((wt_iand dX9_findSeat_144).trans ((wt_sipush dX9_findSeat_145 (v := 4095) (by decide)).trans ((wt_iand dX9_findSeat_148).trans ((wt_ior dX9_findSeat_149).trans (wt_callS dX9_findSeat_150 rfl (as := [.int ((s0 &&& x3) ||| (((s0 ^^^ (-1)) &&& x4) &&& 4095))]) (rest := []) rfl rfl (Nat.le_of_ble_eq_true rfl) (Nat.le_of_ble_eq_true rfl)))))))))))))
set_option maxHeartbeats 100000 in
theorem kX9_findSeat_153 {d : Nat} {F : am_FT} {L : am_LT} {Q : am_QT} {l1 l2 l3 l4 l5 l7 : Option Value} {s0 x6 : Int32} : wt am_S0 d mX9_findSeat 153 [some (.ref 12), l1, l2, l3, l4, l5, some (.int x6), l7] [.int s0] F L Q = if s0 ≤ (F 12 4) then wt am_S0 d mX9_findSeat 176 [some (.ref 12), l1, l2, l3, l4, l5, some (.int x6), some (.int s0)] [] F L Q else wt am_S0 d mX9_findSeat 164 [some (.ref 12), l1, l2, l3, l4, l5, some (.int x6), some (.int s0)] [] F L Q := (wt_istore dX9_findSeat_153 (lv1 := [some (.ref 12), l1, l2, l3, l4, l5, some (.int x6), some (.int s0)]) (Nat.le_of_ble_eq_true rfl) rfl).trans ((wt_iload dX9_findSeat_155 rfl).trans ((wt_aload_n dX9_findSeat_157 rfl rfl).trans ((wt_getfield dX9_findSeat_158 rfl rfl (v := .int (F 12 4)) rfl).trans (wt_if_icmp_le dX9_findSeat_161 (t := 176) rfl))))
set_option maxHeartbeats 100000 in
theorem kX9_findSeat_164 {d : Nat} {F : am_FT} {L : am_LT} {Q : am_QT} {l1 l2 l3 l4 l6 : Option Value} {x7 x5 : Int32} : wt am_S0 d mX9_findSeat 164 [some (.ref 12), l1, l2, l3, l4, some (.int x5), l6, some (.int x7)] [] F L Q = wt am_S0 d mX9_findSeat 176 [some (.ref 12), l1, l2, l3, l4, some (.int x5), l6, some (.int x7)] [] (am_upF (am_upF F 12 4 x7) 12 3 x5) L Q := (wt_aload_n dX9_findSeat_164 rfl rfl).trans ((wt_iload dX9_findSeat_165 rfl).trans ((wt_putfield dX9_findSeat_167 rfl rfl ⟨rfl, rfl, rfl, rfl⟩).trans ((wt_aload_n dX9_findSeat_170 rfl rfl).trans ((wt_iload dX9_findSeat_171 rfl).trans (wt_putfield dX9_findSeat_173 rfl rfl ⟨rfl, rfl, rfl, rfl⟩)))))
set_option maxHeartbeats 100000 in
theorem kX9_findSeat_176 {d : Nat} {F : am_FT} {L : am_LT} {Q : am_QT} {l0 l1 l2 l3 l6 l7 : Option Value} {x5 x4 : Int32} : wt am_S0 d mX9_findSeat 176 [l0, l1, l2, l3, some (.int x4), some (.int x5), l6, l7] [] F L Q = wt am_S0 d mX9_findSeat 117 [l0, l1, l2, l3, some (.int x4), some (.int (x5 + 1)), l6, l7] [] F L Q := (wt_iinc dX9_findSeat_176 (v := 1) (lv1 := [l0, l1, l2, l3, some (.int x4), some (.int (x5 + 1)), l6, l7]) rfl (Nat.le_of_ble_eq_true rfl) (by decide) rfl).trans (wt_goto dX9_findSeat_179 (t := 117) rfl)
set_option maxHeartbeats 100000 in
theorem kX9_findSeat_182 {d : Nat} {F : am_FT} {L : am_LT} {Q : am_QT} {l0 l1 l2 l3 l4 l5 l6 l7 : Option Value} : wt am_S0 d mX9_findSeat 182 [l0, l1, l2, l3, l4, l5, l6, l7] [] F L Q = Q none F L := wt_return dX9_findSeat_182 rfl
theorem dX9_monthsOver_0 : decode mX9_monthsOver.2.2.1 0 = .ok (.iconst 0, 1) := by decide +kernel
theorem dX9_monthsOver_1 : decode mX9_monthsOver.2.2.1 1 = .ok (.istore_n 3, 1) := by decide +kernel
theorem dX9_monthsOver_2 : decode mX9_monthsOver.2.2.1 2 = .ok (.iconst 0, 1) := by decide +kernel
theorem dX9_monthsOver_3 : decode mX9_monthsOver.2.2.1 3 = .ok (.istore 4, 2) := by decide +kernel
theorem dX9_monthsOver_5 : decode mX9_monthsOver.2.2.1 5 = .ok (.iload 4, 2) := by decide +kernel
theorem dX9_monthsOver_7 : decode mX9_monthsOver.2.2.1 7 = .ok (.bipush 12, 2) := by decide +kernel
theorem dX9_monthsOver_9 : decode mX9_monthsOver.2.2.1 9 = .ok (.if_icmp .ge 30, 3) := by decide +kernel
theorem dX9_monthsOver_12 : decode mX9_monthsOver.2.2.1 12 = .ok (.aload_n 0, 1) := by decide +kernel
theorem dX9_monthsOver_13 : decode mX9_monthsOver.2.2.1 13 = .ok (.getfield 15, 3) := by decide +kernel
theorem dX9_monthsOver_16 : decode mX9_monthsOver.2.2.1 16 = .ok (.iload_n 1, 1) := by decide +kernel
theorem dX9_monthsOver_17 : decode mX9_monthsOver.2.2.1 17 = .ok (.iload 4, 2) := by decide +kernel
theorem dX9_monthsOver_19 : decode mX9_monthsOver.2.2.1 19 = .ok (.iload_n 2, 1) := by decide +kernel
theorem dX9_monthsOver_20 : decode mX9_monthsOver.2.2.1 20 = .ok (.invokevirtual 84, 3) := by decide +kernel
theorem dX9_monthsOver_23 : decode mX9_monthsOver.2.2.1 23 = .ok (.ifCond .eq 10, 3) := by decide +kernel
theorem dX9_monthsOver_26 : decode mX9_monthsOver.2.2.1 26 = .ok (.iload_n 3, 1) := by decide +kernel
theorem dX9_monthsOver_27 : decode mX9_monthsOver.2.2.1 27 = .ok (.iconst 1, 1) := by decide +kernel
theorem dX9_monthsOver_28 : decode mX9_monthsOver.2.2.1 28 = .ok (.iload 4, 2) := by decide +kernel
theorem dX9_monthsOver_30 : decode mX9_monthsOver.2.2.1 30 = .ok (.ishl, 1) := by decide +kernel
theorem dX9_monthsOver_31 : decode mX9_monthsOver.2.2.1 31 = .ok (.ior, 1) := by decide +kernel
theorem dX9_monthsOver_32 : decode mX9_monthsOver.2.2.1 32 = .ok (.istore_n 3, 1) := by decide +kernel
theorem dX9_monthsOver_33 : decode mX9_monthsOver.2.2.1 33 = .ok (.iinc 4 1, 3) := by decide +kernel
theorem dX9_monthsOver_36 : decode mX9_monthsOver.2.2.1 36 = .ok (.goto (-31), 3) := by decide +kernel
theorem dX9_monthsOver_39 : decode mX9_monthsOver.2.2.1 39 = .ok (.iload_n 3, 1) := by decide +kernel
theorem dX9_monthsOver_40 : decode mX9_monthsOver.2.2.1 40 = .ok (.ireturn, 1) := by decide +kernel
set_option maxHeartbeats 100000 in
theorem kX9_monthsOver_0 {d : Nat} {F : am_FT} {L : am_LT} {Q : am_QT} {l0 l1 l3 l4 : Option Value} {x2 : Int32} : wt am_S0 d mX9_monthsOver 0 [l0, l1, some (.int x2), l3, l4] [] F L Q = wt am_S0 d mX9_monthsOver 5 [l0, l1, some (.int x2), some (.int 0), some (.int 0)] [] F L Q := (wt_iconst dX9_monthsOver_0 (v := 0) (by decide)).trans ((wt_istore_n dX9_monthsOver_1 (lv1 := [l0, l1, some (.int x2), some (.int 0), l4]) (Nat.le_of_ble_eq_true rfl) rfl).trans ((wt_iconst dX9_monthsOver_2 (v := 0) (by decide)).trans (wt_istore dX9_monthsOver_3 (lv1 := [l0, l1, some (.int x2), some (.int 0), some (.int 0)]) (Nat.le_of_ble_eq_true rfl) rfl)))
set_option maxHeartbeats 100000 in
theorem kX9_monthsOver_5 {d : Nat} {F : am_FT} {L : am_LT} {Q : am_QT} {l0 l1 l2 l3 : Option Value} {x4 : Int32} : wt am_S0 d mX9_monthsOver 5 [l0, l1, l2, l3, some (.int x4)] [] F L Q = if 12 ≤ x4 then wt am_S0 d mX9_monthsOver 39 [l0, l1, l2, l3, some (.int x4)] [] F L Q else wt am_S0 d mX9_monthsOver 12 [l0, l1, l2, l3, some (.int x4)] [] F L Q := (wt_iload dX9_monthsOver_5 rfl).trans ((wt_bipush dX9_monthsOver_7 (v := 12) (by decide)).trans (wt_if_icmp_ge dX9_monthsOver_9 (t := 39) rfl))
set_option maxHeartbeats 100000 in
theorem kX9_monthsOver_12 {d : Nat} {F : am_FT} {L : am_LT} {Q : am_QT} {l3 : Option Value} {x1 x4 x2 : Int32} : wt am_S0 (d + 1) mX9_monthsOver 12 [some (.ref 12), some (.int x1), some (.int x2), l3, some (.int x4)] [] F L Q = wc am_S0 d mX5_shades [.ref 1, .int x1, .int x4, .int x2] F L (fun r G K => wt am_S0 (d + 1) mX9_monthsOver 23 [some (.ref 12), some (.int x1), some (.int x2), l3, some (.int x4)] (r.toList ++ []) G K Q) := (wt_aload_n dX9_monthsOver_12 rfl rfl).trans ((wt_getfield dX9_monthsOver_13 rfl rfl (v := .ref 1) rfl).trans ((wt_iload_n dX9_monthsOver_16 rfl).trans ((wt_iload dX9_monthsOver_17 rfl).trans ((wt_iload_n dX9_monthsOver_19 rfl).trans (wt_callV dX9_monthsOver_20 rfl (as := [.int x1, .int x4, .int x2]) (rest := []) rfl rfl (Nat.le_of_ble_eq_true rfl) rfl (Nat.le_of_ble_eq_true rfl))))))
set_option maxHeartbeats 100000 in
theorem kX9_monthsOver_23 {d : Nat} {F : am_FT} {L : am_LT} {Q : am_QT} {l0 l1 l2 l3 l4 : Option Value} {s0 : Int32} : wt am_S0 d mX9_monthsOver 23 [l0, l1, l2, l3, l4] [.int s0] F L Q = if s0 = 0 then wt am_S0 d mX9_monthsOver 33 [l0, l1, l2, l3, l4] [] F L Q else wt am_S0 d mX9_monthsOver 26 [l0, l1, l2, l3, l4] [] F L Q := wt_ifCond_eq dX9_monthsOver_23 (t := 33) rfl
set_option maxHeartbeats 100000 in
theorem kX9_monthsOver_26 {d : Nat} {F : am_FT} {L : am_LT} {Q : am_QT} {l0 l1 : Option Value} {x3 x4 x2 : Int32} : wt am_S0 d mX9_monthsOver 26 [l0, l1, some (.int x2), some (.int x3), some (.int x4)] [] F L Q = wt am_S0 d mX9_monthsOver 33 [l0, l1, some (.int x2), some (.int (x3 ||| ((1 : Int32) <<< (x4 &&& 31)))), some (.int x4)] [] F L Q := (wt_iload_n dX9_monthsOver_26 rfl).trans ((wt_iconst dX9_monthsOver_27 (v := 1) (by decide)).trans ((wt_iload dX9_monthsOver_28 rfl).trans ((wt_ishl dX9_monthsOver_30).trans ((wt_ior dX9_monthsOver_31).trans (wt_istore_n dX9_monthsOver_32 (lv1 := [l0, l1, some (.int x2), some (.int (x3 ||| ((1 : Int32) <<< (x4 &&& 31)))), some (.int x4)]) (Nat.le_of_ble_eq_true rfl) rfl)))))
set_option maxHeartbeats 100000 in
theorem kX9_monthsOver_33 {d : Nat} {F : am_FT} {L : am_LT} {Q : am_QT} {l0 l1 l2 : Option Value} {x4 x3 : Int32} : wt am_S0 d mX9_monthsOver 33 [l0, l1, l2, some (.int x3), some (.int x4)] [] F L Q = wt am_S0 d mX9_monthsOver 5 [l0, l1, l2, some (.int x3), some (.int (x4 + 1))] [] F L Q := (wt_iinc dX9_monthsOver_33 (v := 1) (lv1 := [l0, l1, l2, some (.int x3), some (.int (x4 + 1))]) rfl (Nat.le_of_ble_eq_true rfl) (by decide) rfl).trans (wt_goto dX9_monthsOver_36 (t := 5) rfl)
set_option maxHeartbeats 100000 in
theorem kX9_monthsOver_39 {d : Nat} {F : am_FT} {L : am_LT} {Q : am_QT} {l0 l1 l2 l4 : Option Value} {x3 : Int32} : wt am_S0 d mX9_monthsOver 39 [l0, l1, l2, some (.int x3), l4] [] F L Q = Q (some (.int x3)) F L := (wt_iload_n dX9_monthsOver_39 rfl).trans (wt_ireturn dX9_monthsOver_40 rfl rfl)
theorem dX9_sameShade_0 : decode mX9_sameShade.2.2.1 0 = .ok (.iconst 0, 1) := by decide +kernel
theorem dX9_sameShade_1 : decode mX9_sameShade.2.2.1 1 = .ok (.istore 4, 2) := by decide +kernel
theorem dX9_sameShade_3 : decode mX9_sameShade.2.2.1 3 = .ok (.iload 4, 2) := by decide +kernel
theorem dX9_sameShade_5 : decode mX9_sameShade.2.2.1 5 = .ok (.sipush 256, 3) := by decide +kernel
theorem dX9_sameShade_8 : decode mX9_sameShade.2.2.1 8 = .ok (.if_icmp .ge 36, 3) := by decide +kernel
theorem dX9_sameShade_11 : decode mX9_sameShade.2.2.1 11 = .ok (.aload_n 0, 1) := by decide +kernel
theorem dX9_sameShade_12 : decode mX9_sameShade.2.2.1 12 = .ok (.getfield 15, 3) := by decide +kernel
theorem dX9_sameShade_15 : decode mX9_sameShade.2.2.1 15 = .ok (.iload_n 1, 1) := by decide +kernel
theorem dX9_sameShade_16 : decode mX9_sameShade.2.2.1 16 = .ok (.iload_n 3, 1) := by decide +kernel
theorem dX9_sameShade_17 : decode mX9_sameShade.2.2.1 17 = .ok (.iload 4, 2) := by decide +kernel
theorem dX9_sameShade_19 : decode mX9_sameShade.2.2.1 19 = .ok (.invokevirtual 84, 3) := by decide +kernel
theorem dX9_sameShade_22 : decode mX9_sameShade.2.2.1 22 = .ok (.aload_n 0, 1) := by decide +kernel
theorem dX9_sameShade_23 : decode mX9_sameShade.2.2.1 23 = .ok (.getfield 15, 3) := by decide +kernel
theorem dX9_sameShade_26 : decode mX9_sameShade.2.2.1 26 = .ok (.iload_n 2, 1) := by decide +kernel
theorem dX9_sameShade_27 : decode mX9_sameShade.2.2.1 27 = .ok (.iload_n 3, 1) := by decide +kernel
theorem dX9_sameShade_28 : decode mX9_sameShade.2.2.1 28 = .ok (.iload 4, 2) := by decide +kernel
theorem dX9_sameShade_30 : decode mX9_sameShade.2.2.1 30 = .ok (.invokevirtual 84, 3) := by decide +kernel
theorem dX9_sameShade_33 : decode mX9_sameShade.2.2.1 33 = .ok (.if_icmp .eq 5, 3) := by decide +kernel
theorem dX9_sameShade_36 : decode mX9_sameShade.2.2.1 36 = .ok (.iconst 0, 1) := by decide +kernel
theorem dX9_sameShade_37 : decode mX9_sameShade.2.2.1 37 = .ok (.ireturn, 1) := by decide +kernel
theorem dX9_sameShade_38 : decode mX9_sameShade.2.2.1 38 = .ok (.iinc 4 1, 3) := by decide +kernel
theorem dX9_sameShade_41 : decode mX9_sameShade.2.2.1 41 = .ok (.goto (-38), 3) := by decide +kernel
theorem dX9_sameShade_44 : decode mX9_sameShade.2.2.1 44 = .ok (.iconst 1, 1) := by decide +kernel
theorem dX9_sameShade_45 : decode mX9_sameShade.2.2.1 45 = .ok (.ireturn, 1) := by decide +kernel
set_option maxHeartbeats 100000 in
theorem kX9_sameShade_0 {d : Nat} {F : am_FT} {L : am_LT} {Q : am_QT} {l0 l1 l2 l4 : Option Value} {x3 : Int32} : wt am_S0 d mX9_sameShade 0 [l0, l1, l2, some (.int x3), l4] [] F L Q = wt am_S0 d mX9_sameShade 3 [l0, l1, l2, some (.int x3), some (.int 0)] [] F L Q := (wt_iconst dX9_sameShade_0 (v := 0) (by decide)).trans (wt_istore dX9_sameShade_1 (lv1 := [l0, l1, l2, some (.int x3), some (.int 0)]) (Nat.le_of_ble_eq_true rfl) rfl)
set_option maxHeartbeats 100000 in
theorem kX9_sameShade_3 {d : Nat} {F : am_FT} {L : am_LT} {Q : am_QT} {l0 l1 l2 l3 : Option Value} {x4 : Int32} : wt am_S0 d mX9_sameShade 3 [l0, l1, l2, l3, some (.int x4)] [] F L Q = if 256 ≤ x4 then wt am_S0 d mX9_sameShade 44 [l0, l1, l2, l3, some (.int x4)] [] F L Q else wt am_S0 d mX9_sameShade 11 [l0, l1, l2, l3, some (.int x4)] [] F L Q := (wt_iload dX9_sameShade_3 rfl).trans ((wt_sipush dX9_sameShade_5 (v := 256) (by decide)).trans (wt_if_icmp_ge dX9_sameShade_8 (t := 44) rfl))
set_option maxHeartbeats 100000 in
theorem kX9_sameShade_11 {d : Nat} {F : am_FT} {L : am_LT} {Q : am_QT} {l2 : Option Value} {x1 x3 x4 : Int32} : wt am_S0 (d + 1) mX9_sameShade 11 [some (.ref 12), some (.int x1), l2, some (.int x3), some (.int x4)] [] F L Q = wc am_S0 d mX5_shades [.ref 1, .int x1, .int x3, .int x4] F L (fun r G K => wt am_S0 (d + 1) mX9_sameShade 22 [some (.ref 12), some (.int x1), l2, some (.int x3), some (.int x4)] (r.toList ++ []) G K Q) := (wt_aload_n dX9_sameShade_11 rfl rfl).trans ((wt_getfield dX9_sameShade_12 rfl rfl (v := .ref 1) rfl).trans ((wt_iload_n dX9_sameShade_15 rfl).trans ((wt_iload_n dX9_sameShade_16 rfl).trans ((wt_iload dX9_sameShade_17 rfl).trans (wt_callV dX9_sameShade_19 rfl (as := [.int x1, .int x3, .int x4]) (rest := []) rfl rfl (Nat.le_of_ble_eq_true rfl) rfl (Nat.le_of_ble_eq_true rfl))))))
set_option maxHeartbeats 100000 in
theorem kX9_sameShade_22 {d : Nat} {F : am_FT} {L : am_LT} {Q : am_QT} {l1 : Option Value} {s0 x2 x3 x4 : Int32} : wt am_S0 (d + 1) mX9_sameShade 22 [some (.ref 12), l1, some (.int x2), some (.int x3), some (.int x4)] [.int s0] F L Q = wc am_S0 d mX5_shades [.ref 1, .int x2, .int x3, .int x4] F L (fun r G K => wt am_S0 (d + 1) mX9_sameShade 33 [some (.ref 12), l1, some (.int x2), some (.int x3), some (.int x4)] (r.toList ++ [.int s0]) G K Q) := (wt_aload_n dX9_sameShade_22 rfl rfl).trans ((wt_getfield dX9_sameShade_23 rfl rfl (v := .ref 1) rfl).trans ((wt_iload_n dX9_sameShade_26 rfl).trans ((wt_iload_n dX9_sameShade_27 rfl).trans ((wt_iload dX9_sameShade_28 rfl).trans (wt_callV dX9_sameShade_30 rfl (as := [.int x2, .int x3, .int x4]) (rest := [.int s0]) rfl rfl (Nat.le_of_ble_eq_true rfl) rfl (Nat.le_of_ble_eq_true rfl))))))
set_option maxHeartbeats 100000 in
theorem kX9_sameShade_33 {d : Nat} {F : am_FT} {L : am_LT} {Q : am_QT} {l0 l1 l2 l3 l4 : Option Value} {s0 s1 : Int32} : wt am_S0 d mX9_sameShade 33 [l0, l1, l2, l3, l4] [.int s1, .int s0] F L Q = if s0 = s1 then wt am_S0 d mX9_sameShade 38 [l0, l1, l2, l3, l4] [] F L Q else wt am_S0 d mX9_sameShade 36 [l0, l1, l2, l3, l4] [] F L Q := wt_if_icmp_eq dX9_sameShade_33 (t := 38) rfl
set_option maxHeartbeats 100000 in
theorem kX9_sameShade_36 {d : Nat} {F : am_FT} {L : am_LT} {Q : am_QT} {l0 l1 l2 l3 l4 : Option Value} : wt am_S0 d mX9_sameShade 36 [l0, l1, l2, l3, l4] [] F L Q = Q (some (.int 0)) F L := (wt_iconst dX9_sameShade_36 (v := 0) (by decide)).trans (wt_ireturn dX9_sameShade_37 rfl (by decide))
set_option maxHeartbeats 100000 in
theorem kX9_sameShade_38 {d : Nat} {F : am_FT} {L : am_LT} {Q : am_QT} {l0 l1 l2 : Option Value} {x4 x3 : Int32} : wt am_S0 d mX9_sameShade 38 [l0, l1, l2, some (.int x3), some (.int x4)] [] F L Q = wt am_S0 d mX9_sameShade 3 [l0, l1, l2, some (.int x3), some (.int (x4 + 1))] [] F L Q := (wt_iinc dX9_sameShade_38 (v := 1) (lv1 := [l0, l1, l2, some (.int x3), some (.int (x4 + 1))]) rfl (Nat.le_of_ble_eq_true rfl) (by decide) rfl).trans (wt_goto dX9_sameShade_41 (t := 3) rfl)
set_option maxHeartbeats 100000 in
theorem kX9_sameShade_44 {d : Nat} {F : am_FT} {L : am_LT} {Q : am_QT} {l0 l1 l2 l3 l4 : Option Value} : wt am_S0 d mX9_sameShade 44 [l0, l1, l2, l3, l4] [] F L Q = Q (some (.int 1)) F L := (wt_iconst dX9_sameShade_44 (v := 1) (by decide)).trans (wt_ireturn dX9_sameShade_45 rfl (by decide))
theorem dX9_drawYears_0 : decode mX9_drawYears.2.2.1 0 = .ok (.iconst 0, 1) := by decide +kernel
theorem dX9_drawYears_1 : decode mX9_drawYears.2.2.1 1 = .ok (.istore 5, 2) := by decide +kernel
theorem dX9_drawYears_3 : decode mX9_drawYears.2.2.1 3 = .ok (.iload 5, 2) := by decide +kernel
theorem dX9_drawYears_5 : decode mX9_drawYears.2.2.1 5 = .ok (.bipush 12, 2) := by decide +kernel
theorem dX9_drawYears_7 : decode mX9_drawYears.2.2.1 7 = .ok (.if_icmp .ge 24, 3) := by decide +kernel
theorem dX9_drawYears_10 : decode mX9_drawYears.2.2.1 10 = .ok (.aload_n 0, 1) := by decide +kernel
theorem dX9_drawYears_11 : decode mX9_drawYears.2.2.1 11 = .ok (.getfield 9, 3) := by decide +kernel
theorem dX9_drawYears_14 : decode mX9_drawYears.2.2.1 14 = .ok (.iload 5, 2) := by decide +kernel
theorem dX9_drawYears_16 : decode mX9_drawYears.2.2.1 16 = .ok (.aload_n 0, 1) := by decide +kernel
theorem dX9_drawYears_17 : decode mX9_drawYears.2.2.1 17 = .ok (.iload 5, 2) := by decide +kernel
theorem dX9_drawYears_19 : decode mX9_drawYears.2.2.1 19 = .ok (.invokevirtual 72, 3) := by decide +kernel
theorem dX9_drawYears_22 : decode mX9_drawYears.2.2.1 22 = .ok (.invokestatic 103, 3) := by decide +kernel
theorem dX9_drawYears_25 : decode mX9_drawYears.2.2.1 25 = .ok (.iinc 5 1, 3) := by decide +kernel
theorem dX9_drawYears_28 : decode mX9_drawYears.2.2.1 28 = .ok (.goto (-25), 3) := by decide +kernel
theorem dX9_drawYears_31 : decode mX9_drawYears.2.2.1 31 = .ok (.iload_n 1, 1) := by decide +kernel
theorem dX9_drawYears_32 : decode mX9_drawYears.2.2.1 32 = .ok (.istore 5, 2) := by decide +kernel
theorem dX9_drawYears_34 : decode mX9_drawYears.2.2.1 34 = .ok (.iconst 0, 1) := by decide +kernel
theorem dX9_drawYears_35 : decode mX9_drawYears.2.2.1 35 = .ok (.istore 6, 2) := by decide +kernel
theorem dX9_drawYears_37 : decode mX9_drawYears.2.2.1 37 = .ok (.iconst 0, 1) := by decide +kernel
theorem dX9_drawYears_38 : decode mX9_drawYears.2.2.1 38 = .ok (.istore 7, 2) := by decide +kernel
theorem dX9_drawYears_40 : decode mX9_drawYears.2.2.1 40 = .ok (.iconst 0, 1) := by decide +kernel
theorem dX9_drawYears_41 : decode mX9_drawYears.2.2.1 41 = .ok (.istore 8, 2) := by decide +kernel
theorem dX9_drawYears_43 : decode mX9_drawYears.2.2.1 43 = .ok (.iload 8, 2) := by decide +kernel
theorem dX9_drawYears_45 : decode mX9_drawYears.2.2.1 45 = .ok (.iload_n 2, 1) := by decide +kernel
theorem dX9_drawYears_46 : decode mX9_drawYears.2.2.1 46 = .ok (.if_icmp .ge 108, 3) := by decide +kernel
theorem dX9_drawYears_49 : decode mX9_drawYears.2.2.1 49 = .ok (.aload_n 0, 1) := by decide +kernel
theorem dX9_drawYears_50 : decode mX9_drawYears.2.2.1 50 = .ok (.invokevirtual 63, 3) := by decide +kernel
theorem dX9_drawYears_53 : decode mX9_drawYears.2.2.1 53 = .ok (.istore 9, 2) := by decide +kernel
theorem dX9_drawYears_55 : decode mX9_drawYears.2.2.1 55 = .ok (.iconst 0, 1) := by decide +kernel
theorem dX9_drawYears_56 : decode mX9_drawYears.2.2.1 56 = .ok (.istore 10, 2) := by decide +kernel
theorem dX9_drawYears_58 : decode mX9_drawYears.2.2.1 58 = .ok (.iload 10, 2) := by decide +kernel
theorem dX9_drawYears_60 : decode mX9_drawYears.2.2.1 60 = .ok (.bipush 12, 2) := by decide +kernel
theorem dX9_drawYears_62 : decode mX9_drawYears.2.2.1 62 = .ok (.if_icmp .ge 76, 3) := by decide +kernel
theorem dX9_drawYears_65 : decode mX9_drawYears.2.2.1 65 = .ok (.iload 5, 2) := by decide +kernel
theorem dX9_drawYears_67 : decode mX9_drawYears.2.2.1 67 = .ok (.ldc 107, 2) := by decide +kernel
theorem dX9_drawYears_69 : decode mX9_drawYears.2.2.1 69 = .ok (.imul, 1) := by decide +kernel
theorem dX9_drawYears_70 : decode mX9_drawYears.2.2.1 70 = .ok (.sipush 12345, 3) := by decide +kernel
theorem dX9_drawYears_73 : decode mX9_drawYears.2.2.1 73 = .ok (.iadd, 1) := by decide +kernel
theorem dX9_drawYears_74 : decode mX9_drawYears.2.2.1 74 = .ok (.istore 5, 2) := by decide +kernel
theorem dX9_drawYears_76 : decode mX9_drawYears.2.2.1 76 = .ok (.iload 5, 2) := by decide +kernel
theorem dX9_drawYears_78 : decode mX9_drawYears.2.2.1 78 = .ok (.bipush 8, 2) := by decide +kernel
theorem dX9_drawYears_80 : decode mX9_drawYears.2.2.1 80 = .ok (.iushr, 1) := by decide +kernel
theorem dX9_drawYears_81 : decode mX9_drawYears.2.2.1 81 = .ok (.bipush 12, 2) := by decide +kernel
theorem dX9_drawYears_83 : decode mX9_drawYears.2.2.1 83 = .ok (.irem, 1) := by decide +kernel
theorem dX9_drawYears_84 : decode mX9_drawYears.2.2.1 84 = .ok (.iload_n 3, 1) := by decide +kernel
theorem dX9_drawYears_85 : decode mX9_drawYears.2.2.1 85 = .ok (.if_icmp .ge 6, 3) := by decide +kernel
theorem dX9_drawYears_88 : decode mX9_drawYears.2.2.1 88 = .ok (.goto 44, 3) := by decide +kernel
theorem dX9_drawYears_91 : decode mX9_drawYears.2.2.1 91 = .ok (.iload 9, 2) := by decide +kernel
theorem dX9_drawYears_93 : decode mX9_drawYears.2.2.1 93 = .ok (.aload_n 0, 1) := by decide +kernel
theorem dX9_drawYears_94 : decode mX9_drawYears.2.2.1 94 = .ok (.getfield 9, 3) := by decide +kernel
theorem dX9_drawYears_97 : decode mX9_drawYears.2.2.1 97 = .ok (.iload 10, 2) := by decide +kernel
theorem dX9_drawYears_99 : decode mX9_drawYears.2.2.1 99 = .ok (.invokestatic 108, 3) := by decide +kernel
theorem dX9_drawYears_102 : decode mX9_drawYears.2.2.1 102 = .ok (.iand, 1) := by decide +kernel
theorem dX9_drawYears_103 : decode mX9_drawYears.2.2.1 103 = .ok (.istore 11, 2) := by decide +kernel
theorem dX9_drawYears_105 : decode mX9_drawYears.2.2.1 105 = .ok (.iload 4, 2) := by decide +kernel
theorem dX9_drawYears_107 : decode mX9_drawYears.2.2.1 107 = .ok (.ifCond .lt 16, 3) := by decide +kernel
theorem dX9_drawYears_110 : decode mX9_drawYears.2.2.1 110 = .ok (.iload 11, 2) := by decide +kernel
theorem dX9_drawYears_112 : decode mX9_drawYears.2.2.1 112 = .ok (.iload 4, 2) := by decide +kernel
theorem dX9_drawYears_114 : decode mX9_drawYears.2.2.1 114 = .ok (.invokestatic 112, 3) := by decide +kernel
theorem dX9_drawYears_117 : decode mX9_drawYears.2.2.1 117 = .ok (.ifCond .eq 6, 3) := by decide +kernel
theorem dX9_drawYears_120 : decode mX9_drawYears.2.2.1 120 = .ok (.iinc 6 1, 3) := by decide +kernel
theorem dX9_drawYears_123 : decode mX9_drawYears.2.2.1 123 = .ok (.iload 9, 2) := by decide +kernel
theorem dX9_drawYears_125 : decode mX9_drawYears.2.2.1 125 = .ok (.iload 11, 2) := by decide +kernel
theorem dX9_drawYears_127 : decode mX9_drawYears.2.2.1 127 = .ok (.iconst (-1), 1) := by decide +kernel
theorem dX9_drawYears_128 : decode mX9_drawYears.2.2.1 128 = .ok (.ixor, 1) := by decide +kernel
theorem dX9_drawYears_129 : decode mX9_drawYears.2.2.1 129 = .ok (.iand, 1) := by decide +kernel
theorem dX9_drawYears_130 : decode mX9_drawYears.2.2.1 130 = .ok (.istore 9, 2) := by decide +kernel
theorem dX9_drawYears_132 : decode mX9_drawYears.2.2.1 132 = .ok (.iinc 10 1, 3) := by decide +kernel
theorem dX9_drawYears_135 : decode mX9_drawYears.2.2.1 135 = .ok (.goto (-77), 3) := by decide +kernel
theorem dX9_drawYears_138 : decode mX9_drawYears.2.2.1 138 = .ok (.iload 7, 2) := by decide +kernel
theorem dX9_drawYears_140 : decode mX9_drawYears.2.2.1 140 = .ok (.iload 9, 2) := by decide +kernel
theorem dX9_drawYears_142 : decode mX9_drawYears.2.2.1 142 = .ok (.invokestatic 79, 3) := by decide +kernel
theorem dX9_drawYears_145 : decode mX9_drawYears.2.2.1 145 = .ok (.iadd, 1) := by decide +kernel
theorem dX9_drawYears_146 : decode mX9_drawYears.2.2.1 146 = .ok (.istore 7, 2) := by decide +kernel
theorem dX9_drawYears_148 : decode mX9_drawYears.2.2.1 148 = .ok (.iinc 8 1, 3) := by decide +kernel
theorem dX9_drawYears_151 : decode mX9_drawYears.2.2.1 151 = .ok (.goto (-108), 3) := by decide +kernel
theorem dX9_drawYears_154 : decode mX9_drawYears.2.2.1 154 = .ok (.iload 4, 2) := by decide +kernel
theorem dX9_drawYears_156 : decode mX9_drawYears.2.2.1 156 = .ok (.ifCond .lt 8, 3) := by decide +kernel
theorem dX9_drawYears_159 : decode mX9_drawYears.2.2.1 159 = .ok (.iload 6, 2) := by decide +kernel
theorem dX9_drawYears_161 : decode mX9_drawYears.2.2.1 161 = .ok (.goto 5, 3) := by decide +kernel
theorem dX9_drawYears_164 : decode mX9_drawYears.2.2.1 164 = .ok (.iload 7, 2) := by decide +kernel
theorem dX9_drawYears_166 : decode mX9_drawYears.2.2.1 166 = .ok (.ireturn, 1) := by decide +kernel
set_option maxHeartbeats 100000 in
theorem kX9_drawYears_0 {d : Nat} {F : am_FT} {L : am_LT} {Q : am_QT} {l0 l1 l2 l3 l5 l6 l7 l8 l9 l10 l11 : Option Value} {x4 : Int32} : wt am_S0 d mX9_drawYears 0 [l0, l1, l2, l3, some (.int x4), l5, l6, l7, l8, l9, l10, l11] [] F L Q = wt am_S0 d mX9_drawYears 3 [l0, l1, l2, l3, some (.int x4), some (.int 0), l6, l7, l8, l9, l10, l11] [] F L Q := (wt_iconst dX9_drawYears_0 (v := 0) (by decide)).trans (wt_istore dX9_drawYears_1 (lv1 := [l0, l1, l2, l3, some (.int x4), some (.int 0), l6, l7, l8, l9, l10, l11]) (Nat.le_of_ble_eq_true rfl) rfl)
set_option maxHeartbeats 100000 in
theorem kX9_drawYears_3 {d : Nat} {F : am_FT} {L : am_LT} {Q : am_QT} {l0 l1 l2 l3 l4 l6 l7 l8 l9 l10 l11 : Option Value} {x5 : Int32} : wt am_S0 d mX9_drawYears 3 [l0, l1, l2, l3, l4, some (.int x5), l6, l7, l8, l9, l10, l11] [] F L Q = if 12 ≤ x5 then wt am_S0 d mX9_drawYears 31 [l0, l1, l2, l3, l4, some (.int x5), l6, l7, l8, l9, l10, l11] [] F L Q else wt am_S0 d mX9_drawYears 10 [l0, l1, l2, l3, l4, some (.int x5), l6, l7, l8, l9, l10, l11] [] F L Q := (wt_iload dX9_drawYears_3 rfl).trans ((wt_bipush dX9_drawYears_5 (v := 12) (by decide)).trans (wt_if_icmp_ge dX9_drawYears_7 (t := 31) rfl))
set_option maxHeartbeats 100000 in
theorem kX9_drawYears_10 {d : Nat} {F : am_FT} {L : am_LT} {Q : am_QT} {l1 l2 l3 l4 l6 l7 l8 l9 l10 l11 : Option Value} {x5 : Int32} : wt am_S0 (d + 1) mX9_drawYears 10 [some (.ref 12), l1, l2, l3, l4, some (.int x5), l6, l7, l8, l9, l10, l11] [] F L Q = wc am_S0 d mX9_falling [.ref 12, .int x5] F L (fun r G K => wt am_S0 (d + 1) mX9_drawYears 22 [some (.ref 12), l1, l2, l3, l4, some (.int x5), l6, l7, l8, l9, l10, l11] (r.toList ++ [.int x5, .ref 13]) G K Q) := (wt_aload_n dX9_drawYears_10 rfl rfl).trans ((wt_getfield dX9_drawYears_11 rfl rfl (v := .ref 13) rfl).trans ((wt_iload dX9_drawYears_14 rfl).trans ((wt_aload_n dX9_drawYears_16 rfl rfl).trans ((wt_iload dX9_drawYears_17 rfl).trans (wt_callV dX9_drawYears_19 rfl (as := [.int x5]) (rest := [.int x5, .ref 13]) rfl rfl (Nat.le_of_ble_eq_true rfl) rfl (Nat.le_of_ble_eq_true rfl))))))
set_option maxHeartbeats 100000 in
theorem kX9_drawYears_22 {d : Nat} {F : am_FT} {L : am_LT} {Q : am_QT} {l0 l1 l2 l3 l4 l5 l6 l7 l8 l9 l10 l11 : Option Value} {s1 s2 : Int32} : wt am_S0 (d + 1) mX9_drawYears 22 [l0, l1, l2, l3, l4, l5, l6, l7, l8, l9, l10, l11] [.int s2, .int s1, .ref 13] F L Q = wc am_S0 d mX11_lay [.ref 13, .int s1, .int s2] F L (fun r G K => wt am_S0 (d + 1) mX9_drawYears 25 [l0, l1, l2, l3, l4, l5, l6, l7, l8, l9, l10, l11] (r.toList ++ []) G K Q) := wt_callS dX9_drawYears_22 rfl (as := [.ref 13, .int s1, .int s2]) (rest := []) rfl rfl (Nat.le_of_ble_eq_true rfl) (Nat.le_of_ble_eq_true rfl)
set_option maxHeartbeats 100000 in
theorem kX9_drawYears_25 {d : Nat} {F : am_FT} {L : am_LT} {Q : am_QT} {l0 l1 l2 l3 l6 l7 l8 l9 l10 l11 : Option Value} {x5 x4 : Int32} : wt am_S0 d mX9_drawYears 25 [l0, l1, l2, l3, some (.int x4), some (.int x5), l6, l7, l8, l9, l10, l11] [] F L Q = wt am_S0 d mX9_drawYears 3 [l0, l1, l2, l3, some (.int x4), some (.int (x5 + 1)), l6, l7, l8, l9, l10, l11] [] F L Q := (wt_iinc dX9_drawYears_25 (v := 1) (lv1 := [l0, l1, l2, l3, some (.int x4), some (.int (x5 + 1)), l6, l7, l8, l9, l10, l11]) rfl (Nat.le_of_ble_eq_true rfl) (by decide) rfl).trans (wt_goto dX9_drawYears_28 (t := 3) rfl)
set_option maxHeartbeats 100000 in
theorem kX9_drawYears_31 {d : Nat} {F : am_FT} {L : am_LT} {Q : am_QT} {l0 l2 l3 l5 l6 l7 l8 l9 l10 l11 : Option Value} {x1 x4 : Int32} : wt am_S0 d mX9_drawYears 31 [l0, some (.int x1), l2, l3, some (.int x4), l5, l6, l7, l8, l9, l10, l11] [] F L Q = wt am_S0 d mX9_drawYears 43 [l0, some (.int x1), l2, l3, some (.int x4), some (.int x1), some (.int 0), some (.int 0), some (.int 0), l9, l10, l11] [] F L Q := (wt_iload_n dX9_drawYears_31 rfl).trans ((wt_istore dX9_drawYears_32 (lv1 := [l0, some (.int x1), l2, l3, some (.int x4), some (.int x1), l6, l7, l8, l9, l10, l11]) (Nat.le_of_ble_eq_true rfl) rfl).trans ((wt_iconst dX9_drawYears_34 (v := 0) (by decide)).trans ((wt_istore dX9_drawYears_35 (lv1 := [l0, some (.int x1), l2, l3, some (.int x4), some (.int x1), some (.int 0), l7, l8, l9, l10, l11]) (Nat.le_of_ble_eq_true rfl) rfl).trans ((wt_iconst dX9_drawYears_37 (v := 0) (by decide)).trans ((wt_istore dX9_drawYears_38 (lv1 := [l0, some (.int x1), l2, l3, some (.int x4), some (.int x1), some (.int 0), some (.int 0), l8, l9, l10, l11]) (Nat.le_of_ble_eq_true rfl) rfl).trans ((wt_iconst dX9_drawYears_40 (v := 0) (by decide)).trans (wt_istore dX9_drawYears_41 (lv1 := [l0, some (.int x1), l2, l3, some (.int x4), some (.int x1), some (.int 0), some (.int 0), some (.int 0), l9, l10, l11]) (Nat.le_of_ble_eq_true rfl) rfl)))))))
set_option maxHeartbeats 100000 in
theorem kX9_drawYears_43 {d : Nat} {F : am_FT} {L : am_LT} {Q : am_QT} {l0 l1 l3 l4 l5 l6 l7 l9 l10 l11 : Option Value} {x8 x2 : Int32} : wt am_S0 d mX9_drawYears 43 [l0, l1, some (.int x2), l3, l4, l5, l6, l7, some (.int x8), l9, l10, l11] [] F L Q = if x2 ≤ x8 then wt am_S0 d mX9_drawYears 154 [l0, l1, some (.int x2), l3, l4, l5, l6, l7, some (.int x8), l9, l10, l11] [] F L Q else wt am_S0 d mX9_drawYears 49 [l0, l1, some (.int x2), l3, l4, l5, l6, l7, some (.int x8), l9, l10, l11] [] F L Q := (wt_iload dX9_drawYears_43 rfl).trans ((wt_iload_n dX9_drawYears_45 rfl).trans (wt_if_icmp_ge dX9_drawYears_46 (t := 154) rfl))
set_option maxHeartbeats 100000 in
theorem kX9_drawYears_49 {d : Nat} {F : am_FT} {L : am_LT} {Q : am_QT} {l1 l2 l3 l4 l5 l6 l7 l8 l9 l10 l11 : Option Value} : wt am_S0 (d + 1) mX9_drawYears 49 [some (.ref 12), l1, l2, l3, l4, l5, l6, l7, l8, l9, l10, l11] [] F L Q = wc am_S0 d mX9_standing [.ref 12] F L (fun r G K => wt am_S0 (d + 1) mX9_drawYears 53 [some (.ref 12), l1, l2, l3, l4, l5, l6, l7, l8, l9, l10, l11] (r.toList ++ []) G K Q) := (wt_aload_n dX9_drawYears_49 rfl rfl).trans (wt_callV dX9_drawYears_50 rfl (as := []) (rest := []) rfl rfl (Nat.le_of_ble_eq_true rfl) rfl (Nat.le_of_ble_eq_true rfl))
set_option maxHeartbeats 100000 in
theorem kX9_drawYears_53 {d : Nat} {F : am_FT} {L : am_LT} {Q : am_QT} {l0 l1 l2 l3 l4 l5 l6 l7 l9 l10 l11 : Option Value} {s0 x8 : Int32} : wt am_S0 d mX9_drawYears 53 [l0, l1, l2, l3, l4, l5, l6, l7, some (.int x8), l9, l10, l11] [.int s0] F L Q = wt am_S0 d mX9_drawYears 58 [l0, l1, l2, l3, l4, l5, l6, l7, some (.int x8), some (.int s0), some (.int 0), l11] [] F L Q := (wt_istore dX9_drawYears_53 (lv1 := [l0, l1, l2, l3, l4, l5, l6, l7, some (.int x8), some (.int s0), l10, l11]) (Nat.le_of_ble_eq_true rfl) rfl).trans ((wt_iconst dX9_drawYears_55 (v := 0) (by decide)).trans (wt_istore dX9_drawYears_56 (lv1 := [l0, l1, l2, l3, l4, l5, l6, l7, some (.int x8), some (.int s0), some (.int 0), l11]) (Nat.le_of_ble_eq_true rfl) rfl))
set_option maxHeartbeats 100000 in
theorem kX9_drawYears_58 {d : Nat} {F : am_FT} {L : am_LT} {Q : am_QT} {l0 l1 l2 l3 l4 l5 l6 l7 l8 l9 l11 : Option Value} {x10 : Int32} : wt am_S0 d mX9_drawYears 58 [l0, l1, l2, l3, l4, l5, l6, l7, l8, l9, some (.int x10), l11] [] F L Q = if 12 ≤ x10 then wt am_S0 d mX9_drawYears 138 [l0, l1, l2, l3, l4, l5, l6, l7, l8, l9, some (.int x10), l11] [] F L Q else wt am_S0 d mX9_drawYears 65 [l0, l1, l2, l3, l4, l5, l6, l7, l8, l9, some (.int x10), l11] [] F L Q := (wt_iload dX9_drawYears_58 rfl).trans ((wt_bipush dX9_drawYears_60 (v := 12) (by decide)).trans (wt_if_icmp_ge dX9_drawYears_62 (t := 138) rfl))
set_option maxHeartbeats 100000 in
theorem kX9_drawYears_65 {d : Nat} {F : am_FT} {L : am_LT} {Q : am_QT} {l0 l1 l2 l6 l7 l8 l9 l10 l11 : Option Value} {x5 x4 x3 : Int32} : wt am_S0 d mX9_drawYears 65 [l0, l1, l2, some (.int x3), some (.int x4), some (.int x5), l6, l7, l8, l9, l10, l11] [] F L Q = if x3 ≤ ((Int32.toUInt32 ((x5 * 1103515245) + 12345) >>> (Int32.toUInt32 8 &&& Int32.toUInt32 31)).toInt32 - (Int32.toUInt32 ((x5 * 1103515245) + 12345) >>> (Int32.toUInt32 8 &&& Int32.toUInt32 31)).toInt32 / 12 * 12) then wt am_S0 d mX9_drawYears 91 [l0, l1, l2, some (.int x3), some (.int x4), some (.int ((x5 * 1103515245) + 12345)), l6, l7, l8, l9, l10, l11] [] F L Q else wt am_S0 d mX9_drawYears 88 [l0, l1, l2, some (.int x3), some (.int x4), some (.int ((x5 * 1103515245) + 12345)), l6, l7, l8, l9, l10, l11] [] F L Q := (wt_iload dX9_drawYears_65 rfl).trans ((wt_ldc dX9_drawYears_67 (v := 1103515245) rfl).trans ((wt_imul dX9_drawYears_69).trans ((wt_sipush dX9_drawYears_70 (v := 12345) (by decide)).trans ((wt_iadd dX9_drawYears_73).trans ((wt_istore dX9_drawYears_74 (lv1 := [l0, l1, l2, some (.int x3), some (.int x4), some (.int ((x5 * 1103515245) + 12345)), l6, l7, l8, l9, l10, l11]) (Nat.le_of_ble_eq_true rfl) rfl).trans ((wt_iload dX9_drawYears_76 rfl).trans ((wt_bipush dX9_drawYears_78 (v := 8) (by decide)).trans ((wt_iushr dX9_drawYears_80).trans ((wt_bipush dX9_drawYears_81 (v := 12) (by decide)).trans ((wt_irem dX9_drawYears_83 (by decide)).trans ((wt_iload_n dX9_drawYears_84 rfl).trans (wt_if_icmp_ge dX9_drawYears_85 (t := 91) rfl))))))))))))
set_option maxHeartbeats 100000 in
theorem kX9_drawYears_88 {d : Nat} {F : am_FT} {L : am_LT} {Q : am_QT} {l0 l1 l2 l3 l4 l5 l6 l7 l8 l9 l10 l11 : Option Value} : wt am_S0 d mX9_drawYears 88 [l0, l1, l2, l3, l4, l5, l6, l7, l8, l9, l10, l11] [] F L Q = wt am_S0 d mX9_drawYears 132 [l0, l1, l2, l3, l4, l5, l6, l7, l8, l9, l10, l11] [] F L Q := wt_goto dX9_drawYears_88 (t := 132) rfl
set_option maxHeartbeats 100000 in
theorem kX9_drawYears_91 {d : Nat} {F : am_FT} {L : am_LT} {Q : am_QT} {l1 l2 l3 l4 l5 l6 l7 l8 l11 : Option Value} {x9 x10 : Int32} : wt am_S0 (d + 1) mX9_drawYears 91 [some (.ref 12), l1, l2, l3, l4, l5, l6, l7, l8, some (.int x9), some (.int x10), l11] [] F L Q = wc am_S0 d mX11_at [.ref 13, .int x10] F L (fun r G K => wt am_S0 (d + 1) mX9_drawYears 102 [some (.ref 12), l1, l2, l3, l4, l5, l6, l7, l8, some (.int x9), some (.int x10), l11] (r.toList ++ [.int x9]) G K Q) := (wt_iload dX9_drawYears_91 rfl).trans ((wt_aload_n dX9_drawYears_93 rfl rfl).trans ((wt_getfield dX9_drawYears_94 rfl rfl (v := .ref 13) rfl).trans ((wt_iload dX9_drawYears_97 rfl).trans (wt_callS dX9_drawYears_99 rfl (as := [.ref 13, .int x10]) (rest := [.int x9]) rfl rfl (Nat.le_of_ble_eq_true rfl) (Nat.le_of_ble_eq_true rfl)))))
set_option maxHeartbeats 100000 in
theorem kX9_drawYears_102 {d : Nat} {F : am_FT} {L : am_LT} {Q : am_QT} {l0 l1 l2 l3 l5 l6 l7 l8 l9 l11 : Option Value} {s0 s1 x10 x4 : Int32} : wt am_S0 d mX9_drawYears 102 [l0, l1, l2, l3, some (.int x4), l5, l6, l7, l8, l9, some (.int x10), l11] [.int s1, .int s0] F L Q = if x4 < 0 then wt am_S0 d mX9_drawYears 123 [l0, l1, l2, l3, some (.int x4), l5, l6, l7, l8, l9, some (.int x10), some (.int (s0 &&& s1))] [] F L Q else wt am_S0 d mX9_drawYears 110 [l0, l1, l2, l3, some (.int x4), l5, l6, l7, l8, l9, some (.int x10), some (.int (s0 &&& s1))] [] F L Q := (wt_iand dX9_drawYears_102).trans ((wt_istore dX9_drawYears_103 (lv1 := [l0, l1, l2, l3, some (.int x4), l5, l6, l7, l8, l9, some (.int x10), some (.int (s0 &&& s1))]) (Nat.le_of_ble_eq_true rfl) rfl).trans ((wt_iload dX9_drawYears_105 rfl).trans (wt_ifCond_lt dX9_drawYears_107 (t := 123) rfl)))
set_option maxHeartbeats 100000 in
theorem kX9_drawYears_110 {d : Nat} {F : am_FT} {L : am_LT} {Q : am_QT} {l0 l1 l2 l3 l5 l6 l7 l8 l9 l10 : Option Value} {x11 x4 : Int32} : wt am_S0 (d + 1) mX9_drawYears 110 [l0, l1, l2, l3, some (.int x4), l5, l6, l7, l8, l9, l10, some (.int x11)] [] F L Q = wc am_S0 d mX11_holds [.int x11, .int x4] F L (fun r G K => wt am_S0 (d + 1) mX9_drawYears 117 [l0, l1, l2, l3, some (.int x4), l5, l6, l7, l8, l9, l10, some (.int x11)] (r.toList ++ []) G K Q) := (wt_iload dX9_drawYears_110 rfl).trans ((wt_iload dX9_drawYears_112 rfl).trans (wt_callS dX9_drawYears_114 rfl (as := [.int x11, .int x4]) (rest := []) rfl rfl (Nat.le_of_ble_eq_true rfl) (Nat.le_of_ble_eq_true rfl)))
set_option maxHeartbeats 100000 in
theorem kX9_drawYears_117 {d : Nat} {F : am_FT} {L : am_LT} {Q : am_QT} {l0 l1 l2 l3 l4 l5 l6 l7 l8 l9 l10 l11 : Option Value} {s0 : Int32} : wt am_S0 d mX9_drawYears 117 [l0, l1, l2, l3, l4, l5, l6, l7, l8, l9, l10, l11] [.int s0] F L Q = if s0 = 0 then wt am_S0 d mX9_drawYears 123 [l0, l1, l2, l3, l4, l5, l6, l7, l8, l9, l10, l11] [] F L Q else wt am_S0 d mX9_drawYears 120 [l0, l1, l2, l3, l4, l5, l6, l7, l8, l9, l10, l11] [] F L Q := wt_ifCond_eq dX9_drawYears_117 (t := 123) rfl
set_option maxHeartbeats 100000 in
theorem kX9_drawYears_120 {d : Nat} {F : am_FT} {L : am_LT} {Q : am_QT} {l0 l1 l2 l3 l4 l7 l8 l9 l10 l11 : Option Value} {x6 x5 : Int32} : wt am_S0 d mX9_drawYears 120 [l0, l1, l2, l3, l4, some (.int x5), some (.int x6), l7, l8, l9, l10, l11] [] F L Q = wt am_S0 d mX9_drawYears 123 [l0, l1, l2, l3, l4, some (.int x5), some (.int (x6 + 1)), l7, l8, l9, l10, l11] [] F L Q := wt_iinc dX9_drawYears_120 (v := 1) (lv1 := [l0, l1, l2, l3, l4, some (.int x5), some (.int (x6 + 1)), l7, l8, l9, l10, l11]) rfl (Nat.le_of_ble_eq_true rfl) (by decide) rfl
set_option maxHeartbeats 100000 in
theorem kX9_drawYears_123 {d : Nat} {F : am_FT} {L : am_LT} {Q : am_QT} {l0 l1 l2 l3 l4 l5 l6 l7 l10 : Option Value} {x9 x11 x8 : Int32} : wt am_S0 d mX9_drawYears 123 [l0, l1, l2, l3, l4, l5, l6, l7, some (.int x8), some (.int x9), l10, some (.int x11)] [] F L Q = wt am_S0 d mX9_drawYears 132 [l0, l1, l2, l3, l4, l5, l6, l7, some (.int x8), some (.int (x9 &&& (x11 ^^^ (-1)))), l10, some (.int x11)] [] F L Q := (wt_iload dX9_drawYears_123 rfl).trans ((wt_iload dX9_drawYears_125 rfl).trans ((wt_iconst dX9_drawYears_127 (v := (-1)) (by decide)).trans ((wt_ixor dX9_drawYears_128).trans ((wt_iand dX9_drawYears_129).trans (wt_istore dX9_drawYears_130 (lv1 := [l0, l1, l2, l3, l4, l5, l6, l7, some (.int x8), some (.int (x9 &&& (x11 ^^^ (-1)))), l10, some (.int x11)]) (Nat.le_of_ble_eq_true rfl) rfl)))))
set_option maxHeartbeats 100000 in
theorem kX9_drawYears_132 {d : Nat} {F : am_FT} {L : am_LT} {Q : am_QT} {l0 l1 l2 l3 l4 l5 l6 l7 l8 l11 : Option Value} {x10 x9 : Int32} : wt am_S0 d mX9_drawYears 132 [l0, l1, l2, l3, l4, l5, l6, l7, l8, some (.int x9), some (.int x10), l11] [] F L Q = wt am_S0 d mX9_drawYears 58 [l0, l1, l2, l3, l4, l5, l6, l7, l8, some (.int x9), some (.int (x10 + 1)), l11] [] F L Q := (wt_iinc dX9_drawYears_132 (v := 1) (lv1 := [l0, l1, l2, l3, l4, l5, l6, l7, l8, some (.int x9), some (.int (x10 + 1)), l11]) rfl (Nat.le_of_ble_eq_true rfl) (by decide) rfl).trans (wt_goto dX9_drawYears_135 (t := 58) rfl)
set_option maxHeartbeats 100000 in
theorem kX9_drawYears_138 {d : Nat} {F : am_FT} {L : am_LT} {Q : am_QT} {l0 l1 l2 l3 l4 l5 l6 l8 l10 l11 : Option Value} {x7 x9 : Int32} : wt am_S0 (d + 1) mX9_drawYears 138 [l0, l1, l2, l3, l4, l5, l6, some (.int x7), l8, some (.int x9), l10, l11] [] F L Q = wc am_S0 d mJ6_bitCount_0f7a4 [.int x9] F L (fun r G K => wt am_S0 (d + 1) mX9_drawYears 145 [l0, l1, l2, l3, l4, l5, l6, some (.int x7), l8, some (.int x9), l10, l11] (r.toList ++ [.int x7]) G K Q) := (wt_iload dX9_drawYears_138 rfl).trans ((wt_iload dX9_drawYears_140 rfl).trans (wt_callS dX9_drawYears_142 rfl (as := [.int x9]) (rest := [.int x7]) rfl rfl (Nat.le_of_ble_eq_true rfl) (Nat.le_of_ble_eq_true rfl)))
set_option maxHeartbeats 100000 in
theorem kX9_drawYears_145 {d : Nat} {F : am_FT} {L : am_LT} {Q : am_QT} {l0 l1 l2 l3 l4 l5 l7 l9 l10 l11 : Option Value} {s0 s1 x6 x8 : Int32} : wt am_S0 d mX9_drawYears 145 [l0, l1, l2, l3, l4, l5, some (.int x6), l7, some (.int x8), l9, l10, l11] [.int s1, .int s0] F L Q = wt am_S0 d mX9_drawYears 43 [l0, l1, l2, l3, l4, l5, some (.int x6), some (.int (s0 + s1)), some (.int (x8 + 1)), l9, l10, l11] [] F L Q := (wt_iadd dX9_drawYears_145).trans ((wt_istore dX9_drawYears_146 (lv1 := [l0, l1, l2, l3, l4, l5, some (.int x6), some (.int (s0 + s1)), some (.int x8), l9, l10, l11]) (Nat.le_of_ble_eq_true rfl) rfl).trans ((wt_iinc dX9_drawYears_148 (v := 1) (lv1 := [l0, l1, l2, l3, l4, l5, some (.int x6), some (.int (s0 + s1)), some (.int (x8 + 1)), l9, l10, l11]) rfl (Nat.le_of_ble_eq_true rfl) (by decide) rfl).trans (wt_goto dX9_drawYears_151 (t := 43) rfl)))
set_option maxHeartbeats 100000 in
theorem kX9_drawYears_154 {d : Nat} {F : am_FT} {L : am_LT} {Q : am_QT} {l0 l1 l2 l3 l5 l6 l7 l8 l9 l10 l11 : Option Value} {x4 : Int32} : wt am_S0 d mX9_drawYears 154 [l0, l1, l2, l3, some (.int x4), l5, l6, l7, l8, l9, l10, l11] [] F L Q = if x4 < 0 then wt am_S0 d mX9_drawYears 164 [l0, l1, l2, l3, some (.int x4), l5, l6, l7, l8, l9, l10, l11] [] F L Q else wt am_S0 d mX9_drawYears 159 [l0, l1, l2, l3, some (.int x4), l5, l6, l7, l8, l9, l10, l11] [] F L Q := (wt_iload dX9_drawYears_154 rfl).trans (wt_ifCond_lt dX9_drawYears_156 (t := 164) rfl)
set_option maxHeartbeats 100000 in
theorem kX9_drawYears_159 {d : Nat} {F : am_FT} {L : am_LT} {Q : am_QT} {l0 l1 l2 l3 l4 l5 l7 l8 l9 l10 l11 : Option Value} {x6 : Int32} : wt am_S0 d mX9_drawYears 159 [l0, l1, l2, l3, l4, l5, some (.int x6), l7, l8, l9, l10, l11] [] F L Q = wt am_S0 d mX9_drawYears 166 [l0, l1, l2, l3, l4, l5, some (.int x6), l7, l8, l9, l10, l11] [.int x6] F L Q := (wt_iload dX9_drawYears_159 rfl).trans (wt_goto dX9_drawYears_161 (t := 166) rfl)
set_option maxHeartbeats 100000 in
theorem kX9_drawYears_164 {d : Nat} {F : am_FT} {L : am_LT} {Q : am_QT} {l0 l1 l2 l3 l4 l5 l6 l8 l9 l10 l11 : Option Value} {x7 : Int32} : wt am_S0 d mX9_drawYears 164 [l0, l1, l2, l3, l4, l5, l6, some (.int x7), l8, l9, l10, l11] [] F L Q = wt am_S0 d mX9_drawYears 166 [l0, l1, l2, l3, l4, l5, l6, some (.int x7), l8, l9, l10, l11] [.int x7] F L Q := wt_iload dX9_drawYears_164 rfl
set_option maxHeartbeats 100000 in
theorem kX9_drawYears_166 {d : Nat} {F : am_FT} {L : am_LT} {Q : am_QT} {l0 l1 l2 l3 l4 l5 l6 l7 l8 l9 l10 l11 : Option Value} {s0 : Int32} : wt am_S0 d mX9_drawYears 166 [l0, l1, l2, l3, l4, l5, l6, l7, l8, l9, l10, l11] [.int s0] F L Q = Q (some (.int s0)) F L := wt_ireturn dX9_drawYears_166 rfl rfl
