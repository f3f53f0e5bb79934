theorem dX5_write_0 : decode mX5_write.2.2.1 0 = .ok (.aload_n 0, 1) := by decide +kernel
theorem dX5_write_1 : decode mX5_write.2.2.1 1 = .ok (.getfield 9, 3) := by decide +kernel
theorem dX5_write_4 : decode mX5_write.2.2.1 4 = .ok (.iload_n 2, 1) := by decide +kernel
theorem dX5_write_5 : decode mX5_write.2.2.1 5 = .ok (.bipush 12, 2) := by decide +kernel
theorem dX5_write_7 : decode mX5_write.2.2.1 7 = .ok (.imul, 1) := by decide +kernel
theorem dX5_write_8 : decode mX5_write.2.2.1 8 = .ok (.iload_n 1, 1) := by decide +kernel
theorem dX5_write_9 : decode mX5_write.2.2.1 9 = .ok (.iadd, 1) := by decide +kernel
theorem dX5_write_10 : decode mX5_write.2.2.1 10 = .ok (.iload_n 3, 1) := by decide +kernel
theorem dX5_write_11 : decode mX5_write.2.2.1 11 = .ok (.invokestatic 47, 3) := by decide +kernel
theorem dX5_write_14 : decode mX5_write.2.2.1 14 = .ok (.return_, 1) := by decide +kernel
set_option maxHeartbeats 100000 in
theorem kX5_write_0 {d : Nat} {F : am_FT} {L : am_LT} {Q : am_QT} {x2 x1 x3 : Int32} : wt am_S0 (d + 1) mX5_write 0 [some (.ref 1), some (.int x1), some (.int x2), some (.int x3)] [] F L Q = wc am_S0 d mX11_lay [.ref 2, .int ((x2 * 12) + x1), .int x3] F L (fun r G K => wt am_S0 (d + 1) mX5_write 14 [some (.ref 1), some (.int x1), some (.int x2), some (.int x3)] (r.toList ++ []) G K Q) := (wt_aload_n dX5_write_0 rfl rfl).trans ((wt_getfield dX5_write_1 rfl rfl (v := .ref 2) rfl).trans ((wt_iload_n dX5_write_4 rfl).trans ((wt_bipush dX5_write_5 (v := 12) (by decide)).trans ((wt_imul dX5_write_7).trans ((wt_iload_n dX5_write_8 rfl).trans ((wt_iadd dX5_write_9).trans ((wt_iload_n dX5_write_10 rfl).trans (wt_callS dX5_write_11 rfl (as := [.ref 2, .int ((x2 * 12) + x1), .int x3]) (rest := []) rfl rfl (Nat.le_of_ble_eq_true rfl) (Nat.le_of_ble_eq_true rfl)))))))))
set_option maxHeartbeats 100000 in
theorem kX5_write_14 {d : Nat} {F : am_FT} {L : am_LT} {Q : am_QT} {l0 l1 l2 l3 : Option Value} : wt am_S0 d mX5_write 14 [l0, l1, l2, l3] [] F L Q = Q none F L := wt_return dX5_write_14 rfl
theorem dX5_fits_0 : decode mX5_fits.2.2.1 0 = .ok (.iload_n 1, 1) := by decide +kernel
theorem dX5_fits_1 : decode mX5_fits.2.2.1 1 = .ok (.iconst 0, 1) := by decide +kernel
theorem dX5_fits_2 : decode mX5_fits.2.2.1 2 = .ok (.bipush 6, 2) := by decide +kernel
theorem dX5_fits_4 : decode mX5_fits.2.2.1 4 = .ok (.invokestatic 37, 3) := by decide +kernel
theorem dX5_fits_7 : decode mX5_fits.2.2.1 7 = .ok (.ifCond .eq 28, 3) := by decide +kernel
theorem dX5_fits_10 : decode mX5_fits.2.2.1 10 = .ok (.iload_n 2, 1) := by decide +kernel
theorem dX5_fits_11 : decode mX5_fits.2.2.1 11 = .ok (.getstatic 41, 3) := by decide +kernel
theorem dX5_fits_14 : decode mX5_fits.2.2.1 14 = .ok (.iload_n 1, 1) := by decide +kernel
theorem dX5_fits_15 : decode mX5_fits.2.2.1 15 = .ok (.invokestatic 18, 3) := by decide +kernel
theorem dX5_fits_18 : decode mX5_fits.2.2.1 18 = .ok (.getstatic 44, 3) := by decide +kernel
theorem dX5_fits_21 : decode mX5_fits.2.2.1 21 = .ok (.iload_n 1, 1) := by decide +kernel
theorem dX5_fits_22 : decode mX5_fits.2.2.1 22 = .ok (.invokestatic 18, 3) := by decide +kernel
theorem dX5_fits_25 : decode mX5_fits.2.2.1 25 = .ok (.invokestatic 37, 3) := by decide +kernel
theorem dX5_fits_28 : decode mX5_fits.2.2.1 28 = .ok (.ifCond .eq 7, 3) := by decide +kernel
theorem dX5_fits_31 : decode mX5_fits.2.2.1 31 = .ok (.iconst 1, 1) := by decide +kernel
theorem dX5_fits_32 : decode mX5_fits.2.2.1 32 = .ok (.goto 4, 3) := by decide +kernel
theorem dX5_fits_35 : decode mX5_fits.2.2.1 35 = .ok (.iconst 0, 1) := by decide +kernel
theorem dX5_fits_36 : decode mX5_fits.2.2.1 36 = .ok (.ireturn, 1) := by decide +kernel
set_option maxHeartbeats 100000 in
theorem kX5_fits_0 {d : Nat} {F : am_FT} {L : am_LT} {Q : am_QT} {l0 l2 : Option Value} {x1 : Int32} : wt am_S0 (d + 1) mX5_fits 0 [l0, some (.int x1), l2] [] F L Q = wc am_S0 d mX11_within [.int x1, .int 0, .int 6] F L (fun r G K => wt am_S0 (d + 1) mX5_fits 7 [l0, some (.int x1), l2] (r.toList ++ []) G K Q) := (wt_iload_n dX5_fits_0 rfl).trans ((wt_iconst dX5_fits_1 (v := 0) (by decide)).trans ((wt_bipush dX5_fits_2 (v := 6) (by decide)).trans (wt_callS dX5_fits_4 rfl (as := [.int x1, .int 0, .int 6]) (rest := []) rfl rfl (Nat.le_of_ble_eq_true rfl) (Nat.le_of_ble_eq_true rfl))))
set_option maxHeartbeats 100000 in
theorem kX5_fits_7 {d : Nat} {F : am_FT} {L : am_LT} {Q : am_QT} {l0 l1 l2 : Option Value} {s0 : Int32} : wt am_S0 d mX5_fits 7 [l0, l1, l2] [.int s0] F L Q = if s0 = 0 then wt am_S0 d mX5_fits 35 [l0, l1, l2] [] F L Q else wt am_S0 d mX5_fits 10 [l0, l1, l2] [] F L Q := wt_ifCond_eq dX5_fits_7 (t := 35) rfl
set_option maxHeartbeats 100000 in
theorem kX5_fits_10 {d : Nat} {F : am_FT} {L : am_LT} {Q : am_QT} {l0 : Option Value} {x2 x1 : Int32} : wt am_S0 (d + 1) mX5_fits 10 [l0, some (.int x1), some (.int x2)] [] F L Q = wc am_S0 d mX11_at [.ref 1001, .int x1] F L (fun r G K => wt am_S0 (d + 1) mX5_fits 18 [l0, some (.int x1), some (.int x2)] (r.toList ++ [.int x2]) G K Q) := (wt_iload_n dX5_fits_10 rfl).trans ((wt_getstatic dX5_fits_11 rfl).trans ((wt_iload_n dX5_fits_14 rfl).trans (wt_callS dX5_fits_15 rfl (as := [.ref 1001, .int x1]) (rest := [.int x2]) rfl rfl (Nat.le_of_ble_eq_true rfl) (Nat.le_of_ble_eq_true rfl))))
set_option maxHeartbeats 100000 in
theorem kX5_fits_18 {d : Nat} {F : am_FT} {L : am_LT} {Q : am_QT} {l0 l2 : Option Value} {s0 s1 x1 : Int32} : wt am_S0 (d + 1) mX5_fits 18 [l0, some (.int x1), l2] [.int s1, .int s0] F L Q = wc am_S0 d mX11_at [.ref 1002, .int x1] F L (fun r G K => wt am_S0 (d + 1) mX5_fits 25 [l0, some (.int x1), l2] (r.toList ++ [.int s1, .int s0]) G K Q) := (wt_getstatic dX5_fits_18 rfl).trans ((wt_iload_n dX5_fits_21 rfl).trans (wt_callS dX5_fits_22 rfl (as := [.ref 1002, .int x1]) (rest := [.int s1, .int s0]) rfl rfl (Nat.le_of_ble_eq_true rfl) (Nat.le_of_ble_eq_true rfl)))
set_option maxHeartbeats 100000 in
theorem kX5_fits_25 {d : Nat} {F : am_FT} {L : am_LT} {Q : am_QT} {l0 l1 l2 : Option Value} {s0 s1 s2 : Int32} : wt am_S0 (d + 1) mX5_fits 25 [l0, l1, l2] [.int s2, .int s1, .int s0] F L Q = wc am_S0 d mX11_within [.int s0, .int s1, .int s2] F L (fun r G K => wt am_S0 (d + 1) mX5_fits 28 [l0, l1, l2] (r.toList ++ []) G K Q) := wt_callS dX5_fits_25 rfl (as := [.int s0, .int s1, .int s2]) (rest := []) rfl rfl (Nat.le_of_ble_eq_true rfl) (Nat.le_of_ble_eq_true rfl)
set_option maxHeartbeats 100000 in
theorem kX5_fits_28 {d : Nat} {F : am_FT} {L : am_LT} {Q : am_QT} {l0 l1 l2 : Option Value} {s0 : Int32} : wt am_S0 d mX5_fits 28 [l0, l1, l2] [.int s0] F L Q = if s0 = 0 then wt am_S0 d mX5_fits 35 [l0, l1, l2] [] F L Q else wt am_S0 d mX5_fits 31 [l0, l1, l2] [] F L Q := wt_ifCond_eq dX5_fits_28 (t := 35) rfl
set_option maxHeartbeats 100000 in
theorem kX5_fits_31 {d : Nat} {F : am_FT} {L : am_LT} {Q : am_QT} {l0 l1 l2 : Option Value} : wt am_S0 d mX5_fits 31 [l0, l1, l2] [] F L Q = wt am_S0 d mX5_fits 36 [l0, l1, l2] [.int 1] F L Q := (wt_iconst dX5_fits_31 (v := 1) (by decide)).trans (wt_goto dX5_fits_32 (t := 36) rfl)
set_option maxHeartbeats 100000 in
theorem kX5_fits_35 {d : Nat} {F : am_FT} {L : am_LT} {Q : am_QT} {l0 l1 l2 : Option Value} : wt am_S0 d mX5_fits 35 [l0, l1, l2] [] F L Q = wt am_S0 d mX5_fits 36 [l0, l1, l2] [.int 0] F L Q := wt_iconst dX5_fits_35 (v := 0) (by decide)
set_option maxHeartbeats 100000 in
theorem kX5_fits_36 {d : Nat} {F : am_FT} {L : am_LT} {Q : am_QT} {l0 l1 l2 : Option Value} {s0 : Int32} (h1 : narrow .boolean (.int s0) = .int s0) : wt am_S0 d mX5_fits 36 [l0, l1, l2] [.int s0] F L Q = Q (some (.int s0)) F L := wt_ireturn dX5_fits_36 rfl h1
theorem dX5_addTree_0 : decode mX5_addTree.2.2.1 0 = .ok (.aload_n 0, 1) := by decide +kernel
theorem dX5_addTree_1 : decode mX5_addTree.2.2.1 1 = .ok (.getfield 26, 3) := by decide +kernel
theorem dX5_addTree_4 : decode mX5_addTree.2.2.1 4 = .ok (.bipush 6, 2) := by decide +kernel
theorem dX5_addTree_6 : decode mX5_addTree.2.2.1 6 = .ok (.if_icmp .lt 6, 3) := by decide +kernel
theorem dX5_addTree_9 : decode mX5_addTree.2.2.1 9 = .ok (.bipush (-3), 2) := by decide +kernel
theorem dX5_addTree_11 : decode mX5_addTree.2.2.1 11 = .ok (.ireturn, 1) := by decide +kernel
theorem dX5_addTree_12 : decode mX5_addTree.2.2.1 12 = .ok (.aload_n 0, 1) := by decide +kernel
theorem dX5_addTree_13 : decode mX5_addTree.2.2.1 13 = .ok (.aload_n 0, 1) := by decide +kernel
theorem dX5_addTree_14 : decode mX5_addTree.2.2.1 14 = .ok (.getfield 26, 3) := by decide +kernel
theorem dX5_addTree_17 : decode mX5_addTree.2.2.1 17 = .ok (.iconst 0, 1) := by decide +kernel
theorem dX5_addTree_18 : decode mX5_addTree.2.2.1 18 = .ok (.iload_n 1, 1) := by decide +kernel
theorem dX5_addTree_19 : decode mX5_addTree.2.2.1 19 = .ok (.invokevirtual 22, 3) := by decide +kernel
theorem dX5_addTree_22 : decode mX5_addTree.2.2.1 22 = .ok (.aload_n 0, 1) := by decide +kernel
theorem dX5_addTree_23 : decode mX5_addTree.2.2.1 23 = .ok (.aload_n 0, 1) := by decide +kernel
theorem dX5_addTree_24 : decode mX5_addTree.2.2.1 24 = .ok (.getfield 26, 3) := by decide +kernel
theorem dX5_addTree_27 : decode mX5_addTree.2.2.1 27 = .ok (.iconst 1, 1) := by decide +kernel
theorem dX5_addTree_28 : decode mX5_addTree.2.2.1 28 = .ok (.iload_n 2, 1) := by decide +kernel
theorem dX5_addTree_29 : decode mX5_addTree.2.2.1 29 = .ok (.invokevirtual 22, 3) := by decide +kernel
theorem dX5_addTree_32 : decode mX5_addTree.2.2.1 32 = .ok (.aload_n 0, 1) := by decide +kernel
theorem dX5_addTree_33 : decode mX5_addTree.2.2.1 33 = .ok (.aload_n 0, 1) := by decide +kernel
theorem dX5_addTree_34 : decode mX5_addTree.2.2.1 34 = .ok (.getfield 26, 3) := by decide +kernel
theorem dX5_addTree_37 : decode mX5_addTree.2.2.1 37 = .ok (.iconst 2, 1) := by decide +kernel
theorem dX5_addTree_38 : decode mX5_addTree.2.2.1 38 = .ok (.iconst 1, 1) := by decide +kernel
theorem dX5_addTree_39 : decode mX5_addTree.2.2.1 39 = .ok (.invokevirtual 22, 3) := by decide +kernel
theorem dX5_addTree_42 : decode mX5_addTree.2.2.1 42 = .ok (.aload_n 0, 1) := by decide +kernel
theorem dX5_addTree_43 : decode mX5_addTree.2.2.1 43 = .ok (.aload_n 0, 1) := by decide +kernel
theorem dX5_addTree_44 : decode mX5_addTree.2.2.1 44 = .ok (.getfield 26, 3) := by decide +kernel
theorem dX5_addTree_47 : decode mX5_addTree.2.2.1 47 = .ok (.bipush 7, 2) := by decide +kernel
theorem dX5_addTree_49 : decode mX5_addTree.2.2.1 49 = .ok (.iconst 1, 1) := by decide +kernel
theorem dX5_addTree_50 : decode mX5_addTree.2.2.1 50 = .ok (.invokevirtual 22, 3) := by decide +kernel
theorem dX5_addTree_53 : decode mX5_addTree.2.2.1 53 = .ok (.aload_n 0, 1) := by decide +kernel
theorem dX5_addTree_54 : decode mX5_addTree.2.2.1 54 = .ok (.dup, 1) := by decide +kernel
theorem dX5_addTree_55 : decode mX5_addTree.2.2.1 55 = .ok (.getfield 26, 3) := by decide +kernel
theorem dX5_addTree_58 : decode mX5_addTree.2.2.1 58 = .ok (.dup_x1, 1) := by decide +kernel
theorem dX5_addTree_59 : decode mX5_addTree.2.2.1 59 = .ok (.iconst 1, 1) := by decide +kernel
theorem dX5_addTree_60 : decode mX5_addTree.2.2.1 60 = .ok (.iadd, 1) := by decide +kernel
theorem dX5_addTree_61 : decode mX5_addTree.2.2.1 61 = .ok (.putfield 26, 3) := by decide +kernel
theorem dX5_addTree_64 : decode mX5_addTree.2.2.1 64 = .ok (.ireturn, 1) := by decide +kernel
set_option maxHeartbeats 100000 in
theorem kX5_addTree_0 {d : Nat} {F : am_FT} {L : am_LT} {Q : am_QT} {l1 l2 : Option Value} : wt am_S0 d mX5_addTree 0 [some (.ref 1), l1, l2] [] F L Q = if (F 1 1) < 6 then wt am_S0 d mX5_addTree 12 [some (.ref 1), l1, l2] [] F L Q else wt am_S0 d mX5_addTree 9 [some (.ref 1), l1, l2] [] F L Q := (wt_aload_n dX5_addTree_0 rfl rfl).trans ((wt_getfield dX5_addTree_1 rfl rfl (v := .int (F 1 1)) rfl).trans ((wt_bipush dX5_addTree_4 (v := 6) (by decide)).trans (wt_if_icmp_lt dX5_addTree_6 (t := 12) rfl)))
set_option maxHeartbeats 100000 in
theorem kX5_addTree_9 {d : Nat} {F : am_FT} {L : am_LT} {Q : am_QT} {l0 l1 l2 : Option Value} : wt am_S0 d mX5_addTree 9 [l0, l1, l2] [] F L Q = Q (some (.int (-3))) F L := (wt_bipush dX5_addTree_9 (v := (-3)) (by decide)).trans (wt_ireturn dX5_addTree_11 rfl rfl)
set_option maxHeartbeats 100000 in
theorem kX5_addTree_12 {d : Nat} {F : am_FT} {L : am_LT} {Q : am_QT} {l2 : Option Value} {x1 : Int32} : wt am_S0 (d + 1) mX5_addTree 12 [some (.ref 1), some (.int x1), l2] [] F L Q = wc am_S0 d mX5_write [.ref 1, .int (F 1 1), .int 0, .int x1] F L (fun r G K => wt am_S0 (d + 1) mX5_addTree 22 [some (.ref 1), some (.int x1), l2] (r.toList ++ []) G K Q) := (wt_aload_n dX5_addTree_12 rfl rfl).trans ((wt_aload_n dX5_addTree_13 rfl rfl).trans ((wt_getfield dX5_addTree_14 rfl rfl (v := .int (F 1 1)) rfl).trans ((wt_iconst dX5_addTree_17 (v := 0) (by decide)).trans ((wt_iload_n dX5_addTree_18 rfl).trans (wt_callV dX5_addTree_19 rfl (as := [.int (F 1 1), .int 0, .int x1]) (rest := []) rfl rfl (Nat.le_of_ble_eq_true rfl) rfl (Nat.le_of_ble_eq_true rfl))))))
set_option maxHeartbeats 100000 in
theorem kX5_addTree_22 {d : Nat} {F : am_FT} {L : am_LT} {Q : am_QT} {l1 : Option Value} {x2 : Int32} : wt am_S0 (d + 1) mX5_addTree 22 [some (.ref 1), l1, some (.int x2)] [] F L Q = wc am_S0 d mX5_write [.ref 1, .int (F 1 1), .int 1, .int x2] F L (fun r G K => wt am_S0 (d + 1) mX5_addTree 32 [some (.ref 1), l1, some (.int x2)] (r.toList ++ []) G K Q) := (wt_aload_n dX5_addTree_22 rfl rfl).trans ((wt_aload_n dX5_addTree_23 rfl rfl).trans ((wt_getfield dX5_addTree_24 rfl rfl (v := .int (F 1 1)) rfl).trans ((wt_iconst dX5_addTree_27 (v := 1) (by decide)).trans ((wt_iload_n dX5_addTree_28 rfl).trans (wt_callV dX5_addTree_29 rfl (as := [.int (F 1 1), .int 1, .int x2]) (rest := []) rfl rfl (Nat.le_of_ble_eq_true rfl) rfl (Nat.le_of_ble_eq_true rfl))))))
set_option maxHeartbeats 100000 in
theorem kX5_addTree_32 {d : Nat} {F : am_FT} {L : am_LT} {Q : am_QT} {l1 l2 : Option Value} : wt am_S0 (d + 1) mX5_addTree 32 [some (.ref 1), l1, l2] [] F L Q = wc am_S0 d mX5_write [.ref 1, .int (F 1 1), .int 2, .int 1] F L (fun r G K => wt am_S0 (d + 1) mX5_addTree 42 [some (.ref 1), l1, l2] (r.toList ++ []) G K Q) := (wt_aload_n dX5_addTree_32 rfl rfl).trans ((wt_aload_n dX5_addTree_33 rfl rfl).trans ((wt_getfield dX5_addTree_34 rfl rfl (v := .int (F 1 1)) rfl).trans ((wt_iconst dX5_addTree_37 (v := 2) (by decide)).trans ((wt_iconst dX5_addTree_38 (v := 1) (by decide)).trans (wt_callV dX5_addTree_39 rfl (as := [.int (F 1 1), .int 2, .int 1]) (rest := []) rfl rfl (Nat.le_of_ble_eq_true rfl) rfl (Nat.le_of_ble_eq_true rfl))))))
set_option maxHeartbeats 100000 in
theorem kX5_addTree_42 {d : Nat} {F : am_FT} {L : am_LT} {Q : am_QT} {l1 l2 : Option Value} : wt am_S0 (d + 1) mX5_addTree 42 [some (.ref 1), l1, l2] [] F L Q = wc am_S0 d mX5_write [.ref 1, .int (F 1 1), .int 7, .int 1] F L (fun r G K => wt am_S0 (d + 1) mX5_addTree 53 [some (.ref 1), l1, l2] (r.toList ++ []) G K Q) := (wt_aload_n dX5_addTree_42 rfl rfl).trans ((wt_aload_n dX5_addTree_43 rfl rfl).trans ((wt_getfield dX5_addTree_44 rfl rfl (v := .int (F 1 1)) rfl).trans ((wt_bipush dX5_addTree_47 (v := 7) (by decide)).trans ((wt_iconst dX5_addTree_49 (v := 1) (by decide)).trans (wt_callV dX5_addTree_50 rfl (as := [.int (F 1 1), .int 7, .int 1]) (rest := []) rfl rfl (Nat.le_of_ble_eq_true rfl) rfl (Nat.le_of_ble_eq_true rfl))))))
set_option maxHeartbeats 100000 in
theorem kX5_addTree_53 {d : Nat} {F : am_FT} {L : am_LT} {Q : am_QT} {l1 l2 : Option Value} : wt am_S0 d mX5_addTree 53 [some (.ref 1), l1, l2] [] F L Q = Q (some (.int (F 1 1))) (am_upF F 1 1 ((F 1 1) + 1)) L := (wt_aload_n dX5_addTree_53 rfl rfl).trans ((wt_dup dX5_addTree_54 rfl).trans ((wt_getfield dX5_addTree_55 rfl rfl (v := .int (F 1 1)) rfl).trans ((wt_dup_x1 dX5_addTree_58 ⟨rfl, rfl⟩).trans ((wt_iconst dX5_addTree_59 (v := 1) (by decide)).trans ((wt_iadd dX5_addTree_60).trans ((wt_putfield dX5_addTree_61 rfl rfl ⟨rfl, rfl, rfl, rfl⟩).trans (wt_ireturn dX5_addTree_64 rfl rfl)))))))
theorem dX5_addPerson_0 : decode mX5_addPerson.2.2.1 0 = .ok (.aload_n 0, 1) := by decide +kernel
theorem dX5_addPerson_1 : decode mX5_addPerson.2.2.1 1 = .ok (.getfield 30, 3) := by decide +kernel
theorem dX5_addPerson_4 : decode mX5_addPerson.2.2.1 4 = .ok (.bipush 10, 2) := by decide +kernel
theorem dX5_addPerson_6 : decode mX5_addPerson.2.2.1 6 = .ok (.if_icmp .lt 6, 3) := by decide +kernel
theorem dX5_addPerson_9 : decode mX5_addPerson.2.2.1 9 = .ok (.bipush (-3), 2) := by decide +kernel
theorem dX5_addPerson_11 : decode mX5_addPerson.2.2.1 11 = .ok (.ireturn, 1) := by decide +kernel
theorem dX5_addPerson_12 : decode mX5_addPerson.2.2.1 12 = .ok (.aload_n 0, 1) := by decide +kernel
theorem dX5_addPerson_13 : decode mX5_addPerson.2.2.1 13 = .ok (.aload_n 0, 1) := by decide +kernel
theorem dX5_addPerson_14 : decode mX5_addPerson.2.2.1 14 = .ok (.getfield 30, 3) := by decide +kernel
theorem dX5_addPerson_17 : decode mX5_addPerson.2.2.1 17 = .ok (.iconst 4, 1) := by decide +kernel
theorem dX5_addPerson_18 : decode mX5_addPerson.2.2.1 18 = .ok (.iload_n 1, 1) := by decide +kernel
theorem dX5_addPerson_19 : decode mX5_addPerson.2.2.1 19 = .ok (.invokevirtual 22, 3) := by decide +kernel
theorem dX5_addPerson_22 : decode mX5_addPerson.2.2.1 22 = .ok (.aload_n 0, 1) := by decide +kernel
theorem dX5_addPerson_23 : decode mX5_addPerson.2.2.1 23 = .ok (.aload_n 0, 1) := by decide +kernel
theorem dX5_addPerson_24 : decode mX5_addPerson.2.2.1 24 = .ok (.getfield 30, 3) := by decide +kernel
theorem dX5_addPerson_27 : decode mX5_addPerson.2.2.1 27 = .ok (.iconst 5, 1) := by decide +kernel
theorem dX5_addPerson_28 : decode mX5_addPerson.2.2.1 28 = .ok (.iload_n 2, 1) := by decide +kernel
theorem dX5_addPerson_29 : decode mX5_addPerson.2.2.1 29 = .ok (.invokevirtual 22, 3) := by decide +kernel
theorem dX5_addPerson_32 : decode mX5_addPerson.2.2.1 32 = .ok (.aload_n 0, 1) := by decide +kernel
theorem dX5_addPerson_33 : decode mX5_addPerson.2.2.1 33 = .ok (.aload_n 0, 1) := by decide +kernel
theorem dX5_addPerson_34 : decode mX5_addPerson.2.2.1 34 = .ok (.getfield 30, 3) := by decide +kernel
theorem dX5_addPerson_37 : decode mX5_addPerson.2.2.1 37 = .ok (.bipush 6, 2) := by decide +kernel
theorem dX5_addPerson_39 : decode mX5_addPerson.2.2.1 39 = .ok (.iload_n 3, 1) := by decide +kernel
theorem dX5_addPerson_40 : decode mX5_addPerson.2.2.1 40 = .ok (.invokevirtual 22, 3) := by decide +kernel
theorem dX5_addPerson_43 : decode mX5_addPerson.2.2.1 43 = .ok (.aload_n 0, 1) := by decide +kernel
theorem dX5_addPerson_44 : decode mX5_addPerson.2.2.1 44 = .ok (.dup, 1) := by decide +kernel
theorem dX5_addPerson_45 : decode mX5_addPerson.2.2.1 45 = .ok (.getfield 30, 3) := by decide +kernel
theorem dX5_addPerson_48 : decode mX5_addPerson.2.2.1 48 = .ok (.dup_x1, 1) := by decide +kernel
theorem dX5_addPerson_49 : decode mX5_addPerson.2.2.1 49 = .ok (.iconst 1, 1) := by decide +kernel
theorem dX5_addPerson_50 : decode mX5_addPerson.2.2.1 50 = .ok (.iadd, 1) := by decide +kernel
theorem dX5_addPerson_51 : decode mX5_addPerson.2.2.1 51 = .ok (.putfield 30, 3) := by decide +kernel
theorem dX5_addPerson_54 : decode mX5_addPerson.2.2.1 54 = .ok (.ireturn, 1) := by decide +kernel
set_option maxHeartbeats 100000 in
theorem kX5_addPerson_0 {d : Nat} {F : am_FT} {L : am_LT} {Q : am_QT} {l1 l2 l3 : Option Value} : wt am_S0 d mX5_addPerson 0 [some (.ref 1), l1, l2, l3] [] F L Q = if (F 1 2) < 10 then wt am_S0 d mX5_addPerson 12 [some (.ref 1), l1, l2, l3] [] F L Q else wt am_S0 d mX5_addPerson 9 [some (.ref 1), l1, l2, l3] [] F L Q := (wt_aload_n dX5_addPerson_0 rfl rfl).trans ((wt_getfield dX5_addPerson_1 rfl rfl (v := .int (F 1 2)) rfl).trans ((wt_bipush dX5_addPerson_4 (v := 10) (by decide)).trans (wt_if_icmp_lt dX5_addPerson_6 (t := 12) rfl)))
set_option maxHeartbeats 100000 in
theorem kX5_addPerson_9 {d : Nat} {F : am_FT} {L : am_LT} {Q : am_QT} {l0 l1 l2 l3 : Option Value} : wt am_S0 d mX5_addPerson 9 [l0, l1, l2, l3] [] F L Q = Q (some (.int (-3))) F L := (wt_bipush dX5_addPerson_9 (v := (-3)) (by decide)).trans (wt_ireturn dX5_addPerson_11 rfl rfl)
set_option maxHeartbeats 100000 in
theorem kX5_addPerson_12 {d : Nat} {F : am_FT} {L : am_LT} {Q : am_QT} {l2 l3 : Option Value} {x1 : Int32} : wt am_S0 (d + 1) mX5_addPerson 12 [some (.ref 1), some (.int x1), l2, l3] [] F L Q = wc am_S0 d mX5_write [.ref 1, .int (F 1 2), .int 4, .int x1] F L (fun r G K => wt am_S0 (d + 1) mX5_addPerson 22 [some (.ref 1), some (.int x1), l2, l3] (r.toList ++ []) G K Q) := (wt_aload_n dX5_addPerson_12 rfl rfl).trans ((wt_aload_n dX5_addPerson_13 rfl rfl).trans ((wt_getfield dX5_addPerson_14 rfl rfl (v := .int (F 1 2)) rfl).trans ((wt_iconst dX5_addPerson_17 (v := 4) (by decide)).trans ((wt_iload_n dX5_addPerson_18 rfl).trans (wt_callV dX5_addPerson_19 rfl (as := [.int (F 1 2), .int 4, .int x1]) (rest := []) rfl rfl (Nat.le_of_ble_eq_true rfl) rfl (Nat.le_of_ble_eq_true rfl))))))
set_option maxHeartbeats 100000 in
theorem kX5_addPerson_22 {d : Nat} {F : am_FT} {L : am_LT} {Q : am_QT} {l1 l3 : Option Value} {x2 : Int32} : wt am_S0 (d + 1) mX5_addPerson 22 [some (.ref 1), l1, some (.int x2), l3] [] F L Q = wc am_S0 d mX5_write [.ref 1, .int (F 1 2), .int 5, .int x2] F L (fun r G K => wt am_S0 (d + 1) mX5_addPerson 32 [some (.ref 1), l1, some (.int x2), l3] (r.toList ++ []) G K Q) := (wt_aload_n dX5_addPerson_22 rfl rfl).trans ((wt_aload_n dX5_addPerson_23 rfl rfl).trans ((wt_getfield dX5_addPerson_24 rfl rfl (v := .int (F 1 2)) rfl).trans ((wt_iconst dX5_addPerson_27 (v := 5) (by decide)).trans ((wt_iload_n dX5_addPerson_28 rfl).trans (wt_callV dX5_addPerson_29 rfl (as := [.int (F 1 2), .int 5, .int x2]) (rest := []) rfl rfl (Nat.le_of_ble_eq_true rfl) rfl (Nat.le_of_ble_eq_true rfl))))))
set_option maxHeartbeats 100000 in
theorem kX5_addPerson_32 {d : Nat} {F : am_FT} {L : am_LT} {Q : am_QT} {l1 l2 : Option Value} {x3 : Int32} : wt am_S0 (d + 1) mX5_addPerson 32 [some (.ref 1), l1, l2, some (.int x3)] [] F L Q = wc am_S0 d mX5_write [.ref 1, .int (F 1 2), .int 6, .int x3] F L (fun r G K => wt am_S0 (d + 1) mX5_addPerson 43 [some (.ref 1), l1, l2, some (.int x3)] (r.toList ++ []) G K Q) := (wt_aload_n dX5_addPerson_32 rfl rfl).trans ((wt_aload_n dX5_addPerson_33 rfl rfl).trans ((wt_getfield dX5_addPerson_34 rfl rfl (v := .int (F 1 2)) rfl).trans ((wt_bipush dX5_addPerson_37 (v := 6) (by decide)).trans ((wt_iload_n dX5_addPerson_39 rfl).trans (wt_callV dX5_addPerson_40 rfl (as := [.int (F 1 2), .int 6, .int x3]) (rest := []) rfl rfl (Nat.le_of_ble_eq_true rfl) rfl (Nat.le_of_ble_eq_true rfl))))))
set_option maxHeartbeats 100000 in
theorem kX5_addPerson_43 {d : Nat} {F : am_FT} {L : am_LT} {Q : am_QT} {l1 l2 l3 : Option Value} : wt am_S0 d mX5_addPerson 43 [some (.ref 1), l1, l2, l3] [] F L Q = Q (some (.int (F 1 2))) (am_upF F 1 2 ((F 1 2) + 1)) L := (wt_aload_n dX5_addPerson_43 rfl rfl).trans ((wt_dup dX5_addPerson_44 rfl).trans ((wt_getfield dX5_addPerson_45 rfl rfl (v := .int (F 1 2)) rfl).trans ((wt_dup_x1 dX5_addPerson_48 ⟨rfl, rfl⟩).trans ((wt_iconst dX5_addPerson_49 (v := 1) (by decide)).trans ((wt_iadd dX5_addPerson_50).trans ((wt_putfield dX5_addPerson_51 rfl rfl ⟨rfl, rfl, rfl, rfl⟩).trans (wt_ireturn dX5_addPerson_54 rfl rfl)))))))
theorem dX5_has_0 : decode mX5_has.2.2.1 0 = .ok (.iload_n 1, 1) := by decide +kernel
theorem dX5_has_1 : decode mX5_has.2.2.1 1 = .ok (.ifCond .lt 16, 3) := by decide +kernel
theorem dX5_has_4 : decode mX5_has.2.2.1 4 = .ok (.iload_n 1, 1) := by decide +kernel
theorem dX5_has_5 : decode mX5_has.2.2.1 5 = .ok (.aload_n 0, 1) := by decide +kernel
theorem dX5_has_6 : decode mX5_has.2.2.1 6 = .ok (.iload_n 2, 1) := by decide +kernel
theorem dX5_has_7 : decode mX5_has.2.2.1 7 = .ok (.invokevirtual 33, 3) := by decide +kernel
theorem dX5_has_10 : decode mX5_has.2.2.1 10 = .ok (.if_icmp .ge 7, 3) := by decide +kernel
theorem dX5_has_13 : decode mX5_has.2.2.1 13 = .ok (.iconst 1, 1) := by decide +kernel
theorem dX5_has_14 : decode mX5_has.2.2.1 14 = .ok (.goto 4, 3) := by decide +kernel
theorem dX5_has_17 : decode mX5_has.2.2.1 17 = .ok (.iconst 0, 1) := by decide +kernel
theorem dX5_has_18 : decode mX5_has.2.2.1 18 = .ok (.ireturn, 1) := by decide +kernel
set_option maxHeartbeats 100000 in
theorem kX5_has_0 {d : Nat} {F : am_FT} {L : am_LT} {Q : am_QT} {l0 l2 : Option Value} {x1 : Int32} : wt am_S0 d mX5_has 0 [l0, some (.int x1), l2] [] F L Q = if x1 < 0 then wt am_S0 d mX5_has 17 [l0, some (.int x1), l2] [] F L Q else wt am_S0 d mX5_has 4 [l0, some (.int x1), l2] [] F L Q := (wt_iload_n dX5_has_0 rfl).trans (wt_ifCond_lt dX5_has_1 (t := 17) rfl)
set_option maxHeartbeats 100000 in
theorem kX5_has_4 {d : Nat} {F : am_FT} {L : am_LT} {Q : am_QT} {x1 x2 : Int32} : wt am_S0 (d + 1) mX5_has 4 [some (.ref 1), some (.int x1), some (.int x2)] [] F L Q = wc am_S0 d mX5_owners [.ref 1, .int x2] F L (fun r G K => wt am_S0 (d + 1) mX5_has 10 [some (.ref 1), some (.int x1), some (.int x2)] (r.toList ++ [.int x1]) G K Q) := (wt_iload_n dX5_has_4 rfl).trans ((wt_aload_n dX5_has_5 rfl rfl).trans ((wt_iload_n dX5_has_6 rfl).trans (wt_callV dX5_has_7 rfl (as := [.int x2]) (rest := [.int x1]) rfl rfl (Nat.le_of_ble_eq_true rfl) rfl (Nat.le_of_ble_eq_true rfl))))
set_option maxHeartbeats 100000 in
theorem kX5_has_10 {d : Nat} {F : am_FT} {L : am_LT} {Q : am_QT} {l0 l1 l2 : Option Value} {s0 s1 : Int32} : wt am_S0 d mX5_has 10 [l0, l1, l2] [.int s1, .int s0] F L Q = if s1 ≤ s0 then wt am_S0 d mX5_has 17 [l0, l1, l2] [] F L Q else wt am_S0 d mX5_has 13 [l0, l1, l2] [] F L Q := wt_if_icmp_ge dX5_has_10 (t := 17) rfl
set_option maxHeartbeats 100000 in
theorem kX5_has_13 {d : Nat} {F : am_FT} {L : am_LT} {Q : am_QT} {l0 l1 l2 : Option Value} : wt am_S0 d mX5_has 13 [l0, l1, l2] [] F L Q = wt am_S0 d mX5_has 18 [l0, l1, l2] [.int 1] F L Q := (wt_iconst dX5_has_13 (v := 1) (by decide)).trans (wt_goto dX5_has_14 (t := 18) rfl)
set_option maxHeartbeats 100000 in
theorem kX5_has_17 {d : Nat} {F : am_FT} {L : am_LT} {Q : am_QT} {l0 l1 l2 : Option Value} : wt am_S0 d mX5_has 17 [l0, l1, l2] [] F L Q = wt am_S0 d mX5_has 18 [l0, l1, l2] [.int 0] F L Q := wt_iconst dX5_has_17 (v := 0) (by decide)
set_option maxHeartbeats 100000 in
theorem kX5_has_18 {d : Nat} {F : am_FT} {L : am_LT} {Q : am_QT} {l0 l1 l2 : Option Value} {s0 : Int32} (h1 : narrow .boolean (.int s0) = .int s0) : wt am_S0 d mX5_has 18 [l0, l1, l2] [.int s0] F L Q = Q (some (.int s0)) F L := wt_ireturn dX5_has_18 rfl h1
theorem dX5_owners_0 : decode mX5_owners.2.2.1 0 = .ok (.iload_n 1, 1) := by decide +kernel
theorem dX5_owners_1 : decode mX5_owners.2.2.1 1 = .ok (.tableswitch 60 0 7 #[47, 47, 47, 52, 55, 55, 55, 47], 47) := by decide +kernel
theorem dX5_owners_48 : decode mX5_owners.2.2.1 48 = .ok (.aload_n 0, 1) := by decide +kernel
theorem dX5_owners_49 : decode mX5_owners.2.2.1 49 = .ok (.getfield 26, 3) := by decide +kernel
theorem dX5_owners_52 : decode mX5_owners.2.2.1 52 = .ok (.ireturn, 1) := by decide +kernel
theorem dX5_owners_53 : decode mX5_owners.2.2.1 53 = .ok (.bipush 12, 2) := by decide +kernel
theorem dX5_owners_55 : decode mX5_owners.2.2.1 55 = .ok (.ireturn, 1) := by decide +kernel
theorem dX5_owners_56 : decode mX5_owners.2.2.1 56 = .ok (.aload_n 0, 1) := by decide +kernel
theorem dX5_owners_57 : decode mX5_owners.2.2.1 57 = .ok (.getfield 30, 3) := by decide +kernel
theorem dX5_owners_60 : decode mX5_owners.2.2.1 60 = .ok (.ireturn, 1) := by decide +kernel
theorem dX5_owners_61 : decode mX5_owners.2.2.1 61 = .ok (.iconst 0, 1) := by decide +kernel
theorem dX5_owners_62 : decode mX5_owners.2.2.1 62 = .ok (.ireturn, 1) := by decide +kernel
set_option maxHeartbeats 100000 in
theorem kX5_owners_0 {d : Nat} {F : am_FT} {L : am_LT} {Q : am_QT} {l0 : Option Value} {x1 : Int32} : wt am_S0 d mX5_owners 0 [l0, some (.int x1)] [] F L Q = if x1 = 0 then wt am_S0 d mX5_owners 48 [l0, some (.int x1)] [] F L Q else if x1 = 1 then wt am_S0 d mX5_owners 48 [l0, some (.int x1)] [] F L Q else if x1 = 2 then wt am_S0 d mX5_owners 48 [l0, some (.int x1)] [] F L Q else if x1 = 3 then wt am_S0 d mX5_owners 53 [l0, some (.int x1)] [] F L Q else if x1 = 4 then wt am_S0 d mX5_owners 56 [l0, some (.int x1)] [] F L Q else if x1 = 5 then wt am_S0 d mX5_owners 56 [l0, some (.int x1)] [] F L Q else if x1 = 6 then wt am_S0 d mX5_owners 56 [l0, some (.int x1)] [] F L Q else if x1 = 7 then wt am_S0 d mX5_owners 48 [l0, some (.int x1)] [] F L Q else wt am_S0 d mX5_owners 61 [l0, some (.int x1)] [] F L Q := by
  rw [wt_iload_n dX5_owners_0 rfl]
  by_cases g0 : x1 = 0
  · rw [if_pos g0, g0]
    exact wt_tableI dX5_owners_1 (by decide) (off := 47) rfl (t := 48) rfl
  rw [if_neg g0]
  by_cases g1 : x1 = 1
  · rw [if_pos g1, g1]
    exact wt_tableI dX5_owners_1 (by decide) (off := 47) rfl (t := 48) rfl
  rw [if_neg g1]
  by_cases g2 : x1 = 2
  · rw [if_pos g2, g2]
    exact wt_tableI dX5_owners_1 (by decide) (off := 47) rfl (t := 48) rfl
  rw [if_neg g2]
  by_cases g3 : x1 = 3
  · rw [if_pos g3, g3]
    exact wt_tableI dX5_owners_1 (by decide) (off := 52) rfl (t := 53) rfl
  rw [if_neg g3]
  by_cases g4 : x1 = 4
  · rw [if_pos g4, g4]
    exact wt_tableI dX5_owners_1 (by decide) (off := 55) rfl (t := 56) rfl
  rw [if_neg g4]
  by_cases g5 : x1 = 5
  · rw [if_pos g5, g5]
    exact wt_tableI dX5_owners_1 (by decide) (off := 55) rfl (t := 56) rfl
  rw [if_neg g5]
  by_cases g6 : x1 = 6
  · rw [if_pos g6, g6]
    exact wt_tableI dX5_owners_1 (by decide) (off := 55) rfl (t := 56) rfl
  rw [if_neg g6]
  by_cases g7 : x1 = 7
  · rw [if_pos g7, g7]
    exact wt_tableI dX5_owners_1 (by decide) (off := 47) rfl (t := 48) rfl
  rw [if_neg g7]
  have i0 : ¬ ((x1 : Int32)).toInt = 0 := fun z => g0 (Int32.toInt_inj.mp (z.trans (by decide)))
  have i1 : ¬ ((x1 : Int32)).toInt = 1 := fun z => g1 (Int32.toInt_inj.mp (z.trans (by decide)))
  have i2 : ¬ ((x1 : Int32)).toInt = 2 := fun z => g2 (Int32.toInt_inj.mp (z.trans (by decide)))
  have i3 : ¬ ((x1 : Int32)).toInt = 3 := fun z => g3 (Int32.toInt_inj.mp (z.trans (by decide)))
  have i4 : ¬ ((x1 : Int32)).toInt = 4 := fun z => g4 (Int32.toInt_inj.mp (z.trans (by decide)))
  have i5 : ¬ ((x1 : Int32)).toInt = 5 := fun z => g5 (Int32.toInt_inj.mp (z.trans (by decide)))
  have i6 : ¬ ((x1 : Int32)).toInt = 6 := fun z => g6 (Int32.toInt_inj.mp (z.trans (by decide)))
  have i7 : ¬ ((x1 : Int32)).toInt = 7 := fun z => g7 (Int32.toInt_inj.mp (z.trans (by decide)))
  exact wt_tableO dX5_owners_1 (by omega) (t := 61) rfl
set_option maxHeartbeats 100000 in
theorem kX5_owners_48 {d : Nat} {F : am_FT} {L : am_LT} {Q : am_QT} {l1 : Option Value} : wt am_S0 d mX5_owners 48 [some (.ref 1), l1] [] F L Q = Q (some (.int (F 1 1))) F L := (wt_aload_n dX5_owners_48 rfl rfl).trans ((wt_getfield dX5_owners_49 rfl rfl (v := .int (F 1 1)) rfl).trans (wt_ireturn dX5_owners_52 rfl rfl))
set_option maxHeartbeats 100000 in
theorem kX5_owners_53 {d : Nat} {F : am_FT} {L : am_LT} {Q : am_QT} {l0 l1 : Option Value} : wt am_S0 d mX5_owners 53 [l0, l1] [] F L Q = Q (some (.int 12)) F L := (wt_bipush dX5_owners_53 (v := 12) (by decide)).trans (wt_ireturn dX5_owners_55 rfl rfl)
set_option maxHeartbeats 100000 in
theorem kX5_owners_56 {d : Nat} {F : am_FT} {L : am_LT} {Q : am_QT} {l1 : Option Value} : wt am_S0 d mX5_owners 56 [some (.ref 1), l1] [] F L Q = Q (some (.int (F 1 2))) F L := (wt_aload_n dX5_owners_56 rfl rfl).trans ((wt_getfield dX5_owners_57 rfl rfl (v := .int (F 1 2)) rfl).trans (wt_ireturn dX5_owners_60 rfl rfl))
set_option maxHeartbeats 100000 in
theorem kX5_owners_61 {d : Nat} {F : am_FT} {L : am_LT} {Q : am_QT} {l0 l1 : Option Value} : wt am_S0 d mX5_owners 61 [l0, l1] [] F L Q = Q (some (.int 0)) F L := (wt_iconst dX5_owners_61 (v := 0) (by decide)).trans (wt_ireturn dX5_owners_62 rfl rfl)
theorem dX5_read_0 : decode mX5_read.2.2.1 0 = .ok (.iload_n 2, 1) := by decide +kernel
theorem dX5_read_1 : decode mX5_read.2.2.1 1 = .ok (.bipush 12, 2) := by decide +kernel
theorem dX5_read_3 : decode mX5_read.2.2.1 3 = .ok (.imul, 1) := by decide +kernel
theorem dX5_read_4 : decode mX5_read.2.2.1 4 = .ok (.iload_n 1, 1) := by decide +kernel
theorem dX5_read_5 : decode mX5_read.2.2.1 5 = .ok (.iadd, 1) := by decide +kernel
theorem dX5_read_6 : decode mX5_read.2.2.1 6 = .ok (.istore_n 3, 1) := by decide +kernel
theorem dX5_read_7 : decode mX5_read.2.2.1 7 = .ok (.iload_n 3, 1) := by decide +kernel
theorem dX5_read_8 : decode mX5_read.2.2.1 8 = .ok (.ifCond .lt 21, 3) := by decide +kernel
theorem dX5_read_11 : decode mX5_read.2.2.1 11 = .ok (.iload_n 3, 1) := by decide +kernel
theorem dX5_read_12 : decode mX5_read.2.2.1 12 = .ok (.aload_n 0, 1) := by decide +kernel
theorem dX5_read_13 : decode mX5_read.2.2.1 13 = .ok (.getfield 9, 3) := by decide +kernel
theorem dX5_read_16 : decode mX5_read.2.2.1 16 = .ok (.arraylength, 1) := by decide +kernel
theorem dX5_read_17 : decode mX5_read.2.2.1 17 = .ok (.if_icmp .ge 12, 3) := by decide +kernel
theorem dX5_read_20 : decode mX5_read.2.2.1 20 = .ok (.aload_n 0, 1) := by decide +kernel
theorem dX5_read_21 : decode mX5_read.2.2.1 21 = .ok (.getfield 9, 3) := by decide +kernel
theorem dX5_read_24 : decode mX5_read.2.2.1 24 = .ok (.iload_n 3, 1) := by decide +kernel
theorem dX5_read_25 : decode mX5_read.2.2.1 25 = .ok (.iaload, 1) := by decide +kernel
theorem dX5_read_26 : decode mX5_read.2.2.1 26 = .ok (.goto 4, 3) := by decide +kernel
theorem dX5_read_29 : decode mX5_read.2.2.1 29 = .ok (.iconst 0, 1) := by decide +kernel
theorem dX5_read_30 : decode mX5_read.2.2.1 30 = .ok (.ireturn, 1) := by decide +kernel
set_option maxHeartbeats 100000 in
theorem kX5_read_0 {d : Nat} {F : am_FT} {L : am_LT} {Q : am_QT} {l0 l3 : Option Value} {x2 x1 : Int32} : wt am_S0 d mX5_read 0 [l0, some (.int x1), some (.int x2), l3] [] F L Q = if ((x2 * 12) + x1) < 0 then wt am_S0 d mX5_read 29 [l0, some (.int x1), some (.int x2), some (.int ((x2 * 12) + x1))] [] F L Q else wt am_S0 d mX5_read 11 [l0, some (.int x1), some (.int x2), some (.int ((x2 * 12) + x1))] [] F L Q := (wt_iload_n dX5_read_0 rfl).trans ((wt_bipush dX5_read_1 (v := 12) (by decide)).trans ((wt_imul dX5_read_3).trans ((wt_iload_n dX5_read_4 rfl).trans ((wt_iadd dX5_read_5).trans ((wt_istore_n dX5_read_6 (lv1 := [l0, some (.int x1), some (.int x2), some (.int ((x2 * 12) + x1))]) (Nat.le_of_ble_eq_true rfl) rfl).trans ((wt_iload_n dX5_read_7 rfl).trans (wt_ifCond_lt dX5_read_8 (t := 29) rfl)))))))
set_option maxHeartbeats 100000 in
theorem kX5_read_11 {d : Nat} {F : am_FT} {L : am_LT} {Q : am_QT} {l1 l2 : Option Value} {x3 : Int32} : wt am_S0 d mX5_read 11 [some (.ref 1), l1, l2, some (.int x3)] [] F L Q = if 96 ≤ x3 then wt am_S0 d mX5_read 29 [some (.ref 1), l1, l2, some (.int x3)] [] F L Q else wt am_S0 d mX5_read 20 [some (.ref 1), l1, l2, some (.int x3)] [] F L Q := (wt_iload_n dX5_read_11 rfl).trans ((wt_aload_n dX5_read_12 rfl rfl).trans ((wt_getfield dX5_read_13 rfl rfl (v := .ref 2) rfl).trans ((wt_arraylength dX5_read_16 rfl (by decide) (by decide)).trans (wt_if_icmp_ge dX5_read_17 (t := 29) rfl))))
set_option maxHeartbeats 100000 in
theorem kX5_read_20 {d : Nat} {F : am_FT} {L : am_LT} {Q : am_QT} {l1 l2 : Option Value} {x3 : Int32} (h1 : am_oob x3 96 = false) : wt am_S0 d mX5_read 20 [some (.ref 1), l1, l2, some (.int x3)] [] F L Q = wt am_S0 d mX5_read 30 [some (.ref 1), l1, l2, some (.int x3)] [.int (F 2 (Int32.toNatClampNeg x3))] F L Q := (wt_aload_n dX5_read_20 rfl rfl).trans ((wt_getfield dX5_read_21 rfl rfl (v := .ref 2) rfl).trans ((wt_iload_n dX5_read_24 rfl).trans ((wt_iaload dX5_read_25 rfl (by decide) h1).trans (wt_goto dX5_read_26 (t := 30) rfl))))
set_option maxHeartbeats 100000 in
theorem kX5_read_29 {d : Nat} {F : am_FT} {L : am_LT} {Q : am_QT} {l0 l1 l2 l3 : Option Value} : wt am_S0 d mX5_read 29 [l0, l1, l2, l3] [] F L Q = wt am_S0 d mX5_read 30 [l0, l1, l2, l3] [.int 0] F L Q := wt_iconst dX5_read_29 (v := 0) (by decide)
set_option maxHeartbeats 100000 in
theorem kX5_read_30 {d : Nat} {F : am_FT} {L : am_LT} {Q : am_QT} {l0 l1 l2 l3 : Option Value} {s0 : Int32} : wt am_S0 d mX5_read 30 [l0, l1, l2, l3] [.int s0] F L Q = Q (some (.int s0)) F L := wt_ireturn dX5_read_30 rfl rfl
theorem dX5_stands_0 : decode mX5_stands.2.2.1 0 = .ok (.aload_n 0, 1) := by decide +kernel
theorem dX5_stands_1 : decode mX5_stands.2.2.1 1 = .ok (.iload_n 1, 1) := by decide +kernel
theorem dX5_stands_2 : decode mX5_stands.2.2.1 2 = .ok (.bipush 7, 2) := by decide +kernel
theorem dX5_stands_4 : decode mX5_stands.2.2.1 4 = .ok (.invokevirtual 51, 3) := by decide +kernel
theorem dX5_stands_7 : decode mX5_stands.2.2.1 7 = .ok (.iconst 1, 1) := by decide +kernel
theorem dX5_stands_8 : decode mX5_stands.2.2.1 8 = .ok (.if_icmp .ne 7, 3) := by decide +kernel
theorem dX5_stands_11 : decode mX5_stands.2.2.1 11 = .ok (.iconst 1, 1) := by decide +kernel
theorem dX5_stands_12 : decode mX5_stands.2.2.1 12 = .ok (.goto 4, 3) := by decide +kernel
theorem dX5_stands_15 : decode mX5_stands.2.2.1 15 = .ok (.iconst 0, 1) := by decide +kernel
theorem dX5_stands_16 : decode mX5_stands.2.2.1 16 = .ok (.ireturn, 1) := by decide +kernel
set_option maxHeartbeats 100000 in
theorem kX5_stands_0 {d : Nat} {F : am_FT} {L : am_LT} {Q : am_QT} {x1 : Int32} : wt am_S0 (d + 1) mX5_stands 0 [some (.ref 1), some (.int x1)] [] F L Q = wc am_S0 d mX5_read [.ref 1, .int x1, .int 7] F L (fun r G K => wt am_S0 (d + 1) mX5_stands 7 [some (.ref 1), some (.int x1)] (r.toList ++ []) G K Q) := (wt_aload_n dX5_stands_0 rfl rfl).trans ((wt_iload_n dX5_stands_1 rfl).trans ((wt_bipush dX5_stands_2 (v := 7) (by decide)).trans (wt_callV dX5_stands_4 rfl (as := [.int x1, .int 7]) (rest := []) rfl rfl (Nat.le_of_ble_eq_true rfl) rfl (Nat.le_of_ble_eq_true rfl))))
set_option maxHeartbeats 100000 in
theorem kX5_stands_7 {d : Nat} {F : am_FT} {L : am_LT} {Q : am_QT} {l0 l1 : Option Value} {s0 : Int32} : wt am_S0 d mX5_stands 7 [l0, l1] [.int s0] F L Q = if ¬ s0 = 1 then wt am_S0 d mX5_stands 15 [l0, l1] [] F L Q else wt am_S0 d mX5_stands 11 [l0, l1] [] F L Q := (wt_iconst dX5_stands_7 (v := 1) (by decide)).trans (wt_if_icmp_ne dX5_stands_8 (t := 15) rfl)
set_option maxHeartbeats 100000 in
theorem kX5_stands_11 {d : Nat} {F : am_FT} {L : am_LT} {Q : am_QT} {l0 l1 : Option Value} : wt am_S0 d mX5_stands 11 [l0, l1] [] F L Q = wt am_S0 d mX5_stands 16 [l0, l1] [.int 1] F L Q := (wt_iconst dX5_stands_11 (v := 1) (by decide)).trans (wt_goto dX5_stands_12 (t := 16) rfl)
set_option maxHeartbeats 100000 in
theorem kX5_stands_15 {d : Nat} {F : am_FT} {L : am_LT} {Q : am_QT} {l0 l1 : Option Value} : wt am_S0 d mX5_stands 15 [l0, l1] [] F L Q = wt am_S0 d mX5_stands 16 [l0, l1] [.int 0] F L Q := wt_iconst dX5_stands_15 (v := 0) (by decide)
set_option maxHeartbeats 100000 in
theorem kX5_stands_16 {d : Nat} {F : am_FT} {L : am_LT} {Q : am_QT} {l0 l1 : Option Value} {s0 : Int32} (h1 : narrow .boolean (.int s0) = .int s0) : wt am_S0 d mX5_stands 16 [l0, l1] [.int s0] F L Q = Q (some (.int s0)) F L := wt_ireturn dX5_stands_16 rfl h1
theorem dX5_coveredBy_0 : decode mX5_coveredBy.2.2.1 0 = .ok (.aload_n 0, 1) := by decide +kernel
theorem dX5_coveredBy_1 : decode mX5_coveredBy.2.2.1 1 = .ok (.iload_n 1, 1) := by decide +kernel
theorem dX5_coveredBy_2 : decode mX5_coveredBy.2.2.1 2 = .ok (.iconst 0, 1) := by decide +kernel
theorem dX5_coveredBy_3 : decode mX5_coveredBy.2.2.1 3 = .ok (.invokevirtual 51, 3) := by decide +kernel
theorem dX5_coveredBy_6 : decode mX5_coveredBy.2.2.1 6 = .ok (.istore 4, 2) := by decide +kernel
theorem dX5_coveredBy_8 : decode mX5_coveredBy.2.2.1 8 = .ok (.iload_n 3, 1) := by decide +kernel
theorem dX5_coveredBy_9 : decode mX5_coveredBy.2.2.1 9 = .ok (.aload_n 0, 1) := by decide +kernel
theorem dX5_coveredBy_10 : decode mX5_coveredBy.2.2.1 10 = .ok (.iload_n 2, 1) := by decide +kernel
theorem dX5_coveredBy_11 : decode mX5_coveredBy.2.2.1 11 = .ok (.iconst 3, 1) := by decide +kernel
theorem dX5_coveredBy_12 : decode mX5_coveredBy.2.2.1 12 = .ok (.invokevirtual 51, 3) := by decide +kernel
theorem dX5_coveredBy_15 : decode mX5_coveredBy.2.2.1 15 = .ok (.imul, 1) := by decide +kernel
theorem dX5_coveredBy_16 : decode mX5_coveredBy.2.2.1 16 = .ok (.iconst 3, 1) := by decide +kernel
theorem dX5_coveredBy_17 : decode mX5_coveredBy.2.2.1 17 = .ok (.idiv, 1) := by decide +kernel
theorem dX5_coveredBy_18 : decode mX5_coveredBy.2.2.1 18 = .ok (.istore 5, 2) := by decide +kernel
theorem dX5_coveredBy_20 : decode mX5_coveredBy.2.2.1 20 = .ok (.aload_n 0, 1) := by decide +kernel
theorem dX5_coveredBy_21 : decode mX5_coveredBy.2.2.1 21 = .ok (.iload_n 1, 1) := by decide +kernel
theorem dX5_coveredBy_22 : decode mX5_coveredBy.2.2.1 22 = .ok (.iconst 2, 1) := by decide +kernel
theorem dX5_coveredBy_23 : decode mX5_coveredBy.2.2.1 23 = .ok (.invokevirtual 51, 3) := by decide +kernel
theorem dX5_coveredBy_26 : decode mX5_coveredBy.2.2.1 26 = .ok (.istore 6, 2) := by decide +kernel
theorem dX5_coveredBy_28 : decode mX5_coveredBy.2.2.1 28 = .ok (.iconst 0, 1) := by decide +kernel
theorem dX5_coveredBy_29 : decode mX5_coveredBy.2.2.1 29 = .ok (.istore 7, 2) := by decide +kernel
theorem dX5_coveredBy_31 : decode mX5_coveredBy.2.2.1 31 = .ok (.iconst 0, 1) := by decide +kernel
theorem dX5_coveredBy_32 : decode mX5_coveredBy.2.2.1 32 = .ok (.istore 8, 2) := by decide +kernel
theorem dX5_coveredBy_34 : decode mX5_coveredBy.2.2.1 34 = .ok (.iload 8, 2) := by decide +kernel
theorem dX5_coveredBy_36 : decode mX5_coveredBy.2.2.1 36 = .ok (.aload_n 0, 1) := by decide +kernel
theorem dX5_coveredBy_37 : decode mX5_coveredBy.2.2.1 37 = .ok (.getfield 30, 3) := by decide +kernel
theorem dX5_coveredBy_40 : decode mX5_coveredBy.2.2.1 40 = .ok (.if_icmp .ge 37, 3) := by decide +kernel
theorem dX5_coveredBy_43 : decode mX5_coveredBy.2.2.1 43 = .ok (.aload_n 0, 1) := by decide +kernel
theorem dX5_coveredBy_44 : decode mX5_coveredBy.2.2.1 44 = .ok (.iload 8, 2) := by decide +kernel
theorem dX5_coveredBy_46 : decode mX5_coveredBy.2.2.1 46 = .ok (.iconst 4, 1) := by decide +kernel
theorem dX5_coveredBy_47 : decode mX5_coveredBy.2.2.1 47 = .ok (.invokevirtual 51, 3) := by decide +kernel
theorem dX5_coveredBy_50 : decode mX5_coveredBy.2.2.1 50 = .ok (.iload 4, 2) := by decide +kernel
theorem dX5_coveredBy_52 : decode mX5_coveredBy.2.2.1 52 = .ok (.iload 5, 2) := by decide +kernel
theorem dX5_coveredBy_54 : decode mX5_coveredBy.2.2.1 54 = .ok (.iload 6, 2) := by decide +kernel
theorem dX5_coveredBy_56 : decode mX5_coveredBy.2.2.1 56 = .ok (.invokestatic 64, 3) := by decide +kernel
theorem dX5_coveredBy_59 : decode mX5_coveredBy.2.2.1 59 = .ok (.ifCond .eq 12, 3) := by decide +kernel
theorem dX5_coveredBy_62 : decode mX5_coveredBy.2.2.1 62 = .ok (.iload 7, 2) := by decide +kernel
theorem dX5_coveredBy_64 : decode mX5_coveredBy.2.2.1 64 = .ok (.iconst 1, 1) := by decide +kernel
theorem dX5_coveredBy_65 : decode mX5_coveredBy.2.2.1 65 = .ok (.iload 8, 2) := by decide +kernel
theorem dX5_coveredBy_67 : decode mX5_coveredBy.2.2.1 67 = .ok (.ishl, 1) := by decide +kernel
theorem dX5_coveredBy_68 : decode mX5_coveredBy.2.2.1 68 = .ok (.ior, 1) := by decide +kernel
theorem dX5_coveredBy_69 : decode mX5_coveredBy.2.2.1 69 = .ok (.istore 7, 2) := by decide +kernel
theorem dX5_coveredBy_71 : decode mX5_coveredBy.2.2.1 71 = .ok (.iinc 8 1, 3) := by decide +kernel
theorem dX5_coveredBy_74 : decode mX5_coveredBy.2.2.1 74 = .ok (.goto (-40), 3) := by decide +kernel
theorem dX5_coveredBy_77 : decode mX5_coveredBy.2.2.1 77 = .ok (.iload 7, 2) := by decide +kernel
theorem dX5_coveredBy_79 : decode mX5_coveredBy.2.2.1 79 = .ok (.ireturn, 1) := by decide +kernel
set_option maxHeartbeats 100000 in
theorem kX5_coveredBy_0 {d : Nat} {F : am_FT} {L : am_LT} {Q : am_QT} {l2 l3 l4 l5 l6 l7 l8 : Option Value} {x1 : Int32} : wt am_S0 (d + 1) mX5_coveredBy 0 [some (.ref 1), some (.int x1), l2, l3, l4, l5, l6, l7, l8] [] F L Q = wc am_S0 d mX5_read [.ref 1, .int x1, .int 0] F L (fun r G K => wt am_S0 (d + 1) mX5_coveredBy 6 [some (.ref 1), some (.int x1), l2, l3, l4, l5, l6, l7, l8] (r.toList ++ []) G K Q) := (wt_aload_n dX5_coveredBy_0 rfl rfl).trans ((wt_iload_n dX5_coveredBy_1 rfl).trans ((wt_iconst dX5_coveredBy_2 (v := 0) (by decide)).trans (wt_callV dX5_coveredBy_3 rfl (as := [.int x1, .int 0]) (rest := []) rfl rfl (Nat.le_of_ble_eq_true rfl) rfl (Nat.le_of_ble_eq_true rfl))))
set_option maxHeartbeats 100000 in
theorem kX5_coveredBy_6 {d : Nat} {F : am_FT} {L : am_LT} {Q : am_QT} {l1 l4 l5 l6 l7 l8 : Option Value} {s0 x3 x2 : Int32} : wt am_S0 (d + 1) mX5_coveredBy 6 [some (.ref 1), l1, some (.int x2), some (.int x3), l4, l5, l6, l7, l8] [.int s0] F L Q = wc am_S0 d mX5_read [.ref 1, .int x2, .int 3] F L (fun r G K => wt am_S0 (d + 1) mX5_coveredBy 15 [some (.ref 1), l1, some (.int x2), some (.int x3), some (.int s0), l5, l6, l7, l8] (r.toList ++ [.int x3]) G K Q) := (wt_istore dX5_coveredBy_6 (lv1 := [some (.ref 1), l1, some (.int x2), some (.int x3), some (.int s0), l5, l6, l7, l8]) (Nat.le_of_ble_eq_true rfl) rfl).trans ((wt_iload_n dX5_coveredBy_8 rfl).trans ((wt_aload_n dX5_coveredBy_9 rfl rfl).trans ((wt_iload_n dX5_coveredBy_10 rfl).trans ((wt_iconst dX5_coveredBy_11 (v := 3) (by decide)).trans (wt_callV dX5_coveredBy_12 rfl (as := [.int x2, .int 3]) (rest := [.int x3]) rfl rfl (Nat.le_of_ble_eq_true rfl) rfl (Nat.le_of_ble_eq_true rfl))))))
set_option maxHeartbeats 100000 in
theorem kX5_coveredBy_15 {d : Nat} {F : am_FT} {L : am_LT} {Q : am_QT} {l2 l3 l5 l6 l7 l8 : Option Value} {s0 s1 x4 x1 : Int32} : wt am_S0 (d + 1) mX5_coveredBy 15 [some (.ref 1), some (.int x1), l2, l3, some (.int x4), l5, l6, l7, l8] [.int s1, .int s0] F L Q = wc am_S0 d mX5_read [.ref 1, .int x1, .int 2] F L (fun r G K => wt am_S0 (d + 1) mX5_coveredBy 26 [some (.ref 1), some (.int x1), l2, l3, some (.int x4), some (.int ((s0 * s1) / 3)), l6, l7, l8] (r.toList ++ []) G K Q) := (wt_imul dX5_coveredBy_15).trans ((wt_iconst dX5_coveredBy_16 (v := 3) (by decide)).trans ((wt_idiv dX5_coveredBy_17 (by decide)).trans ((wt_istore dX5_coveredBy_18 (lv1 := [some (.ref 1), some (.int x1), l2, l3, some (.int x4), some (.int ((s0 * s1) / 3)), l6, l7, l8]) (Nat.le_of_ble_eq_true rfl) rfl).trans ((wt_aload_n dX5_coveredBy_20 rfl rfl).trans ((wt_iload_n dX5_coveredBy_21 rfl).trans ((wt_iconst dX5_coveredBy_22 (v := 2) (by decide)).trans (wt_callV dX5_coveredBy_23 rfl (as := [.int x1, .int 2]) (rest := []) rfl rfl (Nat.le_of_ble_eq_true rfl) rfl (Nat.le_of_ble_eq_true rfl))))))))
set_option maxHeartbeats 100000 in
theorem kX5_coveredBy_26 {d : Nat} {F : am_FT} {L : am_LT} {Q : am_QT} {l0 l1 l2 l3 l4 l6 l7 l8 : Option Value} {s0 x5 : Int32} : wt am_S0 d mX5_coveredBy 26 [l0, l1, l2, l3, l4, some (.int x5), l6, l7, l8] [.int s0] F L Q = wt am_S0 d mX5_coveredBy 34 [l0, l1, l2, l3, l4, some (.int x5), some (.int s0), some (.int 0), some (.int 0)] [] F L Q := (wt_istore dX5_coveredBy_26 (lv1 := [l0, l1, l2, l3, l4, some (.int x5), some (.int s0), l7, l8]) (Nat.le_of_ble_eq_true rfl) rfl).trans ((wt_iconst dX5_coveredBy_28 (v := 0) (by decide)).trans ((wt_istore dX5_coveredBy_29 (lv1 := [l0, l1, l2, l3, l4, some (.int x5), some (.int s0), some (.int 0), l8]) (Nat.le_of_ble_eq_true rfl) rfl).trans ((wt_iconst dX5_coveredBy_31 (v := 0) (by decide)).trans (wt_istore dX5_coveredBy_32 (lv1 := [l0, l1, l2, l3, l4, some (.int x5), some (.int s0), some (.int 0), some (.int 0)]) (Nat.le_of_ble_eq_true rfl) rfl))))
set_option maxHeartbeats 100000 in
theorem kX5_coveredBy_34 {d : Nat} {F : am_FT} {L : am_LT} {Q : am_QT} {l1 l2 l3 l4 l5 l6 l7 : Option Value} {x8 : Int32} : wt am_S0 d mX5_coveredBy 34 [some (.ref 1), l1, l2, l3, l4, l5, l6, l7, some (.int x8)] [] F L Q = if (F 1 2) ≤ x8 then wt am_S0 d mX5_coveredBy 77 [some (.ref 1), l1, l2, l3, l4, l5, l6, l7, some (.int x8)] [] F L Q else wt am_S0 d mX5_coveredBy 43 [some (.ref 1), l1, l2, l3, l4, l5, l6, l7, some (.int x8)] [] F L Q := (wt_iload dX5_coveredBy_34 rfl).trans ((wt_aload_n dX5_coveredBy_36 rfl rfl).trans ((wt_getfield dX5_coveredBy_37 rfl rfl (v := .int (F 1 2)) rfl).trans (wt_if_icmp_ge dX5_coveredBy_40 (t := 77) rfl)))
set_option maxHeartbeats 100000 in
theorem kX5_coveredBy_43 {d : Nat} {F : am_FT} {L : am_LT} {Q : am_QT} {l1 l2 l3 l4 l5 l6 l7 : Option Value} {x8 : Int32} : wt am_S0 (d + 1) mX5_coveredBy 43 [some (.ref 1), l1, l2, l3, l4, l5, l6, l7, some (.int x8)] [] F L Q = wc am_S0 d mX5_read [.ref 1, .int x8, .int 4] F L (fun r G K => wt am_S0 (d + 1) mX5_coveredBy 50 [some (.ref 1), l1, l2, l3, l4, l5, l6, l7, some (.int x8)] (r.toList ++ []) G K Q) := (wt_aload_n dX5_coveredBy_43 rfl rfl).trans ((wt_iload dX5_coveredBy_44 rfl).trans ((wt_iconst dX5_coveredBy_46 (v := 4) (by decide)).trans (wt_callV dX5_coveredBy_47 rfl (as := [.int x8, .int 4]) (rest := []) rfl rfl (Nat.le_of_ble_eq_true rfl) rfl (Nat.le_of_ble_eq_true rfl))))
set_option maxHeartbeats 100000 in
theorem kX5_coveredBy_50 {d : Nat} {F : am_FT} {L : am_LT} {Q : am_QT} {l0 l1 l2 l3 l7 l8 : Option Value} {s0 x4 x5 x6 : Int32} : wt am_S0 (d + 1) mX5_coveredBy 50 [l0, l1, l2, l3, some (.int x4), some (.int x5), some (.int x6), l7, l8] [.int s0] F L Q = wc am_S0 d mX5_lies [.int s0, .int x4, .int x5, .int x6] F L (fun r G K => wt am_S0 (d + 1) mX5_coveredBy 59 [l0, l1, l2, l3, some (.int x4), some (.int x5), some (.int x6), l7, l8] (r.toList ++ []) G K Q) := (wt_iload dX5_coveredBy_50 rfl).trans ((wt_iload dX5_coveredBy_52 rfl).trans ((wt_iload dX5_coveredBy_54 rfl).trans (wt_callS dX5_coveredBy_56 rfl (as := [.int s0, .int x4, .int x5, .int x6]) (rest := []) rfl rfl (Nat.le_of_ble_eq_true rfl) (Nat.le_of_ble_eq_true rfl))))
set_option maxHeartbeats 100000 in
theorem kX5_coveredBy_59 {d : Nat} {F : am_FT} {L : am_LT} {Q : am_QT} {l0 l1 l2 l3 l4 l5 l6 l7 l8 : Option Value} {s0 : Int32} : wt am_S0 d mX5_coveredBy 59 [l0, l1, l2, l3, l4, l5, l6, l7, l8] [.int s0] F L Q = if s0 = 0 then wt am_S0 d mX5_coveredBy 71 [l0, l1, l2, l3, l4, l5, l6, l7, l8] [] F L Q else wt am_S0 d mX5_coveredBy 62 [l0, l1, l2, l3, l4, l5, l6, l7, l8] [] F L Q := wt_ifCond_eq dX5_coveredBy_59 (t := 71) rfl
set_option maxHeartbeats 100000 in
theorem kX5_coveredBy_62 {d : Nat} {F : am_FT} {L : am_LT} {Q : am_QT} {l0 l1 l2 l3 l4 l5 : Option Value} {x7 x8 x6 : Int32} : wt am_S0 d mX5_coveredBy 62 [l0, l1, l2, l3, l4, l5, some (.int x6), some (.int x7), some (.int x8)] [] F L Q = wt am_S0 d mX5_coveredBy 71 [l0, l1, l2, l3, l4, l5, some (.int x6), some (.int (x7 ||| ((1 : Int32) <<< (x8 &&& 31)))), some (.int x8)] [] F L Q := (wt_iload dX5_coveredBy_62 rfl).trans ((wt_iconst dX5_coveredBy_64 (v := 1) (by decide)).trans ((wt_iload dX5_coveredBy_65 rfl).trans ((wt_ishl dX5_coveredBy_67).trans ((wt_ior dX5_coveredBy_68).trans (wt_istore dX5_coveredBy_69 (lv1 := [l0, l1, l2, l3, l4, l5, some (.int x6), some (.int (x7 ||| ((1 : Int32) <<< (x8 &&& 31)))), some (.int x8)]) (Nat.le_of_ble_eq_true rfl) rfl)))))
set_option maxHeartbeats 100000 in
theorem kX5_coveredBy_71 {d : Nat} {F : am_FT} {L : am_LT} {Q : am_QT} {l0 l1 l2 l3 l4 l5 l6 : Option Value} {x8 x7 : Int32} : wt am_S0 d mX5_coveredBy 71 [l0, l1, l2, l3, l4, l5, l6, some (.int x7), some (.int x8)] [] F L Q = wt am_S0 d mX5_coveredBy 34 [l0, l1, l2, l3, l4, l5, l6, some (.int x7), some (.int (x8 + 1))] [] F L Q := (wt_iinc dX5_coveredBy_71 (v := 1) (lv1 := [l0, l1, l2, l3, l4, l5, l6, some (.int x7), some (.int (x8 + 1))]) rfl (Nat.le_of_ble_eq_true rfl) (by decide) rfl).trans (wt_goto dX5_coveredBy_74 (t := 34) rfl)
set_option maxHeartbeats 100000 in
theorem kX5_coveredBy_77 {d : Nat} {F : am_FT} {L : am_LT} {Q : am_QT} {l0 l1 l2 l3 l4 l5 l6 l8 : Option Value} {x7 : Int32} : wt am_S0 d mX5_coveredBy 77 [l0, l1, l2, l3, l4, l5, l6, some (.int x7), l8] [] F L Q = Q (some (.int x7)) F L := (wt_iload dX5_coveredBy_77 rfl).trans (wt_ireturn dX5_coveredBy_79 rfl rfl)
theorem dX5_lies_0 : decode mX5_lies.2.2.1 0 = .ok (.iload_n 1, 1) := by decide +kernel
theorem dX5_lies_1 : decode mX5_lies.2.2.1 1 = .ok (.bipush 16, 2) := by decide +kernel
theorem dX5_lies_3 : decode mX5_lies.2.2.1 3 = .ok (.idiv, 1) := by decide +kernel
theorem dX5_lies_4 : decode mX5_lies.2.2.1 4 = .ok (.iload_n 0, 1) := by decide +kernel
theorem dX5_lies_5 : decode mX5_lies.2.2.1 5 = .ok (.bipush 16, 2) := by decide +kernel
theorem dX5_lies_7 : decode mX5_lies.2.2.1 7 = .ok (.idiv, 1) := by decide +kernel
theorem dX5_lies_8 : decode mX5_lies.2.2.1 8 = .ok (.isub, 1) := by decide +kernel
theorem dX5_lies_9 : decode mX5_lies.2.2.1 9 = .ok (.istore 4, 2) := by decide +kernel
theorem dX5_lies_11 : decode mX5_lies.2.2.1 11 = .ok (.iload_n 1, 1) := by decide +kernel
theorem dX5_lies_12 : decode mX5_lies.2.2.1 12 = .ok (.bipush 16, 2) := by decide +kernel
theorem dX5_lies_14 : decode mX5_lies.2.2.1 14 = .ok (.irem, 1) := by decide +kernel
theorem dX5_lies_15 : decode mX5_lies.2.2.1 15 = .ok (.iload_n 0, 1) := by decide +kernel
theorem dX5_lies_16 : decode mX5_lies.2.2.1 16 = .ok (.bipush 16, 2) := by decide +kernel
theorem dX5_lies_18 : decode mX5_lies.2.2.1 18 = .ok (.irem, 1) := by decide +kernel
theorem dX5_lies_19 : decode mX5_lies.2.2.1 19 = .ok (.isub, 1) := by decide +kernel
theorem dX5_lies_20 : decode mX5_lies.2.2.1 20 = .ok (.invokestatic 55, 3) := by decide +kernel
theorem dX5_lies_23 : decode mX5_lies.2.2.1 23 = .ok (.istore 5, 2) := by decide +kernel
theorem dX5_lies_25 : decode mX5_lies.2.2.1 25 = .ok (.iload 4, 2) := by decide +kernel
theorem dX5_lies_27 : decode mX5_lies.2.2.1 27 = .ok (.iconst 1, 1) := by decide +kernel
theorem dX5_lies_28 : decode mX5_lies.2.2.1 28 = .ok (.if_icmp .lt 19, 3) := by decide +kernel
theorem dX5_lies_31 : decode mX5_lies.2.2.1 31 = .ok (.iload 4, 2) := by decide +kernel
theorem dX5_lies_33 : decode mX5_lies.2.2.1 33 = .ok (.iload_n 2, 1) := by decide +kernel
theorem dX5_lies_34 : decode mX5_lies.2.2.1 34 = .ok (.if_icmp .gt 13, 3) := by decide +kernel
theorem dX5_lies_37 : decode mX5_lies.2.2.1 37 = .ok (.iload 5, 2) := by decide +kernel
theorem dX5_lies_39 : decode mX5_lies.2.2.1 39 = .ok (.iload_n 3, 1) := by decide +kernel
theorem dX5_lies_40 : decode mX5_lies.2.2.1 40 = .ok (.if_icmp .gt 7, 3) := by decide +kernel
theorem dX5_lies_43 : decode mX5_lies.2.2.1 43 = .ok (.iconst 1, 1) := by decide +kernel
theorem dX5_lies_44 : decode mX5_lies.2.2.1 44 = .ok (.goto 4, 3) := by decide +kernel
theorem dX5_lies_47 : decode mX5_lies.2.2.1 47 = .ok (.iconst 0, 1) := by decide +kernel
theorem dX5_lies_48 : decode mX5_lies.2.2.1 48 = .ok (.ireturn, 1) := by decide +kernel
set_option maxHeartbeats 100000 in
theorem kX5_lies_0 {d : Nat} {F : am_FT} {L : am_LT} {Q : am_QT} {l2 l4 l5 : Option Value} {x1 x0 x3 : Int32} : wt am_S0 (d + 1) mX5_lies 0 [some (.int x0), some (.int x1), l2, some (.int x3), l4, l5] [] F L Q = wt am_S0 (d + 1) mX5_lies 23 [some (.int x0), some (.int x1), l2, some (.int x3), some (.int ((x1 / 16) - (x0 / 16))), l5] [.int (if 0 ≤ ((x1 - x1 / 16 * 16) - (x0 - x0 / 16 * 16)) then ((x1 - x1 / 16 * 16) - (x0 - x0 / 16 * 16)) else 0 - ((x1 - x1 / 16 * 16) - (x0 - x0 / 16 * 16)))] F L Q := (wt_iload_n dX5_lies_0 rfl).trans ((wt_bipush dX5_lies_1 (v := 16) (by decide)).trans ((wt_idiv dX5_lies_3 (by decide)).trans ((wt_iload_n dX5_lies_4 rfl).trans ((wt_bipush dX5_lies_5 (v := 16) (by decide)).trans ((wt_idiv dX5_lies_7 (by decide)).trans ((wt_isub dX5_lies_8).trans ((wt_istore dX5_lies_9 (lv1 := [some (.int x0), some (.int x1), l2, some (.int x3), some (.int ((x1 / 16) - (x0 / 16))), l5]) (Nat.le_of_ble_eq_true rfl) rfl).trans ((wt_iload_n dX5_lies_11 rfl).trans ((wt_bipush dX5_lies_12 (v := 16) (by decide)).trans ((wt_irem dX5_lies_14 (by decide)).trans ((wt_iload_n dX5_lies_15 rfl).trans ((wt_bipush dX5_lies_16 (v := 16) (by decide)).trans ((wt_irem dX5_lies_18 (by decide)).trans ((wt_isub dX5_lies_19).trans (wt_abs dX5_lies_20 rfl (Nat.le_of_ble_eq_true rfl))))))))))))))))
set_option maxHeartbeats 100000 in
theorem kX5_lies_23 {d : Nat} {F : am_FT} {L : am_LT} {Q : am_QT} {l0 l1 l2 l3 l5 : Option Value} {s0 x4 : Int32} : wt am_S0 d mX5_lies 23 [l0, l1, l2, l3, some (.int x4), l5] [.int s0] F L Q = if x4 < 1 then wt am_S0 d mX5_lies 47 [l0, l1, l2, l3, some (.int x4), some (.int s0)] [] F L Q else wt am_S0 d mX5_lies 31 [l0, l1, l2, l3, some (.int x4), some (.int s0)] [] F L Q := (wt_istore dX5_lies_23 (lv1 := [l0, l1, l2, l3, some (.int x4), some (.int s0)]) (Nat.le_of_ble_eq_true rfl) rfl).trans ((wt_iload dX5_lies_25 rfl).trans ((wt_iconst dX5_lies_27 (v := 1) (by decide)).trans (wt_if_icmp_lt dX5_lies_28 (t := 47) rfl)))
set_option maxHeartbeats 100000 in
theorem kX5_lies_31 {d : Nat} {F : am_FT} {L : am_LT} {Q : am_QT} {l0 l1 l3 l5 : Option Value} {x4 x2 : Int32} : wt am_S0 d mX5_lies 31 [l0, l1, some (.int x2), l3, some (.int x4), l5] [] F L Q = if x2 < x4 then wt am_S0 d mX5_lies 47 [l0, l1, some (.int x2), l3, some (.int x4), l5] [] F L Q else wt am_S0 d mX5_lies 37 [l0, l1, some (.int x2), l3, some (.int x4), l5] [] F L Q := (wt_iload dX5_lies_31 rfl).trans ((wt_iload_n dX5_lies_33 rfl).trans (wt_if_icmp_gt dX5_lies_34 (t := 47) rfl))
set_option maxHeartbeats 100000 in
theorem kX5_lies_37 {d : Nat} {F : am_FT} {L : am_LT} {Q : am_QT} {l0 l1 l2 l4 : Option Value} {x5 x3 : Int32} : wt am_S0 d mX5_lies 37 [l0, l1, l2, some (.int x3), l4, some (.int x5)] [] F L Q = if x3 < x5 then wt am_S0 d mX5_lies 47 [l0, l1, l2, some (.int x3), l4, some (.int x5)] [] F L Q else wt am_S0 d mX5_lies 43 [l0, l1, l2, some (.int x3), l4, some (.int x5)] [] F L Q := (wt_iload dX5_lies_37 rfl).trans ((wt_iload_n dX5_lies_39 rfl).trans (wt_if_icmp_gt dX5_lies_40 (t := 47) rfl))
set_option maxHeartbeats 100000 in
theorem kX5_lies_43 {d : Nat} {F : am_FT} {L : am_LT} {Q : am_QT} {l0 l1 l2 l3 l4 l5 : Option Value} : wt am_S0 d mX5_lies 43 [l0, l1, l2, l3, l4, l5] [] F L Q = wt am_S0 d mX5_lies 48 [l0, l1, l2, l3, l4, l5] [.int 1] F L Q := (wt_iconst dX5_lies_43 (v := 1) (by decide)).trans (wt_goto dX5_lies_44 (t := 48) rfl)
set_option maxHeartbeats 100000 in
theorem kX5_lies_47 {d : Nat} {F : am_FT} {L : am_LT} {Q : am_QT} {l0 l1 l2 l3 l4 l5 : Option Value} : wt am_S0 d mX5_lies 47 [l0, l1, l2, l3, l4, l5] [] F L Q = wt am_S0 d mX5_lies 48 [l0, l1, l2, l3, l4, l5] [.int 0] F L Q := wt_iconst dX5_lies_47 (v := 0) (by decide)
set_option maxHeartbeats 100000 in
theorem kX5_lies_48 {d : Nat} {F : am_FT} {L : am_LT} {Q : am_QT} {l0 l1 l2 l3 l4 l5 : Option Value} {s0 : Int32} (h1 : narrow .boolean (.int s0) = .int s0) : wt am_S0 d mX5_lies 48 [l0, l1, l2, l3, l4, l5] [.int s0] F L Q = Q (some (.int s0)) F L := wt_ireturn dX5_lies_48 rfl h1
theorem dX5_cellsOf_0 : decode mX5_cellsOf.2.2.1 0 = .ok (.aload_n 0, 1) := by decide +kernel
theorem dX5_cellsOf_1 : decode mX5_cellsOf.2.2.1 1 = .ok (.iload_n 1, 1) := by decide +kernel
theorem dX5_cellsOf_2 : decode mX5_cellsOf.2.2.1 2 = .ok (.invokevirtual 60, 3) := by decide +kernel
theorem dX5_cellsOf_5 : decode mX5_cellsOf.2.2.1 5 = .ok (.ifCond .ne 5, 3) := by decide +kernel
theorem dX5_cellsOf_8 : decode mX5_cellsOf.2.2.1 8 = .ok (.iconst 0, 1) := by decide +kernel
theorem dX5_cellsOf_9 : decode mX5_cellsOf.2.2.1 9 = .ok (.ireturn, 1) := by decide +kernel
theorem dX5_cellsOf_10 : decode mX5_cellsOf.2.2.1 10 = .ok (.aload_n 0, 1) := by decide +kernel
theorem dX5_cellsOf_11 : decode mX5_cellsOf.2.2.1 11 = .ok (.iload_n 1, 1) := by decide +kernel
theorem dX5_cellsOf_12 : decode mX5_cellsOf.2.2.1 12 = .ok (.iconst 0, 1) := by decide +kernel
theorem dX5_cellsOf_13 : decode mX5_cellsOf.2.2.1 13 = .ok (.invokevirtual 51, 3) := by decide +kernel
theorem dX5_cellsOf_16 : decode mX5_cellsOf.2.2.1 16 = .ok (.istore_n 3, 1) := by decide +kernel
theorem dX5_cellsOf_17 : decode mX5_cellsOf.2.2.1 17 = .ok (.aload_n 0, 1) := by decide +kernel
theorem dX5_cellsOf_18 : decode mX5_cellsOf.2.2.1 18 = .ok (.iload_n 1, 1) := by decide +kernel
theorem dX5_cellsOf_19 : decode mX5_cellsOf.2.2.1 19 = .ok (.iconst 2, 1) := by decide +kernel
theorem dX5_cellsOf_20 : decode mX5_cellsOf.2.2.1 20 = .ok (.invokevirtual 51, 3) := by decide +kernel
theorem dX5_cellsOf_23 : decode mX5_cellsOf.2.2.1 23 = .ok (.istore 4, 2) := by decide +kernel
theorem dX5_cellsOf_25 : decode mX5_cellsOf.2.2.1 25 = .ok (.aload_n 0, 1) := by decide +kernel
theorem dX5_cellsOf_26 : decode mX5_cellsOf.2.2.1 26 = .ok (.iload_n 1, 1) := by decide +kernel
theorem dX5_cellsOf_27 : decode mX5_cellsOf.2.2.1 27 = .ok (.iconst 1, 1) := by decide +kernel
theorem dX5_cellsOf_28 : decode mX5_cellsOf.2.2.1 28 = .ok (.invokevirtual 51, 3) := by decide +kernel
theorem dX5_cellsOf_31 : decode mX5_cellsOf.2.2.1 31 = .ok (.aload_n 0, 1) := by decide +kernel
theorem dX5_cellsOf_32 : decode mX5_cellsOf.2.2.1 32 = .ok (.iload_n 2, 1) := by decide +kernel
theorem dX5_cellsOf_33 : decode mX5_cellsOf.2.2.1 33 = .ok (.iconst 3, 1) := by decide +kernel
theorem dX5_cellsOf_34 : decode mX5_cellsOf.2.2.1 34 = .ok (.invokevirtual 51, 3) := by decide +kernel
theorem dX5_cellsOf_37 : decode mX5_cellsOf.2.2.1 37 = .ok (.imul, 1) := by decide +kernel
theorem dX5_cellsOf_38 : decode mX5_cellsOf.2.2.1 38 = .ok (.iconst 3, 1) := by decide +kernel
theorem dX5_cellsOf_39 : decode mX5_cellsOf.2.2.1 39 = .ok (.idiv, 1) := by decide +kernel
theorem dX5_cellsOf_40 : decode mX5_cellsOf.2.2.1 40 = .ok (.iload_n 3, 1) := by decide +kernel
theorem dX5_cellsOf_41 : decode mX5_cellsOf.2.2.1 41 = .ok (.bipush 16, 2) := by decide +kernel
theorem dX5_cellsOf_43 : decode mX5_cellsOf.2.2.1 43 = .ok (.idiv, 1) := by decide +kernel
theorem dX5_cellsOf_44 : decode mX5_cellsOf.2.2.1 44 = .ok (.invokestatic 72, 3) := by decide +kernel
theorem dX5_cellsOf_47 : decode mX5_cellsOf.2.2.1 47 = .ok (.istore 5, 2) := by decide +kernel
theorem dX5_cellsOf_49 : decode mX5_cellsOf.2.2.1 49 = .ok (.iload_n 3, 1) := by decide +kernel
theorem dX5_cellsOf_50 : decode mX5_cellsOf.2.2.1 50 = .ok (.bipush 16, 2) := by decide +kernel
theorem dX5_cellsOf_52 : decode mX5_cellsOf.2.2.1 52 = .ok (.irem, 1) := by decide +kernel
theorem dX5_cellsOf_53 : decode mX5_cellsOf.2.2.1 53 = .ok (.iload 4, 2) := by decide +kernel
theorem dX5_cellsOf_55 : decode mX5_cellsOf.2.2.1 55 = .ok (.isub, 1) := by decide +kernel
theorem dX5_cellsOf_56 : decode mX5_cellsOf.2.2.1 56 = .ok (.iconst 0, 1) := by decide +kernel
theorem dX5_cellsOf_57 : decode mX5_cellsOf.2.2.1 57 = .ok (.invokestatic 75, 3) := by decide +kernel
theorem dX5_cellsOf_60 : decode mX5_cellsOf.2.2.1 60 = .ok (.istore 6, 2) := by decide +kernel
theorem dX5_cellsOf_62 : decode mX5_cellsOf.2.2.1 62 = .ok (.iload_n 3, 1) := by decide +kernel
theorem dX5_cellsOf_63 : decode mX5_cellsOf.2.2.1 63 = .ok (.bipush 16, 2) := by decide +kernel
theorem dX5_cellsOf_65 : decode mX5_cellsOf.2.2.1 65 = .ok (.irem, 1) := by decide +kernel
theorem dX5_cellsOf_66 : decode mX5_cellsOf.2.2.1 66 = .ok (.iload 4, 2) := by decide +kernel
theorem dX5_cellsOf_68 : decode mX5_cellsOf.2.2.1 68 = .ok (.iadd, 1) := by decide +kernel
theorem dX5_cellsOf_69 : decode mX5_cellsOf.2.2.1 69 = .ok (.bipush 15, 2) := by decide +kernel
theorem dX5_cellsOf_71 : decode mX5_cellsOf.2.2.1 71 = .ok (.invokestatic 72, 3) := by decide +kernel
theorem dX5_cellsOf_74 : decode mX5_cellsOf.2.2.1 74 = .ok (.istore 7, 2) := by decide +kernel
theorem dX5_cellsOf_76 : decode mX5_cellsOf.2.2.1 76 = .ok (.iload 5, 2) := by decide +kernel
theorem dX5_cellsOf_78 : decode mX5_cellsOf.2.2.1 78 = .ok (.iload 7, 2) := by decide +kernel
theorem dX5_cellsOf_80 : decode mX5_cellsOf.2.2.1 80 = .ok (.iload 6, 2) := by decide +kernel
theorem dX5_cellsOf_82 : decode mX5_cellsOf.2.2.1 82 = .ok (.isub, 1) := by decide +kernel
theorem dX5_cellsOf_83 : decode mX5_cellsOf.2.2.1 83 = .ok (.iconst 1, 1) := by decide +kernel
theorem dX5_cellsOf_84 : decode mX5_cellsOf.2.2.1 84 = .ok (.iadd, 1) := by decide +kernel
theorem dX5_cellsOf_85 : decode mX5_cellsOf.2.2.1 85 = .ok (.imul, 1) := by decide +kernel
theorem dX5_cellsOf_86 : decode mX5_cellsOf.2.2.1 86 = .ok (.ireturn, 1) := by decide +kernel
set_option maxHeartbeats 100000 in
theorem kX5_cellsOf_0 {d : Nat} {F : am_FT} {L : am_LT} {Q : am_QT} {l2 l3 l4 l5 l6 l7 : Option Value} {x1 : Int32} : wt am_S0 (d + 1) mX5_cellsOf 0 [some (.ref 1), some (.int x1), l2, l3, l4, l5, l6, l7] [] F L Q = wc am_S0 d mX5_stands [.ref 1, .int x1] F L (fun r G K => wt am_S0 (d + 1) mX5_cellsOf 5 [some (.ref 1), some (.int x1), l2, l3, l4, l5, l6, l7] (r.toList ++ []) G K Q) := (wt_aload_n dX5_cellsOf_0 rfl rfl).trans ((wt_iload_n dX5_cellsOf_1 rfl).trans (wt_callV dX5_cellsOf_2 rfl (as := [.int x1]) (rest := []) rfl rfl (Nat.le_of_ble_eq_true rfl) rfl (Nat.le_of_ble_eq_true rfl)))
set_option maxHeartbeats 100000 in
theorem kX5_cellsOf_5 {d : Nat} {F : am_FT} {L : am_LT} {Q : am_QT} {l0 l1 l2 l3 l4 l5 l6 l7 : Option Value} {s0 : Int32} : wt am_S0 d mX5_cellsOf 5 [l0, l1, l2, l3, l4, l5, l6, l7] [.int s0] F L Q = if ¬ s0 = 0 then wt am_S0 d mX5_cellsOf 10 [l0, l1, l2, l3, l4, l5, l6, l7] [] F L Q else wt am_S0 d mX5_cellsOf 8 [l0, l1, l2, l3, l4, l5, l6, l7] [] F L Q := wt_ifCond_ne dX5_cellsOf_5 (t := 10) rfl
set_option maxHeartbeats 100000 in
theorem kX5_cellsOf_8 {d : Nat} {F : am_FT} {L : am_LT} {Q : am_QT} {l0 l1 l2 l3 l4 l5 l6 l7 : Option Value} : wt am_S0 d mX5_cellsOf 8 [l0, l1, l2, l3, l4, l5, l6, l7] [] F L Q = Q (some (.int 0)) F L := (wt_iconst dX5_cellsOf_8 (v := 0) (by decide)).trans (wt_ireturn dX5_cellsOf_9 rfl rfl)
set_option maxHeartbeats 100000 in
theorem kX5_cellsOf_10 {d : Nat} {F : am_FT} {L : am_LT} {Q : am_QT} {l2 l3 l4 l5 l6 l7 : Option Value} {x1 : Int32} : wt am_S0 (d + 1) mX5_cellsOf 10 [some (.ref 1), some (.int x1), l2, l3, l4, l5, l6, l7] [] F L Q = wc am_S0 d mX5_read [.ref 1, .int x1, .int 0] F L (fun r G K => wt am_S0 (d + 1) mX5_cellsOf 16 [some (.ref 1), some (.int x1), l2, l3, l4, l5, l6, l7] (r.toList ++ []) G K Q) := (wt_aload_n dX5_cellsOf_10 rfl rfl).trans ((wt_iload_n dX5_cellsOf_11 rfl).trans ((wt_iconst dX5_cellsOf_12 (v := 0) (by decide)).trans (wt_callV dX5_cellsOf_13 rfl (as := [.int x1, .int 0]) (rest := []) rfl rfl (Nat.le_of_ble_eq_true rfl) rfl (Nat.le_of_ble_eq_true rfl))))
set_option maxHeartbeats 100000 in
theorem kX5_cellsOf_16 {d : Nat} {F : am_FT} {L : am_LT} {Q : am_QT} {l3 l4 l5 l6 l7 : Option Value} {s0 x2 x1 : Int32} : wt am_S0 (d + 1) mX5_cellsOf 16 [some (.ref 1), some (.int x1), some (.int x2), l3, l4, l5, l6, l7] [.int s0] F L Q = wc am_S0 d mX5_read [.ref 1, .int x1, .int 2] F L (fun r G K => wt am_S0 (d + 1) mX5_cellsOf 23 [some (.ref 1), some (.int x1), some (.int x2), some (.int s0), l4, l5, l6, l7] (r.toList ++ []) G K Q) := (wt_istore_n dX5_cellsOf_16 (lv1 := [some (.ref 1), some (.int x1), some (.int x2), some (.int s0), l4, l5, l6, l7]) (Nat.le_of_ble_eq_true rfl) rfl).trans ((wt_aload_n dX5_cellsOf_17 rfl rfl).trans ((wt_iload_n dX5_cellsOf_18 rfl).trans ((wt_iconst dX5_cellsOf_19 (v := 2) (by decide)).trans (wt_callV dX5_cellsOf_20 rfl (as := [.int x1, .int 2]) (rest := []) rfl rfl (Nat.le_of_ble_eq_true rfl) rfl (Nat.le_of_ble_eq_true rfl)))))
set_option maxHeartbeats 100000 in
theorem kX5_cellsOf_23 {d : Nat} {F : am_FT} {L : am_LT} {Q : am_QT} {l2 l4 l5 l6 l7 : Option Value} {s0 x3 x1 : Int32} : wt am_S0 (d + 1) mX5_cellsOf 23 [some (.ref 1), some (.int x1), l2, some (.int x3), l4, l5, l6, l7] [.int s0] F L Q = wc am_S0 d mX5_read [.ref 1, .int x1, .int 1] F L (fun r G K => wt am_S0 (d + 1) mX5_cellsOf 31 [some (.ref 1), some (.int x1), l2, some (.int x3), some (.int s0), l5, l6, l7] (r.toList ++ []) G K Q) := (wt_istore dX5_cellsOf_23 (lv1 := [some (.ref 1), some (.int x1), l2, some (.int x3), some (.int s0), l5, l6, l7]) (Nat.le_of_ble_eq_true rfl) rfl).trans ((wt_aload_n dX5_cellsOf_25 rfl rfl).trans ((wt_iload_n dX5_cellsOf_26 rfl).trans ((wt_iconst dX5_cellsOf_27 (v := 1) (by decide)).trans (wt_callV dX5_cellsOf_28 rfl (as := [.int x1, .int 1]) (rest := []) rfl rfl (Nat.le_of_ble_eq_true rfl) rfl (Nat.le_of_ble_eq_true rfl)))))
set_option maxHeartbeats 100000 in
theorem kX5_cellsOf_31 {d : Nat} {F : am_FT} {L : am_LT} {Q : am_QT} {l1 l3 l4 l5 l6 l7 : Option Value} {s0 x2 : Int32} : wt am_S0 (d + 1) mX5_cellsOf 31 [some (.ref 1), l1, some (.int x2), l3, l4, l5, l6, l7] [.int s0] F L Q = wc am_S0 d mX5_read [.ref 1, .int x2, .int 3] F L (fun r G K => wt am_S0 (d + 1) mX5_cellsOf 37 [some (.ref 1), l1, some (.int x2), l3, l4, l5, l6, l7] (r.toList ++ [.int s0]) G K Q) := (wt_aload_n dX5_cellsOf_31 rfl rfl).trans ((wt_iload_n dX5_cellsOf_32 rfl).trans ((wt_iconst dX5_cellsOf_33 (v := 3) (by decide)).trans (wt_callV dX5_cellsOf_34 rfl (as := [.int x2, .int 3]) (rest := [.int s0]) rfl rfl (Nat.le_of_ble_eq_true rfl) rfl (Nat.le_of_ble_eq_true rfl))))
set_option maxHeartbeats 100000 in
theorem kX5_cellsOf_37 {d : Nat} {F : am_FT} {L : am_LT} {Q : am_QT} {l0 l1 l2 l5 l6 l7 : Option Value} {s0 s1 x3 x4 : Int32} : wt am_S0 (d + 1) mX5_cellsOf 37 [l0, l1, l2, some (.int x3), some (.int x4), l5, l6, l7] [.int s1, .int s0] F L Q = wt am_S0 (d + 1) mX5_cellsOf 62 [l0, l1, l2, some (.int x3), some (.int x4), some (.int (if (x3 / 16) < ((s0 * s1) / 3) then (x3 / 16) else ((s0 * s1) / 3))), some (.int (if ((x3 - x3 / 16 * 16) - x4) < 0 then 0 else ((x3 - x3 / 16 * 16) - x4))), l7] [] F L Q := (wt_imul dX5_cellsOf_37).trans ((wt_iconst dX5_cellsOf_38 (v := 3) (by decide)).trans ((wt_idiv dX5_cellsOf_39 (by decide)).trans ((wt_iload_n dX5_cellsOf_40 rfl).trans ((wt_bipush dX5_cellsOf_41 (v := 16) (by decide)).trans ((wt_idiv dX5_cellsOf_43 (by decide)).trans ((wt_min dX5_cellsOf_44 rfl (Nat.le_of_ble_eq_true rfl)).trans ((wt_istore dX5_cellsOf_47 (lv1 := [l0, l1, l2, some (.int x3), some (.int x4), some (.int (if (x3 / 16) < ((s0 * s1) / 3) then (x3 / 16) else ((s0 * s1) / 3))), l6, l7]) (Nat.le_of_ble_eq_true rfl) rfl).trans ((wt_iload_n dX5_cellsOf_49 rfl).trans ((wt_bipush dX5_cellsOf_50 (v := 16) (by decide)).trans ((wt_irem dX5_cellsOf_52 (by decide)).trans ((wt_iload dX5_cellsOf_53 rfl).trans ((wt_isub dX5_cellsOf_55).trans ((wt_iconst dX5_cellsOf_56 (v := 0) (by decide)).trans ((wt_max dX5_cellsOf_57 rfl (Nat.le_of_ble_eq_true rfl)).trans (wt_istore dX5_cellsOf_60 (lv1 := [l0, l1, l2, some (.int x3), some (.int x4), some (.int (if (x3 / 16) < ((s0 * s1) / 3) then (x3 / 16) else ((s0 * s1) / 3))), some (.int (if ((x3 - x3 / 16 * 16) - x4) < 0 then 0 else ((x3 - x3 / 16 * 16) - x4))), l7]) (Nat.le_of_ble_eq_true rfl) rfl)))))))))))))))
set_option maxHeartbeats 100000 in
theorem kX5_cellsOf_62 {d : Nat} {F : am_FT} {L : am_LT} {Q : am_QT} {l0 l1 l2 l7 : Option Value} {x3 x4 x6 x5 : Int32} : wt am_S0 (d + 1) mX5_cellsOf 62 [l0, l1, l2, some (.int x3), some (.int x4), some (.int x5), some (.int x6), l7] [] F L Q = Q (some (.int (x5 * (((if 15 < ((x3 - x3 / 16 * 16) + x4) then 15 else ((x3 - x3 / 16 * 16) + x4)) - x6) + 1)))) F L := (wt_iload_n dX5_cellsOf_62 rfl).trans ((wt_bipush dX5_cellsOf_63 (v := 16) (by decide)).trans ((wt_irem dX5_cellsOf_65 (by decide)).trans ((wt_iload dX5_cellsOf_66 rfl).trans ((wt_iadd dX5_cellsOf_68).trans ((wt_bipush dX5_cellsOf_69 (v := 15) (by decide)).trans ((wt_min dX5_cellsOf_71 rfl (Nat.le_of_ble_eq_true rfl)).trans ((wt_istore dX5_cellsOf_74 (lv1 := [l0, l1, l2, some (.int x3), some (.int x4), some (.int x5), some (.int x6), some (.int (if 15 < ((x3 - x3 / 16 * 16) + x4) then 15 else ((x3 - x3 / 16 * 16) + x4)))]) (Nat.le_of_ble_eq_true rfl) rfl).trans ((wt_iload dX5_cellsOf_76 rfl).trans ((wt_iload dX5_cellsOf_78 rfl).trans ((wt_iload dX5_cellsOf_80 rfl).trans ((wt_isub dX5_cellsOf_82).trans ((wt_iconst dX5_cellsOf_83 (v := 1) (by decide)).trans ((wt_iadd dX5_cellsOf_84).trans ((wt_imul dX5_cellsOf_85).trans (wt_ireturn dX5_cellsOf_86 rfl rfl)))))))))))))))
theorem dX5_wishersOf_0 : decode mX5_wishersOf.2.2.1 0 = .ok (.iconst 0, 1) := by decide +kernel
theorem dX5_wishersOf_1 : decode mX5_wishersOf.2.2.1 1 = .ok (.istore_n 2, 1) := by decide +kernel
theorem dX5_wishersOf_2 : decode mX5_wishersOf.2.2.1 2 = .ok (.iconst 0, 1) := by decide +kernel
theorem dX5_wishersOf_3 : decode mX5_wishersOf.2.2.1 3 = .ok (.istore_n 3, 1) := by decide +kernel
theorem dX5_wishersOf_4 : decode mX5_wishersOf.2.2.1 4 = .ok (.iload_n 3, 1) := by decide +kernel
theorem dX5_wishersOf_5 : decode mX5_wishersOf.2.2.1 5 = .ok (.aload_n 0, 1) := by decide +kernel
theorem dX5_wishersOf_6 : decode mX5_wishersOf.2.2.1 6 = .ok (.getfield 30, 3) := by decide +kernel
theorem dX5_wishersOf_9 : decode mX5_wishersOf.2.2.1 9 = .ok (.if_icmp .ge 28, 3) := by decide +kernel
theorem dX5_wishersOf_12 : decode mX5_wishersOf.2.2.1 12 = .ok (.aload_n 0, 1) := by decide +kernel
theorem dX5_wishersOf_13 : decode mX5_wishersOf.2.2.1 13 = .ok (.iload_n 3, 1) := by decide +kernel
theorem dX5_wishersOf_14 : decode mX5_wishersOf.2.2.1 14 = .ok (.iconst 5, 1) := by decide +kernel
theorem dX5_wishersOf_15 : decode mX5_wishersOf.2.2.1 15 = .ok (.invokevirtual 51, 3) := by decide +kernel
theorem dX5_wishersOf_18 : decode mX5_wishersOf.2.2.1 18 = .ok (.iload_n 1, 1) := by decide +kernel
theorem dX5_wishersOf_19 : decode mX5_wishersOf.2.2.1 19 = .ok (.invokestatic 68, 3) := by decide +kernel
theorem dX5_wishersOf_22 : decode mX5_wishersOf.2.2.1 22 = .ok (.ifCond .eq 9, 3) := by decide +kernel
theorem dX5_wishersOf_25 : decode mX5_wishersOf.2.2.1 25 = .ok (.iload_n 2, 1) := by decide +kernel
theorem dX5_wishersOf_26 : decode mX5_wishersOf.2.2.1 26 = .ok (.iconst 1, 1) := by decide +kernel
theorem dX5_wishersOf_27 : decode mX5_wishersOf.2.2.1 27 = .ok (.iload_n 3, 1) := by decide +kernel
theorem dX5_wishersOf_28 : decode mX5_wishersOf.2.2.1 28 = .ok (.ishl, 1) := by decide +kernel
theorem dX5_wishersOf_29 : decode mX5_wishersOf.2.2.1 29 = .ok (.ior, 1) := by decide +kernel
theorem dX5_wishersOf_30 : decode mX5_wishersOf.2.2.1 30 = .ok (.istore_n 2, 1) := by decide +kernel
theorem dX5_wishersOf_31 : decode mX5_wishersOf.2.2.1 31 = .ok (.iinc 3 1, 3) := by decide +kernel
theorem dX5_wishersOf_34 : decode mX5_wishersOf.2.2.1 34 = .ok (.goto (-30), 3) := by decide +kernel
theorem dX5_wishersOf_37 : decode mX5_wishersOf.2.2.1 37 = .ok (.iload_n 2, 1) := by decide +kernel
theorem dX5_wishersOf_38 : decode mX5_wishersOf.2.2.1 38 = .ok (.ireturn, 1) := by decide +kernel
set_option maxHeartbeats 100000 in
theorem kX5_wishersOf_0 {d : Nat} {F : am_FT} {L : am_LT} {Q : am_QT} {l0 l2 l3 : Option Value} {x1 : Int32} : wt am_S0 d mX5_wishersOf 0 [l0, some (.int x1), l2, l3] [] F L Q = wt am_S0 d mX5_wishersOf 4 [l0, some (.int x1), some (.int 0), some (.int 0)] [] F L Q := (wt_iconst dX5_wishersOf_0 (v := 0) (by decide)).trans ((wt_istore_n dX5_wishersOf_1 (lv1 := [l0, some (.int x1), some (.int 0), l3]) (Nat.le_of_ble_eq_true rfl) rfl).trans ((wt_iconst dX5_wishersOf_2 (v := 0) (by decide)).trans (wt_istore_n dX5_wishersOf_3 (lv1 := [l0, some (.int x1), some (.int 0), some (.int 0)]) (Nat.le_of_ble_eq_true rfl) rfl)))
set_option maxHeartbeats 100000 in
theorem kX5_wishersOf_4 {d : Nat} {F : am_FT} {L : am_LT} {Q : am_QT} {l1 l2 : Option Value} {x3 : Int32} : wt am_S0 d mX5_wishersOf 4 [some (.ref 1), l1, l2, some (.int x3)] [] F L Q = if (F 1 2) ≤ x3 then wt am_S0 d mX5_wishersOf 37 [some (.ref 1), l1, l2, some (.int x3)] [] F L Q else wt am_S0 d mX5_wishersOf 12 [some (.ref 1), l1, l2, some (.int x3)] [] F L Q := (wt_iload_n dX5_wishersOf_4 rfl).trans ((wt_aload_n dX5_wishersOf_5 rfl rfl).trans ((wt_getfield dX5_wishersOf_6 rfl rfl (v := .int (F 1 2)) rfl).trans (wt_if_icmp_ge dX5_wishersOf_9 (t := 37) rfl)))
set_option maxHeartbeats 100000 in
theorem kX5_wishersOf_12 {d : Nat} {F : am_FT} {L : am_LT} {Q : am_QT} {l1 l2 : Option Value} {x3 : Int32} : wt am_S0 (d + 1) mX5_wishersOf 12 [some (.ref 1), l1, l2, some (.int x3)] [] F L Q = wc am_S0 d mX5_read [.ref 1, .int x3, .int 5] F L (fun r G K => wt am_S0 (d + 1) mX5_wishersOf 18 [some (.ref 1), l1, l2, some (.int x3)] (r.toList ++ []) G K Q) := (wt_aload_n dX5_wishersOf_12 rfl rfl).trans ((wt_iload_n dX5_wishersOf_13 rfl).trans ((wt_iconst dX5_wishersOf_14 (v := 5) (by decide)).trans (wt_callV dX5_wishersOf_15 rfl (as := [.int x3, .int 5]) (rest := []) rfl rfl (Nat.le_of_ble_eq_true rfl) rfl (Nat.le_of_ble_eq_true rfl))))
set_option maxHeartbeats 100000 in
theorem kX5_wishersOf_18 {d : Nat} {F : am_FT} {L : am_LT} {Q : am_QT} {l0 l2 l3 : Option Value} {s0 x1 : Int32} : wt am_S0 (d + 1) mX5_wishersOf 18 [l0, some (.int x1), l2, l3] [.int s0] F L Q = wc am_S0 d mX11_holds [.int s0, .int x1] F L (fun r G K => wt am_S0 (d + 1) mX5_wishersOf 22 [l0, some (.int x1), l2, l3] (r.toList ++ []) G K Q) := (wt_iload_n dX5_wishersOf_18 rfl).trans (wt_callS dX5_wishersOf_19 rfl (as := [.int s0, .int x1]) (rest := []) rfl rfl (Nat.le_of_ble_eq_true rfl) (Nat.le_of_ble_eq_true rfl))
set_option maxHeartbeats 100000 in
theorem kX5_wishersOf_22 {d : Nat} {F : am_FT} {L : am_LT} {Q : am_QT} {l0 l1 l2 l3 : Option Value} {s0 : Int32} : wt am_S0 d mX5_wishersOf 22 [l0, l1, l2, l3] [.int s0] F L Q = if s0 = 0 then wt am_S0 d mX5_wishersOf 31 [l0, l1, l2, l3] [] F L Q else wt am_S0 d mX5_wishersOf 25 [l0, l1, l2, l3] [] F L Q := wt_ifCond_eq dX5_wishersOf_22 (t := 31) rfl
set_option maxHeartbeats 100000 in
theorem kX5_wishersOf_25 {d : Nat} {F : am_FT} {L : am_LT} {Q : am_QT} {l0 : Option Value} {x2 x3 x1 : Int32} : wt am_S0 d mX5_wishersOf 25 [l0, some (.int x1), some (.int x2), some (.int x3)] [] F L Q = wt am_S0 d mX5_wishersOf 31 [l0, some (.int x1), some (.int (x2 ||| ((1 : Int32) <<< (x3 &&& 31)))), some (.int x3)] [] F L Q := (wt_iload_n dX5_wishersOf_25 rfl).trans ((wt_iconst dX5_wishersOf_26 (v := 1) (by decide)).trans ((wt_iload_n dX5_wishersOf_27 rfl).trans ((wt_ishl dX5_wishersOf_28).trans ((wt_ior dX5_wishersOf_29).trans (wt_istore_n dX5_wishersOf_30 (lv1 := [l0, some (.int x1), some (.int (x2 ||| ((1 : Int32) <<< (x3 &&& 31)))), some (.int x3)]) (Nat.le_of_ble_eq_true rfl) rfl)))))
set_option maxHeartbeats 100000 in
theorem kX5_wishersOf_31 {d : Nat} {F : am_FT} {L : am_LT} {Q : am_QT} {l0 l1 : Option Value} {x3 x2 : Int32} : wt am_S0 d mX5_wishersOf 31 [l0, l1, some (.int x2), some (.int x3)] [] F L Q = wt am_S0 d mX5_wishersOf 4 [l0, l1, some (.int x2), some (.int (x3 + 1))] [] F L Q := (wt_iinc dX5_wishersOf_31 (v := 1) (lv1 := [l0, l1, some (.int x2), some (.int (x3 + 1))]) rfl (Nat.le_of_ble_eq_true rfl) (by decide) rfl).trans (wt_goto dX5_wishersOf_34 (t := 4) rfl)
set_option maxHeartbeats 100000 in
theorem kX5_wishersOf_37 {d : Nat} {F : am_FT} {L : am_LT} {Q : am_QT} {l0 l1 l3 : Option Value} {x2 : Int32} : wt am_S0 d mX5_wishersOf 37 [l0, l1, some (.int x2), l3] [] F L Q = Q (some (.int x2)) F L := (wt_iload_n dX5_wishersOf_37 rfl).trans (wt_ireturn dX5_wishersOf_38 rfl rfl)
theorem dX5_shades_0 : decode mX5_shades.2.2.1 0 = .ok (.aload_n 0, 1) := by decide +kernel
theorem dX5_shades_1 : decode mX5_shades.2.2.1 1 = .ok (.iload_n 1, 1) := by decide +kernel
theorem dX5_shades_2 : decode mX5_shades.2.2.1 2 = .ok (.iconst 1, 1) := by decide +kernel
theorem dX5_shades_3 : decode mX5_shades.2.2.1 3 = .ok (.invokevirtual 51, 3) := by decide +kernel
theorem dX5_shades_6 : decode mX5_shades.2.2.1 6 = .ok (.aload_n 0, 1) := by decide +kernel
theorem dX5_shades_7 : decode mX5_shades.2.2.1 7 = .ok (.iload_n 2, 1) := by decide +kernel
theorem dX5_shades_8 : decode mX5_shades.2.2.1 8 = .ok (.iconst 3, 1) := by decide +kernel
theorem dX5_shades_9 : decode mX5_shades.2.2.1 9 = .ok (.invokevirtual 51, 3) := by decide +kernel
theorem dX5_shades_12 : decode mX5_shades.2.2.1 12 = .ok (.imul, 1) := by decide +kernel
theorem dX5_shades_13 : decode mX5_shades.2.2.1 13 = .ok (.iconst 3, 1) := by decide +kernel
theorem dX5_shades_14 : decode mX5_shades.2.2.1 14 = .ok (.idiv, 1) := by decide +kernel
theorem dX5_shades_15 : decode mX5_shades.2.2.1 15 = .ok (.istore 4, 2) := by decide +kernel
theorem dX5_shades_17 : decode mX5_shades.2.2.1 17 = .ok (.aload_n 0, 1) := by decide +kernel
theorem dX5_shades_18 : decode mX5_shades.2.2.1 18 = .ok (.iload_n 1, 1) := by decide +kernel
theorem dX5_shades_19 : decode mX5_shades.2.2.1 19 = .ok (.invokevirtual 60, 3) := by decide +kernel
theorem dX5_shades_22 : decode mX5_shades.2.2.1 22 = .ok (.ifCond .eq 28, 3) := by decide +kernel
theorem dX5_shades_25 : decode mX5_shades.2.2.1 25 = .ok (.iload_n 3, 1) := by decide +kernel
theorem dX5_shades_26 : decode mX5_shades.2.2.1 26 = .ok (.aload_n 0, 1) := by decide +kernel
theorem dX5_shades_27 : decode mX5_shades.2.2.1 27 = .ok (.iload_n 1, 1) := by decide +kernel
theorem dX5_shades_28 : decode mX5_shades.2.2.1 28 = .ok (.iconst 0, 1) := by decide +kernel
theorem dX5_shades_29 : decode mX5_shades.2.2.1 29 = .ok (.invokevirtual 51, 3) := by decide +kernel
theorem dX5_shades_32 : decode mX5_shades.2.2.1 32 = .ok (.iload 4, 2) := by decide +kernel
theorem dX5_shades_34 : decode mX5_shades.2.2.1 34 = .ok (.aload_n 0, 1) := by decide +kernel
theorem dX5_shades_35 : decode mX5_shades.2.2.1 35 = .ok (.iload_n 1, 1) := by decide +kernel
theorem dX5_shades_36 : decode mX5_shades.2.2.1 36 = .ok (.iconst 2, 1) := by decide +kernel
theorem dX5_shades_37 : decode mX5_shades.2.2.1 37 = .ok (.invokevirtual 51, 3) := by decide +kernel
theorem dX5_shades_40 : decode mX5_shades.2.2.1 40 = .ok (.invokestatic 64, 3) := by decide +kernel
theorem dX5_shades_43 : decode mX5_shades.2.2.1 43 = .ok (.ifCond .eq 7, 3) := by decide +kernel
theorem dX5_shades_46 : decode mX5_shades.2.2.1 46 = .ok (.iconst 1, 1) := by decide +kernel
theorem dX5_shades_47 : decode mX5_shades.2.2.1 47 = .ok (.goto 4, 3) := by decide +kernel
theorem dX5_shades_50 : decode mX5_shades.2.2.1 50 = .ok (.iconst 0, 1) := by decide +kernel
theorem dX5_shades_51 : decode mX5_shades.2.2.1 51 = .ok (.ireturn, 1) := by decide +kernel
set_option maxHeartbeats 100000 in
theorem kX5_shades_0 {d : Nat} {F : am_FT} {L : am_LT} {Q : am_QT} {l2 l3 l4 : Option Value} {x1 : Int32} : wt am_S0 (d + 1) mX5_shades 0 [some (.ref 1), some (.int x1), l2, l3, l4] [] F L Q = wc am_S0 d mX5_read [.ref 1, .int x1, .int 1] F L (fun r G K => wt am_S0 (d + 1) mX5_shades 6 [some (.ref 1), some (.int x1), l2, l3, l4] (r.toList ++ []) G K Q) := (wt_aload_n dX5_shades_0 rfl rfl).trans ((wt_iload_n dX5_shades_1 rfl).trans ((wt_iconst dX5_shades_2 (v := 1) (by decide)).trans (wt_callV dX5_shades_3 rfl (as := [.int x1, .int 1]) (rest := []) rfl rfl (Nat.le_of_ble_eq_true rfl) rfl (Nat.le_of_ble_eq_true rfl))))
set_option maxHeartbeats 100000 in
theorem kX5_shades_6 {d : Nat} {F : am_FT} {L : am_LT} {Q : am_QT} {l1 l3 l4 : Option Value} {s0 x2 : Int32} : wt am_S0 (d + 1) mX5_shades 6 [some (.ref 1), l1, some (.int x2), l3, l4] [.int s0] F L Q = wc am_S0 d mX5_read [.ref 1, .int x2, .int 3] F L (fun r G K => wt am_S0 (d + 1) mX5_shades 12 [some (.ref 1), l1, some (.int x2), l3, l4] (r.toList ++ [.int s0]) G K Q) := (wt_aload_n dX5_shades_6 rfl rfl).trans ((wt_iload_n dX5_shades_7 rfl).trans ((wt_iconst dX5_shades_8 (v := 3) (by decide)).trans (wt_callV dX5_shades_9 rfl (as := [.int x2, .int 3]) (rest := [.int s0]) rfl rfl (Nat.le_of_ble_eq_true rfl) rfl (Nat.le_of_ble_eq_true rfl))))
set_option maxHeartbeats 100000 in
theorem kX5_shades_12 {d : Nat} {F : am_FT} {L : am_LT} {Q : am_QT} {l2 l4 : Option Value} {s0 s1 x3 x1 : Int32} : wt am_S0 (d + 1) mX5_shades 12 [some (.ref 1), some (.int x1), l2, some (.int x3), l4] [.int s1, .int s0] F L Q = wc am_S0 d mX5_stands [.ref 1, .int x1] F L (fun r G K => wt am_S0 (d + 1) mX5_shades 22 [some (.ref 1), some (.int x1), l2, some (.int x3), some (.int ((s0 * s1) / 3))] (r.toList ++ []) G K Q) := (wt_imul dX5_shades_12).trans ((wt_iconst dX5_shades_13 (v := 3) (by decide)).trans ((wt_idiv dX5_shades_14 (by decide)).trans ((wt_istore dX5_shades_15 (lv1 := [some (.ref 1), some (.int x1), l2, some (.int x3), some (.int ((s0 * s1) / 3))]) (Nat.le_of_ble_eq_true rfl) rfl).trans ((wt_aload_n dX5_shades_17 rfl rfl).trans ((wt_iload_n dX5_shades_18 rfl).trans (wt_callV dX5_shades_19 rfl (as := [.int x1]) (rest := []) rfl rfl (Nat.le_of_ble_eq_true rfl) rfl (Nat.le_of_ble_eq_true rfl)))))))
set_option maxHeartbeats 100000 in
theorem kX5_shades_22 {d : Nat} {F : am_FT} {L : am_LT} {Q : am_QT} {l0 l1 l2 l3 l4 : Option Value} {s0 : Int32} : wt am_S0 d mX5_shades 22 [l0, l1, l2, l3, l4] [.int s0] F L Q = if s0 = 0 then wt am_S0 d mX5_shades 50 [l0, l1, l2, l3, l4] [] F L Q else wt am_S0 d mX5_shades 25 [l0, l1, l2, l3, l4] [] F L Q := wt_ifCond_eq dX5_shades_22 (t := 50) rfl
set_option maxHeartbeats 100000 in
theorem kX5_shades_25 {d : Nat} {F : am_FT} {L : am_LT} {Q : am_QT} {l2 l4 : Option Value} {x3 x1 : Int32} : wt am_S0 (d + 1) mX5_shades 25 [some (.ref 1), some (.int x1), l2, some (.int x3), l4] [] F L Q = wc am_S0 d mX5_read [.ref 1, .int x1, .int 0] F L (fun r G K => wt am_S0 (d + 1) mX5_shades 32 [some (.ref 1), some (.int x1), l2, some (.int x3), l4] (r.toList ++ [.int x3]) G K Q) := (wt_iload_n dX5_shades_25 rfl).trans ((wt_aload_n dX5_shades_26 rfl rfl).trans ((wt_iload_n dX5_shades_27 rfl).trans ((wt_iconst dX5_shades_28 (v := 0) (by decide)).trans (wt_callV dX5_shades_29 rfl (as := [.int x1, .int 0]) (rest := [.int x3]) rfl rfl (Nat.le_of_ble_eq_true rfl) rfl (Nat.le_of_ble_eq_true rfl)))))
set_option maxHeartbeats 100000 in
theorem kX5_shades_32 {d : Nat} {F : am_FT} {L : am_LT} {Q : am_QT} {l2 l3 : Option Value} {s0 s1 x4 x1 : Int32} : wt am_S0 (d + 1) mX5_shades 32 [some (.ref 1), some (.int x1), l2, l3, some (.int x4)] [.int s1, .int s0] F L Q = wc am_S0 d mX5_read [.ref 1, .int x1, .int 2] F L (fun r G K => wt am_S0 (d + 1) mX5_shades 40 [some (.ref 1), some (.int x1), l2, l3, some (.int x4)] (r.toList ++ [.int x4, .int s1, .int s0]) G K Q) := (wt_iload dX5_shades_32 rfl).trans ((wt_aload_n dX5_shades_34 rfl rfl).trans ((wt_iload_n dX5_shades_35 rfl).trans ((wt_iconst dX5_shades_36 (v := 2) (by decide)).trans (wt_callV dX5_shades_37 rfl (as := [.int x1, .int 2]) (rest := [.int x4, .int s1, .int s0]) rfl rfl (Nat.le_of_ble_eq_true rfl) rfl (Nat.le_of_ble_eq_true rfl)))))
set_option maxHeartbeats 100000 in
theorem kX5_shades_40 {d : Nat} {F : am_FT} {L : am_LT} {Q : am_QT} {l0 l1 l2 l3 l4 : Option Value} {s0 s1 s2 s3 : Int32} : wt am_S0 (d + 1) mX5_shades 40 [l0, l1, l2, l3, l4] [.int s3, .int s2, .int s1, .int s0] F L Q = wc am_S0 d mX5_lies [.int s0, .int s1, .int s2, .int s3] F L (fun r G K => wt am_S0 (d + 1) mX5_shades 43 [l0, l1, l2, l3, l4] (r.toList ++ []) G K Q) := wt_callS dX5_shades_40 rfl (as := [.int s0, .int s1, .int s2, .int s3]) (rest := []) rfl rfl (Nat.le_of_ble_eq_true rfl) (Nat.le_of_ble_eq_true rfl)
set_option maxHeartbeats 100000 in
theorem kX5_shades_43 {d : Nat} {F : am_FT} {L : am_LT} {Q : am_QT} {l0 l1 l2 l3 l4 : Option Value} {s0 : Int32} : wt am_S0 d mX5_shades 43 [l0, l1, l2, l3, l4] [.int s0] F L Q = if s0 = 0 then wt am_S0 d mX5_shades 50 [l0, l1, l2, l3, l4] [] F L Q else wt am_S0 d mX5_shades 46 [l0, l1, l2, l3, l4] [] F L Q := wt_ifCond_eq dX5_shades_43 (t := 50) rfl
set_option maxHeartbeats 100000 in
theorem kX5_shades_46 {d : Nat} {F : am_FT} {L : am_LT} {Q : am_QT} {l0 l1 l2 l3 l4 : Option Value} : wt am_S0 d mX5_shades 46 [l0, l1, l2, l3, l4] [] F L Q = wt am_S0 d mX5_shades 51 [l0, l1, l2, l3, l4] [.int 1] F L Q := (wt_iconst dX5_shades_46 (v := 1) (by decide)).trans (wt_goto dX5_shades_47 (t := 51) rfl)
set_option maxHeartbeats 100000 in
theorem kX5_shades_50 {d : Nat} {F : am_FT} {L : am_LT} {Q : am_QT} {l0 l1 l2 l3 l4 : Option Value} : wt am_S0 d mX5_shades 50 [l0, l1, l2, l3, l4] [] F L Q = wt am_S0 d mX5_shades 51 [l0, l1, l2, l3, l4] [.int 0] F L Q := wt_iconst dX5_shades_50 (v := 0) (by decide)
set_option maxHeartbeats 100000 in
theorem kX5_shades_51 {d : Nat} {F : am_FT} {L : am_LT} {Q : am_QT} {l0 l1 l2 l3 l4 : Option Value} {s0 : Int32} (h1 : narrow .boolean (.int s0) = .int s0) : wt am_S0 d mX5_shades 51 [l0, l1, l2, l3, l4] [.int s0] F L Q = Q (some (.int s0)) F L := wt_ireturn dX5_shades_51 rfl h1
