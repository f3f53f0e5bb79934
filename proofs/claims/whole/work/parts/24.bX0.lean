theorem dX0_open_0 : decode mX0_open.2.2.1 0 = .ok (.aload_n 0, 1) := by decide +kernel
theorem dX0_open_1 : decode mX0_open.2.2.1 1 = .ok (.iload_n 1, 1) := by decide +kernel
theorem dX0_open_2 : decode mX0_open.2.2.1 2 = .ok (.iload_n 2, 1) := by decide +kernel
theorem dX0_open_3 : decode mX0_open.2.2.1 3 = .ok (.aload_n 0, 1) := by decide +kernel
theorem dX0_open_4 : decode mX0_open.2.2.1 4 = .ok (.getfield 18, 3) := by decide +kernel
theorem dX0_open_7 : decode mX0_open.2.2.1 7 = .ok (.iload_n 1, 1) := by decide +kernel
theorem dX0_open_8 : decode mX0_open.2.2.1 8 = .ok (.iconst 1, 1) := by decide +kernel
theorem dX0_open_9 : decode mX0_open.2.2.1 9 = .ok (.invokevirtual 26, 3) := by decide +kernel
theorem dX0_open_12 : decode mX0_open.2.2.1 12 = .ok (.invokevirtual 32, 3) := by decide +kernel
theorem dX0_open_15 : decode mX0_open.2.2.1 15 = .ok (.aload_n 0, 1) := by decide +kernel
theorem dX0_open_16 : decode mX0_open.2.2.1 16 = .ok (.getfield 18, 3) := by decide +kernel
theorem dX0_open_19 : decode mX0_open.2.2.1 19 = .ok (.iload_n 1, 1) := by decide +kernel
theorem dX0_open_20 : decode mX0_open.2.2.1 20 = .ok (.invokevirtual 36, 3) := by decide +kernel
theorem dX0_open_23 : decode mX0_open.2.2.1 23 = .ok (.ifCond .ne 13, 3) := by decide +kernel
theorem dX0_open_26 : decode mX0_open.2.2.1 26 = .ok (.aload_n 0, 1) := by decide +kernel
theorem dX0_open_27 : decode mX0_open.2.2.1 27 = .ok (.iconst 0, 1) := by decide +kernel
theorem dX0_open_28 : decode mX0_open.2.2.1 28 = .ok (.putfield 40, 3) := by decide +kernel
theorem dX0_open_31 : decode mX0_open.2.2.1 31 = .ok (.aload_n 0, 1) := by decide +kernel
theorem dX0_open_32 : decode mX0_open.2.2.1 32 = .ok (.iconst 0, 1) := by decide +kernel
theorem dX0_open_33 : decode mX0_open.2.2.1 33 = .ok (.putfield 44, 3) := by decide +kernel
theorem dX0_open_36 : decode mX0_open.2.2.1 36 = .ok (.return_, 1) := by decide +kernel
set_option maxHeartbeats 100000 in
theorem kX0_open_0 {d : Nat} {F : am_FT} {L : am_LT} {Q : am_QT} {x1 x2 : Int32} : wt am_S0 (d + 1) mX0_open 0 [some (.ref 9), some (.int x1), some (.int x2)] [] F L Q = wc am_S0 d mX5_read [.ref 1, .int x1, .int 1] F L (fun r G K => wt am_S0 (d + 1) mX0_open 12 [some (.ref 9), some (.int x1), some (.int x2)] (r.toList ++ [.int x2, .int x1, .ref 9]) G K Q) := (wt_aload_n dX0_open_0 rfl rfl).trans ((wt_iload_n dX0_open_1 rfl).trans ((wt_iload_n dX0_open_2 rfl).trans ((wt_aload_n dX0_open_3 rfl rfl).trans ((wt_getfield dX0_open_4 rfl rfl (v := .ref 1) rfl).trans ((wt_iload_n dX0_open_7 rfl).trans ((wt_iconst dX0_open_8 (v := 1) (by decide)).trans (wt_callV dX0_open_9 rfl (as := [.int x1, .int 1]) (rest := [.int x2, .int x1, .ref 9]) rfl rfl (Nat.le_of_ble_eq_true rfl) rfl (Nat.le_of_ble_eq_true rfl))))))))
set_option maxHeartbeats 100000 in
theorem kX0_open_12 {d : Nat} {F : am_FT} {L : am_LT} {Q : am_QT} {l0 l1 l2 : Option Value} {s1 s2 s3 : Int32} : wt am_S0 (d + 1) mX0_open 12 [l0, l1, l2] [.int s3, .int s2, .int s1, .ref 9] F L Q = wc am_S0 d mX0_openAsIf [.ref 9, .int s1, .int s2, .int s3] F L (fun r G K => wt am_S0 (d + 1) mX0_open 15 [l0, l1, l2] (r.toList ++ []) G K Q) := wt_callV dX0_open_12 rfl (as := [.int s1, .int s2, .int s3]) (rest := []) rfl rfl (Nat.le_of_ble_eq_true rfl) rfl (Nat.le_of_ble_eq_true rfl)
set_option maxHeartbeats 100000 in
theorem kX0_open_15 {d : Nat} {F : am_FT} {L : am_LT} {Q : am_QT} {l2 : Option Value} {x1 : Int32} : wt am_S0 (d + 1) mX0_open 15 [some (.ref 9), some (.int x1), l2] [] F L Q = wc am_S0 d mX5_stands [.ref 1, .int x1] F L (fun r G K => wt am_S0 (d + 1) mX0_open 23 [some (.ref 9), some (.int x1), l2] (r.toList ++ []) G K Q) := (wt_aload_n dX0_open_15 rfl rfl).trans ((wt_getfield dX0_open_16 rfl rfl (v := .ref 1) rfl).trans ((wt_iload_n dX0_open_19 rfl).trans (wt_callV dX0_open_20 rfl (as := [.int x1]) (rest := []) rfl rfl (Nat.le_of_ble_eq_true rfl) rfl (Nat.le_of_ble_eq_true rfl))))
set_option maxHeartbeats 100000 in
theorem kX0_open_23 {d : Nat} {F : am_FT} {L : am_LT} {Q : am_QT} {l0 l1 l2 : Option Value} {s0 : Int32} : wt am_S0 d mX0_open 23 [l0, l1, l2] [.int s0] F L Q = if ¬ s0 = 0 then wt am_S0 d mX0_open 36 [l0, l1, l2] [] F L Q else wt am_S0 d mX0_open 26 [l0, l1, l2] [] F L Q := wt_ifCond_ne dX0_open_23 (t := 36) rfl
set_option maxHeartbeats 100000 in
theorem kX0_open_26 {d : Nat} {F : am_FT} {L : am_LT} {Q : am_QT} {l1 l2 : Option Value} : wt am_S0 d mX0_open 26 [some (.ref 9), l1, l2] [] F L Q = wt am_S0 d mX0_open 36 [some (.ref 9), l1, l2] [] (am_upF (am_upF F 9 4 0) 9 5 0) L Q := (wt_aload_n dX0_open_26 rfl rfl).trans ((wt_iconst dX0_open_27 (v := 0) (by decide)).trans ((wt_putfield dX0_open_28 rfl rfl ⟨rfl, rfl, by decide, by decide⟩).trans ((wt_aload_n dX0_open_31 rfl rfl).trans ((wt_iconst dX0_open_32 (v := 0) (by decide)).trans (wt_putfield dX0_open_33 rfl rfl ⟨rfl, rfl, rfl, rfl⟩)))))
set_option maxHeartbeats 100000 in
theorem kX0_open_36 {d : Nat} {F : am_FT} {L : am_LT} {Q : am_QT} {l0 l1 l2 : Option Value} : wt am_S0 d mX0_open 36 [l0, l1, l2] [] F L Q = Q none F L := wt_return dX0_open_36 rfl
theorem dX0_openAsIf_0 : decode mX0_openAsIf.2.2.1 0 = .ok (.aload_n 0, 1) := by decide +kernel
theorem dX0_openAsIf_1 : decode mX0_openAsIf.2.2.1 1 = .ok (.getfield 22, 3) := by decide +kernel
theorem dX0_openAsIf_4 : decode mX0_openAsIf.2.2.1 4 = .ok (.iload_n 1, 1) := by decide +kernel
theorem dX0_openAsIf_5 : decode mX0_openAsIf.2.2.1 5 = .ok (.iload_n 2, 1) := by decide +kernel
theorem dX0_openAsIf_6 : decode mX0_openAsIf.2.2.1 6 = .ok (.iload_n 3, 1) := by decide +kernel
theorem dX0_openAsIf_7 : decode mX0_openAsIf.2.2.1 7 = .ok (.invokevirtual 48, 3) := by decide +kernel
theorem dX0_openAsIf_10 : decode mX0_openAsIf.2.2.1 10 = .ok (.iconst 0, 1) := by decide +kernel
theorem dX0_openAsIf_11 : decode mX0_openAsIf.2.2.1 11 = .ok (.istore 4, 2) := by decide +kernel
theorem dX0_openAsIf_13 : decode mX0_openAsIf.2.2.1 13 = .ok (.iload 4, 2) := by decide +kernel
theorem dX0_openAsIf_15 : decode mX0_openAsIf.2.2.1 15 = .ok (.aload_n 0, 1) := by decide +kernel
theorem dX0_openAsIf_16 : decode mX0_openAsIf.2.2.1 16 = .ok (.getfield 15, 3) := by decide +kernel
theorem dX0_openAsIf_19 : decode mX0_openAsIf.2.2.1 19 = .ok (.arraylength, 1) := by decide +kernel
theorem dX0_openAsIf_20 : decode mX0_openAsIf.2.2.1 20 = .ok (.if_icmp .ge 17, 3) := by decide +kernel
theorem dX0_openAsIf_23 : decode mX0_openAsIf.2.2.1 23 = .ok (.aload_n 0, 1) := by decide +kernel
theorem dX0_openAsIf_24 : decode mX0_openAsIf.2.2.1 24 = .ok (.getfield 15, 3) := by decide +kernel
theorem dX0_openAsIf_27 : decode mX0_openAsIf.2.2.1 27 = .ok (.iload 4, 2) := by decide +kernel
theorem dX0_openAsIf_29 : decode mX0_openAsIf.2.2.1 29 = .ok (.iconst 0, 1) := by decide +kernel
theorem dX0_openAsIf_30 : decode mX0_openAsIf.2.2.1 30 = .ok (.iastore, 1) := by decide +kernel
theorem dX0_openAsIf_31 : decode mX0_openAsIf.2.2.1 31 = .ok (.iinc 4 1, 3) := by decide +kernel
theorem dX0_openAsIf_34 : decode mX0_openAsIf.2.2.1 34 = .ok (.goto (-21), 3) := by decide +kernel
theorem dX0_openAsIf_37 : decode mX0_openAsIf.2.2.1 37 = .ok (.aload_n 0, 1) := by decide +kernel
theorem dX0_openAsIf_38 : decode mX0_openAsIf.2.2.1 38 = .ok (.iconst 1, 1) := by decide +kernel
theorem dX0_openAsIf_39 : decode mX0_openAsIf.2.2.1 39 = .ok (.putfield 40, 3) := by decide +kernel
theorem dX0_openAsIf_42 : decode mX0_openAsIf.2.2.1 42 = .ok (.aload_n 0, 1) := by decide +kernel
theorem dX0_openAsIf_43 : decode mX0_openAsIf.2.2.1 43 = .ok (.aload_n 0, 1) := by decide +kernel
theorem dX0_openAsIf_44 : decode mX0_openAsIf.2.2.1 44 = .ok (.getfield 18, 3) := by decide +kernel
theorem dX0_openAsIf_47 : decode mX0_openAsIf.2.2.1 47 = .ok (.iload_n 1, 1) := by decide +kernel
theorem dX0_openAsIf_48 : decode mX0_openAsIf.2.2.1 48 = .ok (.iload_n 2, 1) := by decide +kernel
theorem dX0_openAsIf_49 : decode mX0_openAsIf.2.2.1 49 = .ok (.iload_n 3, 1) := by decide +kernel
theorem dX0_openAsIf_50 : decode mX0_openAsIf.2.2.1 50 = .ok (.invokevirtual 53, 3) := by decide +kernel
theorem dX0_openAsIf_53 : decode mX0_openAsIf.2.2.1 53 = .ok (.putfield 44, 3) := by decide +kernel
theorem dX0_openAsIf_56 : decode mX0_openAsIf.2.2.1 56 = .ok (.aload_n 0, 1) := by decide +kernel
theorem dX0_openAsIf_57 : decode mX0_openAsIf.2.2.1 57 = .ok (.aload_n 0, 1) := by decide +kernel
theorem dX0_openAsIf_58 : decode mX0_openAsIf.2.2.1 58 = .ok (.getfield 18, 3) := by decide +kernel
theorem dX0_openAsIf_61 : decode mX0_openAsIf.2.2.1 61 = .ok (.iload_n 1, 1) := by decide +kernel
theorem dX0_openAsIf_62 : decode mX0_openAsIf.2.2.1 62 = .ok (.invokevirtual 57, 3) := by decide +kernel
theorem dX0_openAsIf_65 : decode mX0_openAsIf.2.2.1 65 = .ok (.putfield 61, 3) := by decide +kernel
theorem dX0_openAsIf_68 : decode mX0_openAsIf.2.2.1 68 = .ok (.return_, 1) := by decide +kernel
set_option maxHeartbeats 100000 in
theorem kX0_openAsIf_0 {d : Nat} {F : am_FT} {L : am_LT} {Q : am_QT} {l4 : Option Value} {x1 x2 x3 : Int32} : wt am_S0 (d + 1) mX0_openAsIf 0 [some (.ref 9), some (.int x1), some (.int x2), some (.int x3), l4] [] F L Q = wc am_S0 d mX6_nameTree [.ref 6, .int x1, .int x2, .int x3] F L (fun r G K => wt am_S0 (d + 1) mX0_openAsIf 10 [some (.ref 9), some (.int x1), some (.int x2), some (.int x3), l4] (r.toList ++ []) G K Q) := (wt_aload_n dX0_openAsIf_0 rfl rfl).trans ((wt_getfield dX0_openAsIf_1 rfl rfl (v := .ref 6) rfl).trans ((wt_iload_n dX0_openAsIf_4 rfl).trans ((wt_iload_n dX0_openAsIf_5 rfl).trans ((wt_iload_n dX0_openAsIf_6 rfl).trans (wt_callV dX0_openAsIf_7 rfl (as := [.int x1, .int x2, .int x3]) (rest := []) rfl rfl (Nat.le_of_ble_eq_true rfl) rfl (Nat.le_of_ble_eq_true rfl))))))
set_option maxHeartbeats 100000 in
theorem kX0_openAsIf_10 {d : Nat} {F : am_FT} {L : am_LT} {Q : am_QT} {l0 l1 l2 l4 : Option Value} {x3 : Int32} : wt am_S0 d mX0_openAsIf 10 [l0, l1, l2, some (.int x3), l4] [] F L Q = wt am_S0 d mX0_openAsIf 13 [l0, l1, l2, some (.int x3), some (.int 0)] [] F L Q := (wt_iconst dX0_openAsIf_10 (v := 0) (by decide)).trans (wt_istore dX0_openAsIf_11 (lv1 := [l0, l1, l2, some (.int x3), some (.int 0)]) (Nat.le_of_ble_eq_true rfl) rfl)
set_option maxHeartbeats 100000 in
theorem kX0_openAsIf_13 {d : Nat} {F : am_FT} {L : am_LT} {Q : am_QT} {l1 l2 l3 : Option Value} {x4 : Int32} : wt am_S0 d mX0_openAsIf 13 [some (.ref 9), l1, l2, l3, some (.int x4)] [] F L Q = if 11 ≤ x4 then wt am_S0 d mX0_openAsIf 37 [some (.ref 9), l1, l2, l3, some (.int x4)] [] F L Q else wt am_S0 d mX0_openAsIf 23 [some (.ref 9), l1, l2, l3, some (.int x4)] [] F L Q := (wt_iload dX0_openAsIf_13 rfl).trans ((wt_aload_n dX0_openAsIf_15 rfl rfl).trans ((wt_getfield dX0_openAsIf_16 rfl rfl (v := .ref 11) rfl).trans ((wt_arraylength dX0_openAsIf_19 rfl (by decide) (by decide)).trans (wt_if_icmp_ge dX0_openAsIf_20 (t := 37) rfl))))
set_option maxHeartbeats 100000 in
theorem kX0_openAsIf_23 {d : Nat} {F : am_FT} {L : am_LT} {Q : am_QT} {l1 l2 : Option Value} {x4 x3 : Int32} (h1 : am_oob x4 11 = false) : wt am_S0 d mX0_openAsIf 23 [some (.ref 9), l1, l2, some (.int x3), some (.int x4)] [] F L Q = wt am_S0 d mX0_openAsIf 13 [some (.ref 9), l1, l2, some (.int x3), some (.int (x4 + 1))] [] (am_upF F 11 (Int32.toNatClampNeg x4) 0) L Q := (wt_aload_n dX0_openAsIf_23 rfl rfl).trans ((wt_getfield dX0_openAsIf_24 rfl rfl (v := .ref 11) rfl).trans ((wt_iload dX0_openAsIf_27 rfl).trans ((wt_iconst dX0_openAsIf_29 (v := 0) (by decide)).trans ((wt_iastore dX0_openAsIf_30 rfl h1).trans ((wt_iinc dX0_openAsIf_31 (v := 1) (lv1 := [some (.ref 9), l1, l2, some (.int x3), some (.int (x4 + 1))]) rfl (Nat.le_of_ble_eq_true rfl) (by decide) rfl).trans (wt_goto dX0_openAsIf_34 (t := 13) rfl))))))
set_option maxHeartbeats 100000 in
theorem kX0_openAsIf_37 {d : Nat} {F : am_FT} {L : am_LT} {Q : am_QT} {l4 : Option Value} {x1 x2 x3 : Int32} : wt am_S0 (d + 1) mX0_openAsIf 37 [some (.ref 9), some (.int x1), some (.int x2), some (.int x3), l4] [] F L Q = wc am_S0 d mX5_coveredBy [.ref 1, .int x1, .int x2, .int x3] (am_upF F 9 4 1) L (fun r G K => wt am_S0 (d + 1) mX0_openAsIf 53 [some (.ref 9), some (.int x1), some (.int x2), some (.int x3), l4] (r.toList ++ [.ref 9]) G K Q) := (wt_aload_n dX0_openAsIf_37 rfl rfl).trans ((wt_iconst dX0_openAsIf_38 (v := 1) (by decide)).trans ((wt_putfield dX0_openAsIf_39 rfl rfl ⟨rfl, rfl, by decide, by decide⟩).trans ((wt_aload_n dX0_openAsIf_42 rfl rfl).trans ((wt_aload_n dX0_openAsIf_43 rfl rfl).trans ((wt_getfield dX0_openAsIf_44 rfl rfl (v := .ref 1) rfl).trans ((wt_iload_n dX0_openAsIf_47 rfl).trans ((wt_iload_n dX0_openAsIf_48 rfl).trans ((wt_iload_n dX0_openAsIf_49 rfl).trans (wt_callV dX0_openAsIf_50 rfl (as := [.int x1, .int x2, .int x3]) (rest := [.ref 9]) rfl rfl (Nat.le_of_ble_eq_true rfl) rfl (Nat.le_of_ble_eq_true rfl))))))))))
set_option maxHeartbeats 100000 in
theorem kX0_openAsIf_53 {d : Nat} {F : am_FT} {L : am_LT} {Q : am_QT} {l2 l3 l4 : Option Value} {s1 x1 : Int32} : wt am_S0 (d + 1) mX0_openAsIf 53 [some (.ref 9), some (.int x1), l2, l3, l4] [.int s1, .ref 9] F L Q = wc am_S0 d mX5_wishersOf [.ref 1, .int x1] (am_upF F 9 5 s1) L (fun r G K => wt am_S0 (d + 1) mX0_openAsIf 65 [some (.ref 9), some (.int x1), l2, l3, l4] (r.toList ++ [.ref 9]) G K Q) := (wt_putfield dX0_openAsIf_53 rfl rfl ⟨rfl, rfl, rfl, rfl⟩).trans ((wt_aload_n dX0_openAsIf_56 rfl rfl).trans ((wt_aload_n dX0_openAsIf_57 rfl rfl).trans ((wt_getfield dX0_openAsIf_58 rfl rfl (v := .ref 1) rfl).trans ((wt_iload_n dX0_openAsIf_61 rfl).trans (wt_callV dX0_openAsIf_62 rfl (as := [.int x1]) (rest := [.ref 9]) rfl rfl (Nat.le_of_ble_eq_true rfl) rfl (Nat.le_of_ble_eq_true rfl))))))
set_option maxHeartbeats 100000 in
theorem kX0_openAsIf_65 {d : Nat} {F : am_FT} {L : am_LT} {Q : am_QT} {l0 l1 l2 l3 l4 : Option Value} {s1 : Int32} : wt am_S0 d mX0_openAsIf 65 [l0, l1, l2, l3, l4] [.int s1, .ref 9] F L Q = Q none (am_upF F 9 6 s1) L := (wt_putfield dX0_openAsIf_65 rfl rfl ⟨rfl, rfl, rfl, rfl⟩).trans (wt_return dX0_openAsIf_68 rfl)
theorem dX0_passes_0 : decode mX0_passes.2.2.1 0 = .ok (.aload_n 0, 1) := by decide +kernel
theorem dX0_passes_1 : decode mX0_passes.2.2.1 1 = .ok (.getfield 40, 3) := by decide +kernel
theorem dX0_passes_4 : decode mX0_passes.2.2.1 4 = .ok (.ifCond .ne 5, 3) := by decide +kernel
theorem dX0_passes_7 : decode mX0_passes.2.2.1 7 = .ok (.iconst 0, 1) := by decide +kernel
theorem dX0_passes_8 : decode mX0_passes.2.2.1 8 = .ok (.ireturn, 1) := by decide +kernel
theorem dX0_passes_9 : decode mX0_passes.2.2.1 9 = .ok (.iload_n 1, 1) := by decide +kernel
theorem dX0_passes_10 : decode mX0_passes.2.2.1 10 = .ok (.invokestatic 91, 3) := by decide +kernel
theorem dX0_passes_13 : decode mX0_passes.2.2.1 13 = .ok (.istore_n 3, 1) := by decide +kernel
theorem dX0_passes_14 : decode mX0_passes.2.2.1 14 = .ok (.iconst 0, 1) := by decide +kernel
theorem dX0_passes_15 : decode mX0_passes.2.2.1 15 = .ok (.istore 4, 2) := by decide +kernel
theorem dX0_passes_17 : decode mX0_passes.2.2.1 17 = .ok (.iconst 0, 1) := by decide +kernel
theorem dX0_passes_18 : decode mX0_passes.2.2.1 18 = .ok (.istore 5, 2) := by decide +kernel
theorem dX0_passes_20 : decode mX0_passes.2.2.1 20 = .ok (.iload 5, 2) := by decide +kernel
theorem dX0_passes_22 : decode mX0_passes.2.2.1 22 = .ok (.aload_n 0, 1) := by decide +kernel
theorem dX0_passes_23 : decode mX0_passes.2.2.1 23 = .ok (.getfield 18, 3) := by decide +kernel
theorem dX0_passes_26 : decode mX0_passes.2.2.1 26 = .ok (.getfield 96, 3) := by decide +kernel
theorem dX0_passes_29 : decode mX0_passes.2.2.1 29 = .ok (.if_icmp .ge 52, 3) := by decide +kernel
theorem dX0_passes_32 : decode mX0_passes.2.2.1 32 = .ok (.iload_n 1, 1) := by decide +kernel
theorem dX0_passes_33 : decode mX0_passes.2.2.1 33 = .ok (.iload 5, 2) := by decide +kernel
theorem dX0_passes_35 : decode mX0_passes.2.2.1 35 = .ok (.invokestatic 68, 3) := by decide +kernel
theorem dX0_passes_38 : decode mX0_passes.2.2.1 38 = .ok (.ifCond .ne 6, 3) := by decide +kernel
theorem dX0_passes_41 : decode mX0_passes.2.2.1 41 = .ok (.goto 34, 3) := by decide +kernel
theorem dX0_passes_44 : decode mX0_passes.2.2.1 44 = .ok (.aload_n 0, 1) := by decide +kernel
theorem dX0_passes_45 : decode mX0_passes.2.2.1 45 = .ok (.iload 5, 2) := by decide +kernel
theorem dX0_passes_47 : decode mX0_passes.2.2.1 47 = .ok (.iload_n 3, 1) := by decide +kernel
theorem dX0_passes_48 : decode mX0_passes.2.2.1 48 = .ok (.invokevirtual 99, 3) := by decide +kernel
theorem dX0_passes_51 : decode mX0_passes.2.2.1 51 = .ok (.istore 6, 2) := by decide +kernel
theorem dX0_passes_53 : decode mX0_passes.2.2.1 53 = .ok (.iload 4, 2) := by decide +kernel
theorem dX0_passes_55 : decode mX0_passes.2.2.1 55 = .ok (.iload_n 2, 1) := by decide +kernel
theorem dX0_passes_56 : decode mX0_passes.2.2.1 56 = .ok (.iload 5, 2) := by decide +kernel
theorem dX0_passes_58 : decode mX0_passes.2.2.1 58 = .ok (.invokestatic 68, 3) := by decide +kernel
theorem dX0_passes_61 : decode mX0_passes.2.2.1 61 = .ok (.ifCond .eq 8, 3) := by decide +kernel
theorem dX0_passes_64 : decode mX0_passes.2.2.1 64 = .ok (.iload 6, 2) := by decide +kernel
theorem dX0_passes_66 : decode mX0_passes.2.2.1 66 = .ok (.goto 6, 3) := by decide +kernel
theorem dX0_passes_69 : decode mX0_passes.2.2.1 69 = .ok (.iload 6, 2) := by decide +kernel
theorem dX0_passes_71 : decode mX0_passes.2.2.1 71 = .ok (.ineg, 1) := by decide +kernel
theorem dX0_passes_72 : decode mX0_passes.2.2.1 72 = .ok (.iadd, 1) := by decide +kernel
theorem dX0_passes_73 : decode mX0_passes.2.2.1 73 = .ok (.istore 4, 2) := by decide +kernel
theorem dX0_passes_75 : decode mX0_passes.2.2.1 75 = .ok (.iinc 5 1, 3) := by decide +kernel
theorem dX0_passes_78 : decode mX0_passes.2.2.1 78 = .ok (.goto (-58), 3) := by decide +kernel
theorem dX0_passes_81 : decode mX0_passes.2.2.1 81 = .ok (.iload 4, 2) := by decide +kernel
theorem dX0_passes_83 : decode mX0_passes.2.2.1 83 = .ok (.ifCond .le 7, 3) := by decide +kernel
theorem dX0_passes_86 : decode mX0_passes.2.2.1 86 = .ok (.iconst 1, 1) := by decide +kernel
theorem dX0_passes_87 : decode mX0_passes.2.2.1 87 = .ok (.goto 4, 3) := by decide +kernel
theorem dX0_passes_90 : decode mX0_passes.2.2.1 90 = .ok (.iconst 0, 1) := by decide +kernel
theorem dX0_passes_91 : decode mX0_passes.2.2.1 91 = .ok (.ireturn, 1) := by decide +kernel
set_option maxHeartbeats 100000 in
theorem kX0_passes_0 {d : Nat} {F : am_FT} {L : am_LT} {Q : am_QT} {l1 l2 l3 l4 l5 l6 : Option Value} : wt am_S0 d mX0_passes 0 [some (.ref 9), l1, l2, l3, l4, l5, l6] [] F L Q = if ¬ (F 9 4) = 0 then wt am_S0 d mX0_passes 9 [some (.ref 9), l1, l2, l3, l4, l5, l6] [] F L Q else wt am_S0 d mX0_passes 7 [some (.ref 9), l1, l2, l3, l4, l5, l6] [] F L Q := (wt_aload_n dX0_passes_0 rfl rfl).trans ((wt_getfield dX0_passes_1 rfl rfl (v := .int (F 9 4)) rfl).trans (wt_ifCond_ne dX0_passes_4 (t := 9) rfl))
set_option maxHeartbeats 100000 in
theorem kX0_passes_7 {d : Nat} {F : am_FT} {L : am_LT} {Q : am_QT} {l0 l1 l2 l3 l4 l5 l6 : Option Value} : wt am_S0 d mX0_passes 7 [l0, l1, l2, l3, l4, l5, l6] [] F L Q = Q (some (.int 0)) F L := (wt_iconst dX0_passes_7 (v := 0) (by decide)).trans (wt_ireturn dX0_passes_8 rfl (by decide))
set_option maxHeartbeats 100000 in
theorem kX0_passes_9 {d : Nat} {F : am_FT} {L : am_LT} {Q : am_QT} {l0 l2 l3 l4 l5 l6 : Option Value} {x1 : Int32} : wt am_S0 (d + 1) mX0_passes 9 [l0, some (.int x1), l2, l3, l4, l5, l6] [] F L Q = wc am_S0 d mJ6_bitCount_0f7a4 [.int x1] F L (fun r G K => wt am_S0 (d + 1) mX0_passes 13 [l0, some (.int x1), l2, l3, l4, l5, l6] (r.toList ++ []) G K Q) := (wt_iload_n dX0_passes_9 rfl).trans (wt_callS dX0_passes_10 rfl (as := [.int x1]) (rest := []) rfl rfl (Nat.le_of_ble_eq_true rfl) (Nat.le_of_ble_eq_true rfl))
set_option maxHeartbeats 100000 in
theorem kX0_passes_13 {d : Nat} {F : am_FT} {L : am_LT} {Q : am_QT} {l0 l1 l3 l4 l5 l6 : Option Value} {s0 x2 : Int32} : wt am_S0 d mX0_passes 13 [l0, l1, some (.int x2), l3, l4, l5, l6] [.int s0] F L Q = wt am_S0 d mX0_passes 20 [l0, l1, some (.int x2), some (.int s0), some (.int 0), some (.int 0), l6] [] F L Q := (wt_istore_n dX0_passes_13 (lv1 := [l0, l1, some (.int x2), some (.int s0), l4, l5, l6]) (Nat.le_of_ble_eq_true rfl) rfl).trans ((wt_iconst dX0_passes_14 (v := 0) (by decide)).trans ((wt_istore dX0_passes_15 (lv1 := [l0, l1, some (.int x2), some (.int s0), some (.int 0), l5, l6]) (Nat.le_of_ble_eq_true rfl) rfl).trans ((wt_iconst dX0_passes_17 (v := 0) (by decide)).trans (wt_istore dX0_passes_18 (lv1 := [l0, l1, some (.int x2), some (.int s0), some (.int 0), some (.int 0), l6]) (Nat.le_of_ble_eq_true rfl) rfl))))
set_option maxHeartbeats 100000 in
theorem kX0_passes_20 {d : Nat} {F : am_FT} {L : am_LT} {Q : am_QT} {l1 l2 l3 l4 l6 : Option Value} {x5 : Int32} : wt am_S0 d mX0_passes 20 [some (.ref 9), l1, l2, l3, l4, some (.int x5), l6] [] F L Q = if (F 1 2) ≤ x5 then wt am_S0 d mX0_passes 81 [some (.ref 9), l1, l2, l3, l4, some (.int x5), l6] [] F L Q else wt am_S0 d mX0_passes 32 [some (.ref 9), l1, l2, l3, l4, some (.int x5), l6] [] F L Q := (wt_iload dX0_passes_20 rfl).trans ((wt_aload_n dX0_passes_22 rfl rfl).trans ((wt_getfield dX0_passes_23 rfl rfl (v := .ref 1) rfl).trans ((wt_getfield dX0_passes_26 rfl rfl (v := .int (F 1 2)) rfl).trans (wt_if_icmp_ge dX0_passes_29 (t := 81) rfl))))
set_option maxHeartbeats 100000 in
theorem kX0_passes_32 {d : Nat} {F : am_FT} {L : am_LT} {Q : am_QT} {l0 l2 l3 l4 l6 : Option Value} {x1 x5 : Int32} : wt am_S0 (d + 1) mX0_passes 32 [l0, some (.int x1), l2, l3, l4, some (.int x5), l6] [] F L Q = wc am_S0 d mX11_holds [.int x1, .int x5] F L (fun r G K => wt am_S0 (d + 1) mX0_passes 38 [l0, some (.int x1), l2, l3, l4, some (.int x5), l6] (r.toList ++ []) G K Q) := (wt_iload_n dX0_passes_32 rfl).trans ((wt_iload dX0_passes_33 rfl).trans (wt_callS dX0_passes_35 rfl (as := [.int x1, .int x5]) (rest := []) rfl rfl (Nat.le_of_ble_eq_true rfl) (Nat.le_of_ble_eq_true rfl)))
set_option maxHeartbeats 100000 in
theorem kX0_passes_38 {d : Nat} {F : am_FT} {L : am_LT} {Q : am_QT} {l0 l1 l2 l3 l4 l5 l6 : Option Value} {s0 : Int32} : wt am_S0 d mX0_passes 38 [l0, l1, l2, l3, l4, l5, l6] [.int s0] F L Q = if ¬ s0 = 0 then wt am_S0 d mX0_passes 44 [l0, l1, l2, l3, l4, l5, l6] [] F L Q else wt am_S0 d mX0_passes 41 [l0, l1, l2, l3, l4, l5, l6] [] F L Q := wt_ifCond_ne dX0_passes_38 (t := 44) rfl
set_option maxHeartbeats 100000 in
theorem kX0_passes_41 {d : Nat} {F : am_FT} {L : am_LT} {Q : am_QT} {l0 l1 l2 l3 l4 l5 l6 : Option Value} : wt am_S0 d mX0_passes 41 [l0, l1, l2, l3, l4, l5, l6] [] F L Q = wt am_S0 d mX0_passes 75 [l0, l1, l2, l3, l4, l5, l6] [] F L Q := wt_goto dX0_passes_41 (t := 75) rfl
set_option maxHeartbeats 100000 in
theorem kX0_passes_44 {d : Nat} {F : am_FT} {L : am_LT} {Q : am_QT} {l1 l2 l4 l6 : Option Value} {x5 x3 : Int32} : wt am_S0 (d + 1) mX0_passes 44 [some (.ref 9), l1, l2, some (.int x3), l4, some (.int x5), l6] [] F L Q = wc am_S0 d mX0_worthOf [.ref 9, .int x5, .int x3] F L (fun r G K => wt am_S0 (d + 1) mX0_passes 51 [some (.ref 9), l1, l2, some (.int x3), l4, some (.int x5), l6] (r.toList ++ []) G K Q) := (wt_aload_n dX0_passes_44 rfl rfl).trans ((wt_iload dX0_passes_45 rfl).trans ((wt_iload_n dX0_passes_47 rfl).trans (wt_callV dX0_passes_48 rfl (as := [.int x5, .int x3]) (rest := []) rfl rfl (Nat.le_of_ble_eq_true rfl) rfl (Nat.le_of_ble_eq_true rfl))))
set_option maxHeartbeats 100000 in
theorem kX0_passes_51 {d : Nat} {F : am_FT} {L : am_LT} {Q : am_QT} {l0 l1 l3 l6 : Option Value} {s0 x5 x4 x2 : Int32} : wt am_S0 (d + 1) mX0_passes 51 [l0, l1, some (.int x2), l3, some (.int x4), some (.int x5), l6] [.int s0] F L Q = wc am_S0 d mX11_holds [.int x2, .int x5] F L (fun r G K => wt am_S0 (d + 1) mX0_passes 61 [l0, l1, some (.int x2), l3, some (.int x4), some (.int x5), some (.int s0)] (r.toList ++ [.int x4]) G K Q) := (wt_istore dX0_passes_51 (lv1 := [l0, l1, some (.int x2), l3, some (.int x4), some (.int x5), some (.int s0)]) (Nat.le_of_ble_eq_true rfl) rfl).trans ((wt_iload dX0_passes_53 rfl).trans ((wt_iload_n dX0_passes_55 rfl).trans ((wt_iload dX0_passes_56 rfl).trans (wt_callS dX0_passes_58 rfl (as := [.int x2, .int x5]) (rest := [.int x4]) rfl rfl (Nat.le_of_ble_eq_true rfl) (Nat.le_of_ble_eq_true rfl)))))
set_option maxHeartbeats 100000 in
theorem kX0_passes_61 {d : Nat} {F : am_FT} {L : am_LT} {Q : am_QT} {l0 l1 l2 l3 l4 l5 l6 : Option Value} {s0 s1 : Int32} : wt am_S0 d mX0_passes 61 [l0, l1, l2, l3, l4, l5, l6] [.int s1, .int s0] F L Q = if s1 = 0 then wt am_S0 d mX0_passes 69 [l0, l1, l2, l3, l4, l5, l6] [.int s0] F L Q else wt am_S0 d mX0_passes 64 [l0, l1, l2, l3, l4, l5, l6] [.int s0] F L Q := wt_ifCond_eq dX0_passes_61 (t := 69) rfl
set_option maxHeartbeats 100000 in
theorem kX0_passes_64 {d : Nat} {F : am_FT} {L : am_LT} {Q : am_QT} {l0 l1 l2 l3 l4 l5 : Option Value} {s0 x6 : Int32} : wt am_S0 d mX0_passes 64 [l0, l1, l2, l3, l4, l5, some (.int x6)] [.int s0] F L Q = wt am_S0 d mX0_passes 72 [l0, l1, l2, l3, l4, l5, some (.int x6)] [.int x6, .int s0] F L Q := (wt_iload dX0_passes_64 rfl).trans (wt_goto dX0_passes_66 (t := 72) rfl)
set_option maxHeartbeats 100000 in
theorem kX0_passes_69 {d : Nat} {F : am_FT} {L : am_LT} {Q : am_QT} {l0 l1 l2 l3 l4 l5 : Option Value} {s0 x6 : Int32} : wt am_S0 d mX0_passes 69 [l0, l1, l2, l3, l4, l5, some (.int x6)] [.int s0] F L Q = wt am_S0 d mX0_passes 72 [l0, l1, l2, l3, l4, l5, some (.int x6)] [.int (-x6), .int s0] F L Q := (wt_iload dX0_passes_69 rfl).trans (wt_ineg dX0_passes_71)
set_option maxHeartbeats 100000 in
theorem kX0_passes_72 {d : Nat} {F : am_FT} {L : am_LT} {Q : am_QT} {l0 l1 l2 l4 l5 l6 : Option Value} {s0 s1 x3 : Int32} : wt am_S0 d mX0_passes 72 [l0, l1, l2, some (.int x3), l4, l5, l6] [.int s1, .int s0] F L Q = wt am_S0 d mX0_passes 75 [l0, l1, l2, some (.int x3), some (.int (s0 + s1)), l5, l6] [] F L Q := (wt_iadd dX0_passes_72).trans (wt_istore dX0_passes_73 (lv1 := [l0, l1, l2, some (.int x3), some (.int (s0 + s1)), l5, l6]) (Nat.le_of_ble_eq_true rfl) rfl)
set_option maxHeartbeats 100000 in
theorem kX0_passes_75 {d : Nat} {F : am_FT} {L : am_LT} {Q : am_QT} {l0 l1 l2 l3 l6 : Option Value} {x5 x4 : Int32} : wt am_S0 d mX0_passes 75 [l0, l1, l2, l3, some (.int x4), some (.int x5), l6] [] F L Q = wt am_S0 d mX0_passes 20 [l0, l1, l2, l3, some (.int x4), some (.int (x5 + 1)), l6] [] F L Q := (wt_iinc dX0_passes_75 (v := 1) (lv1 := [l0, l1, l2, l3, some (.int x4), some (.int (x5 + 1)), l6]) rfl (Nat.le_of_ble_eq_true rfl) (by decide) rfl).trans (wt_goto dX0_passes_78 (t := 20) rfl)
set_option maxHeartbeats 100000 in
theorem kX0_passes_81 {d : Nat} {F : am_FT} {L : am_LT} {Q : am_QT} {l0 l1 l2 l3 l5 l6 : Option Value} {x4 : Int32} : wt am_S0 d mX0_passes 81 [l0, l1, l2, l3, some (.int x4), l5, l6] [] F L Q = if x4 ≤ 0 then wt am_S0 d mX0_passes 90 [l0, l1, l2, l3, some (.int x4), l5, l6] [] F L Q else wt am_S0 d mX0_passes 86 [l0, l1, l2, l3, some (.int x4), l5, l6] [] F L Q := (wt_iload dX0_passes_81 rfl).trans (wt_ifCond_le dX0_passes_83 (t := 90) rfl)
set_option maxHeartbeats 100000 in
theorem kX0_passes_86 {d : Nat} {F : am_FT} {L : am_LT} {Q : am_QT} {l0 l1 l2 l3 l4 l5 l6 : Option Value} : wt am_S0 d mX0_passes 86 [l0, l1, l2, l3, l4, l5, l6] [] F L Q = wt am_S0 d mX0_passes 91 [l0, l1, l2, l3, l4, l5, l6] [.int 1] F L Q := (wt_iconst dX0_passes_86 (v := 1) (by decide)).trans (wt_goto dX0_passes_87 (t := 91) rfl)
set_option maxHeartbeats 100000 in
theorem kX0_passes_90 {d : Nat} {F : am_FT} {L : am_LT} {Q : am_QT} {l0 l1 l2 l3 l4 l5 l6 : Option Value} : wt am_S0 d mX0_passes 90 [l0, l1, l2, l3, l4, l5, l6] [] F L Q = wt am_S0 d mX0_passes 91 [l0, l1, l2, l3, l4, l5, l6] [.int 0] F L Q := wt_iconst dX0_passes_90 (v := 0) (by decide)
set_option maxHeartbeats 100000 in
theorem kX0_passes_91 {d : Nat} {F : am_FT} {L : am_LT} {Q : am_QT} {l0 l1 l2 l3 l4 l5 l6 : Option Value} {s0 : Int32} (h1 : narrow .boolean (.int s0) = .int s0) : wt am_S0 d mX0_passes 91 [l0, l1, l2, l3, l4, l5, l6] [.int s0] F L Q = Q (some (.int s0)) F L := wt_ireturn dX0_passes_91 rfl h1
theorem dX0_worthOf_0 : decode mX0_worthOf.2.2.1 0 = .ok (.iload_n 2, 1) := by decide +kernel
theorem dX0_worthOf_1 : decode mX0_worthOf.2.2.1 1 = .ok (.bipush 10, 2) := by decide +kernel
theorem dX0_worthOf_3 : decode mX0_worthOf.2.2.1 3 = .ok (.imul, 1) := by decide +kernel
theorem dX0_worthOf_4 : decode mX0_worthOf.2.2.1 4 = .ok (.iload_n 1, 1) := by decide +kernel
theorem dX0_worthOf_5 : decode mX0_worthOf.2.2.1 5 = .ok (.iadd, 1) := by decide +kernel
theorem dX0_worthOf_6 : decode mX0_worthOf.2.2.1 6 = .ok (.istore_n 3, 1) := by decide +kernel
theorem dX0_worthOf_7 : decode mX0_worthOf.2.2.1 7 = .ok (.aload_n 0, 1) := by decide +kernel
theorem dX0_worthOf_8 : decode mX0_worthOf.2.2.1 8 = .ok (.getfield 15, 3) := by decide +kernel
theorem dX0_worthOf_11 : decode mX0_worthOf.2.2.1 11 = .ok (.iload_n 2, 1) := by decide +kernel
theorem dX0_worthOf_12 : decode mX0_worthOf.2.2.1 12 = .ok (.invokestatic 64, 3) := by decide +kernel
theorem dX0_worthOf_15 : decode mX0_worthOf.2.2.1 15 = .ok (.iload_n 1, 1) := by decide +kernel
theorem dX0_worthOf_16 : decode mX0_worthOf.2.2.1 16 = .ok (.invokestatic 68, 3) := by decide +kernel
theorem dX0_worthOf_19 : decode mX0_worthOf.2.2.1 19 = .ok (.ifCond .ne 66, 3) := by decide +kernel
theorem dX0_worthOf_22 : decode mX0_worthOf.2.2.1 22 = .ok (.aload_n 0, 1) := by decide +kernel
theorem dX0_worthOf_23 : decode mX0_worthOf.2.2.1 23 = .ok (.getfield 22, 3) := by decide +kernel
theorem dX0_worthOf_26 : decode mX0_worthOf.2.2.1 26 = .ok (.iload_n 1, 1) := by decide +kernel
theorem dX0_worthOf_27 : decode mX0_worthOf.2.2.1 27 = .ok (.aload_n 0, 1) := by decide +kernel
theorem dX0_worthOf_28 : decode mX0_worthOf.2.2.1 28 = .ok (.getfield 18, 3) := by decide +kernel
theorem dX0_worthOf_31 : decode mX0_worthOf.2.2.1 31 = .ok (.iload_n 1, 1) := by decide +kernel
theorem dX0_worthOf_32 : decode mX0_worthOf.2.2.1 32 = .ok (.bipush 6, 2) := by decide +kernel
theorem dX0_worthOf_34 : decode mX0_worthOf.2.2.1 34 = .ok (.invokevirtual 26, 3) := by decide +kernel
theorem dX0_worthOf_37 : decode mX0_worthOf.2.2.1 37 = .ok (.iload_n 2, 1) := by decide +kernel
theorem dX0_worthOf_38 : decode mX0_worthOf.2.2.1 38 = .ok (.invokevirtual 72, 3) := by decide +kernel
theorem dX0_worthOf_41 : decode mX0_worthOf.2.2.1 41 = .ok (.aload_n 0, 1) := by decide +kernel
theorem dX0_worthOf_42 : decode mX0_worthOf.2.2.1 42 = .ok (.getfield 9, 3) := by decide +kernel
theorem dX0_worthOf_45 : decode mX0_worthOf.2.2.1 45 = .ok (.iload_n 3, 1) := by decide +kernel
theorem dX0_worthOf_46 : decode mX0_worthOf.2.2.1 46 = .ok (.iconst 0, 1) := by decide +kernel
theorem dX0_worthOf_47 : decode mX0_worthOf.2.2.1 47 = .ok (.bipush 9, 2) := by decide +kernel
theorem dX0_worthOf_49 : decode mX0_worthOf.2.2.1 49 = .ok (.aload_n 0, 1) := by decide +kernel
theorem dX0_worthOf_50 : decode mX0_worthOf.2.2.1 50 = .ok (.getfield 22, 3) := by decide +kernel
theorem dX0_worthOf_53 : decode mX0_worthOf.2.2.1 53 = .ok (.invokevirtual 75, 3) := by decide +kernel
theorem dX0_worthOf_56 : decode mX0_worthOf.2.2.1 56 = .ok (.invokestatic 79, 3) := by decide +kernel
theorem dX0_worthOf_59 : decode mX0_worthOf.2.2.1 59 = .ok (.invokestatic 84, 3) := by decide +kernel
theorem dX0_worthOf_62 : decode mX0_worthOf.2.2.1 62 = .ok (.invokestatic 87, 3) := by decide +kernel
theorem dX0_worthOf_65 : decode mX0_worthOf.2.2.1 65 = .ok (.aload_n 0, 1) := by decide +kernel
theorem dX0_worthOf_66 : decode mX0_worthOf.2.2.1 66 = .ok (.getfield 15, 3) := by decide +kernel
theorem dX0_worthOf_69 : decode mX0_worthOf.2.2.1 69 = .ok (.iload_n 2, 1) := by decide +kernel
theorem dX0_worthOf_70 : decode mX0_worthOf.2.2.1 70 = .ok (.aload_n 0, 1) := by decide +kernel
theorem dX0_worthOf_71 : decode mX0_worthOf.2.2.1 71 = .ok (.getfield 15, 3) := by decide +kernel
theorem dX0_worthOf_74 : decode mX0_worthOf.2.2.1 74 = .ok (.iload_n 2, 1) := by decide +kernel
theorem dX0_worthOf_75 : decode mX0_worthOf.2.2.1 75 = .ok (.invokestatic 64, 3) := by decide +kernel
theorem dX0_worthOf_78 : decode mX0_worthOf.2.2.1 78 = .ok (.iconst 1, 1) := by decide +kernel
theorem dX0_worthOf_79 : decode mX0_worthOf.2.2.1 79 = .ok (.iload_n 1, 1) := by decide +kernel
theorem dX0_worthOf_80 : decode mX0_worthOf.2.2.1 80 = .ok (.ishl, 1) := by decide +kernel
theorem dX0_worthOf_81 : decode mX0_worthOf.2.2.1 81 = .ok (.ior, 1) := by decide +kernel
theorem dX0_worthOf_82 : decode mX0_worthOf.2.2.1 82 = .ok (.invokestatic 87, 3) := by decide +kernel
theorem dX0_worthOf_85 : decode mX0_worthOf.2.2.1 85 = .ok (.aload_n 0, 1) := by decide +kernel
theorem dX0_worthOf_86 : decode mX0_worthOf.2.2.1 86 = .ok (.getfield 9, 3) := by decide +kernel
theorem dX0_worthOf_89 : decode mX0_worthOf.2.2.1 89 = .ok (.iload_n 3, 1) := by decide +kernel
theorem dX0_worthOf_90 : decode mX0_worthOf.2.2.1 90 = .ok (.invokestatic 64, 3) := by decide +kernel
theorem dX0_worthOf_93 : decode mX0_worthOf.2.2.1 93 = .ok (.ireturn, 1) := by decide +kernel
set_option maxHeartbeats 100000 in
theorem kX0_worthOf_0 {d : Nat} {F : am_FT} {L : am_LT} {Q : am_QT} {l3 : Option Value} {x2 x1 : Int32} : wt am_S0 (d + 1) mX0_worthOf 0 [some (.ref 9), some (.int x1), some (.int x2), l3] [] F L Q = wc am_S0 d mX11_at [.ref 11, .int x2] F L (fun r G K => wt am_S0 (d + 1) mX0_worthOf 15 [some (.ref 9), some (.int x1), some (.int x2), some (.int ((x2 * 10) + x1))] (r.toList ++ []) G K Q) := (wt_iload_n dX0_worthOf_0 rfl).trans ((wt_bipush dX0_worthOf_1 (v := 10) (by decide)).trans ((wt_imul dX0_worthOf_3).trans ((wt_iload_n dX0_worthOf_4 rfl).trans ((wt_iadd dX0_worthOf_5).trans ((wt_istore_n dX0_worthOf_6 (lv1 := [some (.ref 9), some (.int x1), some (.int x2), some (.int ((x2 * 10) + x1))]) (Nat.le_of_ble_eq_true rfl) rfl).trans ((wt_aload_n dX0_worthOf_7 rfl rfl).trans ((wt_getfield dX0_worthOf_8 rfl rfl (v := .ref 11) rfl).trans ((wt_iload_n dX0_worthOf_11 rfl).trans (wt_callS dX0_worthOf_12 rfl (as := [.ref 11, .int x2]) (rest := []) rfl rfl (Nat.le_of_ble_eq_true rfl) (Nat.le_of_ble_eq_true rfl))))))))))
set_option maxHeartbeats 100000 in
theorem kX0_worthOf_15 {d : Nat} {F : am_FT} {L : am_LT} {Q : am_QT} {l0 l2 l3 : Option Value} {s0 x1 : Int32} : wt am_S0 (d + 1) mX0_worthOf 15 [l0, some (.int x1), l2, l3] [.int s0] F L Q = wc am_S0 d mX11_holds [.int s0, .int x1] F L (fun r G K => wt am_S0 (d + 1) mX0_worthOf 19 [l0, some (.int x1), l2, l3] (r.toList ++ []) G K Q) := (wt_iload_n dX0_worthOf_15 rfl).trans (wt_callS dX0_worthOf_16 rfl (as := [.int s0, .int x1]) (rest := []) rfl rfl (Nat.le_of_ble_eq_true rfl) (Nat.le_of_ble_eq_true rfl))
set_option maxHeartbeats 100000 in
theorem kX0_worthOf_19 {d : Nat} {F : am_FT} {L : am_LT} {Q : am_QT} {l0 l1 l2 l3 : Option Value} {s0 : Int32} : wt am_S0 d mX0_worthOf 19 [l0, l1, l2, l3] [.int s0] F L Q = if ¬ s0 = 0 then wt am_S0 d mX0_worthOf 85 [l0, l1, l2, l3] [] F L Q else wt am_S0 d mX0_worthOf 22 [l0, l1, l2, l3] [] F L Q := wt_ifCond_ne dX0_worthOf_19 (t := 85) rfl
set_option maxHeartbeats 100000 in
theorem kX0_worthOf_22 {d : Nat} {F : am_FT} {L : am_LT} {Q : am_QT} {l2 l3 : Option Value} {x1 : Int32} : wt am_S0 (d + 1) mX0_worthOf 22 [some (.ref 9), some (.int x1), l2, l3] [] F L Q = wc am_S0 d mX5_read [.ref 1, .int x1, .int 6] F L (fun r G K => wt am_S0 (d + 1) mX0_worthOf 37 [some (.ref 9), some (.int x1), l2, l3] (r.toList ++ [.int x1, .ref 6]) G K Q) := (wt_aload_n dX0_worthOf_22 rfl rfl).trans ((wt_getfield dX0_worthOf_23 rfl rfl (v := .ref 6) rfl).trans ((wt_iload_n dX0_worthOf_26 rfl).trans ((wt_aload_n dX0_worthOf_27 rfl rfl).trans ((wt_getfield dX0_worthOf_28 rfl rfl (v := .ref 1) rfl).trans ((wt_iload_n dX0_worthOf_31 rfl).trans ((wt_bipush dX0_worthOf_32 (v := 6) (by decide)).trans (wt_callV dX0_worthOf_34 rfl (as := [.int x1, .int 6]) (rest := [.int x1, .ref 6]) rfl rfl (Nat.le_of_ble_eq_true rfl) rfl (Nat.le_of_ble_eq_true rfl))))))))
set_option maxHeartbeats 100000 in
theorem kX0_worthOf_37 {d : Nat} {F : am_FT} {L : am_LT} {Q : am_QT} {l0 l1 l3 : Option Value} {s1 s2 x2 : Int32} : wt am_S0 (d + 1) mX0_worthOf 37 [l0, l1, some (.int x2), l3] [.int s2, .int s1, .ref 6] F L Q = wc am_S0 d mX6_nameVoter [.ref 6, .int s1, .int s2, .int x2] F L (fun r G K => wt am_S0 (d + 1) mX0_worthOf 41 [l0, l1, some (.int x2), l3] (r.toList ++ []) G K Q) := (wt_iload_n dX0_worthOf_37 rfl).trans (wt_callV dX0_worthOf_38 rfl (as := [.int s1, .int s2, .int x2]) (rest := []) rfl rfl (Nat.le_of_ble_eq_true rfl) rfl (Nat.le_of_ble_eq_true rfl))
set_option maxHeartbeats 100000 in
theorem kX0_worthOf_41 {d : Nat} {F : am_FT} {L : am_LT} {Q : am_QT} {l1 l2 : Option Value} {x3 : Int32} : wt am_S0 (d + 1) mX0_worthOf 41 [some (.ref 9), l1, l2, some (.int x3)] [] F L Q = wc am_S0 d mX6_value [.ref 6] F L (fun r G K => wt am_S0 (d + 1) mX0_worthOf 56 [some (.ref 9), l1, l2, some (.int x3)] (r.toList ++ [.int 9, .int 0, .int x3, .ref 10]) G K Q) := (wt_aload_n dX0_worthOf_41 rfl rfl).trans ((wt_getfield dX0_worthOf_42 rfl rfl (v := .ref 10) rfl).trans ((wt_iload_n dX0_worthOf_45 rfl).trans ((wt_iconst dX0_worthOf_46 (v := 0) (by decide)).trans ((wt_bipush dX0_worthOf_47 (v := 9) (by decide)).trans ((wt_aload_n dX0_worthOf_49 rfl rfl).trans ((wt_getfield dX0_worthOf_50 rfl rfl (v := .ref 6) rfl).trans (wt_callV dX0_worthOf_53 rfl (as := []) (rest := [.int 9, .int 0, .int x3, .ref 10]) rfl rfl (Nat.le_of_ble_eq_true rfl) rfl (Nat.le_of_ble_eq_true rfl))))))))
set_option maxHeartbeats 100000 in
theorem kX0_worthOf_56 {d : Nat} {F : am_FT} {L : am_LT} {Q : am_QT} {l0 l1 l2 l3 : Option Value} {s1 s2 s3 s4 : Int32} : wt am_S0 (d + 1) mX0_worthOf 56 [l0, l1, l2, l3] [.int s4, .int s3, .int s2, .int s1, .ref 10] F L Q = wc am_S0 d mX11_lay [.ref 10, .int s1, .int (if s2 < (if s4 < s3 then s4 else s3) then (if s4 < s3 then s4 else s3) else s2)] F L (fun r G K => wt am_S0 (d + 1) mX0_worthOf 65 [l0, l1, l2, l3] (r.toList ++ []) G K Q) := (wt_min dX0_worthOf_56 rfl (Nat.le_of_ble_eq_true rfl)).trans ((wt_max dX0_worthOf_59 rfl (Nat.le_of_ble_eq_true rfl)).trans (wt_callS dX0_worthOf_62 rfl (as := [.ref 10, .int s1, .int (if s2 < (if s4 < s3 then s4 else s3) then (if s4 < s3 then s4 else s3) else s2)]) (rest := []) rfl rfl (Nat.le_of_ble_eq_true rfl) (Nat.le_of_ble_eq_true rfl)))
set_option maxHeartbeats 100000 in
theorem kX0_worthOf_65 {d : Nat} {F : am_FT} {L : am_LT} {Q : am_QT} {l1 l3 : Option Value} {x2 : Int32} : wt am_S0 (d + 1) mX0_worthOf 65 [some (.ref 9), l1, some (.int x2), l3] [] F L Q = wc am_S0 d mX11_at [.ref 11, .int x2] F L (fun r G K => wt am_S0 (d + 1) mX0_worthOf 78 [some (.ref 9), l1, some (.int x2), l3] (r.toList ++ [.int x2, .ref 11]) G K Q) := (wt_aload_n dX0_worthOf_65 rfl rfl).trans ((wt_getfield dX0_worthOf_66 rfl rfl (v := .ref 11) rfl).trans ((wt_iload_n dX0_worthOf_69 rfl).trans ((wt_aload_n dX0_worthOf_70 rfl rfl).trans ((wt_getfield dX0_worthOf_71 rfl rfl (v := .ref 11) rfl).trans ((wt_iload_n dX0_worthOf_74 rfl).trans (wt_callS dX0_worthOf_75 rfl (as := [.ref 11, .int x2]) (rest := [.int x2, .ref 11]) rfl rfl (Nat.le_of_ble_eq_true rfl) (Nat.le_of_ble_eq_true rfl)))))))
set_option maxHeartbeats 100000 in
theorem kX0_worthOf_78 {d : Nat} {F : am_FT} {L : am_LT} {Q : am_QT} {l0 l2 l3 : Option Value} {s1 s2 x1 : Int32} : wt am_S0 (d + 1) mX0_worthOf 78 [l0, some (.int x1), l2, l3] [.int s2, .int s1, .ref 11] F L Q = wc am_S0 d mX11_lay [.ref 11, .int s1, .int (s2 ||| ((1 : Int32) <<< (x1 &&& 31)))] F L (fun r G K => wt am_S0 (d + 1) mX0_worthOf 85 [l0, some (.int x1), l2, l3] (r.toList ++ []) G K Q) := (wt_iconst dX0_worthOf_78 (v := 1) (by decide)).trans ((wt_iload_n dX0_worthOf_79 rfl).trans ((wt_ishl dX0_worthOf_80).trans ((wt_ior dX0_worthOf_81).trans (wt_callS dX0_worthOf_82 rfl (as := [.ref 11, .int s1, .int (s2 ||| ((1 : Int32) <<< (x1 &&& 31)))]) (rest := []) rfl rfl (Nat.le_of_ble_eq_true rfl) (Nat.le_of_ble_eq_true rfl)))))
set_option maxHeartbeats 100000 in
theorem kX0_worthOf_85 {d : Nat} {F : am_FT} {L : am_LT} {Q : am_QT} {l1 l2 : Option Value} {x3 : Int32} : wt am_S0 (d + 1) mX0_worthOf 85 [some (.ref 9), l1, l2, some (.int x3)] [] F L Q = wc am_S0 d mX11_at [.ref 10, .int x3] F L (fun r G K => wt am_S0 (d + 1) mX0_worthOf 93 [some (.ref 9), l1, l2, some (.int x3)] (r.toList ++ []) G K Q) := (wt_aload_n dX0_worthOf_85 rfl rfl).trans ((wt_getfield dX0_worthOf_86 rfl rfl (v := .ref 10) rfl).trans ((wt_iload_n dX0_worthOf_89 rfl).trans (wt_callS dX0_worthOf_90 rfl (as := [.ref 10, .int x3]) (rest := []) rfl rfl (Nat.le_of_ble_eq_true rfl) (Nat.le_of_ble_eq_true rfl))))
set_option maxHeartbeats 100000 in
theorem kX0_worthOf_93 {d : Nat} {F : am_FT} {L : am_LT} {Q : am_QT} {l0 l1 l2 l3 : Option Value} {s0 : Int32} : wt am_S0 d mX0_worthOf 93 [l0, l1, l2, l3] [.int s0] F L Q = Q (some (.int s0)) F L := wt_ireturn dX0_worthOf_93 rfl rfl
theorem dX0_sumOf_0 : decode mX0_sumOf.2.2.1 0 = .ok (.aload_n 0, 1) := by decide +kernel
theorem dX0_sumOf_1 : decode mX0_sumOf.2.2.1 1 = .ok (.getfield 44, 3) := by decide +kernel
theorem dX0_sumOf_4 : decode mX0_sumOf.2.2.1 4 = .ok (.invokestatic 91, 3) := by decide +kernel
theorem dX0_sumOf_7 : decode mX0_sumOf.2.2.1 7 = .ok (.istore_n 2, 1) := by decide +kernel
theorem dX0_sumOf_8 : decode mX0_sumOf.2.2.1 8 = .ok (.iconst 0, 1) := by decide +kernel
theorem dX0_sumOf_9 : decode mX0_sumOf.2.2.1 9 = .ok (.istore_n 3, 1) := by decide +kernel
theorem dX0_sumOf_10 : decode mX0_sumOf.2.2.1 10 = .ok (.iconst 0, 1) := by decide +kernel
theorem dX0_sumOf_11 : decode mX0_sumOf.2.2.1 11 = .ok (.istore 4, 2) := by decide +kernel
theorem dX0_sumOf_13 : decode mX0_sumOf.2.2.1 13 = .ok (.iload 4, 2) := by decide +kernel
theorem dX0_sumOf_15 : decode mX0_sumOf.2.2.1 15 = .ok (.aload_n 0, 1) := by decide +kernel
theorem dX0_sumOf_16 : decode mX0_sumOf.2.2.1 16 = .ok (.getfield 18, 3) := by decide +kernel
theorem dX0_sumOf_19 : decode mX0_sumOf.2.2.1 19 = .ok (.getfield 96, 3) := by decide +kernel
theorem dX0_sumOf_22 : decode mX0_sumOf.2.2.1 22 = .ok (.if_icmp .ge 33, 3) := by decide +kernel
theorem dX0_sumOf_25 : decode mX0_sumOf.2.2.1 25 = .ok (.iload_n 1, 1) := by decide +kernel
theorem dX0_sumOf_26 : decode mX0_sumOf.2.2.1 26 = .ok (.aload_n 0, 1) := by decide +kernel
theorem dX0_sumOf_27 : decode mX0_sumOf.2.2.1 27 = .ok (.getfield 44, 3) := by decide +kernel
theorem dX0_sumOf_30 : decode mX0_sumOf.2.2.1 30 = .ok (.iand, 1) := by decide +kernel
theorem dX0_sumOf_31 : decode mX0_sumOf.2.2.1 31 = .ok (.iload 4, 2) := by decide +kernel
theorem dX0_sumOf_33 : decode mX0_sumOf.2.2.1 33 = .ok (.invokestatic 68, 3) := by decide +kernel
theorem dX0_sumOf_36 : decode mX0_sumOf.2.2.1 36 = .ok (.ifCond .eq 13, 3) := by decide +kernel
theorem dX0_sumOf_39 : decode mX0_sumOf.2.2.1 39 = .ok (.iload_n 3, 1) := by decide +kernel
theorem dX0_sumOf_40 : decode mX0_sumOf.2.2.1 40 = .ok (.aload_n 0, 1) := by decide +kernel
theorem dX0_sumOf_41 : decode mX0_sumOf.2.2.1 41 = .ok (.iload 4, 2) := by decide +kernel
theorem dX0_sumOf_43 : decode mX0_sumOf.2.2.1 43 = .ok (.iload_n 2, 1) := by decide +kernel
theorem dX0_sumOf_44 : decode mX0_sumOf.2.2.1 44 = .ok (.invokevirtual 99, 3) := by decide +kernel
theorem dX0_sumOf_47 : decode mX0_sumOf.2.2.1 47 = .ok (.iadd, 1) := by decide +kernel
theorem dX0_sumOf_48 : decode mX0_sumOf.2.2.1 48 = .ok (.istore_n 3, 1) := by decide +kernel
theorem dX0_sumOf_49 : decode mX0_sumOf.2.2.1 49 = .ok (.iinc 4 1, 3) := by decide +kernel
theorem dX0_sumOf_52 : decode mX0_sumOf.2.2.1 52 = .ok (.goto (-39), 3) := by decide +kernel
theorem dX0_sumOf_55 : decode mX0_sumOf.2.2.1 55 = .ok (.iload_n 3, 1) := by decide +kernel
theorem dX0_sumOf_56 : decode mX0_sumOf.2.2.1 56 = .ok (.ireturn, 1) := by decide +kernel
set_option maxHeartbeats 100000 in
theorem kX0_sumOf_0 {d : Nat} {F : am_FT} {L : am_LT} {Q : am_QT} {l1 l2 l3 l4 : Option Value} : wt am_S0 (d + 1) mX0_sumOf 0 [some (.ref 9), l1, l2, l3, l4] [] F L Q = wc am_S0 d mJ6_bitCount_0f7a4 [.int (F 9 5)] F L (fun r G K => wt am_S0 (d + 1) mX0_sumOf 7 [some (.ref 9), l1, l2, l3, l4] (r.toList ++ []) G K Q) := (wt_aload_n dX0_sumOf_0 rfl rfl).trans ((wt_getfield dX0_sumOf_1 rfl rfl (v := .int (F 9 5)) rfl).trans (wt_callS dX0_sumOf_4 rfl (as := [.int (F 9 5)]) (rest := []) rfl rfl (Nat.le_of_ble_eq_true rfl) (Nat.le_of_ble_eq_true rfl)))
set_option maxHeartbeats 100000 in
theorem kX0_sumOf_7 {d : Nat} {F : am_FT} {L : am_LT} {Q : am_QT} {l0 l2 l3 l4 : Option Value} {s0 x1 : Int32} : wt am_S0 d mX0_sumOf 7 [l0, some (.int x1), l2, l3, l4] [.int s0] F L Q = wt am_S0 d mX0_sumOf 13 [l0, some (.int x1), some (.int s0), some (.int 0), some (.int 0)] [] F L Q := (wt_istore_n dX0_sumOf_7 (lv1 := [l0, some (.int x1), some (.int s0), l3, l4]) (Nat.le_of_ble_eq_true rfl) rfl).trans ((wt_iconst dX0_sumOf_8 (v := 0) (by decide)).trans ((wt_istore_n dX0_sumOf_9 (lv1 := [l0, some (.int x1), some (.int s0), some (.int 0), l4]) (Nat.le_of_ble_eq_true rfl) rfl).trans ((wt_iconst dX0_sumOf_10 (v := 0) (by decide)).trans (wt_istore dX0_sumOf_11 (lv1 := [l0, some (.int x1), some (.int s0), some (.int 0), some (.int 0)]) (Nat.le_of_ble_eq_true rfl) rfl))))
set_option maxHeartbeats 100000 in
theorem kX0_sumOf_13 {d : Nat} {F : am_FT} {L : am_LT} {Q : am_QT} {l1 l2 l3 : Option Value} {x4 : Int32} : wt am_S0 d mX0_sumOf 13 [some (.ref 9), l1, l2, l3, some (.int x4)] [] F L Q = if (F 1 2) ≤ x4 then wt am_S0 d mX0_sumOf 55 [some (.ref 9), l1, l2, l3, some (.int x4)] [] F L Q else wt am_S0 d mX0_sumOf 25 [some (.ref 9), l1, l2, l3, some (.int x4)] [] F L Q := (wt_iload dX0_sumOf_13 rfl).trans ((wt_aload_n dX0_sumOf_15 rfl rfl).trans ((wt_getfield dX0_sumOf_16 rfl rfl (v := .ref 1) rfl).trans ((wt_getfield dX0_sumOf_19 rfl rfl (v := .int (F 1 2)) rfl).trans (wt_if_icmp_ge dX0_sumOf_22 (t := 55) rfl))))
set_option maxHeartbeats 100000 in
theorem kX0_sumOf_25 {d : Nat} {F : am_FT} {L : am_LT} {Q : am_QT} {l2 l3 : Option Value} {x1 x4 : Int32} : wt am_S0 (d + 1) mX0_sumOf 25 [some (.ref 9), some (.int x1), l2, l3, some (.int x4)] [] F L Q = wc am_S0 d mX11_holds [.int (x1 &&& (F 9 5)), .int x4] F L (fun r G K => wt am_S0 (d + 1) mX0_sumOf 36 [some (.ref 9), some (.int x1), l2, l3, some (.int x4)] (r.toList ++ []) G K Q) := (wt_iload_n dX0_sumOf_25 rfl).trans ((wt_aload_n dX0_sumOf_26 rfl rfl).trans ((wt_getfield dX0_sumOf_27 rfl rfl (v := .int (F 9 5)) rfl).trans ((wt_iand dX0_sumOf_30).trans ((wt_iload dX0_sumOf_31 rfl).trans (wt_callS dX0_sumOf_33 rfl (as := [.int (x1 &&& (F 9 5)), .int x4]) (rest := []) rfl rfl (Nat.le_of_ble_eq_true rfl) (Nat.le_of_ble_eq_true rfl))))))
set_option maxHeartbeats 100000 in
theorem kX0_sumOf_36 {d : Nat} {F : am_FT} {L : am_LT} {Q : am_QT} {l0 l1 l2 l3 l4 : Option Value} {s0 : Int32} : wt am_S0 d mX0_sumOf 36 [l0, l1, l2, l3, l4] [.int s0] F L Q = if s0 = 0 then wt am_S0 d mX0_sumOf 49 [l0, l1, l2, l3, l4] [] F L Q else wt am_S0 d mX0_sumOf 39 [l0, l1, l2, l3, l4] [] F L Q := wt_ifCond_eq dX0_sumOf_36 (t := 49) rfl
set_option maxHeartbeats 100000 in
theorem kX0_sumOf_39 {d : Nat} {F : am_FT} {L : am_LT} {Q : am_QT} {l1 : Option Value} {x3 x4 x2 : Int32} : wt am_S0 (d + 1) mX0_sumOf 39 [some (.ref 9), l1, some (.int x2), some (.int x3), some (.int x4)] [] F L Q = wc am_S0 d mX0_worthOf [.ref 9, .int x4, .int x2] F L (fun r G K => wt am_S0 (d + 1) mX0_sumOf 47 [some (.ref 9), l1, some (.int x2), some (.int x3), some (.int x4)] (r.toList ++ [.int x3]) G K Q) := (wt_iload_n dX0_sumOf_39 rfl).trans ((wt_aload_n dX0_sumOf_40 rfl rfl).trans ((wt_iload dX0_sumOf_41 rfl).trans ((wt_iload_n dX0_sumOf_43 rfl).trans (wt_callV dX0_sumOf_44 rfl (as := [.int x4, .int x2]) (rest := [.int x3]) rfl rfl (Nat.le_of_ble_eq_true rfl) rfl (Nat.le_of_ble_eq_true rfl)))))
set_option maxHeartbeats 100000 in
theorem kX0_sumOf_47 {d : Nat} {F : am_FT} {L : am_LT} {Q : am_QT} {l0 l1 l3 l4 : Option Value} {s0 s1 x2 : Int32} : wt am_S0 d mX0_sumOf 47 [l0, l1, some (.int x2), l3, l4] [.int s1, .int s0] F L Q = wt am_S0 d mX0_sumOf 49 [l0, l1, some (.int x2), some (.int (s0 + s1)), l4] [] F L Q := (wt_iadd dX0_sumOf_47).trans (wt_istore_n dX0_sumOf_48 (lv1 := [l0, l1, some (.int x2), some (.int (s0 + s1)), l4]) (Nat.le_of_ble_eq_true rfl) rfl)
set_option maxHeartbeats 100000 in
theorem kX0_sumOf_49 {d : Nat} {F : am_FT} {L : am_LT} {Q : am_QT} {l0 l1 l2 : Option Value} {x4 x3 : Int32} : wt am_S0 d mX0_sumOf 49 [l0, l1, l2, some (.int x3), some (.int x4)] [] F L Q = wt am_S0 d mX0_sumOf 13 [l0, l1, l2, some (.int x3), some (.int (x4 + 1))] [] F L Q := (wt_iinc dX0_sumOf_49 (v := 1) (lv1 := [l0, l1, l2, some (.int x3), some (.int (x4 + 1))]) rfl (Nat.le_of_ble_eq_true rfl) (by decide) rfl).trans (wt_goto dX0_sumOf_52 (t := 13) rfl)
set_option maxHeartbeats 100000 in
theorem kX0_sumOf_55 {d : Nat} {F : am_FT} {L : am_LT} {Q : am_QT} {l0 l1 l2 l4 : Option Value} {x3 : Int32} : wt am_S0 d mX0_sumOf 55 [l0, l1, l2, some (.int x3), l4] [] F L Q = Q (some (.int x3)) F L := (wt_iload_n dX0_sumOf_55 rfl).trans (wt_ireturn dX0_sumOf_56 rfl rfl)
theorem dX0_sumSets_0 : decode mX0_sumSets.2.2.1 0 = .ok (.aload_n 0, 1) := by decide +kernel
theorem dX0_sumSets_1 : decode mX0_sumSets.2.2.1 1 = .ok (.getfield 44, 3) := by decide +kernel
theorem dX0_sumSets_4 : decode mX0_sumSets.2.2.1 4 = .ok (.invokestatic 91, 3) := by decide +kernel
theorem dX0_sumSets_7 : decode mX0_sumSets.2.2.1 7 = .ok (.istore_n 2, 1) := by decide +kernel
theorem dX0_sumSets_8 : decode mX0_sumSets.2.2.1 8 = .ok (.iconst 1, 1) := by decide +kernel
theorem dX0_sumSets_9 : decode mX0_sumSets.2.2.1 9 = .ok (.istore_n 3, 1) := by decide +kernel
theorem dX0_sumSets_10 : decode mX0_sumSets.2.2.1 10 = .ok (.aload_n 1, 1) := by decide +kernel
theorem dX0_sumSets_11 : decode mX0_sumSets.2.2.1 11 = .ok (.iconst 0, 1) := by decide +kernel
theorem dX0_sumSets_12 : decode mX0_sumSets.2.2.1 12 = .ok (.iconst 0, 1) := by decide +kernel
theorem dX0_sumSets_13 : decode mX0_sumSets.2.2.1 13 = .ok (.invokestatic 87, 3) := by decide +kernel
theorem dX0_sumSets_16 : decode mX0_sumSets.2.2.1 16 = .ok (.iconst 0, 1) := by decide +kernel
theorem dX0_sumSets_17 : decode mX0_sumSets.2.2.1 17 = .ok (.istore 4, 2) := by decide +kernel
theorem dX0_sumSets_19 : decode mX0_sumSets.2.2.1 19 = .ok (.iload 4, 2) := by decide +kernel
theorem dX0_sumSets_21 : decode mX0_sumSets.2.2.1 21 = .ok (.aload_n 0, 1) := by decide +kernel
theorem dX0_sumSets_22 : decode mX0_sumSets.2.2.1 22 = .ok (.getfield 18, 3) := by decide +kernel
theorem dX0_sumSets_25 : decode mX0_sumSets.2.2.1 25 = .ok (.getfield 96, 3) := by decide +kernel
theorem dX0_sumSets_28 : decode mX0_sumSets.2.2.1 28 = .ok (.if_icmp .ge 70, 3) := by decide +kernel
theorem dX0_sumSets_31 : decode mX0_sumSets.2.2.1 31 = .ok (.aload_n 0, 1) := by decide +kernel
theorem dX0_sumSets_32 : decode mX0_sumSets.2.2.1 32 = .ok (.getfield 44, 3) := by decide +kernel
theorem dX0_sumSets_35 : decode mX0_sumSets.2.2.1 35 = .ok (.iload 4, 2) := by decide +kernel
theorem dX0_sumSets_37 : decode mX0_sumSets.2.2.1 37 = .ok (.invokestatic 68, 3) := by decide +kernel
theorem dX0_sumSets_40 : decode mX0_sumSets.2.2.1 40 = .ok (.ifCond .eq 13, 3) := by decide +kernel
theorem dX0_sumSets_43 : decode mX0_sumSets.2.2.1 43 = .ok (.aload_n 0, 1) := by decide +kernel
theorem dX0_sumSets_44 : decode mX0_sumSets.2.2.1 44 = .ok (.iload 4, 2) := by decide +kernel
theorem dX0_sumSets_46 : decode mX0_sumSets.2.2.1 46 = .ok (.iload_n 2, 1) := by decide +kernel
theorem dX0_sumSets_47 : decode mX0_sumSets.2.2.1 47 = .ok (.invokevirtual 99, 3) := by decide +kernel
theorem dX0_sumSets_50 : decode mX0_sumSets.2.2.1 50 = .ok (.goto 4, 3) := by decide +kernel
theorem dX0_sumSets_53 : decode mX0_sumSets.2.2.1 53 = .ok (.iconst 0, 1) := by decide +kernel
theorem dX0_sumSets_54 : decode mX0_sumSets.2.2.1 54 = .ok (.istore 5, 2) := by decide +kernel
theorem dX0_sumSets_56 : decode mX0_sumSets.2.2.1 56 = .ok (.iconst 0, 1) := by decide +kernel
theorem dX0_sumSets_57 : decode mX0_sumSets.2.2.1 57 = .ok (.istore 6, 2) := by decide +kernel
theorem dX0_sumSets_59 : decode mX0_sumSets.2.2.1 59 = .ok (.iload 6, 2) := by decide +kernel
theorem dX0_sumSets_61 : decode mX0_sumSets.2.2.1 61 = .ok (.iload_n 3, 1) := by decide +kernel
theorem dX0_sumSets_62 : decode mX0_sumSets.2.2.1 62 = .ok (.if_icmp .ge 26, 3) := by decide +kernel
theorem dX0_sumSets_65 : decode mX0_sumSets.2.2.1 65 = .ok (.aload_n 1, 1) := by decide +kernel
theorem dX0_sumSets_66 : decode mX0_sumSets.2.2.1 66 = .ok (.iload_n 3, 1) := by decide +kernel
theorem dX0_sumSets_67 : decode mX0_sumSets.2.2.1 67 = .ok (.iload 6, 2) := by decide +kernel
theorem dX0_sumSets_69 : decode mX0_sumSets.2.2.1 69 = .ok (.iadd, 1) := by decide +kernel
theorem dX0_sumSets_70 : decode mX0_sumSets.2.2.1 70 = .ok (.aload_n 1, 1) := by decide +kernel
theorem dX0_sumSets_71 : decode mX0_sumSets.2.2.1 71 = .ok (.iload 6, 2) := by decide +kernel
theorem dX0_sumSets_73 : decode mX0_sumSets.2.2.1 73 = .ok (.invokestatic 64, 3) := by decide +kernel
theorem dX0_sumSets_76 : decode mX0_sumSets.2.2.1 76 = .ok (.iload 5, 2) := by decide +kernel
theorem dX0_sumSets_78 : decode mX0_sumSets.2.2.1 78 = .ok (.iadd, 1) := by decide +kernel
theorem dX0_sumSets_79 : decode mX0_sumSets.2.2.1 79 = .ok (.invokestatic 87, 3) := by decide +kernel
theorem dX0_sumSets_82 : decode mX0_sumSets.2.2.1 82 = .ok (.iinc 6 1, 3) := by decide +kernel
theorem dX0_sumSets_85 : decode mX0_sumSets.2.2.1 85 = .ok (.goto (-26), 3) := by decide +kernel
theorem dX0_sumSets_88 : decode mX0_sumSets.2.2.1 88 = .ok (.iload_n 3, 1) := by decide +kernel
theorem dX0_sumSets_89 : decode mX0_sumSets.2.2.1 89 = .ok (.iload_n 3, 1) := by decide +kernel
theorem dX0_sumSets_90 : decode mX0_sumSets.2.2.1 90 = .ok (.iadd, 1) := by decide +kernel
theorem dX0_sumSets_91 : decode mX0_sumSets.2.2.1 91 = .ok (.istore_n 3, 1) := by decide +kernel
theorem dX0_sumSets_92 : decode mX0_sumSets.2.2.1 92 = .ok (.iinc 4 1, 3) := by decide +kernel
theorem dX0_sumSets_95 : decode mX0_sumSets.2.2.1 95 = .ok (.goto (-76), 3) := by decide +kernel
theorem dX0_sumSets_98 : decode mX0_sumSets.2.2.1 98 = .ok (.return_, 1) := by decide +kernel
set_option maxHeartbeats 100000 in
theorem kX0_sumSets_0 {d : Nat} {F : am_FT} {L : am_LT} {Q : am_QT} {l1 l2 l3 l4 l5 l6 : Option Value} : wt am_S0 (d + 1) mX0_sumSets 0 [some (.ref 9), l1, l2, l3, l4, l5, l6] [] F L Q = wc am_S0 d mJ6_bitCount_0f7a4 [.int (F 9 5)] F L (fun r G K => wt am_S0 (d + 1) mX0_sumSets 7 [some (.ref 9), l1, l2, l3, l4, l5, l6] (r.toList ++ []) G K Q) := (wt_aload_n dX0_sumSets_0 rfl rfl).trans ((wt_getfield dX0_sumSets_1 rfl rfl (v := .int (F 9 5)) rfl).trans (wt_callS dX0_sumSets_4 rfl (as := [.int (F 9 5)]) (rest := []) rfl rfl (Nat.le_of_ble_eq_true rfl) (Nat.le_of_ble_eq_true rfl)))
set_option maxHeartbeats 100000 in
theorem kX0_sumSets_7 {d : Nat} {F : am_FT} {L : am_LT} {Q : am_QT} {l0 l2 l3 l4 l5 l6 : Option Value} {s0 : Int32} {p1 : Nat} : wt am_S0 (d + 1) mX0_sumSets 7 [l0, some (.ref p1), l2, l3, l4, l5, l6] [.int s0] F L Q = wc am_S0 d mX11_lay [.ref p1, .int 0, .int 0] F L (fun r G K => wt am_S0 (d + 1) mX0_sumSets 16 [l0, some (.ref p1), some (.int s0), some (.int 1), l4, l5, l6] (r.toList ++ []) G K Q) := (wt_istore_n dX0_sumSets_7 (lv1 := [l0, some (.ref p1), some (.int s0), l3, l4, l5, l6]) (Nat.le_of_ble_eq_true rfl) rfl).trans ((wt_iconst dX0_sumSets_8 (v := 1) (by decide)).trans ((wt_istore_n dX0_sumSets_9 (lv1 := [l0, some (.ref p1), some (.int s0), some (.int 1), l4, l5, l6]) (Nat.le_of_ble_eq_true rfl) rfl).trans ((wt_aload_n dX0_sumSets_10 rfl rfl).trans ((wt_iconst dX0_sumSets_11 (v := 0) (by decide)).trans ((wt_iconst dX0_sumSets_12 (v := 0) (by decide)).trans (wt_callS dX0_sumSets_13 rfl (as := [.ref p1, .int 0, .int 0]) (rest := []) rfl rfl (Nat.le_of_ble_eq_true rfl) (Nat.le_of_ble_eq_true rfl)))))))
set_option maxHeartbeats 100000 in
theorem kX0_sumSets_16 {d : Nat} {F : am_FT} {L : am_LT} {Q : am_QT} {l0 l1 l2 l4 l5 l6 : Option Value} {x3 : Int32} : wt am_S0 d mX0_sumSets 16 [l0, l1, l2, some (.int x3), l4, l5, l6] [] F L Q = wt am_S0 d mX0_sumSets 19 [l0, l1, l2, some (.int x3), some (.int 0), l5, l6] [] F L Q := (wt_iconst dX0_sumSets_16 (v := 0) (by decide)).trans (wt_istore dX0_sumSets_17 (lv1 := [l0, l1, l2, some (.int x3), some (.int 0), l5, l6]) (Nat.le_of_ble_eq_true rfl) rfl)
set_option maxHeartbeats 100000 in
theorem kX0_sumSets_19 {d : Nat} {F : am_FT} {L : am_LT} {Q : am_QT} {l1 l2 l3 l5 l6 : Option Value} {x4 : Int32} : wt am_S0 d mX0_sumSets 19 [some (.ref 9), l1, l2, l3, some (.int x4), l5, l6] [] F L Q = if (F 1 2) ≤ x4 then wt am_S0 d mX0_sumSets 98 [some (.ref 9), l1, l2, l3, some (.int x4), l5, l6] [] F L Q else wt am_S0 d mX0_sumSets 31 [some (.ref 9), l1, l2, l3, some (.int x4), l5, l6] [] F L Q := (wt_iload dX0_sumSets_19 rfl).trans ((wt_aload_n dX0_sumSets_21 rfl rfl).trans ((wt_getfield dX0_sumSets_22 rfl rfl (v := .ref 1) rfl).trans ((wt_getfield dX0_sumSets_25 rfl rfl (v := .int (F 1 2)) rfl).trans (wt_if_icmp_ge dX0_sumSets_28 (t := 98) rfl))))
set_option maxHeartbeats 100000 in
theorem kX0_sumSets_31 {d : Nat} {F : am_FT} {L : am_LT} {Q : am_QT} {l1 l2 l3 l5 l6 : Option Value} {x4 : Int32} : wt am_S0 (d + 1) mX0_sumSets 31 [some (.ref 9), l1, l2, l3, some (.int x4), l5, l6] [] F L Q = wc am_S0 d mX11_holds [.int (F 9 5), .int x4] F L (fun r G K => wt am_S0 (d + 1) mX0_sumSets 40 [some (.ref 9), l1, l2, l3, some (.int x4), l5, l6] (r.toList ++ []) G K Q) := (wt_aload_n dX0_sumSets_31 rfl rfl).trans ((wt_getfield dX0_sumSets_32 rfl rfl (v := .int (F 9 5)) rfl).trans ((wt_iload dX0_sumSets_35 rfl).trans (wt_callS dX0_sumSets_37 rfl (as := [.int (F 9 5), .int x4]) (rest := []) rfl rfl (Nat.le_of_ble_eq_true rfl) (Nat.le_of_ble_eq_true rfl))))
set_option maxHeartbeats 100000 in
theorem kX0_sumSets_40 {d : Nat} {F : am_FT} {L : am_LT} {Q : am_QT} {l0 l1 l2 l3 l4 l5 l6 : Option Value} {s0 : Int32} : wt am_S0 d mX0_sumSets 40 [l0, l1, l2, l3, l4, l5, l6] [.int s0] F L Q = if s0 = 0 then wt am_S0 d mX0_sumSets 53 [l0, l1, l2, l3, l4, l5, l6] [] F L Q else wt am_S0 d mX0_sumSets 43 [l0, l1, l2, l3, l4, l5, l6] [] F L Q := wt_ifCond_eq dX0_sumSets_40 (t := 53) rfl
set_option maxHeartbeats 100000 in
theorem kX0_sumSets_43 {d : Nat} {F : am_FT} {L : am_LT} {Q : am_QT} {l1 l3 l5 l6 : Option Value} {x4 x2 : Int32} : wt am_S0 (d + 1) mX0_sumSets 43 [some (.ref 9), l1, some (.int x2), l3, some (.int x4), l5, l6] [] F L Q = wc am_S0 d mX0_worthOf [.ref 9, .int x4, .int x2] F L (fun r G K => wt am_S0 (d + 1) mX0_sumSets 50 [some (.ref 9), l1, some (.int x2), l3, some (.int x4), l5, l6] (r.toList ++ []) G K Q) := (wt_aload_n dX0_sumSets_43 rfl rfl).trans ((wt_iload dX0_sumSets_44 rfl).trans ((wt_iload_n dX0_sumSets_46 rfl).trans (wt_callV dX0_sumSets_47 rfl (as := [.int x4, .int x2]) (rest := []) rfl rfl (Nat.le_of_ble_eq_true rfl) rfl (Nat.le_of_ble_eq_true rfl))))
set_option maxHeartbeats 100000 in
theorem kX0_sumSets_50 {d : Nat} {F : am_FT} {L : am_LT} {Q : am_QT} {l0 l1 l2 l3 l4 l5 l6 : Option Value} {s0 : Int32} : wt am_S0 d mX0_sumSets 50 [l0, l1, l2, l3, l4, l5, l6] [.int s0] F L Q = wt am_S0 d mX0_sumSets 54 [l0, l1, l2, l3, l4, l5, l6] [.int s0] F L Q := wt_goto dX0_sumSets_50 (t := 54) rfl
set_option maxHeartbeats 100000 in
theorem kX0_sumSets_53 {d : Nat} {F : am_FT} {L : am_LT} {Q : am_QT} {l0 l1 l2 l3 l4 l5 l6 : Option Value} : wt am_S0 d mX0_sumSets 53 [l0, l1, l2, l3, l4, l5, l6] [] F L Q = wt am_S0 d mX0_sumSets 54 [l0, l1, l2, l3, l4, l5, l6] [.int 0] F L Q := wt_iconst dX0_sumSets_53 (v := 0) (by decide)
set_option maxHeartbeats 100000 in
theorem kX0_sumSets_54 {d : Nat} {F : am_FT} {L : am_LT} {Q : am_QT} {l0 l1 l2 l3 l5 l6 : Option Value} {s0 x4 : Int32} : wt am_S0 d mX0_sumSets 54 [l0, l1, l2, l3, some (.int x4), l5, l6] [.int s0] F L Q = wt am_S0 d mX0_sumSets 59 [l0, l1, l2, l3, some (.int x4), some (.int s0), some (.int 0)] [] F L Q := (wt_istore dX0_sumSets_54 (lv1 := [l0, l1, l2, l3, some (.int x4), some (.int s0), l6]) (Nat.le_of_ble_eq_true rfl) rfl).trans ((wt_iconst dX0_sumSets_56 (v := 0) (by decide)).trans (wt_istore dX0_sumSets_57 (lv1 := [l0, l1, l2, l3, some (.int x4), some (.int s0), some (.int 0)]) (Nat.le_of_ble_eq_true rfl) rfl))
set_option maxHeartbeats 100000 in
theorem kX0_sumSets_59 {d : Nat} {F : am_FT} {L : am_LT} {Q : am_QT} {l0 l1 l2 l4 l5 : Option Value} {x6 x3 : Int32} : wt am_S0 d mX0_sumSets 59 [l0, l1, l2, some (.int x3), l4, l5, some (.int x6)] [] F L Q = if x3 ≤ x6 then wt am_S0 d mX0_sumSets 88 [l0, l1, l2, some (.int x3), l4, l5, some (.int x6)] [] F L Q else wt am_S0 d mX0_sumSets 65 [l0, l1, l2, some (.int x3), l4, l5, some (.int x6)] [] F L Q := (wt_iload dX0_sumSets_59 rfl).trans ((wt_iload_n dX0_sumSets_61 rfl).trans (wt_if_icmp_ge dX0_sumSets_62 (t := 88) rfl))
set_option maxHeartbeats 100000 in
theorem kX0_sumSets_65 {d : Nat} {F : am_FT} {L : am_LT} {Q : am_QT} {l0 l2 l4 l5 : Option Value} {p1 : Nat} {x3 x6 : Int32} : wt am_S0 (d + 1) mX0_sumSets 65 [l0, some (.ref p1), l2, some (.int x3), l4, l5, some (.int x6)] [] F L Q = wc am_S0 d mX11_at [.ref p1, .int x6] F L (fun r G K => wt am_S0 (d + 1) mX0_sumSets 76 [l0, some (.ref p1), l2, some (.int x3), l4, l5, some (.int x6)] (r.toList ++ [.int (x3 + x6), .ref p1]) G K Q) := (wt_aload_n dX0_sumSets_65 rfl rfl).trans ((wt_iload_n dX0_sumSets_66 rfl).trans ((wt_iload dX0_sumSets_67 rfl).trans ((wt_iadd dX0_sumSets_69).trans ((wt_aload_n dX0_sumSets_70 rfl rfl).trans ((wt_iload dX0_sumSets_71 rfl).trans (wt_callS dX0_sumSets_73 rfl (as := [.ref p1, .int x6]) (rest := [.int (x3 + x6), .ref p1]) rfl rfl (Nat.le_of_ble_eq_true rfl) (Nat.le_of_ble_eq_true rfl)))))))
set_option maxHeartbeats 100000 in
theorem kX0_sumSets_76 {d : Nat} {F : am_FT} {L : am_LT} {Q : am_QT} {l0 l1 l2 l3 l4 l6 : Option Value} {q0 : Nat} {s1 s2 x5 : Int32} : wt am_S0 (d + 1) mX0_sumSets 76 [l0, l1, l2, l3, l4, some (.int x5), l6] [.int s2, .int s1, .ref q0] F L Q = wc am_S0 d mX11_lay [.ref q0, .int s1, .int (s2 + x5)] F L (fun r G K => wt am_S0 (d + 1) mX0_sumSets 82 [l0, l1, l2, l3, l4, some (.int x5), l6] (r.toList ++ []) G K Q) := (wt_iload dX0_sumSets_76 rfl).trans ((wt_iadd dX0_sumSets_78).trans (wt_callS dX0_sumSets_79 rfl (as := [.ref q0, .int s1, .int (s2 + x5)]) (rest := []) rfl rfl (Nat.le_of_ble_eq_true rfl) (Nat.le_of_ble_eq_true rfl)))
set_option maxHeartbeats 100000 in
theorem kX0_sumSets_82 {d : Nat} {F : am_FT} {L : am_LT} {Q : am_QT} {l0 l1 l2 l3 l4 : Option Value} {x6 x5 : Int32} : wt am_S0 d mX0_sumSets 82 [l0, l1, l2, l3, l4, some (.int x5), some (.int x6)] [] F L Q = wt am_S0 d mX0_sumSets 59 [l0, l1, l2, l3, l4, some (.int x5), some (.int (x6 + 1))] [] F L Q := (wt_iinc dX0_sumSets_82 (v := 1) (lv1 := [l0, l1, l2, l3, l4, some (.int x5), some (.int (x6 + 1))]) rfl (Nat.le_of_ble_eq_true rfl) (by decide) rfl).trans (wt_goto dX0_sumSets_85 (t := 59) rfl)
set_option maxHeartbeats 100000 in
theorem kX0_sumSets_88 {d : Nat} {F : am_FT} {L : am_LT} {Q : am_QT} {l0 l1 l5 l6 : Option Value} {x3 x2 x4 : Int32} : wt am_S0 d mX0_sumSets 88 [l0, l1, some (.int x2), some (.int x3), some (.int x4), l5, l6] [] F L Q = wt am_S0 d mX0_sumSets 19 [l0, l1, some (.int x2), some (.int (x3 + x3)), some (.int (x4 + 1)), l5, l6] [] F L Q := (wt_iload_n dX0_sumSets_88 rfl).trans ((wt_iload_n dX0_sumSets_89 rfl).trans ((wt_iadd dX0_sumSets_90).trans ((wt_istore_n dX0_sumSets_91 (lv1 := [l0, l1, some (.int x2), some (.int (x3 + x3)), some (.int x4), l5, l6]) (Nat.le_of_ble_eq_true rfl) rfl).trans ((wt_iinc dX0_sumSets_92 (v := 1) (lv1 := [l0, l1, some (.int x2), some (.int (x3 + x3)), some (.int (x4 + 1)), l5, l6]) rfl (Nat.le_of_ble_eq_true rfl) (by decide) rfl).trans (wt_goto dX0_sumSets_95 (t := 19) rfl)))))
set_option maxHeartbeats 100000 in
theorem kX0_sumSets_98 {d : Nat} {F : am_FT} {L : am_LT} {Q : am_QT} {l0 l1 l2 l3 l4 l5 l6 : Option Value} : wt am_S0 d mX0_sumSets 98 [l0, l1, l2, l3, l4, l5, l6] [] F L Q = Q none F L := wt_return dX0_sumSets_98 rfl
