theorem dX12_deepest_0 : decode mX12_deepest.2.2.1 0 = .ok (.aload_n 0, 1) := by decide +kernel
theorem dX12_deepest_1 : decode mX12_deepest.2.2.1 1 = .ok (.iload_n 1, 1) := by decide +kernel
theorem dX12_deepest_2 : decode mX12_deepest.2.2.1 2 = .ok (.i2l, 1) := by decide +kernel
theorem dX12_deepest_3 : decode mX12_deepest.2.2.1 3 = .ok (.invokevirtual 86, 3) := by decide +kernel
theorem dX12_deepest_6 : decode mX12_deepest.2.2.1 6 = .ok (.ifCond .eq 13, 3) := by decide +kernel
theorem dX12_deepest_9 : decode mX12_deepest.2.2.1 9 = .ok (.iload_n 2, 1) := by decide +kernel
theorem dX12_deepest_10 : decode mX12_deepest.2.2.1 10 = .ok (.i2l, 1) := by decide +kernel
theorem dX12_deepest_11 : decode mX12_deepest.2.2.1 11 = .ok (.lconst 0, 1) := by decide +kernel
theorem dX12_deepest_12 : decode mX12_deepest.2.2.1 12 = .ok (.lconst 1, 1) := by decide +kernel
theorem dX12_deepest_13 : decode mX12_deepest.2.2.1 13 = .ok (.invokestatic 75, 3) := by decide +kernel
theorem dX12_deepest_16 : decode mX12_deepest.2.2.1 16 = .ok (.ifCond .ne 5, 3) := by decide +kernel
theorem dX12_deepest_19 : decode mX12_deepest.2.2.1 19 = .ok (.iconst (-1), 1) := by decide +kernel
theorem dX12_deepest_20 : decode mX12_deepest.2.2.1 20 = .ok (.ireturn, 1) := by decide +kernel
theorem dX12_deepest_21 : decode mX12_deepest.2.2.1 21 = .ok (.iconst 0, 1) := by decide +kernel
theorem dX12_deepest_22 : decode mX12_deepest.2.2.1 22 = .ok (.istore_n 3, 1) := by decide +kernel
theorem dX12_deepest_23 : decode mX12_deepest.2.2.1 23 = .ok (.iconst 1, 1) := by decide +kernel
theorem dX12_deepest_24 : decode mX12_deepest.2.2.1 24 = .ok (.istore 4, 2) := by decide +kernel
theorem dX12_deepest_26 : decode mX12_deepest.2.2.1 26 = .ok (.iload 4, 2) := by decide +kernel
theorem dX12_deepest_28 : decode mX12_deepest.2.2.1 28 = .ok (.bipush 12, 2) := by decide +kernel
theorem dX12_deepest_30 : decode mX12_deepest.2.2.1 30 = .ok (.if_icmp .ge 38, 3) := by decide +kernel
theorem dX12_deepest_33 : decode mX12_deepest.2.2.1 33 = .ok (.aload_n 0, 1) := by decide +kernel
theorem dX12_deepest_34 : decode mX12_deepest.2.2.1 34 = .ok (.iload_n 1, 1) := by decide +kernel
theorem dX12_deepest_35 : decode mX12_deepest.2.2.1 35 = .ok (.iload 4, 2) := by decide +kernel
theorem dX12_deepest_37 : decode mX12_deepest.2.2.1 37 = .ok (.invokevirtual 215, 3) := by decide +kernel
theorem dX12_deepest_40 : decode mX12_deepest.2.2.1 40 = .ok (.invokestatic 195, 3) := by decide +kernel
theorem dX12_deepest_43 : decode mX12_deepest.2.2.1 43 = .ok (.aload_n 0, 1) := by decide +kernel
theorem dX12_deepest_44 : decode mX12_deepest.2.2.1 44 = .ok (.iload_n 1, 1) := by decide +kernel
theorem dX12_deepest_45 : decode mX12_deepest.2.2.1 45 = .ok (.iload_n 3, 1) := by decide +kernel
theorem dX12_deepest_46 : decode mX12_deepest.2.2.1 46 = .ok (.invokevirtual 215, 3) := by decide +kernel
theorem dX12_deepest_49 : decode mX12_deepest.2.2.1 49 = .ok (.invokestatic 195, 3) := by decide +kernel
theorem dX12_deepest_52 : decode mX12_deepest.2.2.1 52 = .ok (.if_icmp .le 8, 3) := by decide +kernel
theorem dX12_deepest_55 : decode mX12_deepest.2.2.1 55 = .ok (.iload 4, 2) := by decide +kernel
theorem dX12_deepest_57 : decode mX12_deepest.2.2.1 57 = .ok (.goto 4, 3) := by decide +kernel
theorem dX12_deepest_60 : decode mX12_deepest.2.2.1 60 = .ok (.iload_n 3, 1) := by decide +kernel
theorem dX12_deepest_61 : decode mX12_deepest.2.2.1 61 = .ok (.istore_n 3, 1) := by decide +kernel
theorem dX12_deepest_62 : decode mX12_deepest.2.2.1 62 = .ok (.iinc 4 1, 3) := by decide +kernel
theorem dX12_deepest_65 : decode mX12_deepest.2.2.1 65 = .ok (.goto (-39), 3) := by decide +kernel
theorem dX12_deepest_68 : decode mX12_deepest.2.2.1 68 = .ok (.iload_n 2, 1) := by decide +kernel
theorem dX12_deepest_69 : decode mX12_deepest.2.2.1 69 = .ok (.ifCond .ne 7, 3) := by decide +kernel
theorem dX12_deepest_72 : decode mX12_deepest.2.2.1 72 = .ok (.iload_n 3, 1) := by decide +kernel
theorem dX12_deepest_73 : decode mX12_deepest.2.2.1 73 = .ok (.goto 12, 3) := by decide +kernel
theorem dX12_deepest_76 : decode mX12_deepest.2.2.1 76 = .ok (.aload_n 0, 1) := by decide +kernel
theorem dX12_deepest_77 : decode mX12_deepest.2.2.1 77 = .ok (.iload_n 1, 1) := by decide +kernel
theorem dX12_deepest_78 : decode mX12_deepest.2.2.1 78 = .ok (.iload_n 3, 1) := by decide +kernel
theorem dX12_deepest_79 : decode mX12_deepest.2.2.1 79 = .ok (.invokevirtual 215, 3) := by decide +kernel
theorem dX12_deepest_82 : decode mX12_deepest.2.2.1 82 = .ok (.invokestatic 195, 3) := by decide +kernel
theorem dX12_deepest_85 : decode mX12_deepest.2.2.1 85 = .ok (.ireturn, 1) := by decide +kernel
set_option maxHeartbeats 100000 in
theorem kX12_deepest_0 {d : Nat} {F : am_FT} {L : am_LT} {Q : am_QT} {l2 l3 l4 : Option Value} {x1 : Int32} : wt am_S0 (d + 1) mX12_deepest 0 [some (.ref 45), some (.int x1), l2, l3, l4] [] F L Q = wc am_S0 d mX12_isTree [.ref 45, .long (Int32.toInt64 x1)] F L (fun r G K => wt am_S0 (d + 1) mX12_deepest 6 [some (.ref 45), some (.int x1), l2, l3, l4] (r.toList ++ []) G K Q) := (wt_aload_n dX12_deepest_0 rfl rfl).trans ((wt_iload_n dX12_deepest_1 rfl).trans ((wt_i2l dX12_deepest_2).trans (wt_callV dX12_deepest_3 rfl (as := [.long (Int32.toInt64 x1)]) (rest := []) rfl rfl (Nat.le_of_ble_eq_true rfl) rfl (Nat.le_of_ble_eq_true rfl))))
set_option maxHeartbeats 100000 in
theorem kX12_deepest_6 {d : Nat} {F : am_FT} {L : am_LT} {Q : am_QT} {l0 l1 l2 l3 l4 : Option Value} {s0 : Int32} : wt am_S0 d mX12_deepest 6 [l0, l1, l2, l3, l4] [.int s0] F L Q = if s0 = 0 then wt am_S0 d mX12_deepest 19 [l0, l1, l2, l3, l4] [] F L Q else wt am_S0 d mX12_deepest 9 [l0, l1, l2, l3, l4] [] F L Q := wt_ifCond_eq dX12_deepest_6 (t := 19) rfl
set_option maxHeartbeats 100000 in
theorem kX12_deepest_9 {d : Nat} {F : am_FT} {L : am_LT} {Q : am_QT} {l0 l1 l3 l4 : Option Value} {x2 : Int32} : wt am_S0 (d + 1) mX12_deepest 9 [l0, l1, some (.int x2), l3, l4] [] F L Q = wc am_S0 d mX12_within [.long (Int32.toInt64 x2), .long 0, .long 1] F L (fun r G K => wt am_S0 (d + 1) mX12_deepest 16 [l0, l1, some (.int x2), l3, l4] (r.toList ++ []) G K Q) := (wt_iload_n dX12_deepest_9 rfl).trans ((wt_i2l dX12_deepest_10).trans ((wt_lconst dX12_deepest_11 (v := 0) (by decide)).trans ((wt_lconst dX12_deepest_12 (v := 1) (by decide)).trans (wt_callS dX12_deepest_13 rfl (as := [.long (Int32.toInt64 x2), .long 0, .long 1]) (rest := []) rfl rfl (Nat.le_of_ble_eq_true rfl) (Nat.le_of_ble_eq_true rfl)))))
set_option maxHeartbeats 100000 in
theorem kX12_deepest_16 {d : Nat} {F : am_FT} {L : am_LT} {Q : am_QT} {l0 l1 l2 l3 l4 : Option Value} {s0 : Int32} : wt am_S0 d mX12_deepest 16 [l0, l1, l2, l3, l4] [.int s0] F L Q = if ¬ s0 = 0 then wt am_S0 d mX12_deepest 21 [l0, l1, l2, l3, l4] [] F L Q else wt am_S0 d mX12_deepest 19 [l0, l1, l2, l3, l4] [] F L Q := wt_ifCond_ne dX12_deepest_16 (t := 21) rfl
set_option maxHeartbeats 100000 in
theorem kX12_deepest_19 {d : Nat} {F : am_FT} {L : am_LT} {Q : am_QT} {l0 l1 l2 l3 l4 : Option Value} : wt am_S0 d mX12_deepest 19 [l0, l1, l2, l3, l4] [] F L Q = Q (some (.int (-1))) F L := (wt_iconst dX12_deepest_19 (v := (-1)) (by decide)).trans (wt_ireturn dX12_deepest_20 rfl rfl)
set_option maxHeartbeats 100000 in
theorem kX12_deepest_21 {d : Nat} {F : am_FT} {L : am_LT} {Q : am_QT} {l0 l1 l3 l4 : Option Value} {x2 : Int32} : wt am_S0 d mX12_deepest 21 [l0, l1, some (.int x2), l3, l4] [] F L Q = wt am_S0 d mX12_deepest 26 [l0, l1, some (.int x2), some (.int 0), some (.int 1)] [] F L Q := (wt_iconst dX12_deepest_21 (v := 0) (by decide)).trans ((wt_istore_n dX12_deepest_22 (lv1 := [l0, l1, some (.int x2), some (.int 0), l4]) (Nat.le_of_ble_eq_true rfl) rfl).trans ((wt_iconst dX12_deepest_23 (v := 1) (by decide)).trans (wt_istore dX12_deepest_24 (lv1 := [l0, l1, some (.int x2), some (.int 0), some (.int 1)]) (Nat.le_of_ble_eq_true rfl) rfl)))
set_option maxHeartbeats 100000 in
theorem kX12_deepest_26 {d : Nat} {F : am_FT} {L : am_LT} {Q : am_QT} {l0 l1 l2 l3 : Option Value} {x4 : Int32} : wt am_S0 d mX12_deepest 26 [l0, l1, l2, l3, some (.int x4)] [] F L Q = if 12 ≤ x4 then wt am_S0 d mX12_deepest 68 [l0, l1, l2, l3, some (.int x4)] [] F L Q else wt am_S0 d mX12_deepest 33 [l0, l1, l2, l3, some (.int x4)] [] F L Q := (wt_iload dX12_deepest_26 rfl).trans ((wt_bipush dX12_deepest_28 (v := 12) (by decide)).trans (wt_if_icmp_ge dX12_deepest_30 (t := 68) rfl))
set_option maxHeartbeats 100000 in
theorem kX12_deepest_33 {d : Nat} {F : am_FT} {L : am_LT} {Q : am_QT} {l2 l3 : Option Value} {x1 x4 : Int32} : wt am_S0 (d + 1) mX12_deepest 33 [some (.ref 45), some (.int x1), l2, l3, some (.int x4)] [] F L Q = wc am_S0 d mX12_sittersNow [.ref 45, .int x1, .int x4] F L (fun r G K => wt am_S0 (d + 1) mX12_deepest 40 [some (.ref 45), some (.int x1), l2, l3, some (.int x4)] (r.toList ++ []) G K Q) := (wt_aload_n dX12_deepest_33 rfl rfl).trans ((wt_iload_n dX12_deepest_34 rfl).trans ((wt_iload dX12_deepest_35 rfl).trans (wt_callV dX12_deepest_37 rfl (as := [.int x1, .int x4]) (rest := []) rfl rfl (Nat.le_of_ble_eq_true rfl) rfl (Nat.le_of_ble_eq_true rfl))))
set_option maxHeartbeats 100000 in
theorem kX12_deepest_40 {d : Nat} {F : am_FT} {L : am_LT} {Q : am_QT} {l0 l1 l2 l3 l4 : Option Value} {s0 : Int32} : wt am_S0 (d + 1) mX12_deepest 40 [l0, l1, l2, l3, l4] [.int s0] F L Q = wc am_S0 d mX12_bitsOf [.int s0] F L (fun r G K => wt am_S0 (d + 1) mX12_deepest 43 [l0, l1, l2, l3, l4] (r.toList ++ []) G K Q) := wt_callS dX12_deepest_40 rfl (as := [.int s0]) (rest := []) rfl rfl (Nat.le_of_ble_eq_true rfl) (Nat.le_of_ble_eq_true rfl)
set_option maxHeartbeats 100000 in
theorem kX12_deepest_43 {d : Nat} {F : am_FT} {L : am_LT} {Q : am_QT} {l2 l4 : Option Value} {s0 x1 x3 : Int32} : wt am_S0 (d + 1) mX12_deepest 43 [some (.ref 45), some (.int x1), l2, some (.int x3), l4] [.int s0] F L Q = wc am_S0 d mX12_sittersNow [.ref 45, .int x1, .int x3] F L (fun r G K => wt am_S0 (d + 1) mX12_deepest 49 [some (.ref 45), some (.int x1), l2, some (.int x3), l4] (r.toList ++ [.int s0]) G K Q) := (wt_aload_n dX12_deepest_43 rfl rfl).trans ((wt_iload_n dX12_deepest_44 rfl).trans ((wt_iload_n dX12_deepest_45 rfl).trans (wt_callV dX12_deepest_46 rfl (as := [.int x1, .int x3]) (rest := [.int s0]) rfl rfl (Nat.le_of_ble_eq_true rfl) rfl (Nat.le_of_ble_eq_true rfl))))
set_option maxHeartbeats 100000 in
theorem kX12_deepest_49 {d : Nat} {F : am_FT} {L : am_LT} {Q : am_QT} {l0 l1 l2 l3 l4 : Option Value} {s0 s1 : Int32} : wt am_S0 (d + 1) mX12_deepest 49 [l0, l1, l2, l3, l4] [.int s1, .int s0] F L Q = wc am_S0 d mX12_bitsOf [.int s1] F L (fun r G K => wt am_S0 (d + 1) mX12_deepest 52 [l0, l1, l2, l3, l4] (r.toList ++ [.int s0]) G K Q) := wt_callS dX12_deepest_49 rfl (as := [.int s1]) (rest := [.int s0]) rfl rfl (Nat.le_of_ble_eq_true rfl) (Nat.le_of_ble_eq_true rfl)
set_option maxHeartbeats 100000 in
theorem kX12_deepest_52 {d : Nat} {F : am_FT} {L : am_LT} {Q : am_QT} {l0 l1 l2 l3 l4 : Option Value} {s0 s1 : Int32} : wt am_S0 d mX12_deepest 52 [l0, l1, l2, l3, l4] [.int s1, .int s0] F L Q = if s0 ≤ s1 then wt am_S0 d mX12_deepest 60 [l0, l1, l2, l3, l4] [] F L Q else wt am_S0 d mX12_deepest 55 [l0, l1, l2, l3, l4] [] F L Q := wt_if_icmp_le dX12_deepest_52 (t := 60) rfl
set_option maxHeartbeats 100000 in
theorem kX12_deepest_55 {d : Nat} {F : am_FT} {L : am_LT} {Q : am_QT} {l0 l1 l2 l3 : Option Value} {x4 : Int32} : wt am_S0 d mX12_deepest 55 [l0, l1, l2, l3, some (.int x4)] [] F L Q = wt am_S0 d mX12_deepest 61 [l0, l1, l2, l3, some (.int x4)] [.int x4] F L Q := (wt_iload dX12_deepest_55 rfl).trans (wt_goto dX12_deepest_57 (t := 61) rfl)
set_option maxHeartbeats 100000 in
theorem kX12_deepest_60 {d : Nat} {F : am_FT} {L : am_LT} {Q : am_QT} {l0 l1 l2 l4 : Option Value} {x3 : Int32} : wt am_S0 d mX12_deepest 60 [l0, l1, l2, some (.int x3), l4] [] F L Q = wt am_S0 d mX12_deepest 61 [l0, l1, l2, some (.int x3), l4] [.int x3] F L Q := wt_iload_n dX12_deepest_60 rfl
set_option maxHeartbeats 100000 in
theorem kX12_deepest_61 {d : Nat} {F : am_FT} {L : am_LT} {Q : am_QT} {l0 l1 l3 : Option Value} {s0 x2 x4 : Int32} : wt am_S0 d mX12_deepest 61 [l0, l1, some (.int x2), l3, some (.int x4)] [.int s0] F L Q = wt am_S0 d mX12_deepest 26 [l0, l1, some (.int x2), some (.int s0), some (.int (x4 + 1))] [] F L Q := (wt_istore_n dX12_deepest_61 (lv1 := [l0, l1, some (.int x2), some (.int s0), some (.int x4)]) (Nat.le_of_ble_eq_true rfl) rfl).trans ((wt_iinc dX12_deepest_62 (v := 1) (lv1 := [l0, l1, some (.int x2), some (.int s0), some (.int (x4 + 1))]) rfl (Nat.le_of_ble_eq_true rfl) (by decide) rfl).trans (wt_goto dX12_deepest_65 (t := 26) rfl))
set_option maxHeartbeats 100000 in
theorem kX12_deepest_68 {d : Nat} {F : am_FT} {L : am_LT} {Q : am_QT} {l0 l1 l3 l4 : Option Value} {x2 : Int32} : wt am_S0 d mX12_deepest 68 [l0, l1, some (.int x2), l3, l4] [] F L Q = if ¬ x2 = 0 then wt am_S0 d mX12_deepest 76 [l0, l1, some (.int x2), l3, l4] [] F L Q else wt am_S0 d mX12_deepest 72 [l0, l1, some (.int x2), l3, l4] [] F L Q := (wt_iload_n dX12_deepest_68 rfl).trans (wt_ifCond_ne dX12_deepest_69 (t := 76) rfl)
set_option maxHeartbeats 100000 in
theorem kX12_deepest_72 {d : Nat} {F : am_FT} {L : am_LT} {Q : am_QT} {l0 l1 l2 l4 : Option Value} {x3 : Int32} : wt am_S0 d mX12_deepest 72 [l0, l1, l2, some (.int x3), l4] [] F L Q = wt am_S0 d mX12_deepest 85 [l0, l1, l2, some (.int x3), l4] [.int x3] F L Q := (wt_iload_n dX12_deepest_72 rfl).trans (wt_goto dX12_deepest_73 (t := 85) rfl)
set_option maxHeartbeats 100000 in
theorem kX12_deepest_76 {d : Nat} {F : am_FT} {L : am_LT} {Q : am_QT} {l2 l4 : Option Value} {x1 x3 : Int32} : wt am_S0 (d + 1) mX12_deepest 76 [some (.ref 45), some (.int x1), l2, some (.int x3), l4] [] F L Q = wc am_S0 d mX12_sittersNow [.ref 45, .int x1, .int x3] F L (fun r G K => wt am_S0 (d + 1) mX12_deepest 82 [some (.ref 45), some (.int x1), l2, some (.int x3), l4] (r.toList ++ []) G K Q) := (wt_aload_n dX12_deepest_76 rfl rfl).trans ((wt_iload_n dX12_deepest_77 rfl).trans ((wt_iload_n dX12_deepest_78 rfl).trans (wt_callV dX12_deepest_79 rfl (as := [.int x1, .int x3]) (rest := []) rfl rfl (Nat.le_of_ble_eq_true rfl) rfl (Nat.le_of_ble_eq_true rfl))))
set_option maxHeartbeats 100000 in
theorem kX12_deepest_82 {d : Nat} {F : am_FT} {L : am_LT} {Q : am_QT} {l0 l1 l2 l3 l4 : Option Value} {s0 : Int32} : wt am_S0 (d + 1) mX12_deepest 82 [l0, l1, l2, l3, l4] [.int s0] F L Q = wc am_S0 d mX12_bitsOf [.int s0] F L (fun r G K => wt am_S0 (d + 1) mX12_deepest 85 [l0, l1, l2, l3, l4] (r.toList ++ []) G K Q) := wt_callS dX12_deepest_82 rfl (as := [.int s0]) (rest := []) rfl rfl (Nat.le_of_ble_eq_true rfl) (Nat.le_of_ble_eq_true rfl)
set_option maxHeartbeats 100000 in
theorem kX12_deepest_85 {d : Nat} {F : am_FT} {L : am_LT} {Q : am_QT} {l0 l1 l2 l3 l4 : Option Value} {s0 : Int32} : wt am_S0 d mX12_deepest 85 [l0, l1, l2, l3, l4] [.int s0] F L Q = Q (some (.int s0)) F L := wt_ireturn dX12_deepest_85 rfl rfl
theorem dX12_shadiest_0 : decode mX12_shadiest.2.2.1 0 = .ok (.iload_n 1, 1) := by decide +kernel
theorem dX12_shadiest_1 : decode mX12_shadiest.2.2.1 1 = .ok (.i2l, 1) := by decide +kernel
theorem dX12_shadiest_2 : decode mX12_shadiest.2.2.1 2 = .ok (.invokestatic 90, 3) := by decide +kernel
theorem dX12_shadiest_5 : decode mX12_shadiest.2.2.1 5 = .ok (.ifCond .eq 13, 3) := by decide +kernel
theorem dX12_shadiest_8 : decode mX12_shadiest.2.2.1 8 = .ok (.iload_n 2, 1) := by decide +kernel
theorem dX12_shadiest_9 : decode mX12_shadiest.2.2.1 9 = .ok (.i2l, 1) := by decide +kernel
theorem dX12_shadiest_10 : decode mX12_shadiest.2.2.1 10 = .ok (.lconst 0, 1) := by decide +kernel
theorem dX12_shadiest_11 : decode mX12_shadiest.2.2.1 11 = .ok (.lconst 1, 1) := by decide +kernel
theorem dX12_shadiest_12 : decode mX12_shadiest.2.2.1 12 = .ok (.invokestatic 75, 3) := by decide +kernel
theorem dX12_shadiest_15 : decode mX12_shadiest.2.2.1 15 = .ok (.ifCond .ne 5, 3) := by decide +kernel
theorem dX12_shadiest_18 : decode mX12_shadiest.2.2.1 18 = .ok (.iconst (-1), 1) := by decide +kernel
theorem dX12_shadiest_19 : decode mX12_shadiest.2.2.1 19 = .ok (.ireturn, 1) := by decide +kernel
theorem dX12_shadiest_20 : decode mX12_shadiest.2.2.1 20 = .ok (.bipush (-2), 2) := by decide +kernel
theorem dX12_shadiest_22 : decode mX12_shadiest.2.2.1 22 = .ok (.istore_n 3, 1) := by decide +kernel
theorem dX12_shadiest_23 : decode mX12_shadiest.2.2.1 23 = .ok (.iconst 0, 1) := by decide +kernel
theorem dX12_shadiest_24 : decode mX12_shadiest.2.2.1 24 = .ok (.istore 4, 2) := by decide +kernel
theorem dX12_shadiest_26 : decode mX12_shadiest.2.2.1 26 = .ok (.iconst 0, 1) := by decide +kernel
theorem dX12_shadiest_27 : decode mX12_shadiest.2.2.1 27 = .ok (.istore 5, 2) := by decide +kernel
theorem dX12_shadiest_29 : decode mX12_shadiest.2.2.1 29 = .ok (.iload 5, 2) := by decide +kernel
theorem dX12_shadiest_31 : decode mX12_shadiest.2.2.1 31 = .ok (.aload_n 0, 1) := by decide +kernel
theorem dX12_shadiest_32 : decode mX12_shadiest.2.2.1 32 = .ok (.getfield 79, 3) := by decide +kernel
theorem dX12_shadiest_35 : decode mX12_shadiest.2.2.1 35 = .ok (.if_icmp .ge 90, 3) := by decide +kernel
theorem dX12_shadiest_38 : decode mX12_shadiest.2.2.1 38 = .ok (.iconst 0, 1) := by decide +kernel
theorem dX12_shadiest_39 : decode mX12_shadiest.2.2.1 39 = .ok (.istore 6, 2) := by decide +kernel
theorem dX12_shadiest_41 : decode mX12_shadiest.2.2.1 41 = .ok (.iconst 0, 1) := by decide +kernel
theorem dX12_shadiest_42 : decode mX12_shadiest.2.2.1 42 = .ok (.istore 7, 2) := by decide +kernel
theorem dX12_shadiest_44 : decode mX12_shadiest.2.2.1 44 = .ok (.iload 7, 2) := by decide +kernel
theorem dX12_shadiest_46 : decode mX12_shadiest.2.2.1 46 = .ok (.aload_n 0, 1) := by decide +kernel
theorem dX12_shadiest_47 : decode mX12_shadiest.2.2.1 47 = .ok (.getfield 72, 3) := by decide +kernel
theorem dX12_shadiest_50 : decode mX12_shadiest.2.2.1 50 = .ok (.if_icmp .ge 39, 3) := by decide +kernel
theorem dX12_shadiest_53 : decode mX12_shadiest.2.2.1 53 = .ok (.iload 6, 2) := by decide +kernel
theorem dX12_shadiest_55 : decode mX12_shadiest.2.2.1 55 = .ok (.aload_n 0, 1) := by decide +kernel
theorem dX12_shadiest_56 : decode mX12_shadiest.2.2.1 56 = .ok (.iload 7, 2) := by decide +kernel
theorem dX12_shadiest_58 : decode mX12_shadiest.2.2.1 58 = .ok (.iload_n 1, 1) := by decide +kernel
theorem dX12_shadiest_59 : decode mX12_shadiest.2.2.1 59 = .ok (.aload_n 0, 1) := by decide +kernel
theorem dX12_shadiest_60 : decode mX12_shadiest.2.2.1 60 = .ok (.getfield 9, 3) := by decide +kernel
theorem dX12_shadiest_63 : decode mX12_shadiest.2.2.1 63 = .ok (.bipush 30, 2) := by decide +kernel
theorem dX12_shadiest_65 : decode mX12_shadiest.2.2.1 65 = .ok (.iload 5, 2) := by decide +kernel
theorem dX12_shadiest_67 : decode mX12_shadiest.2.2.1 67 = .ok (.iadd, 1) := by decide +kernel
theorem dX12_shadiest_68 : decode mX12_shadiest.2.2.1 68 = .ok (.iaload, 1) := by decide +kernel
theorem dX12_shadiest_69 : decode mX12_shadiest.2.2.1 69 = .ok (.invokevirtual 221, 3) := by decide +kernel
theorem dX12_shadiest_72 : decode mX12_shadiest.2.2.1 72 = .ok (.ifCond .eq 7, 3) := by decide +kernel
theorem dX12_shadiest_75 : decode mX12_shadiest.2.2.1 75 = .ok (.iconst 1, 1) := by decide +kernel
theorem dX12_shadiest_76 : decode mX12_shadiest.2.2.1 76 = .ok (.goto 4, 3) := by decide +kernel
theorem dX12_shadiest_79 : decode mX12_shadiest.2.2.1 79 = .ok (.iconst 0, 1) := by decide +kernel
theorem dX12_shadiest_80 : decode mX12_shadiest.2.2.1 80 = .ok (.iadd, 1) := by decide +kernel
theorem dX12_shadiest_81 : decode mX12_shadiest.2.2.1 81 = .ok (.istore 6, 2) := by decide +kernel
theorem dX12_shadiest_83 : decode mX12_shadiest.2.2.1 83 = .ok (.iinc 7 1, 3) := by decide +kernel
theorem dX12_shadiest_86 : decode mX12_shadiest.2.2.1 86 = .ok (.goto (-42), 3) := by decide +kernel
theorem dX12_shadiest_89 : decode mX12_shadiest.2.2.1 89 = .ok (.iload 6, 2) := by decide +kernel
theorem dX12_shadiest_91 : decode mX12_shadiest.2.2.1 91 = .ok (.iload 4, 2) := by decide +kernel
theorem dX12_shadiest_93 : decode mX12_shadiest.2.2.1 93 = .ok (.if_icmp .le 8, 3) := by decide +kernel
theorem dX12_shadiest_96 : decode mX12_shadiest.2.2.1 96 = .ok (.iload 5, 2) := by decide +kernel
theorem dX12_shadiest_98 : decode mX12_shadiest.2.2.1 98 = .ok (.goto 4, 3) := by decide +kernel
theorem dX12_shadiest_101 : decode mX12_shadiest.2.2.1 101 = .ok (.iload_n 3, 1) := by decide +kernel
theorem dX12_shadiest_102 : decode mX12_shadiest.2.2.1 102 = .ok (.istore_n 3, 1) := by decide +kernel
theorem dX12_shadiest_103 : decode mX12_shadiest.2.2.1 103 = .ok (.iload 6, 2) := by decide +kernel
theorem dX12_shadiest_105 : decode mX12_shadiest.2.2.1 105 = .ok (.iload 4, 2) := by decide +kernel
theorem dX12_shadiest_107 : decode mX12_shadiest.2.2.1 107 = .ok (.if_icmp .le 8, 3) := by decide +kernel
theorem dX12_shadiest_110 : decode mX12_shadiest.2.2.1 110 = .ok (.iload 6, 2) := by decide +kernel
theorem dX12_shadiest_112 : decode mX12_shadiest.2.2.1 112 = .ok (.goto 5, 3) := by decide +kernel
theorem dX12_shadiest_115 : decode mX12_shadiest.2.2.1 115 = .ok (.iload 4, 2) := by decide +kernel
theorem dX12_shadiest_117 : decode mX12_shadiest.2.2.1 117 = .ok (.istore 4, 2) := by decide +kernel
theorem dX12_shadiest_119 : decode mX12_shadiest.2.2.1 119 = .ok (.iinc 5 1, 3) := by decide +kernel
theorem dX12_shadiest_122 : decode mX12_shadiest.2.2.1 122 = .ok (.goto (-93), 3) := by decide +kernel
theorem dX12_shadiest_125 : decode mX12_shadiest.2.2.1 125 = .ok (.iload_n 2, 1) := by decide +kernel
theorem dX12_shadiest_126 : decode mX12_shadiest.2.2.1 126 = .ok (.ifCond .ne 7, 3) := by decide +kernel
theorem dX12_shadiest_129 : decode mX12_shadiest.2.2.1 129 = .ok (.iload_n 3, 1) := by decide +kernel
theorem dX12_shadiest_130 : decode mX12_shadiest.2.2.1 130 = .ok (.goto 5, 3) := by decide +kernel
theorem dX12_shadiest_133 : decode mX12_shadiest.2.2.1 133 = .ok (.iload 4, 2) := by decide +kernel
theorem dX12_shadiest_135 : decode mX12_shadiest.2.2.1 135 = .ok (.ireturn, 1) := by decide +kernel
set_option maxHeartbeats 100000 in
theorem kX12_shadiest_0 {d : Nat} {F : am_FT} {L : am_LT} {Q : am_QT} {l0 l2 l3 l4 l5 l6 l7 : Option Value} {x1 : Int32} : wt am_S0 (d + 1) mX12_shadiest 0 [l0, some (.int x1), l2, l3, l4, l5, l6, l7] [] F L Q = wc am_S0 d mX12_isMonth [.long (Int32.toInt64 x1)] F L (fun r G K => wt am_S0 (d + 1) mX12_shadiest 5 [l0, some (.int x1), l2, l3, l4, l5, l6, l7] (r.toList ++ []) G K Q) := (wt_iload_n dX12_shadiest_0 rfl).trans ((wt_i2l dX12_shadiest_1).trans (wt_callS dX12_shadiest_2 rfl (as := [.long (Int32.toInt64 x1)]) (rest := []) rfl rfl (Nat.le_of_ble_eq_true rfl) (Nat.le_of_ble_eq_true rfl)))
set_option maxHeartbeats 100000 in
theorem kX12_shadiest_5 {d : Nat} {F : am_FT} {L : am_LT} {Q : am_QT} {l0 l1 l2 l3 l4 l5 l6 l7 : Option Value} {s0 : Int32} : wt am_S0 d mX12_shadiest 5 [l0, l1, l2, l3, l4, l5, l6, l7] [.int s0] F L Q = if s0 = 0 then wt am_S0 d mX12_shadiest 18 [l0, l1, l2, l3, l4, l5, l6, l7] [] F L Q else wt am_S0 d mX12_shadiest 8 [l0, l1, l2, l3, l4, l5, l6, l7] [] F L Q := wt_ifCond_eq dX12_shadiest_5 (t := 18) rfl
set_option maxHeartbeats 100000 in
theorem kX12_shadiest_8 {d : Nat} {F : am_FT} {L : am_LT} {Q : am_QT} {l0 l1 l3 l4 l5 l6 l7 : Option Value} {x2 : Int32} : wt am_S0 (d + 1) mX12_shadiest 8 [l0, l1, some (.int x2), l3, l4, l5, l6, l7] [] F L Q = wc am_S0 d mX12_within [.long (Int32.toInt64 x2), .long 0, .long 1] F L (fun r G K => wt am_S0 (d + 1) mX12_shadiest 15 [l0, l1, some (.int x2), l3, l4, l5, l6, l7] (r.toList ++ []) G K Q) := (wt_iload_n dX12_shadiest_8 rfl).trans ((wt_i2l dX12_shadiest_9).trans ((wt_lconst dX12_shadiest_10 (v := 0) (by decide)).trans ((wt_lconst dX12_shadiest_11 (v := 1) (by decide)).trans (wt_callS dX12_shadiest_12 rfl (as := [.long (Int32.toInt64 x2), .long 0, .long 1]) (rest := []) rfl rfl (Nat.le_of_ble_eq_true rfl) (Nat.le_of_ble_eq_true rfl)))))
set_option maxHeartbeats 100000 in
theorem kX12_shadiest_15 {d : Nat} {F : am_FT} {L : am_LT} {Q : am_QT} {l0 l1 l2 l3 l4 l5 l6 l7 : Option Value} {s0 : Int32} : wt am_S0 d mX12_shadiest 15 [l0, l1, l2, l3, l4, l5, l6, l7] [.int s0] F L Q = if ¬ s0 = 0 then wt am_S0 d mX12_shadiest 20 [l0, l1, l2, l3, l4, l5, l6, l7] [] F L Q else wt am_S0 d mX12_shadiest 18 [l0, l1, l2, l3, l4, l5, l6, l7] [] F L Q := wt_ifCond_ne dX12_shadiest_15 (t := 20) rfl
set_option maxHeartbeats 100000 in
theorem kX12_shadiest_18 {d : Nat} {F : am_FT} {L : am_LT} {Q : am_QT} {l0 l1 l2 l3 l4 l5 l6 l7 : Option Value} : wt am_S0 d mX12_shadiest 18 [l0, l1, l2, l3, l4, l5, l6, l7] [] F L Q = Q (some (.int (-1))) F L := (wt_iconst dX12_shadiest_18 (v := (-1)) (by decide)).trans (wt_ireturn dX12_shadiest_19 rfl rfl)
set_option maxHeartbeats 100000 in
theorem kX12_shadiest_20 {d : Nat} {F : am_FT} {L : am_LT} {Q : am_QT} {l0 l1 l3 l4 l5 l6 l7 : Option Value} {x2 : Int32} : wt am_S0 d mX12_shadiest 20 [l0, l1, some (.int x2), l3, l4, l5, l6, l7] [] F L Q = wt am_S0 d mX12_shadiest 29 [l0, l1, some (.int x2), some (.int (-2)), some (.int 0), some (.int 0), l6, l7] [] F L Q := (wt_bipush dX12_shadiest_20 (v := (-2)) (by decide)).trans ((wt_istore_n dX12_shadiest_22 (lv1 := [l0, l1, some (.int x2), some (.int (-2)), l4, l5, l6, l7]) (Nat.le_of_ble_eq_true rfl) rfl).trans ((wt_iconst dX12_shadiest_23 (v := 0) (by decide)).trans ((wt_istore dX12_shadiest_24 (lv1 := [l0, l1, some (.int x2), some (.int (-2)), some (.int 0), l5, l6, l7]) (Nat.le_of_ble_eq_true rfl) rfl).trans ((wt_iconst dX12_shadiest_26 (v := 0) (by decide)).trans (wt_istore dX12_shadiest_27 (lv1 := [l0, l1, some (.int x2), some (.int (-2)), some (.int 0), some (.int 0), l6, l7]) (Nat.le_of_ble_eq_true rfl) rfl)))))
set_option maxHeartbeats 100000 in
theorem kX12_shadiest_29 {d : Nat} {F : am_FT} {L : am_LT} {Q : am_QT} {l1 l2 l3 l4 l6 l7 : Option Value} {x5 : Int32} : wt am_S0 d mX12_shadiest 29 [some (.ref 45), l1, l2, l3, l4, some (.int x5), l6, l7] [] F L Q = if (F 45 7) ≤ x5 then wt am_S0 d mX12_shadiest 125 [some (.ref 45), l1, l2, l3, l4, some (.int x5), l6, l7] [] F L Q else wt am_S0 d mX12_shadiest 38 [some (.ref 45), l1, l2, l3, l4, some (.int x5), l6, l7] [] F L Q := (wt_iload dX12_shadiest_29 rfl).trans ((wt_aload_n dX12_shadiest_31 rfl rfl).trans ((wt_getfield dX12_shadiest_32 rfl rfl (v := .int (F 45 7)) rfl).trans (wt_if_icmp_ge dX12_shadiest_35 (t := 125) rfl)))
set_option maxHeartbeats 100000 in
theorem kX12_shadiest_38 {d : Nat} {F : am_FT} {L : am_LT} {Q : am_QT} {l0 l1 l2 l3 l4 l6 l7 : Option Value} {x5 : Int32} : wt am_S0 d mX12_shadiest 38 [l0, l1, l2, l3, l4, some (.int x5), l6, l7] [] F L Q = wt am_S0 d mX12_shadiest 44 [l0, l1, l2, l3, l4, some (.int x5), some (.int 0), some (.int 0)] [] F L Q := (wt_iconst dX12_shadiest_38 (v := 0) (by decide)).trans ((wt_istore dX12_shadiest_39 (lv1 := [l0, l1, l2, l3, l4, some (.int x5), some (.int 0), l7]) (Nat.le_of_ble_eq_true rfl) rfl).trans ((wt_iconst dX12_shadiest_41 (v := 0) (by decide)).trans (wt_istore dX12_shadiest_42 (lv1 := [l0, l1, l2, l3, l4, some (.int x5), some (.int 0), some (.int 0)]) (Nat.le_of_ble_eq_true rfl) rfl)))
set_option maxHeartbeats 100000 in
theorem kX12_shadiest_44 {d : Nat} {F : am_FT} {L : am_LT} {Q : am_QT} {l1 l2 l3 l4 l5 l6 : Option Value} {x7 : Int32} : wt am_S0 d mX12_shadiest 44 [some (.ref 45), l1, l2, l3, l4, l5, l6, some (.int x7)] [] F L Q = if (F 45 6) ≤ x7 then wt am_S0 d mX12_shadiest 89 [some (.ref 45), l1, l2, l3, l4, l5, l6, some (.int x7)] [] F L Q else wt am_S0 d mX12_shadiest 53 [some (.ref 45), l1, l2, l3, l4, l5, l6, some (.int x7)] [] F L Q := (wt_iload dX12_shadiest_44 rfl).trans ((wt_aload_n dX12_shadiest_46 rfl rfl).trans ((wt_getfield dX12_shadiest_47 rfl rfl (v := .int (F 45 6)) rfl).trans (wt_if_icmp_ge dX12_shadiest_50 (t := 89) rfl)))
set_option maxHeartbeats 100000 in
theorem kX12_shadiest_53 {d : Nat} {F : am_FT} {L : am_LT} {Q : am_QT} {l2 l3 l4 : Option Value} {x6 x7 x1 x5 : Int32} (h1 : am_oob (30 + x5) 60 = false) : wt am_S0 (d + 1) mX12_shadiest 53 [some (.ref 45), some (.int x1), l2, l3, l4, some (.int x5), some (.int x6), some (.int x7)] [] F L Q = wc am_S0 d mX12_isShadedNow [.ref 45, .int x7, .int x1, .int (F 46 (Int32.toNatClampNeg (30 + x5)))] F L (fun r G K => wt am_S0 (d + 1) mX12_shadiest 72 [some (.ref 45), some (.int x1), l2, l3, l4, some (.int x5), some (.int x6), some (.int x7)] (r.toList ++ [.int x6]) G K Q) := (wt_iload dX12_shadiest_53 rfl).trans ((wt_aload_n dX12_shadiest_55 rfl rfl).trans ((wt_iload dX12_shadiest_56 rfl).trans ((wt_iload_n dX12_shadiest_58 rfl).trans ((wt_aload_n dX12_shadiest_59 rfl rfl).trans ((wt_getfield dX12_shadiest_60 rfl rfl (v := .ref 46) rfl).trans ((wt_bipush dX12_shadiest_63 (v := 30) (by decide)).trans ((wt_iload dX12_shadiest_65 rfl).trans ((wt_iadd dX12_shadiest_67).trans ((wt_iaload dX12_shadiest_68 rfl (by decide) h1).trans (wt_callV dX12_shadiest_69 rfl (as := [.int x7, .int x1, .int (F 46 (Int32.toNatClampNeg (30 + x5)))]) (rest := [.int x6]) rfl rfl (Nat.le_of_ble_eq_true rfl) rfl (Nat.le_of_ble_eq_true rfl)))))))))))
set_option maxHeartbeats 100000 in
theorem kX12_shadiest_72 {d : Nat} {F : am_FT} {L : am_LT} {Q : am_QT} {l0 l1 l2 l3 l4 l5 l6 l7 : Option Value} {s0 s1 : Int32} : wt am_S0 d mX12_shadiest 72 [l0, l1, l2, l3, l4, l5, l6, l7] [.int s1, .int s0] F L Q = if s1 = 0 then wt am_S0 d mX12_shadiest 79 [l0, l1, l2, l3, l4, l5, l6, l7] [.int s0] F L Q else wt am_S0 d mX12_shadiest 75 [l0, l1, l2, l3, l4, l5, l6, l7] [.int s0] F L Q := wt_ifCond_eq dX12_shadiest_72 (t := 79) rfl
set_option maxHeartbeats 100000 in
theorem kX12_shadiest_75 {d : Nat} {F : am_FT} {L : am_LT} {Q : am_QT} {l0 l1 l2 l3 l4 l5 l6 l7 : Option Value} {s0 : Int32} : wt am_S0 d mX12_shadiest 75 [l0, l1, l2, l3, l4, l5, l6, l7] [.int s0] F L Q = wt am_S0 d mX12_shadiest 80 [l0, l1, l2, l3, l4, l5, l6, l7] [.int 1, .int s0] F L Q := (wt_iconst dX12_shadiest_75 (v := 1) (by decide)).trans (wt_goto dX12_shadiest_76 (t := 80) rfl)
set_option maxHeartbeats 100000 in
theorem kX12_shadiest_79 {d : Nat} {F : am_FT} {L : am_LT} {Q : am_QT} {l0 l1 l2 l3 l4 l5 l6 l7 : Option Value} {s0 : Int32} : wt am_S0 d mX12_shadiest 79 [l0, l1, l2, l3, l4, l5, l6, l7] [.int s0] F L Q = wt am_S0 d mX12_shadiest 80 [l0, l1, l2, l3, l4, l5, l6, l7] [.int 0, .int s0] F L Q := wt_iconst dX12_shadiest_79 (v := 0) (by decide)
set_option maxHeartbeats 100000 in
theorem kX12_shadiest_80 {d : Nat} {F : am_FT} {L : am_LT} {Q : am_QT} {l0 l1 l2 l3 l4 l6 : Option Value} {s0 s1 x5 x7 : Int32} : wt am_S0 d mX12_shadiest 80 [l0, l1, l2, l3, l4, some (.int x5), l6, some (.int x7)] [.int s1, .int s0] F L Q = wt am_S0 d mX12_shadiest 44 [l0, l1, l2, l3, l4, some (.int x5), some (.int (s0 + s1)), some (.int (x7 + 1))] [] F L Q := (wt_iadd dX12_shadiest_80).trans ((wt_istore dX12_shadiest_81 (lv1 := [l0, l1, l2, l3, l4, some (.int x5), some (.int (s0 + s1)), some (.int x7)]) (Nat.le_of_ble_eq_true rfl) rfl).trans ((wt_iinc dX12_shadiest_83 (v := 1) (lv1 := [l0, l1, l2, l3, l4, some (.int x5), some (.int (s0 + s1)), some (.int (x7 + 1))]) rfl (Nat.le_of_ble_eq_true rfl) (by decide) rfl).trans (wt_goto dX12_shadiest_86 (t := 44) rfl)))
set_option maxHeartbeats 100000 in
theorem kX12_shadiest_89 {d : Nat} {F : am_FT} {L : am_LT} {Q : am_QT} {l0 l1 l2 l3 l5 l7 : Option Value} {x6 x4 : Int32} : wt am_S0 d mX12_shadiest 89 [l0, l1, l2, l3, some (.int x4), l5, some (.int x6), l7] [] F L Q = if x6 ≤ x4 then wt am_S0 d mX12_shadiest 101 [l0, l1, l2, l3, some (.int x4), l5, some (.int x6), l7] [] F L Q else wt am_S0 d mX12_shadiest 96 [l0, l1, l2, l3, some (.int x4), l5, some (.int x6), l7] [] F L Q := (wt_iload dX12_shadiest_89 rfl).trans ((wt_iload dX12_shadiest_91 rfl).trans (wt_if_icmp_le dX12_shadiest_93 (t := 101) rfl))
set_option maxHeartbeats 100000 in
theorem kX12_shadiest_96 {d : Nat} {F : am_FT} {L : am_LT} {Q : am_QT} {l0 l1 l2 l3 l4 l6 l7 : Option Value} {x5 : Int32} : wt am_S0 d mX12_shadiest 96 [l0, l1, l2, l3, l4, some (.int x5), l6, l7] [] F L Q = wt am_S0 d mX12_shadiest 102 [l0, l1, l2, l3, l4, some (.int x5), l6, l7] [.int x5] F L Q := (wt_iload dX12_shadiest_96 rfl).trans (wt_goto dX12_shadiest_98 (t := 102) rfl)
set_option maxHeartbeats 100000 in
theorem kX12_shadiest_101 {d : Nat} {F : am_FT} {L : am_LT} {Q : am_QT} {l0 l1 l2 l4 l5 l6 l7 : Option Value} {x3 : Int32} : wt am_S0 d mX12_shadiest 101 [l0, l1, l2, some (.int x3), l4, l5, l6, l7] [] F L Q = wt am_S0 d mX12_shadiest 102 [l0, l1, l2, some (.int x3), l4, l5, l6, l7] [.int x3] F L Q := wt_iload_n dX12_shadiest_101 rfl
set_option maxHeartbeats 100000 in
theorem kX12_shadiest_102 {d : Nat} {F : am_FT} {L : am_LT} {Q : am_QT} {l0 l1 l3 l5 l7 : Option Value} {s0 x2 x6 x4 : Int32} : wt am_S0 d mX12_shadiest 102 [l0, l1, some (.int x2), l3, some (.int x4), l5, some (.int x6), l7] [.int s0] F L Q = if x6 ≤ x4 then wt am_S0 d mX12_shadiest 115 [l0, l1, some (.int x2), some (.int s0), some (.int x4), l5, some (.int x6), l7] [] F L Q else wt am_S0 d mX12_shadiest 110 [l0, l1, some (.int x2), some (.int s0), some (.int x4), l5, some (.int x6), l7] [] F L Q := (wt_istore_n dX12_shadiest_102 (lv1 := [l0, l1, some (.int x2), some (.int s0), some (.int x4), l5, some (.int x6), l7]) (Nat.le_of_ble_eq_true rfl) rfl).trans ((wt_iload dX12_shadiest_103 rfl).trans ((wt_iload dX12_shadiest_105 rfl).trans (wt_if_icmp_le dX12_shadiest_107 (t := 115) rfl)))
set_option maxHeartbeats 100000 in
theorem kX12_shadiest_110 {d : Nat} {F : am_FT} {L : am_LT} {Q : am_QT} {l0 l1 l2 l3 l4 l5 l7 : Option Value} {x6 : Int32} : wt am_S0 d mX12_shadiest 110 [l0, l1, l2, l3, l4, l5, some (.int x6), l7] [] F L Q = wt am_S0 d mX12_shadiest 117 [l0, l1, l2, l3, l4, l5, some (.int x6), l7] [.int x6] F L Q := (wt_iload dX12_shadiest_110 rfl).trans (wt_goto dX12_shadiest_112 (t := 117) rfl)
set_option maxHeartbeats 100000 in
theorem kX12_shadiest_115 {d : Nat} {F : am_FT} {L : am_LT} {Q : am_QT} {l0 l1 l2 l3 l5 l6 l7 : Option Value} {x4 : Int32} : wt am_S0 d mX12_shadiest 115 [l0, l1, l2, l3, some (.int x4), l5, l6, l7] [] F L Q = wt am_S0 d mX12_shadiest 117 [l0, l1, l2, l3, some (.int x4), l5, l6, l7] [.int x4] F L Q := wt_iload dX12_shadiest_115 rfl
set_option maxHeartbeats 100000 in
theorem kX12_shadiest_117 {d : Nat} {F : am_FT} {L : am_LT} {Q : am_QT} {l0 l1 l2 l4 l6 l7 : Option Value} {s0 x3 x5 : Int32} : wt am_S0 d mX12_shadiest 117 [l0, l1, l2, some (.int x3), l4, some (.int x5), l6, l7] [.int s0] F L Q = wt am_S0 d mX12_shadiest 29 [l0, l1, l2, some (.int x3), some (.int s0), some (.int (x5 + 1)), l6, l7] [] F L Q := (wt_istore dX12_shadiest_117 (lv1 := [l0, l1, l2, some (.int x3), some (.int s0), some (.int x5), l6, l7]) (Nat.le_of_ble_eq_true rfl) rfl).trans ((wt_iinc dX12_shadiest_119 (v := 1) (lv1 := [l0, l1, l2, some (.int x3), some (.int s0), some (.int (x5 + 1)), l6, l7]) rfl (Nat.le_of_ble_eq_true rfl) (by decide) rfl).trans (wt_goto dX12_shadiest_122 (t := 29) rfl))
set_option maxHeartbeats 100000 in
theorem kX12_shadiest_125 {d : Nat} {F : am_FT} {L : am_LT} {Q : am_QT} {l0 l1 l3 l4 l5 l6 l7 : Option Value} {x2 : Int32} : wt am_S0 d mX12_shadiest 125 [l0, l1, some (.int x2), l3, l4, l5, l6, l7] [] F L Q = if ¬ x2 = 0 then wt am_S0 d mX12_shadiest 133 [l0, l1, some (.int x2), l3, l4, l5, l6, l7] [] F L Q else wt am_S0 d mX12_shadiest 129 [l0, l1, some (.int x2), l3, l4, l5, l6, l7] [] F L Q := (wt_iload_n dX12_shadiest_125 rfl).trans (wt_ifCond_ne dX12_shadiest_126 (t := 133) rfl)
set_option maxHeartbeats 100000 in
theorem kX12_shadiest_129 {d : Nat} {F : am_FT} {L : am_LT} {Q : am_QT} {l0 l1 l2 l4 l5 l6 l7 : Option Value} {x3 : Int32} : wt am_S0 d mX12_shadiest 129 [l0, l1, l2, some (.int x3), l4, l5, l6, l7] [] F L Q = wt am_S0 d mX12_shadiest 135 [l0, l1, l2, some (.int x3), l4, l5, l6, l7] [.int x3] F L Q := (wt_iload_n dX12_shadiest_129 rfl).trans (wt_goto dX12_shadiest_130 (t := 135) rfl)
set_option maxHeartbeats 100000 in
theorem kX12_shadiest_133 {d : Nat} {F : am_FT} {L : am_LT} {Q : am_QT} {l0 l1 l2 l3 l5 l6 l7 : Option Value} {x4 : Int32} : wt am_S0 d mX12_shadiest 133 [l0, l1, l2, l3, some (.int x4), l5, l6, l7] [] F L Q = wt am_S0 d mX12_shadiest 135 [l0, l1, l2, l3, some (.int x4), l5, l6, l7] [.int x4] F L Q := wt_iload dX12_shadiest_133 rfl
set_option maxHeartbeats 100000 in
theorem kX12_shadiest_135 {d : Nat} {F : am_FT} {L : am_LT} {Q : am_QT} {l0 l1 l2 l3 l4 l5 l6 l7 : Option Value} {s0 : Int32} : wt am_S0 d mX12_shadiest 135 [l0, l1, l2, l3, l4, l5, l6, l7] [.int s0] F L Q = Q (some (.int s0)) F L := wt_ireturn dX12_shadiest_135 rfl rfl
theorem dX12_judge_0 : decode mX12_judge.2.2.1 0 = .ok (.aload_n 0, 1) := by decide +kernel
theorem dX12_judge_1 : decode mX12_judge.2.2.1 1 = .ok (.iload_n 1, 1) := by decide +kernel
theorem dX12_judge_2 : decode mX12_judge.2.2.1 2 = .ok (.invokevirtual 248, 3) := by decide +kernel
theorem dX12_judge_5 : decode mX12_judge.2.2.1 5 = .ok (.iconst (-1), 1) := by decide +kernel
theorem dX12_judge_6 : decode mX12_judge.2.2.1 6 = .ok (.if_icmp .eq 12, 3) := by decide +kernel
theorem dX12_judge_9 : decode mX12_judge.2.2.1 9 = .ok (.aload_n 0, 1) := by decide +kernel
theorem dX12_judge_10 : decode mX12_judge.2.2.1 10 = .ok (.iload_n 2, 1) := by decide +kernel
theorem dX12_judge_11 : decode mX12_judge.2.2.1 11 = .ok (.i2l, 1) := by decide +kernel
theorem dX12_judge_12 : decode mX12_judge.2.2.1 12 = .ok (.invokevirtual 86, 3) := by decide +kernel
theorem dX12_judge_15 : decode mX12_judge.2.2.1 15 = .ok (.ifCond .ne 7, 3) := by decide +kernel
theorem dX12_judge_18 : decode mX12_judge.2.2.1 18 = .ok (.iconst (-1), 1) := by decide +kernel
theorem dX12_judge_19 : decode mX12_judge.2.2.1 19 = .ok (.goto 30, 3) := by decide +kernel
theorem dX12_judge_22 : decode mX12_judge.2.2.1 22 = .ok (.aload_n 0, 1) := by decide +kernel
theorem dX12_judge_23 : decode mX12_judge.2.2.1 23 = .ok (.iload_n 1, 1) := by decide +kernel
theorem dX12_judge_24 : decode mX12_judge.2.2.1 24 = .ok (.invokevirtual 248, 3) := by decide +kernel
theorem dX12_judge_27 : decode mX12_judge.2.2.1 27 = .ok (.ifCond .ge 11, 3) := by decide +kernel
theorem dX12_judge_30 : decode mX12_judge.2.2.1 30 = .ok (.aload_n 0, 1) := by decide +kernel
theorem dX12_judge_31 : decode mX12_judge.2.2.1 31 = .ok (.iload_n 1, 1) := by decide +kernel
theorem dX12_judge_32 : decode mX12_judge.2.2.1 32 = .ok (.invokevirtual 248, 3) := by decide +kernel
theorem dX12_judge_35 : decode mX12_judge.2.2.1 35 = .ok (.goto 14, 3) := by decide +kernel
theorem dX12_judge_38 : decode mX12_judge.2.2.1 38 = .ok (.aload_n 0, 1) := by decide +kernel
theorem dX12_judge_39 : decode mX12_judge.2.2.1 39 = .ok (.iload_n 1, 1) := by decide +kernel
theorem dX12_judge_40 : decode mX12_judge.2.2.1 40 = .ok (.iload_n 2, 1) := by decide +kernel
theorem dX12_judge_41 : decode mX12_judge.2.2.1 41 = .ok (.aload_n 0, 1) := by decide +kernel
theorem dX12_judge_42 : decode mX12_judge.2.2.1 42 = .ok (.iload_n 2, 1) := by decide +kernel
theorem dX12_judge_43 : decode mX12_judge.2.2.1 43 = .ok (.invokevirtual 205, 3) := by decide +kernel
theorem dX12_judge_46 : decode mX12_judge.2.2.1 46 = .ok (.invokevirtual 251, 3) := by decide +kernel
theorem dX12_judge_49 : decode mX12_judge.2.2.1 49 = .ok (.ireturn, 1) := by decide +kernel
set_option maxHeartbeats 100000 in
theorem kX12_judge_0 {d : Nat} {F : am_FT} {L : am_LT} {Q : am_QT} {l2 : Option Value} {x1 : Int32} : wt am_S0 (d + 1) mX12_judge 0 [some (.ref 45), some (.int x1), l2] [] F L Q = wc am_S0 d mX12_bytesIs [.ref 45, .int x1] F L (fun r G K => wt am_S0 (d + 1) mX12_judge 5 [some (.ref 45), some (.int x1), l2] (r.toList ++ []) G K Q) := (wt_aload_n dX12_judge_0 rfl rfl).trans ((wt_iload_n dX12_judge_1 rfl).trans (wt_callV dX12_judge_2 rfl (as := [.int x1]) (rest := []) rfl rfl (Nat.le_of_ble_eq_true rfl) rfl (Nat.le_of_ble_eq_true rfl)))
set_option maxHeartbeats 100000 in
theorem kX12_judge_5 {d : Nat} {F : am_FT} {L : am_LT} {Q : am_QT} {l0 l1 l2 : Option Value} {s0 : Int32} : wt am_S0 d mX12_judge 5 [l0, l1, l2] [.int s0] F L Q = if s0 = (-1) then wt am_S0 d mX12_judge 18 [l0, l1, l2] [] F L Q else wt am_S0 d mX12_judge 9 [l0, l1, l2] [] F L Q := (wt_iconst dX12_judge_5 (v := (-1)) (by decide)).trans (wt_if_icmp_eq dX12_judge_6 (t := 18) rfl)
set_option maxHeartbeats 100000 in
theorem kX12_judge_9 {d : Nat} {F : am_FT} {L : am_LT} {Q : am_QT} {l1 : Option Value} {x2 : Int32} : wt am_S0 (d + 1) mX12_judge 9 [some (.ref 45), l1, some (.int x2)] [] F L Q = wc am_S0 d mX12_isTree [.ref 45, .long (Int32.toInt64 x2)] F L (fun r G K => wt am_S0 (d + 1) mX12_judge 15 [some (.ref 45), l1, some (.int x2)] (r.toList ++ []) G K Q) := (wt_aload_n dX12_judge_9 rfl rfl).trans ((wt_iload_n dX12_judge_10 rfl).trans ((wt_i2l dX12_judge_11).trans (wt_callV dX12_judge_12 rfl (as := [.long (Int32.toInt64 x2)]) (rest := []) rfl rfl (Nat.le_of_ble_eq_true rfl) rfl (Nat.le_of_ble_eq_true rfl))))
set_option maxHeartbeats 100000 in
theorem kX12_judge_15 {d : Nat} {F : am_FT} {L : am_LT} {Q : am_QT} {l0 l1 l2 : Option Value} {s0 : Int32} : wt am_S0 d mX12_judge 15 [l0, l1, l2] [.int s0] F L Q = if ¬ s0 = 0 then wt am_S0 d mX12_judge 22 [l0, l1, l2] [] F L Q else wt am_S0 d mX12_judge 18 [l0, l1, l2] [] F L Q := wt_ifCond_ne dX12_judge_15 (t := 22) rfl
set_option maxHeartbeats 100000 in
theorem kX12_judge_18 {d : Nat} {F : am_FT} {L : am_LT} {Q : am_QT} {l0 l1 l2 : Option Value} : wt am_S0 d mX12_judge 18 [l0, l1, l2] [] F L Q = wt am_S0 d mX12_judge 49 [l0, l1, l2] [.int (-1)] F L Q := (wt_iconst dX12_judge_18 (v := (-1)) (by decide)).trans (wt_goto dX12_judge_19 (t := 49) rfl)
set_option maxHeartbeats 100000 in
theorem kX12_judge_22 {d : Nat} {F : am_FT} {L : am_LT} {Q : am_QT} {l2 : Option Value} {x1 : Int32} : wt am_S0 (d + 1) mX12_judge 22 [some (.ref 45), some (.int x1), l2] [] F L Q = wc am_S0 d mX12_bytesIs [.ref 45, .int x1] F L (fun r G K => wt am_S0 (d + 1) mX12_judge 27 [some (.ref 45), some (.int x1), l2] (r.toList ++ []) G K Q) := (wt_aload_n dX12_judge_22 rfl rfl).trans ((wt_iload_n dX12_judge_23 rfl).trans (wt_callV dX12_judge_24 rfl (as := [.int x1]) (rest := []) rfl rfl (Nat.le_of_ble_eq_true rfl) rfl (Nat.le_of_ble_eq_true rfl)))
set_option maxHeartbeats 100000 in
theorem kX12_judge_27 {d : Nat} {F : am_FT} {L : am_LT} {Q : am_QT} {l0 l1 l2 : Option Value} {s0 : Int32} : wt am_S0 d mX12_judge 27 [l0, l1, l2] [.int s0] F L Q = if 0 ≤ s0 then wt am_S0 d mX12_judge 38 [l0, l1, l2] [] F L Q else wt am_S0 d mX12_judge 30 [l0, l1, l2] [] F L Q := wt_ifCond_ge dX12_judge_27 (t := 38) rfl
set_option maxHeartbeats 100000 in
theorem kX12_judge_30 {d : Nat} {F : am_FT} {L : am_LT} {Q : am_QT} {l2 : Option Value} {x1 : Int32} : wt am_S0 (d + 1) mX12_judge 30 [some (.ref 45), some (.int x1), l2] [] F L Q = wc am_S0 d mX12_bytesIs [.ref 45, .int x1] F L (fun r G K => wt am_S0 (d + 1) mX12_judge 35 [some (.ref 45), some (.int x1), l2] (r.toList ++ []) G K Q) := (wt_aload_n dX12_judge_30 rfl rfl).trans ((wt_iload_n dX12_judge_31 rfl).trans (wt_callV dX12_judge_32 rfl (as := [.int x1]) (rest := []) rfl rfl (Nat.le_of_ble_eq_true rfl) rfl (Nat.le_of_ble_eq_true rfl)))
set_option maxHeartbeats 100000 in
theorem kX12_judge_35 {d : Nat} {F : am_FT} {L : am_LT} {Q : am_QT} {l0 l1 l2 : Option Value} {s0 : Int32} : wt am_S0 d mX12_judge 35 [l0, l1, l2] [.int s0] F L Q = wt am_S0 d mX12_judge 49 [l0, l1, l2] [.int s0] F L Q := wt_goto dX12_judge_35 (t := 49) rfl
set_option maxHeartbeats 100000 in
theorem kX12_judge_38 {d : Nat} {F : am_FT} {L : am_LT} {Q : am_QT} {x1 x2 : Int32} : wt am_S0 (d + 1) mX12_judge 38 [some (.ref 45), some (.int x1), some (.int x2)] [] F L Q = wc am_S0 d mX12_wishers [.ref 45, .int x2] F L (fun r G K => wt am_S0 (d + 1) mX12_judge 46 [some (.ref 45), some (.int x1), some (.int x2)] (r.toList ++ [.int x2, .int x1, .ref 45]) G K Q) := (wt_aload_n dX12_judge_38 rfl rfl).trans ((wt_iload_n dX12_judge_39 rfl).trans ((wt_iload_n dX12_judge_40 rfl).trans ((wt_aload_n dX12_judge_41 rfl rfl).trans ((wt_iload_n dX12_judge_42 rfl).trans (wt_callV dX12_judge_43 rfl (as := [.int x2]) (rest := [.int x2, .int x1, .ref 45]) rfl rfl (Nat.le_of_ble_eq_true rfl) rfl (Nat.le_of_ble_eq_true rfl))))))
set_option maxHeartbeats 100000 in
theorem kX12_judge_46 {d : Nat} {F : am_FT} {L : am_LT} {Q : am_QT} {l0 l1 l2 : Option Value} {s1 s2 s3 : Int32} : wt am_S0 (d + 1) mX12_judge 46 [l0, l1, l2] [.int s3, .int s2, .int s1, .ref 45] F L Q = wc am_S0 d mX12_firstFalse [.ref 45, .int s1, .int s2, .int s3] F L (fun r G K => wt am_S0 (d + 1) mX12_judge 49 [l0, l1, l2] (r.toList ++ []) G K Q) := wt_callV dX12_judge_46 rfl (as := [.int s1, .int s2, .int s3]) (rest := []) rfl rfl (Nat.le_of_ble_eq_true rfl) rfl (Nat.le_of_ble_eq_true rfl)
set_option maxHeartbeats 100000 in
theorem kX12_judge_49 {d : Nat} {F : am_FT} {L : am_LT} {Q : am_QT} {l0 l1 l2 : Option Value} {s0 : Int32} : wt am_S0 d mX12_judge 49 [l0, l1, l2] [.int s0] F L Q = Q (some (.int s0)) F L := wt_ireturn dX12_judge_49 rfl rfl
theorem dX12_bytesIs_0 : decode mX12_bytesIs.2.2.1 0 = .ok (.iload_n 1, 1) := by decide +kernel
theorem dX12_bytesIs_1 : decode mX12_bytesIs.2.2.1 1 = .ok (.invokestatic 107, 3) := by decide +kernel
theorem dX12_bytesIs_4 : decode mX12_bytesIs.2.2.1 4 = .ok (.ifCond .ne 7, 3) := by decide +kernel
theorem dX12_bytesIs_7 : decode mX12_bytesIs.2.2.1 7 = .ok (.iconst (-1), 1) := by decide +kernel
theorem dX12_bytesIs_8 : decode mX12_bytesIs.2.2.1 8 = .ok (.goto 34, 3) := by decide +kernel
theorem dX12_bytesIs_11 : decode mX12_bytesIs.2.2.1 11 = .ok (.aload_n 0, 1) := by decide +kernel
theorem dX12_bytesIs_12 : decode mX12_bytesIs.2.2.1 12 = .ok (.getfield 49, 3) := by decide +kernel
theorem dX12_bytesIs_15 : decode mX12_bytesIs.2.2.1 15 = .ok (.iload_n 1, 1) := by decide +kernel
theorem dX12_bytesIs_16 : decode mX12_bytesIs.2.2.1 16 = .ok (.iaload, 1) := by decide +kernel
theorem dX12_bytesIs_17 : decode mX12_bytesIs.2.2.1 17 = .ok (.ifCond .ge 8, 3) := by decide +kernel
theorem dX12_bytesIs_20 : decode mX12_bytesIs.2.2.1 20 = .ok (.bipush (-11), 2) := by decide +kernel
theorem dX12_bytesIs_22 : decode mX12_bytesIs.2.2.1 22 = .ok (.goto 20, 3) := by decide +kernel
theorem dX12_bytesIs_25 : decode mX12_bytesIs.2.2.1 25 = .ok (.aload_n 0, 1) := by decide +kernel
theorem dX12_bytesIs_26 : decode mX12_bytesIs.2.2.1 26 = .ok (.getfield 49, 3) := by decide +kernel
theorem dX12_bytesIs_29 : decode mX12_bytesIs.2.2.1 29 = .ok (.iload_n 1, 1) := by decide +kernel
theorem dX12_bytesIs_30 : decode mX12_bytesIs.2.2.1 30 = .ok (.iaload, 1) := by decide +kernel
theorem dX12_bytesIs_31 : decode mX12_bytesIs.2.2.1 31 = .ok (.bipush 50, 2) := by decide +kernel
theorem dX12_bytesIs_33 : decode mX12_bytesIs.2.2.1 33 = .ok (.if_icmp .ne 7, 3) := by decide +kernel
theorem dX12_bytesIs_36 : decode mX12_bytesIs.2.2.1 36 = .ok (.iconst 1, 1) := by decide +kernel
theorem dX12_bytesIs_37 : decode mX12_bytesIs.2.2.1 37 = .ok (.goto 5, 3) := by decide +kernel
theorem dX12_bytesIs_40 : decode mX12_bytesIs.2.2.1 40 = .ok (.bipush (-12), 2) := by decide +kernel
theorem dX12_bytesIs_42 : decode mX12_bytesIs.2.2.1 42 = .ok (.ireturn, 1) := by decide +kernel
set_option maxHeartbeats 100000 in
theorem kX12_bytesIs_0 {d : Nat} {F : am_FT} {L : am_LT} {Q : am_QT} {l0 : Option Value} {x1 : Int32} : wt am_S0 (d + 1) mX12_bytesIs 0 [l0, some (.int x1)] [] F L Q = wc am_S0 d mX12_isShelf [.int x1] F L (fun r G K => wt am_S0 (d + 1) mX12_bytesIs 4 [l0, some (.int x1)] (r.toList ++ []) G K Q) := (wt_iload_n dX12_bytesIs_0 rfl).trans (wt_callS dX12_bytesIs_1 rfl (as := [.int x1]) (rest := []) rfl rfl (Nat.le_of_ble_eq_true rfl) (Nat.le_of_ble_eq_true rfl))
set_option maxHeartbeats 100000 in
theorem kX12_bytesIs_4 {d : Nat} {F : am_FT} {L : am_LT} {Q : am_QT} {l0 l1 : Option Value} {s0 : Int32} : wt am_S0 d mX12_bytesIs 4 [l0, l1] [.int s0] F L Q = if ¬ s0 = 0 then wt am_S0 d mX12_bytesIs 11 [l0, l1] [] F L Q else wt am_S0 d mX12_bytesIs 7 [l0, l1] [] F L Q := wt_ifCond_ne dX12_bytesIs_4 (t := 11) rfl
set_option maxHeartbeats 100000 in
theorem kX12_bytesIs_7 {d : Nat} {F : am_FT} {L : am_LT} {Q : am_QT} {l0 l1 : Option Value} : wt am_S0 d mX12_bytesIs 7 [l0, l1] [] F L Q = wt am_S0 d mX12_bytesIs 42 [l0, l1] [.int (-1)] F L Q := (wt_iconst dX12_bytesIs_7 (v := (-1)) (by decide)).trans (wt_goto dX12_bytesIs_8 (t := 42) rfl)
set_option maxHeartbeats 100000 in
theorem kX12_bytesIs_11 {d : Nat} {F : am_FT} {L : am_LT} {Q : am_QT} {x1 : Int32} (h1 : am_oob x1 6 = false) : wt am_S0 d mX12_bytesIs 11 [some (.ref 45), some (.int x1)] [] F L Q = if 0 ≤ (F 59 (Int32.toNatClampNeg x1)) then wt am_S0 d mX12_bytesIs 25 [some (.ref 45), some (.int x1)] [] F L Q else wt am_S0 d mX12_bytesIs 20 [some (.ref 45), some (.int x1)] [] F L Q := (wt_aload_n dX12_bytesIs_11 rfl rfl).trans ((wt_getfield dX12_bytesIs_12 rfl rfl (v := .ref 59) rfl).trans ((wt_iload_n dX12_bytesIs_15 rfl).trans ((wt_iaload dX12_bytesIs_16 rfl (by decide) h1).trans (wt_ifCond_ge dX12_bytesIs_17 (t := 25) rfl))))
set_option maxHeartbeats 100000 in
theorem kX12_bytesIs_20 {d : Nat} {F : am_FT} {L : am_LT} {Q : am_QT} {l0 l1 : Option Value} : wt am_S0 d mX12_bytesIs 20 [l0, l1] [] F L Q = wt am_S0 d mX12_bytesIs 42 [l0, l1] [.int (-11)] F L Q := (wt_bipush dX12_bytesIs_20 (v := (-11)) (by decide)).trans (wt_goto dX12_bytesIs_22 (t := 42) rfl)
set_option maxHeartbeats 100000 in
theorem kX12_bytesIs_25 {d : Nat} {F : am_FT} {L : am_LT} {Q : am_QT} {x1 : Int32} (h1 : am_oob x1 6 = false) : wt am_S0 d mX12_bytesIs 25 [some (.ref 45), some (.int x1)] [] F L Q = if ¬ (F 59 (Int32.toNatClampNeg x1)) = 50 then wt am_S0 d mX12_bytesIs 40 [some (.ref 45), some (.int x1)] [] F L Q else wt am_S0 d mX12_bytesIs 36 [some (.ref 45), some (.int x1)] [] F L Q := (wt_aload_n dX12_bytesIs_25 rfl rfl).trans ((wt_getfield dX12_bytesIs_26 rfl rfl (v := .ref 59) rfl).trans ((wt_iload_n dX12_bytesIs_29 rfl).trans ((wt_iaload dX12_bytesIs_30 rfl (by decide) h1).trans ((wt_bipush dX12_bytesIs_31 (v := 50) (by decide)).trans (wt_if_icmp_ne dX12_bytesIs_33 (t := 40) rfl)))))
set_option maxHeartbeats 100000 in
theorem kX12_bytesIs_36 {d : Nat} {F : am_FT} {L : am_LT} {Q : am_QT} {l0 l1 : Option Value} : wt am_S0 d mX12_bytesIs 36 [l0, l1] [] F L Q = wt am_S0 d mX12_bytesIs 42 [l0, l1] [.int 1] F L Q := (wt_iconst dX12_bytesIs_36 (v := 1) (by decide)).trans (wt_goto dX12_bytesIs_37 (t := 42) rfl)
set_option maxHeartbeats 100000 in
theorem kX12_bytesIs_40 {d : Nat} {F : am_FT} {L : am_LT} {Q : am_QT} {l0 l1 : Option Value} : wt am_S0 d mX12_bytesIs 40 [l0, l1] [] F L Q = wt am_S0 d mX12_bytesIs 42 [l0, l1] [.int (-12)] F L Q := wt_bipush dX12_bytesIs_40 (v := (-12)) (by decide)
set_option maxHeartbeats 100000 in
theorem kX12_bytesIs_42 {d : Nat} {F : am_FT} {L : am_LT} {Q : am_QT} {l0 l1 : Option Value} {s0 : Int32} : wt am_S0 d mX12_bytesIs 42 [l0, l1] [.int s0] F L Q = Q (some (.int s0)) F L := wt_ireturn dX12_bytesIs_42 rfl rfl
theorem dX12_firstFalse_0 : decode mX12_firstFalse.2.2.1 0 = .ok (.iconst 0, 1) := by decide +kernel
theorem dX12_firstFalse_1 : decode mX12_firstFalse.2.2.1 1 = .ok (.istore 4, 2) := by decide +kernel
theorem dX12_firstFalse_3 : decode mX12_firstFalse.2.2.1 3 = .ok (.iconst 2, 1) := by decide +kernel
theorem dX12_firstFalse_4 : decode mX12_firstFalse.2.2.1 4 = .ok (.iload 4, 2) := by decide +kernel
theorem dX12_firstFalse_6 : decode mX12_firstFalse.2.2.1 6 = .ok (.imul, 1) := by decide +kernel
theorem dX12_firstFalse_7 : decode mX12_firstFalse.2.2.1 7 = .ok (.aload_n 0, 1) := by decide +kernel
theorem dX12_firstFalse_8 : decode mX12_firstFalse.2.2.1 8 = .ok (.getfield 52, 3) := by decide +kernel
theorem dX12_firstFalse_11 : decode mX12_firstFalse.2.2.1 11 = .ok (.iload_n 1, 1) := by decide +kernel
theorem dX12_firstFalse_12 : decode mX12_firstFalse.2.2.1 12 = .ok (.iaload, 1) := by decide +kernel
theorem dX12_firstFalse_13 : decode mX12_firstFalse.2.2.1 13 = .ok (.if_icmp .ge 118, 3) := by decide +kernel
theorem dX12_firstFalse_16 : decode mX12_firstFalse.2.2.1 16 = .ok (.bipush 60, 2) := by decide +kernel
theorem dX12_firstFalse_18 : decode mX12_firstFalse.2.2.1 18 = .ok (.iload_n 1, 1) := by decide +kernel
theorem dX12_firstFalse_19 : decode mX12_firstFalse.2.2.1 19 = .ok (.imul, 1) := by decide +kernel
theorem dX12_firstFalse_20 : decode mX12_firstFalse.2.2.1 20 = .ok (.iconst 2, 1) := by decide +kernel
theorem dX12_firstFalse_21 : decode mX12_firstFalse.2.2.1 21 = .ok (.iload 4, 2) := by decide +kernel
theorem dX12_firstFalse_23 : decode mX12_firstFalse.2.2.1 23 = .ok (.imul, 1) := by decide +kernel
theorem dX12_firstFalse_24 : decode mX12_firstFalse.2.2.1 24 = .ok (.iadd, 1) := by decide +kernel
theorem dX12_firstFalse_25 : decode mX12_firstFalse.2.2.1 25 = .ok (.istore 5, 2) := by decide +kernel
theorem dX12_firstFalse_27 : decode mX12_firstFalse.2.2.1 27 = .ok (.iconst 2, 1) := by decide +kernel
theorem dX12_firstFalse_28 : decode mX12_firstFalse.2.2.1 28 = .ok (.iload 4, 2) := by decide +kernel
theorem dX12_firstFalse_30 : decode mX12_firstFalse.2.2.1 30 = .ok (.imul, 1) := by decide +kernel
theorem dX12_firstFalse_31 : decode mX12_firstFalse.2.2.1 31 = .ok (.iconst 1, 1) := by decide +kernel
theorem dX12_firstFalse_32 : decode mX12_firstFalse.2.2.1 32 = .ok (.iadd, 1) := by decide +kernel
theorem dX12_firstFalse_33 : decode mX12_firstFalse.2.2.1 33 = .ok (.aload_n 0, 1) := by decide +kernel
theorem dX12_firstFalse_34 : decode mX12_firstFalse.2.2.1 34 = .ok (.getfield 52, 3) := by decide +kernel
theorem dX12_firstFalse_37 : decode mX12_firstFalse.2.2.1 37 = .ok (.iload_n 1, 1) := by decide +kernel
theorem dX12_firstFalse_38 : decode mX12_firstFalse.2.2.1 38 = .ok (.iaload, 1) := by decide +kernel
theorem dX12_firstFalse_39 : decode mX12_firstFalse.2.2.1 39 = .ok (.if_icmp .ge 33, 3) := by decide +kernel
theorem dX12_firstFalse_42 : decode mX12_firstFalse.2.2.1 42 = .ok (.aload_n 0, 1) := by decide +kernel
theorem dX12_firstFalse_43 : decode mX12_firstFalse.2.2.1 43 = .ok (.getfield 55, 3) := by decide +kernel
theorem dX12_firstFalse_46 : decode mX12_firstFalse.2.2.1 46 = .ok (.iload 5, 2) := by decide +kernel
theorem dX12_firstFalse_48 : decode mX12_firstFalse.2.2.1 48 = .ok (.laload, 1) := by decide +kernel
theorem dX12_firstFalse_49 : decode mX12_firstFalse.2.2.1 49 = .ok (.invokestatic 90, 3) := by decide +kernel
theorem dX12_firstFalse_52 : decode mX12_firstFalse.2.2.1 52 = .ok (.ifCond .eq 20, 3) := by decide +kernel
theorem dX12_firstFalse_55 : decode mX12_firstFalse.2.2.1 55 = .ok (.aload_n 0, 1) := by decide +kernel
theorem dX12_firstFalse_56 : decode mX12_firstFalse.2.2.1 56 = .ok (.getfield 55, 3) := by decide +kernel
theorem dX12_firstFalse_59 : decode mX12_firstFalse.2.2.1 59 = .ok (.iload 5, 2) := by decide +kernel
theorem dX12_firstFalse_61 : decode mX12_firstFalse.2.2.1 61 = .ok (.iconst 1, 1) := by decide +kernel
theorem dX12_firstFalse_62 : decode mX12_firstFalse.2.2.1 62 = .ok (.iadd, 1) := by decide +kernel
theorem dX12_firstFalse_63 : decode mX12_firstFalse.2.2.1 63 = .ok (.laload, 1) := by decide +kernel
theorem dX12_firstFalse_64 : decode mX12_firstFalse.2.2.1 64 = .ok (.lconst 0, 1) := by decide +kernel
theorem dX12_firstFalse_65 : decode mX12_firstFalse.2.2.1 65 = .ok (.lconst 1, 1) := by decide +kernel
theorem dX12_firstFalse_66 : decode mX12_firstFalse.2.2.1 66 = .ok (.invokestatic 75, 3) := by decide +kernel
theorem dX12_firstFalse_69 : decode mX12_firstFalse.2.2.1 69 = .ok (.ifCond .ne 6, 3) := by decide +kernel
theorem dX12_firstFalse_72 : decode mX12_firstFalse.2.2.1 72 = .ok (.iload 4, 2) := by decide +kernel
theorem dX12_firstFalse_74 : decode mX12_firstFalse.2.2.1 74 = .ok (.ireturn, 1) := by decide +kernel
theorem dX12_firstFalse_75 : decode mX12_firstFalse.2.2.1 75 = .ok (.aload_n 0, 1) := by decide +kernel
theorem dX12_firstFalse_76 : decode mX12_firstFalse.2.2.1 76 = .ok (.getfield 55, 3) := by decide +kernel
theorem dX12_firstFalse_79 : decode mX12_firstFalse.2.2.1 79 = .ok (.iload 5, 2) := by decide +kernel
theorem dX12_firstFalse_81 : decode mX12_firstFalse.2.2.1 81 = .ok (.laload, 1) := by decide +kernel
theorem dX12_firstFalse_82 : decode mX12_firstFalse.2.2.1 82 = .ok (.l2i, 1) := by decide +kernel
theorem dX12_firstFalse_83 : decode mX12_firstFalse.2.2.1 83 = .ok (.istore 6, 2) := by decide +kernel
theorem dX12_firstFalse_85 : decode mX12_firstFalse.2.2.1 85 = .ok (.aload_n 0, 1) := by decide +kernel
theorem dX12_firstFalse_86 : decode mX12_firstFalse.2.2.1 86 = .ok (.iload_n 2, 1) := by decide +kernel
theorem dX12_firstFalse_87 : decode mX12_firstFalse.2.2.1 87 = .ok (.iload 6, 2) := by decide +kernel
theorem dX12_firstFalse_89 : decode mX12_firstFalse.2.2.1 89 = .ok (.aload_n 0, 1) := by decide +kernel
theorem dX12_firstFalse_90 : decode mX12_firstFalse.2.2.1 90 = .ok (.iload_n 2, 1) := by decide +kernel
theorem dX12_firstFalse_91 : decode mX12_firstFalse.2.2.1 91 = .ok (.iload 6, 2) := by decide +kernel
theorem dX12_firstFalse_93 : decode mX12_firstFalse.2.2.1 93 = .ok (.invokevirtual 192, 3) := by decide +kernel
theorem dX12_firstFalse_96 : decode mX12_firstFalse.2.2.1 96 = .ok (.iload_n 3, 1) := by decide +kernel
theorem dX12_firstFalse_97 : decode mX12_firstFalse.2.2.1 97 = .ok (.invokevirtual 208, 3) := by decide +kernel
theorem dX12_firstFalse_100 : decode mX12_firstFalse.2.2.1 100 = .ok (.aload_n 0, 1) := by decide +kernel
theorem dX12_firstFalse_101 : decode mX12_firstFalse.2.2.1 101 = .ok (.getfield 55, 3) := by decide +kernel
theorem dX12_firstFalse_104 : decode mX12_firstFalse.2.2.1 104 = .ok (.iload 5, 2) := by decide +kernel
theorem dX12_firstFalse_106 : decode mX12_firstFalse.2.2.1 106 = .ok (.iconst 1, 1) := by decide +kernel
theorem dX12_firstFalse_107 : decode mX12_firstFalse.2.2.1 107 = .ok (.iadd, 1) := by decide +kernel
theorem dX12_firstFalse_108 : decode mX12_firstFalse.2.2.1 108 = .ok (.laload, 1) := by decide +kernel
theorem dX12_firstFalse_109 : decode mX12_firstFalse.2.2.1 109 = .ok (.lconst 1, 1) := by decide +kernel
theorem dX12_firstFalse_110 : decode mX12_firstFalse.2.2.1 110 = .ok (.lcmp, 1) := by decide +kernel
theorem dX12_firstFalse_111 : decode mX12_firstFalse.2.2.1 111 = .ok (.ifCond .ne 7, 3) := by decide +kernel
theorem dX12_firstFalse_114 : decode mX12_firstFalse.2.2.1 114 = .ok (.iconst 1, 1) := by decide +kernel
theorem dX12_firstFalse_115 : decode mX12_firstFalse.2.2.1 115 = .ok (.goto 4, 3) := by decide +kernel
theorem dX12_firstFalse_118 : decode mX12_firstFalse.2.2.1 118 = .ok (.iconst 0, 1) := by decide +kernel
theorem dX12_firstFalse_119 : decode mX12_firstFalse.2.2.1 119 = .ok (.if_icmp .eq 6, 3) := by decide +kernel
theorem dX12_firstFalse_122 : decode mX12_firstFalse.2.2.1 122 = .ok (.iload 4, 2) := by decide +kernel
theorem dX12_firstFalse_124 : decode mX12_firstFalse.2.2.1 124 = .ok (.ireturn, 1) := by decide +kernel
theorem dX12_firstFalse_125 : decode mX12_firstFalse.2.2.1 125 = .ok (.iinc 4 1, 3) := by decide +kernel
theorem dX12_firstFalse_128 : decode mX12_firstFalse.2.2.1 128 = .ok (.goto (-125), 3) := by decide +kernel
theorem dX12_firstFalse_131 : decode mX12_firstFalse.2.2.1 131 = .ok (.bipush (-2), 2) := by decide +kernel
theorem dX12_firstFalse_133 : decode mX12_firstFalse.2.2.1 133 = .ok (.ireturn, 1) := by decide +kernel
set_option maxHeartbeats 100000 in
theorem kX12_firstFalse_0 {d : Nat} {F : am_FT} {L : am_LT} {Q : am_QT} {l0 l1 l2 l4 l5 l6 : Option Value} {x3 : Int32} : wt am_S0 d mX12_firstFalse 0 [l0, l1, l2, some (.int x3), l4, l5, l6] [] F L Q = wt am_S0 d mX12_firstFalse 3 [l0, l1, l2, some (.int x3), some (.int 0), l5, l6] [] F L Q := (wt_iconst dX12_firstFalse_0 (v := 0) (by decide)).trans (wt_istore dX12_firstFalse_1 (lv1 := [l0, l1, l2, some (.int x3), some (.int 0), l5, l6]) (Nat.le_of_ble_eq_true rfl) rfl)
set_option maxHeartbeats 100000 in
theorem kX12_firstFalse_3 {d : Nat} {F : am_FT} {L : am_LT} {Q : am_QT} {l2 l3 l5 l6 : Option Value} {x4 x1 : Int32} (h1 : am_oob x1 6 = false) : wt am_S0 d mX12_firstFalse 3 [some (.ref 45), some (.int x1), l2, l3, some (.int x4), l5, l6] [] F L Q = if (F 60 (Int32.toNatClampNeg x1)) ≤ (2 * x4) then wt am_S0 d mX12_firstFalse 131 [some (.ref 45), some (.int x1), l2, l3, some (.int x4), l5, l6] [] F L Q else wt am_S0 d mX12_firstFalse 16 [some (.ref 45), some (.int x1), l2, l3, some (.int x4), l5, l6] [] F L Q := (wt_iconst dX12_firstFalse_3 (v := 2) (by decide)).trans ((wt_iload dX12_firstFalse_4 rfl).trans ((wt_imul dX12_firstFalse_6).trans ((wt_aload_n dX12_firstFalse_7 rfl rfl).trans ((wt_getfield dX12_firstFalse_8 rfl rfl (v := .ref 60) rfl).trans ((wt_iload_n dX12_firstFalse_11 rfl).trans ((wt_iaload dX12_firstFalse_12 rfl (by decide) h1).trans (wt_if_icmp_ge dX12_firstFalse_13 (t := 131) rfl)))))))
set_option maxHeartbeats 100000 in
theorem kX12_firstFalse_16 {d : Nat} {F : am_FT} {L : am_LT} {Q : am_QT} {l2 l3 l5 l6 : Option Value} {x1 x4 : Int32} : wt am_S0 d mX12_firstFalse 16 [some (.ref 45), some (.int x1), l2, l3, some (.int x4), l5, l6] [] F L Q = wt am_S0 d mX12_firstFalse 38 [some (.ref 45), some (.int x1), l2, l3, some (.int x4), some (.int ((60 * x1) + (2 * x4))), l6] [.int x1, .ref 60, .int ((2 * x4) + 1)] F L Q := (wt_bipush dX12_firstFalse_16 (v := 60) (by decide)).trans ((wt_iload_n dX12_firstFalse_18 rfl).trans ((wt_imul dX12_firstFalse_19).trans ((wt_iconst dX12_firstFalse_20 (v := 2) (by decide)).trans ((wt_iload dX12_firstFalse_21 rfl).trans ((wt_imul dX12_firstFalse_23).trans ((wt_iadd dX12_firstFalse_24).trans ((wt_istore dX12_firstFalse_25 (lv1 := [some (.ref 45), some (.int x1), l2, l3, some (.int x4), some (.int ((60 * x1) + (2 * x4))), l6]) (Nat.le_of_ble_eq_true rfl) rfl).trans ((wt_iconst dX12_firstFalse_27 (v := 2) (by decide)).trans ((wt_iload dX12_firstFalse_28 rfl).trans ((wt_imul dX12_firstFalse_30).trans ((wt_iconst dX12_firstFalse_31 (v := 1) (by decide)).trans ((wt_iadd dX12_firstFalse_32).trans ((wt_aload_n dX12_firstFalse_33 rfl rfl).trans ((wt_getfield dX12_firstFalse_34 rfl rfl (v := .ref 60) rfl).trans (wt_iload_n dX12_firstFalse_37 rfl)))))))))))))))
set_option maxHeartbeats 100000 in
theorem kX12_firstFalse_38 {d : Nat} {F : am_FT} {L : am_LT} {Q : am_QT} {l0 l1 l2 l3 l4 l5 l6 : Option Value} {s0 s2 : Int32} (h1 : am_oob s2 6 = false) : wt am_S0 d mX12_firstFalse 38 [l0, l1, l2, l3, l4, l5, l6] [.int s2, .ref 60, .int s0] F L Q = if (F 60 (Int32.toNatClampNeg s2)) ≤ s0 then wt am_S0 d mX12_firstFalse 72 [l0, l1, l2, l3, l4, l5, l6] [] F L Q else wt am_S0 d mX12_firstFalse 42 [l0, l1, l2, l3, l4, l5, l6] [] F L Q := (wt_iaload dX12_firstFalse_38 rfl (by decide) h1).trans (wt_if_icmp_ge dX12_firstFalse_39 (t := 72) rfl)
set_option maxHeartbeats 100000 in
theorem kX12_firstFalse_42 {d : Nat} {F : am_FT} {L : am_LT} {Q : am_QT} {l1 l2 l3 l4 l6 : Option Value} {x5 : Int32} (h1 : am_oob x5 360 = false) : wt am_S0 (d + 1) mX12_firstFalse 42 [some (.ref 45), l1, l2, l3, l4, some (.int x5), l6] [] F L Q = wc am_S0 d mX12_isMonth [.long (L 61 (Int32.toNatClampNeg x5))] F L (fun r G K => wt am_S0 (d + 1) mX12_firstFalse 52 [some (.ref 45), l1, l2, l3, l4, some (.int x5), l6] (r.toList ++ []) G K Q) := (wt_aload_n dX12_firstFalse_42 rfl rfl).trans ((wt_getfield dX12_firstFalse_43 rfl rfl (v := .ref 61) rfl).trans ((wt_iload dX12_firstFalse_46 rfl).trans ((wt_laload dX12_firstFalse_48 rfl h1).trans (wt_callS dX12_firstFalse_49 rfl (as := [.long (L 61 (Int32.toNatClampNeg x5))]) (rest := []) rfl rfl (Nat.le_of_ble_eq_true rfl) (Nat.le_of_ble_eq_true rfl)))))
set_option maxHeartbeats 100000 in
theorem kX12_firstFalse_52 {d : Nat} {F : am_FT} {L : am_LT} {Q : am_QT} {l0 l1 l2 l3 l4 l5 l6 : Option Value} {s0 : Int32} : wt am_S0 d mX12_firstFalse 52 [l0, l1, l2, l3, l4, l5, l6] [.int s0] F L Q = if s0 = 0 then wt am_S0 d mX12_firstFalse 72 [l0, l1, l2, l3, l4, l5, l6] [] F L Q else wt am_S0 d mX12_firstFalse 55 [l0, l1, l2, l3, l4, l5, l6] [] F L Q := wt_ifCond_eq dX12_firstFalse_52 (t := 72) rfl
set_option maxHeartbeats 100000 in
theorem kX12_firstFalse_55 {d : Nat} {F : am_FT} {L : am_LT} {Q : am_QT} {l1 l2 l3 l4 l6 : Option Value} {x5 : Int32} (h1 : am_oob (x5 + 1) 360 = false) : wt am_S0 (d + 1) mX12_firstFalse 55 [some (.ref 45), l1, l2, l3, l4, some (.int x5), l6] [] F L Q = wc am_S0 d mX12_within [.long (L 61 (Int32.toNatClampNeg (x5 + 1))), .long 0, .long 1] F L (fun r G K => wt am_S0 (d + 1) mX12_firstFalse 69 [some (.ref 45), l1, l2, l3, l4, some (.int x5), l6] (r.toList ++ []) G K Q) := (wt_aload_n dX12_firstFalse_55 rfl rfl).trans ((wt_getfield dX12_firstFalse_56 rfl rfl (v := .ref 61) rfl).trans ((wt_iload dX12_firstFalse_59 rfl).trans ((wt_iconst dX12_firstFalse_61 (v := 1) (by decide)).trans ((wt_iadd dX12_firstFalse_62).trans ((wt_laload dX12_firstFalse_63 rfl h1).trans ((wt_lconst dX12_firstFalse_64 (v := 0) (by decide)).trans ((wt_lconst dX12_firstFalse_65 (v := 1) (by decide)).trans (wt_callS dX12_firstFalse_66 rfl (as := [.long (L 61 (Int32.toNatClampNeg (x5 + 1))), .long 0, .long 1]) (rest := []) rfl rfl (Nat.le_of_ble_eq_true rfl) (Nat.le_of_ble_eq_true rfl)))))))))
set_option maxHeartbeats 100000 in
theorem kX12_firstFalse_69 {d : Nat} {F : am_FT} {L : am_LT} {Q : am_QT} {l0 l1 l2 l3 l4 l5 l6 : Option Value} {s0 : Int32} : wt am_S0 d mX12_firstFalse 69 [l0, l1, l2, l3, l4, l5, l6] [.int s0] F L Q = if ¬ s0 = 0 then wt am_S0 d mX12_firstFalse 75 [l0, l1, l2, l3, l4, l5, l6] [] F L Q else wt am_S0 d mX12_firstFalse 72 [l0, l1, l2, l3, l4, l5, l6] [] F L Q := wt_ifCond_ne dX12_firstFalse_69 (t := 75) rfl
set_option maxHeartbeats 100000 in
theorem kX12_firstFalse_72 {d : Nat} {F : am_FT} {L : am_LT} {Q : am_QT} {l0 l1 l2 l3 l5 l6 : Option Value} {x4 : Int32} : wt am_S0 d mX12_firstFalse 72 [l0, l1, l2, l3, some (.int x4), l5, l6] [] F L Q = Q (some (.int x4)) F L := (wt_iload dX12_firstFalse_72 rfl).trans (wt_ireturn dX12_firstFalse_74 rfl rfl)
set_option maxHeartbeats 100000 in
theorem kX12_firstFalse_75 {d : Nat} {F : am_FT} {L : am_LT} {Q : am_QT} {l1 l3 l4 l6 : Option Value} {x5 x2 : Int32} (h1 : am_oob x5 360 = false) : wt am_S0 (d + 1) mX12_firstFalse 75 [some (.ref 45), l1, some (.int x2), l3, l4, some (.int x5), l6] [] F L Q = wc am_S0 d mX12_sittersIn [.ref 45, .int x2, .int (Int64.toInt32 (L 61 (Int32.toNatClampNeg x5)))] F L (fun r G K => wt am_S0 (d + 1) mX12_firstFalse 96 [some (.ref 45), l1, some (.int x2), l3, l4, some (.int x5), some (.int (Int64.toInt32 (L 61 (Int32.toNatClampNeg x5))))] (r.toList ++ [.int (Int64.toInt32 (L 61 (Int32.toNatClampNeg x5))), .int x2, .ref 45]) G K Q) := (wt_aload_n dX12_firstFalse_75 rfl rfl).trans ((wt_getfield dX12_firstFalse_76 rfl rfl (v := .ref 61) rfl).trans ((wt_iload dX12_firstFalse_79 rfl).trans ((wt_laload dX12_firstFalse_81 rfl h1).trans ((wt_l2i dX12_firstFalse_82).trans ((wt_istore dX12_firstFalse_83 (lv1 := [some (.ref 45), l1, some (.int x2), l3, l4, some (.int x5), some (.int (Int64.toInt32 (L 61 (Int32.toNatClampNeg x5))))]) (Nat.le_of_ble_eq_true rfl) rfl).trans ((wt_aload_n dX12_firstFalse_85 rfl rfl).trans ((wt_iload_n dX12_firstFalse_86 rfl).trans ((wt_iload dX12_firstFalse_87 rfl).trans ((wt_aload_n dX12_firstFalse_89 rfl rfl).trans ((wt_iload_n dX12_firstFalse_90 rfl).trans ((wt_iload dX12_firstFalse_91 rfl).trans (wt_callV dX12_firstFalse_93 rfl (as := [.int x2, .int (Int64.toInt32 (L 61 (Int32.toNatClampNeg x5)))]) (rest := [.int (Int64.toInt32 (L 61 (Int32.toNatClampNeg x5))), .int x2, .ref 45]) rfl rfl (Nat.le_of_ble_eq_true rfl) rfl (Nat.le_of_ble_eq_true rfl)))))))))))))
set_option maxHeartbeats 100000 in
theorem kX12_firstFalse_96 {d : Nat} {F : am_FT} {L : am_LT} {Q : am_QT} {l0 l1 l2 l4 l5 l6 : Option Value} {s1 s2 s3 x3 : Int32} : wt am_S0 (d + 1) mX12_firstFalse 96 [l0, l1, l2, some (.int x3), l4, l5, l6] [.int s3, .int s2, .int s1, .ref 45] F L Q = wc am_S0 d mX12_doesFall [.ref 45, .int s1, .int s2, .int s3, .int x3] F L (fun r G K => wt am_S0 (d + 1) mX12_firstFalse 100 [l0, l1, l2, some (.int x3), l4, l5, l6] (r.toList ++ []) G K Q) := (wt_iload_n dX12_firstFalse_96 rfl).trans (wt_callV dX12_firstFalse_97 rfl (as := [.int s1, .int s2, .int s3, .int x3]) (rest := []) rfl rfl (Nat.le_of_ble_eq_true rfl) rfl (Nat.le_of_ble_eq_true rfl))
set_option maxHeartbeats 100000 in
theorem kX12_firstFalse_100 {d : Nat} {F : am_FT} {L : am_LT} {Q : am_QT} {l1 l2 l3 l4 l6 : Option Value} {s0 x5 : Int32} (h1 : am_oob (x5 + 1) 360 = false) : wt am_S0 d mX12_firstFalse 100 [some (.ref 45), l1, l2, l3, l4, some (.int x5), l6] [.int s0] F L Q = if ¬ (lg_cmp (L 61 (Int32.toNatClampNeg (x5 + 1))) 1) = 0 then wt am_S0 d mX12_firstFalse 118 [some (.ref 45), l1, l2, l3, l4, some (.int x5), l6] [.int s0] F L Q else wt am_S0 d mX12_firstFalse 114 [some (.ref 45), l1, l2, l3, l4, some (.int x5), l6] [.int s0] F L Q := (wt_aload_n dX12_firstFalse_100 rfl rfl).trans ((wt_getfield dX12_firstFalse_101 rfl rfl (v := .ref 61) rfl).trans ((wt_iload dX12_firstFalse_104 rfl).trans ((wt_iconst dX12_firstFalse_106 (v := 1) (by decide)).trans ((wt_iadd dX12_firstFalse_107).trans ((wt_laload dX12_firstFalse_108 rfl h1).trans ((wt_lconst dX12_firstFalse_109 (v := 1) (by decide)).trans ((wt_lcmp dX12_firstFalse_110).trans (wt_ifCond_ne dX12_firstFalse_111 (t := 118) rfl))))))))
set_option maxHeartbeats 100000 in
theorem kX12_firstFalse_114 {d : Nat} {F : am_FT} {L : am_LT} {Q : am_QT} {l0 l1 l2 l3 l4 l5 l6 : Option Value} {s0 : Int32} : wt am_S0 d mX12_firstFalse 114 [l0, l1, l2, l3, l4, l5, l6] [.int s0] F L Q = wt am_S0 d mX12_firstFalse 119 [l0, l1, l2, l3, l4, l5, l6] [.int 1, .int s0] F L Q := (wt_iconst dX12_firstFalse_114 (v := 1) (by decide)).trans (wt_goto dX12_firstFalse_115 (t := 119) rfl)
set_option maxHeartbeats 100000 in
theorem kX12_firstFalse_118 {d : Nat} {F : am_FT} {L : am_LT} {Q : am_QT} {l0 l1 l2 l3 l4 l5 l6 : Option Value} {s0 : Int32} : wt am_S0 d mX12_firstFalse 118 [l0, l1, l2, l3, l4, l5, l6] [.int s0] F L Q = wt am_S0 d mX12_firstFalse 119 [l0, l1, l2, l3, l4, l5, l6] [.int 0, .int s0] F L Q := wt_iconst dX12_firstFalse_118 (v := 0) (by decide)
set_option maxHeartbeats 100000 in
theorem kX12_firstFalse_119 {d : Nat} {F : am_FT} {L : am_LT} {Q : am_QT} {l0 l1 l2 l3 l4 l5 l6 : Option Value} {s0 s1 : Int32} : wt am_S0 d mX12_firstFalse 119 [l0, l1, l2, l3, l4, l5, l6] [.int s1, .int s0] F L Q = if s0 = s1 then wt am_S0 d mX12_firstFalse 125 [l0, l1, l2, l3, l4, l5, l6] [] F L Q else wt am_S0 d mX12_firstFalse 122 [l0, l1, l2, l3, l4, l5, l6] [] F L Q := wt_if_icmp_eq dX12_firstFalse_119 (t := 125) rfl
set_option maxHeartbeats 100000 in
theorem kX12_firstFalse_122 {d : Nat} {F : am_FT} {L : am_LT} {Q : am_QT} {l0 l1 l2 l3 l5 l6 : Option Value} {x4 : Int32} : wt am_S0 d mX12_firstFalse 122 [l0, l1, l2, l3, some (.int x4), l5, l6] [] F L Q = Q (some (.int x4)) F L := (wt_iload dX12_firstFalse_122 rfl).trans (wt_ireturn dX12_firstFalse_124 rfl rfl)
set_option maxHeartbeats 100000 in
theorem kX12_firstFalse_125 {d : Nat} {F : am_FT} {L : am_LT} {Q : am_QT} {l0 l1 l2 l5 l6 : Option Value} {x4 x3 : Int32} : wt am_S0 d mX12_firstFalse 125 [l0, l1, l2, some (.int x3), some (.int x4), l5, l6] [] F L Q = wt am_S0 d mX12_firstFalse 3 [l0, l1, l2, some (.int x3), some (.int (x4 + 1)), l5, l6] [] F L Q := (wt_iinc dX12_firstFalse_125 (v := 1) (lv1 := [l0, l1, l2, some (.int x3), some (.int (x4 + 1)), l5, l6]) rfl (Nat.le_of_ble_eq_true rfl) (by decide) rfl).trans (wt_goto dX12_firstFalse_128 (t := 3) rfl)
set_option maxHeartbeats 100000 in
theorem kX12_firstFalse_131 {d : Nat} {F : am_FT} {L : am_LT} {Q : am_QT} {l0 l1 l2 l3 l4 l5 l6 : Option Value} : wt am_S0 d mX12_firstFalse 131 [l0, l1, l2, l3, l4, l5, l6] [] F L Q = Q (some (.int (-2))) F L := (wt_bipush dX12_firstFalse_131 (v := (-2)) (by decide)).trans (wt_ireturn dX12_firstFalse_133 rfl rfl)
theorem dX12_wishes_0 : decode mX12_wishes.2.2.1 0 = .ok (.aload_n 0, 1) := by decide +kernel
theorem dX12_wishes_1 : decode mX12_wishes.2.2.1 1 = .ok (.iload_n 1, 1) := by decide +kernel
theorem dX12_wishes_2 : decode mX12_wishes.2.2.1 2 = .ok (.invokevirtual 248, 3) := by decide +kernel
theorem dX12_wishes_5 : decode mX12_wishes.2.2.1 5 = .ok (.iconst (-1), 1) := by decide +kernel
theorem dX12_wishes_6 : decode mX12_wishes.2.2.1 6 = .ok (.if_icmp .eq 24, 3) := by decide +kernel
theorem dX12_wishes_9 : decode mX12_wishes.2.2.1 9 = .ok (.aload_n 0, 1) := by decide +kernel
theorem dX12_wishes_10 : decode mX12_wishes.2.2.1 10 = .ok (.iload_n 2, 1) := by decide +kernel
theorem dX12_wishes_11 : decode mX12_wishes.2.2.1 11 = .ok (.i2l, 1) := by decide +kernel
theorem dX12_wishes_12 : decode mX12_wishes.2.2.1 12 = .ok (.invokevirtual 86, 3) := by decide +kernel
theorem dX12_wishes_15 : decode mX12_wishes.2.2.1 15 = .ok (.ifCond .eq 15, 3) := by decide +kernel
theorem dX12_wishes_18 : decode mX12_wishes.2.2.1 18 = .ok (.iload_n 3, 1) := by decide +kernel
theorem dX12_wishes_19 : decode mX12_wishes.2.2.1 19 = .ok (.i2l, 1) := by decide +kernel
theorem dX12_wishes_20 : decode mX12_wishes.2.2.1 20 = .ok (.lconst 0, 1) := by decide +kernel
theorem dX12_wishes_21 : decode mX12_wishes.2.2.1 21 = .ok (.ldc2_w 255, 3) := by decide +kernel
theorem dX12_wishes_24 : decode mX12_wishes.2.2.1 24 = .ok (.invokestatic 75, 3) := by decide +kernel
theorem dX12_wishes_27 : decode mX12_wishes.2.2.1 27 = .ok (.ifCond .ne 5, 3) := by decide +kernel
theorem dX12_wishes_30 : decode mX12_wishes.2.2.1 30 = .ok (.iconst (-1), 1) := by decide +kernel
theorem dX12_wishes_31 : decode mX12_wishes.2.2.1 31 = .ok (.ireturn, 1) := by decide +kernel
theorem dX12_wishes_32 : decode mX12_wishes.2.2.1 32 = .ok (.aload_n 0, 1) := by decide +kernel
theorem dX12_wishes_33 : decode mX12_wishes.2.2.1 33 = .ok (.iload_n 1, 1) := by decide +kernel
theorem dX12_wishes_34 : decode mX12_wishes.2.2.1 34 = .ok (.invokevirtual 248, 3) := by decide +kernel
theorem dX12_wishes_37 : decode mX12_wishes.2.2.1 37 = .ok (.ifCond .ge 9, 3) := by decide +kernel
theorem dX12_wishes_40 : decode mX12_wishes.2.2.1 40 = .ok (.aload_n 0, 1) := by decide +kernel
theorem dX12_wishes_41 : decode mX12_wishes.2.2.1 41 = .ok (.iload_n 1, 1) := by decide +kernel
theorem dX12_wishes_42 : decode mX12_wishes.2.2.1 42 = .ok (.invokevirtual 248, 3) := by decide +kernel
theorem dX12_wishes_45 : decode mX12_wishes.2.2.1 45 = .ok (.ireturn, 1) := by decide +kernel
theorem dX12_wishes_46 : decode mX12_wishes.2.2.1 46 = .ok (.iconst 0, 1) := by decide +kernel
theorem dX12_wishes_47 : decode mX12_wishes.2.2.1 47 = .ok (.istore 4, 2) := by decide +kernel
theorem dX12_wishes_49 : decode mX12_wishes.2.2.1 49 = .ok (.bipush (-2), 2) := by decide +kernel
theorem dX12_wishes_51 : decode mX12_wishes.2.2.1 51 = .ok (.istore 5, 2) := by decide +kernel
theorem dX12_wishes_53 : decode mX12_wishes.2.2.1 53 = .ok (.aload_n 0, 1) := by decide +kernel
theorem dX12_wishes_54 : decode mX12_wishes.2.2.1 54 = .ok (.invokevirtual 231, 3) := by decide +kernel
theorem dX12_wishes_57 : decode mX12_wishes.2.2.1 57 = .ok (.istore 6, 2) := by decide +kernel
theorem dX12_wishes_59 : decode mX12_wishes.2.2.1 59 = .ok (.iconst 0, 1) := by decide +kernel
theorem dX12_wishes_60 : decode mX12_wishes.2.2.1 60 = .ok (.istore 7, 2) := by decide +kernel
theorem dX12_wishes_62 : decode mX12_wishes.2.2.1 62 = .ok (.iload 7, 2) := by decide +kernel
theorem dX12_wishes_64 : decode mX12_wishes.2.2.1 64 = .ok (.aload_n 0, 1) := by decide +kernel
theorem dX12_wishes_65 : decode mX12_wishes.2.2.1 65 = .ok (.invokevirtual 231, 3) := by decide +kernel
theorem dX12_wishes_68 : decode mX12_wishes.2.2.1 68 = .ok (.if_icmp .gt 46, 3) := by decide +kernel
theorem dX12_wishes_71 : decode mX12_wishes.2.2.1 71 = .ok (.aload_n 0, 1) := by decide +kernel
theorem dX12_wishes_72 : decode mX12_wishes.2.2.1 72 = .ok (.iload_n 1, 1) := by decide +kernel
theorem dX12_wishes_73 : decode mX12_wishes.2.2.1 73 = .ok (.iload_n 2, 1) := by decide +kernel
theorem dX12_wishes_74 : decode mX12_wishes.2.2.1 74 = .ok (.iload 7, 2) := by decide +kernel
theorem dX12_wishes_76 : decode mX12_wishes.2.2.1 76 = .ok (.invokevirtual 251, 3) := by decide +kernel
theorem dX12_wishes_79 : decode mX12_wishes.2.2.1 79 = .ok (.bipush (-2), 2) := by decide +kernel
theorem dX12_wishes_81 : decode mX12_wishes.2.2.1 81 = .ok (.if_icmp .ne 27, 3) := by decide +kernel
theorem dX12_wishes_84 : decode mX12_wishes.2.2.1 84 = .ok (.iload 4, 2) := by decide +kernel
theorem dX12_wishes_86 : decode mX12_wishes.2.2.1 86 = .ok (.ifCond .ne 8, 3) := by decide +kernel
theorem dX12_wishes_89 : decode mX12_wishes.2.2.1 89 = .ok (.iload 7, 2) := by decide +kernel
theorem dX12_wishes_91 : decode mX12_wishes.2.2.1 91 = .ok (.goto 5, 3) := by decide +kernel
theorem dX12_wishes_94 : decode mX12_wishes.2.2.1 94 = .ok (.iload 5, 2) := by decide +kernel
theorem dX12_wishes_96 : decode mX12_wishes.2.2.1 96 = .ok (.istore 5, 2) := by decide +kernel
theorem dX12_wishes_98 : decode mX12_wishes.2.2.1 98 = .ok (.iload 6, 2) := by decide +kernel
theorem dX12_wishes_100 : decode mX12_wishes.2.2.1 100 = .ok (.iload 7, 2) := by decide +kernel
theorem dX12_wishes_102 : decode mX12_wishes.2.2.1 102 = .ok (.iand, 1) := by decide +kernel
theorem dX12_wishes_103 : decode mX12_wishes.2.2.1 103 = .ok (.istore 6, 2) := by decide +kernel
theorem dX12_wishes_105 : decode mX12_wishes.2.2.1 105 = .ok (.iinc 4 1, 3) := by decide +kernel
theorem dX12_wishes_108 : decode mX12_wishes.2.2.1 108 = .ok (.iinc 7 1, 3) := by decide +kernel
theorem dX12_wishes_111 : decode mX12_wishes.2.2.1 111 = .ok (.goto (-49), 3) := by decide +kernel
theorem dX12_wishes_114 : decode mX12_wishes.2.2.1 114 = .ok (.iload_n 3, 1) := by decide +kernel
theorem dX12_wishes_115 : decode mX12_wishes.2.2.1 115 = .ok (.ifCond .ne 8, 3) := by decide +kernel
theorem dX12_wishes_118 : decode mX12_wishes.2.2.1 118 = .ok (.iload 4, 2) := by decide +kernel
theorem dX12_wishes_120 : decode mX12_wishes.2.2.1 120 = .ok (.goto 24, 3) := by decide +kernel
theorem dX12_wishes_123 : decode mX12_wishes.2.2.1 123 = .ok (.iload_n 3, 1) := by decide +kernel
theorem dX12_wishes_124 : decode mX12_wishes.2.2.1 124 = .ok (.iconst 1, 1) := by decide +kernel
theorem dX12_wishes_125 : decode mX12_wishes.2.2.1 125 = .ok (.if_icmp .ne 8, 3) := by decide +kernel
theorem dX12_wishes_128 : decode mX12_wishes.2.2.1 128 = .ok (.iload 5, 2) := by decide +kernel
theorem dX12_wishes_130 : decode mX12_wishes.2.2.1 130 = .ok (.goto 14, 3) := by decide +kernel
theorem dX12_wishes_133 : decode mX12_wishes.2.2.1 133 = .ok (.iload 4, 2) := by decide +kernel
theorem dX12_wishes_135 : decode mX12_wishes.2.2.1 135 = .ok (.ifCond .ne 7, 3) := by decide +kernel
theorem dX12_wishes_138 : decode mX12_wishes.2.2.1 138 = .ok (.iconst 0, 1) := by decide +kernel
theorem dX12_wishes_139 : decode mX12_wishes.2.2.1 139 = .ok (.goto 5, 3) := by decide +kernel
theorem dX12_wishes_142 : decode mX12_wishes.2.2.1 142 = .ok (.iload 6, 2) := by decide +kernel
theorem dX12_wishes_144 : decode mX12_wishes.2.2.1 144 = .ok (.ireturn, 1) := by decide +kernel
set_option maxHeartbeats 100000 in
theorem kX12_wishes_0 {d : Nat} {F : am_FT} {L : am_LT} {Q : am_QT} {l2 l3 l4 l5 l6 l7 : Option Value} {x1 : Int32} : wt am_S0 (d + 1) mX12_wishes 0 [some (.ref 45), some (.int x1), l2, l3, l4, l5, l6, l7] [] F L Q = wc am_S0 d mX12_bytesIs [.ref 45, .int x1] F L (fun r G K => wt am_S0 (d + 1) mX12_wishes 5 [some (.ref 45), some (.int x1), l2, l3, l4, l5, l6, l7] (r.toList ++ []) G K Q) := (wt_aload_n dX12_wishes_0 rfl rfl).trans ((wt_iload_n dX12_wishes_1 rfl).trans (wt_callV dX12_wishes_2 rfl (as := [.int x1]) (rest := []) rfl rfl (Nat.le_of_ble_eq_true rfl) rfl (Nat.le_of_ble_eq_true rfl)))
set_option maxHeartbeats 100000 in
theorem kX12_wishes_5 {d : Nat} {F : am_FT} {L : am_LT} {Q : am_QT} {l0 l1 l2 l3 l4 l5 l6 l7 : Option Value} {s0 : Int32} : wt am_S0 d mX12_wishes 5 [l0, l1, l2, l3, l4, l5, l6, l7] [.int s0] F L Q = if s0 = (-1) then wt am_S0 d mX12_wishes 30 [l0, l1, l2, l3, l4, l5, l6, l7] [] F L Q else wt am_S0 d mX12_wishes 9 [l0, l1, l2, l3, l4, l5, l6, l7] [] F L Q := (wt_iconst dX12_wishes_5 (v := (-1)) (by decide)).trans (wt_if_icmp_eq dX12_wishes_6 (t := 30) rfl)
set_option maxHeartbeats 100000 in
theorem kX12_wishes_9 {d : Nat} {F : am_FT} {L : am_LT} {Q : am_QT} {l1 l3 l4 l5 l6 l7 : Option Value} {x2 : Int32} : wt am_S0 (d + 1) mX12_wishes 9 [some (.ref 45), l1, some (.int x2), l3, l4, l5, l6, l7] [] F L Q = wc am_S0 d mX12_isTree [.ref 45, .long (Int32.toInt64 x2)] F L (fun r G K => wt am_S0 (d + 1) mX12_wishes 15 [some (.ref 45), l1, some (.int x2), l3, l4, l5, l6, l7] (r.toList ++ []) G K Q) := (wt_aload_n dX12_wishes_9 rfl rfl).trans ((wt_iload_n dX12_wishes_10 rfl).trans ((wt_i2l dX12_wishes_11).trans (wt_callV dX12_wishes_12 rfl (as := [.long (Int32.toInt64 x2)]) (rest := []) rfl rfl (Nat.le_of_ble_eq_true rfl) rfl (Nat.le_of_ble_eq_true rfl))))
set_option maxHeartbeats 100000 in
theorem kX12_wishes_15 {d : Nat} {F : am_FT} {L : am_LT} {Q : am_QT} {l0 l1 l2 l3 l4 l5 l6 l7 : Option Value} {s0 : Int32} : wt am_S0 d mX12_wishes 15 [l0, l1, l2, l3, l4, l5, l6, l7] [.int s0] F L Q = if s0 = 0 then wt am_S0 d mX12_wishes 30 [l0, l1, l2, l3, l4, l5, l6, l7] [] F L Q else wt am_S0 d mX12_wishes 18 [l0, l1, l2, l3, l4, l5, l6, l7] [] F L Q := wt_ifCond_eq dX12_wishes_15 (t := 30) rfl
set_option maxHeartbeats 100000 in
theorem kX12_wishes_18 {d : Nat} {F : am_FT} {L : am_LT} {Q : am_QT} {l0 l1 l2 l4 l5 l6 l7 : Option Value} {x3 : Int32} : wt am_S0 (d + 1) mX12_wishes 18 [l0, l1, l2, some (.int x3), l4, l5, l6, l7] [] F L Q = wc am_S0 d mX12_within [.long (Int32.toInt64 x3), .long 0, .long 2] F L (fun r G K => wt am_S0 (d + 1) mX12_wishes 27 [l0, l1, l2, some (.int x3), l4, l5, l6, l7] (r.toList ++ []) G K Q) := (wt_iload_n dX12_wishes_18 rfl).trans ((wt_i2l dX12_wishes_19).trans ((wt_lconst dX12_wishes_20 (v := 0) (by decide)).trans ((wt_ldc2_w dX12_wishes_21 (v := 2) rfl).trans (wt_callS dX12_wishes_24 rfl (as := [.long (Int32.toInt64 x3), .long 0, .long 2]) (rest := []) rfl rfl (Nat.le_of_ble_eq_true rfl) (Nat.le_of_ble_eq_true rfl)))))
set_option maxHeartbeats 100000 in
theorem kX12_wishes_27 {d : Nat} {F : am_FT} {L : am_LT} {Q : am_QT} {l0 l1 l2 l3 l4 l5 l6 l7 : Option Value} {s0 : Int32} : wt am_S0 d mX12_wishes 27 [l0, l1, l2, l3, l4, l5, l6, l7] [.int s0] F L Q = if ¬ s0 = 0 then wt am_S0 d mX12_wishes 32 [l0, l1, l2, l3, l4, l5, l6, l7] [] F L Q else wt am_S0 d mX12_wishes 30 [l0, l1, l2, l3, l4, l5, l6, l7] [] F L Q := wt_ifCond_ne dX12_wishes_27 (t := 32) rfl
set_option maxHeartbeats 100000 in
theorem kX12_wishes_30 {d : Nat} {F : am_FT} {L : am_LT} {Q : am_QT} {l0 l1 l2 l3 l4 l5 l6 l7 : Option Value} : wt am_S0 d mX12_wishes 30 [l0, l1, l2, l3, l4, l5, l6, l7] [] F L Q = Q (some (.int (-1))) F L := (wt_iconst dX12_wishes_30 (v := (-1)) (by decide)).trans (wt_ireturn dX12_wishes_31 rfl rfl)
set_option maxHeartbeats 100000 in
theorem kX12_wishes_32 {d : Nat} {F : am_FT} {L : am_LT} {Q : am_QT} {l2 l3 l4 l5 l6 l7 : Option Value} {x1 : Int32} : wt am_S0 (d + 1) mX12_wishes 32 [some (.ref 45), some (.int x1), l2, l3, l4, l5, l6, l7] [] F L Q = wc am_S0 d mX12_bytesIs [.ref 45, .int x1] F L (fun r G K => wt am_S0 (d + 1) mX12_wishes 37 [some (.ref 45), some (.int x1), l2, l3, l4, l5, l6, l7] (r.toList ++ []) G K Q) := (wt_aload_n dX12_wishes_32 rfl rfl).trans ((wt_iload_n dX12_wishes_33 rfl).trans (wt_callV dX12_wishes_34 rfl (as := [.int x1]) (rest := []) rfl rfl (Nat.le_of_ble_eq_true rfl) rfl (Nat.le_of_ble_eq_true rfl)))
set_option maxHeartbeats 100000 in
theorem kX12_wishes_37 {d : Nat} {F : am_FT} {L : am_LT} {Q : am_QT} {l0 l1 l2 l3 l4 l5 l6 l7 : Option Value} {s0 : Int32} : wt am_S0 d mX12_wishes 37 [l0, l1, l2, l3, l4, l5, l6, l7] [.int s0] F L Q = if 0 ≤ s0 then wt am_S0 d mX12_wishes 46 [l0, l1, l2, l3, l4, l5, l6, l7] [] F L Q else wt am_S0 d mX12_wishes 40 [l0, l1, l2, l3, l4, l5, l6, l7] [] F L Q := wt_ifCond_ge dX12_wishes_37 (t := 46) rfl
set_option maxHeartbeats 100000 in
theorem kX12_wishes_40 {d : Nat} {F : am_FT} {L : am_LT} {Q : am_QT} {l2 l3 l4 l5 l6 l7 : Option Value} {x1 : Int32} : wt am_S0 (d + 1) mX12_wishes 40 [some (.ref 45), some (.int x1), l2, l3, l4, l5, l6, l7] [] F L Q = wc am_S0 d mX12_bytesIs [.ref 45, .int x1] F L (fun r G K => wt am_S0 (d + 1) mX12_wishes 45 [some (.ref 45), some (.int x1), l2, l3, l4, l5, l6, l7] (r.toList ++ []) G K Q) := (wt_aload_n dX12_wishes_40 rfl rfl).trans ((wt_iload_n dX12_wishes_41 rfl).trans (wt_callV dX12_wishes_42 rfl (as := [.int x1]) (rest := []) rfl rfl (Nat.le_of_ble_eq_true rfl) rfl (Nat.le_of_ble_eq_true rfl)))
set_option maxHeartbeats 100000 in
theorem kX12_wishes_45 {d : Nat} {F : am_FT} {L : am_LT} {Q : am_QT} {l0 l1 l2 l3 l4 l5 l6 l7 : Option Value} {s0 : Int32} : wt am_S0 d mX12_wishes 45 [l0, l1, l2, l3, l4, l5, l6, l7] [.int s0] F L Q = Q (some (.int s0)) F L := wt_ireturn dX12_wishes_45 rfl rfl
set_option maxHeartbeats 100000 in
theorem kX12_wishes_46 {d : Nat} {F : am_FT} {L : am_LT} {Q : am_QT} {l1 l2 l4 l5 l6 l7 : Option Value} {x3 : Int32} : wt am_S0 (d + 1) mX12_wishes 46 [some (.ref 45), l1, l2, some (.int x3), l4, l5, l6, l7] [] F L Q = wc am_S0 d mX12_everybody [.ref 45] F L (fun r G K => wt am_S0 (d + 1) mX12_wishes 57 [some (.ref 45), l1, l2, some (.int x3), some (.int 0), some (.int (-2)), l6, l7] (r.toList ++ []) G K Q) := (wt_iconst dX12_wishes_46 (v := 0) (by decide)).trans ((wt_istore dX12_wishes_47 (lv1 := [some (.ref 45), l1, l2, some (.int x3), some (.int 0), l5, l6, l7]) (Nat.le_of_ble_eq_true rfl) rfl).trans ((wt_bipush dX12_wishes_49 (v := (-2)) (by decide)).trans ((wt_istore dX12_wishes_51 (lv1 := [some (.ref 45), l1, l2, some (.int x3), some (.int 0), some (.int (-2)), l6, l7]) (Nat.le_of_ble_eq_true rfl) rfl).trans ((wt_aload_n dX12_wishes_53 rfl rfl).trans (wt_callV dX12_wishes_54 rfl (as := []) (rest := []) rfl rfl (Nat.le_of_ble_eq_true rfl) rfl (Nat.le_of_ble_eq_true rfl))))))
set_option maxHeartbeats 100000 in
theorem kX12_wishes_57 {d : Nat} {F : am_FT} {L : am_LT} {Q : am_QT} {l0 l1 l2 l3 l4 l6 l7 : Option Value} {s0 x5 : Int32} : wt am_S0 d mX12_wishes 57 [l0, l1, l2, l3, l4, some (.int x5), l6, l7] [.int s0] F L Q = wt am_S0 d mX12_wishes 62 [l0, l1, l2, l3, l4, some (.int x5), some (.int s0), some (.int 0)] [] F L Q := (wt_istore dX12_wishes_57 (lv1 := [l0, l1, l2, l3, l4, some (.int x5), some (.int s0), l7]) (Nat.le_of_ble_eq_true rfl) rfl).trans ((wt_iconst dX12_wishes_59 (v := 0) (by decide)).trans (wt_istore dX12_wishes_60 (lv1 := [l0, l1, l2, l3, l4, some (.int x5), some (.int s0), some (.int 0)]) (Nat.le_of_ble_eq_true rfl) rfl))
set_option maxHeartbeats 100000 in
theorem kX12_wishes_62 {d : Nat} {F : am_FT} {L : am_LT} {Q : am_QT} {l1 l2 l3 l4 l5 l6 : Option Value} {x7 : Int32} : wt am_S0 (d + 1) mX12_wishes 62 [some (.ref 45), l1, l2, l3, l4, l5, l6, some (.int x7)] [] F L Q = wc am_S0 d mX12_everybody [.ref 45] F L (fun r G K => wt am_S0 (d + 1) mX12_wishes 68 [some (.ref 45), l1, l2, l3, l4, l5, l6, some (.int x7)] (r.toList ++ [.int x7]) G K Q) := (wt_iload dX12_wishes_62 rfl).trans ((wt_aload_n dX12_wishes_64 rfl rfl).trans (wt_callV dX12_wishes_65 rfl (as := []) (rest := [.int x7]) rfl rfl (Nat.le_of_ble_eq_true rfl) rfl (Nat.le_of_ble_eq_true rfl)))
set_option maxHeartbeats 100000 in
theorem kX12_wishes_68 {d : Nat} {F : am_FT} {L : am_LT} {Q : am_QT} {l0 l1 l2 l3 l4 l5 l6 l7 : Option Value} {s0 s1 : Int32} : wt am_S0 d mX12_wishes 68 [l0, l1, l2, l3, l4, l5, l6, l7] [.int s1, .int s0] F L Q = if s1 < s0 then wt am_S0 d mX12_wishes 114 [l0, l1, l2, l3, l4, l5, l6, l7] [] F L Q else wt am_S0 d mX12_wishes 71 [l0, l1, l2, l3, l4, l5, l6, l7] [] F L Q := wt_if_icmp_gt dX12_wishes_68 (t := 114) rfl
set_option maxHeartbeats 100000 in
theorem kX12_wishes_71 {d : Nat} {F : am_FT} {L : am_LT} {Q : am_QT} {l3 l4 l5 l6 : Option Value} {x1 x2 x7 : Int32} : wt am_S0 (d + 1) mX12_wishes 71 [some (.ref 45), some (.int x1), some (.int x2), l3, l4, l5, l6, some (.int x7)] [] F L Q = wc am_S0 d mX12_firstFalse [.ref 45, .int x1, .int x2, .int x7] F L (fun r G K => wt am_S0 (d + 1) mX12_wishes 79 [some (.ref 45), some (.int x1), some (.int x2), l3, l4, l5, l6, some (.int x7)] (r.toList ++ []) G K Q) := (wt_aload_n dX12_wishes_71 rfl rfl).trans ((wt_iload_n dX12_wishes_72 rfl).trans ((wt_iload_n dX12_wishes_73 rfl).trans ((wt_iload dX12_wishes_74 rfl).trans (wt_callV dX12_wishes_76 rfl (as := [.int x1, .int x2, .int x7]) (rest := []) rfl rfl (Nat.le_of_ble_eq_true rfl) rfl (Nat.le_of_ble_eq_true rfl)))))
set_option maxHeartbeats 100000 in
theorem kX12_wishes_79 {d : Nat} {F : am_FT} {L : am_LT} {Q : am_QT} {l0 l1 l2 l3 l4 l5 l6 l7 : Option Value} {s0 : Int32} : wt am_S0 d mX12_wishes 79 [l0, l1, l2, l3, l4, l5, l6, l7] [.int s0] F L Q = if ¬ s0 = (-2) then wt am_S0 d mX12_wishes 108 [l0, l1, l2, l3, l4, l5, l6, l7] [] F L Q else wt am_S0 d mX12_wishes 84 [l0, l1, l2, l3, l4, l5, l6, l7] [] F L Q := (wt_bipush dX12_wishes_79 (v := (-2)) (by decide)).trans (wt_if_icmp_ne dX12_wishes_81 (t := 108) rfl)
set_option maxHeartbeats 100000 in
theorem kX12_wishes_84 {d : Nat} {F : am_FT} {L : am_LT} {Q : am_QT} {l0 l1 l2 l3 l5 l6 l7 : Option Value} {x4 : Int32} : wt am_S0 d mX12_wishes 84 [l0, l1, l2, l3, some (.int x4), l5, l6, l7] [] F L Q = if ¬ x4 = 0 then wt am_S0 d mX12_wishes 94 [l0, l1, l2, l3, some (.int x4), l5, l6, l7] [] F L Q else wt am_S0 d mX12_wishes 89 [l0, l1, l2, l3, some (.int x4), l5, l6, l7] [] F L Q := (wt_iload dX12_wishes_84 rfl).trans (wt_ifCond_ne dX12_wishes_86 (t := 94) rfl)
set_option maxHeartbeats 100000 in
theorem kX12_wishes_89 {d : Nat} {F : am_FT} {L : am_LT} {Q : am_QT} {l0 l1 l2 l3 l4 l5 l6 : Option Value} {x7 : Int32} : wt am_S0 d mX12_wishes 89 [l0, l1, l2, l3, l4, l5, l6, some (.int x7)] [] F L Q = wt am_S0 d mX12_wishes 96 [l0, l1, l2, l3, l4, l5, l6, some (.int x7)] [.int x7] F L Q := (wt_iload dX12_wishes_89 rfl).trans (wt_goto dX12_wishes_91 (t := 96) rfl)
set_option maxHeartbeats 100000 in
theorem kX12_wishes_94 {d : Nat} {F : am_FT} {L : am_LT} {Q : am_QT} {l0 l1 l2 l3 l4 l6 l7 : Option Value} {x5 : Int32} : wt am_S0 d mX12_wishes 94 [l0, l1, l2, l3, l4, some (.int x5), l6, l7] [] F L Q = wt am_S0 d mX12_wishes 96 [l0, l1, l2, l3, l4, some (.int x5), l6, l7] [.int x5] F L Q := wt_iload dX12_wishes_94 rfl
set_option maxHeartbeats 100000 in
theorem kX12_wishes_96 {d : Nat} {F : am_FT} {L : am_LT} {Q : am_QT} {l0 l1 l2 l5 : Option Value} {s0 x4 x6 x7 x3 : Int32} : wt am_S0 d mX12_wishes 96 [l0, l1, l2, some (.int x3), some (.int x4), l5, some (.int x6), some (.int x7)] [.int s0] F L Q = wt am_S0 d mX12_wishes 108 [l0, l1, l2, some (.int x3), some (.int (x4 + 1)), some (.int s0), some (.int (x6 &&& x7)), some (.int x7)] [] F L Q := (wt_istore dX12_wishes_96 (lv1 := [l0, l1, l2, some (.int x3), some (.int x4), some (.int s0), some (.int x6), some (.int x7)]) (Nat.le_of_ble_eq_true rfl) rfl).trans ((wt_iload dX12_wishes_98 rfl).trans ((wt_iload dX12_wishes_100 rfl).trans ((wt_iand dX12_wishes_102).trans ((wt_istore dX12_wishes_103 (lv1 := [l0, l1, l2, some (.int x3), some (.int x4), some (.int s0), some (.int (x6 &&& x7)), some (.int x7)]) (Nat.le_of_ble_eq_true rfl) rfl).trans (wt_iinc dX12_wishes_105 (v := 1) (lv1 := [l0, l1, l2, some (.int x3), some (.int (x4 + 1)), some (.int s0), some (.int (x6 &&& x7)), some (.int x7)]) rfl (Nat.le_of_ble_eq_true rfl) (by decide) rfl)))))
set_option maxHeartbeats 100000 in
theorem kX12_wishes_108 {d : Nat} {F : am_FT} {L : am_LT} {Q : am_QT} {l0 l1 l2 l3 l4 l5 : Option Value} {x7 x6 : Int32} : wt am_S0 d mX12_wishes 108 [l0, l1, l2, l3, l4, l5, some (.int x6), some (.int x7)] [] F L Q = wt am_S0 d mX12_wishes 62 [l0, l1, l2, l3, l4, l5, some (.int x6), some (.int (x7 + 1))] [] F L Q := (wt_iinc dX12_wishes_108 (v := 1) (lv1 := [l0, l1, l2, l3, l4, l5, some (.int x6), some (.int (x7 + 1))]) rfl (Nat.le_of_ble_eq_true rfl) (by decide) rfl).trans (wt_goto dX12_wishes_111 (t := 62) rfl)
set_option maxHeartbeats 100000 in
theorem kX12_wishes_114 {d : Nat} {F : am_FT} {L : am_LT} {Q : am_QT} {l0 l1 l2 l4 l5 l6 l7 : Option Value} {x3 : Int32} : wt am_S0 d mX12_wishes 114 [l0, l1, l2, some (.int x3), l4, l5, l6, l7] [] F L Q = if ¬ x3 = 0 then wt am_S0 d mX12_wishes 123 [l0, l1, l2, some (.int x3), l4, l5, l6, l7] [] F L Q else wt am_S0 d mX12_wishes 118 [l0, l1, l2, some (.int x3), l4, l5, l6, l7] [] F L Q := (wt_iload_n dX12_wishes_114 rfl).trans (wt_ifCond_ne dX12_wishes_115 (t := 123) rfl)
set_option maxHeartbeats 100000 in
theorem kX12_wishes_118 {d : Nat} {F : am_FT} {L : am_LT} {Q : am_QT} {l0 l1 l2 l3 l5 l6 l7 : Option Value} {x4 : Int32} : wt am_S0 d mX12_wishes 118 [l0, l1, l2, l3, some (.int x4), l5, l6, l7] [] F L Q = wt am_S0 d mX12_wishes 144 [l0, l1, l2, l3, some (.int x4), l5, l6, l7] [.int x4] F L Q := (wt_iload dX12_wishes_118 rfl).trans (wt_goto dX12_wishes_120 (t := 144) rfl)
set_option maxHeartbeats 100000 in
theorem kX12_wishes_123 {d : Nat} {F : am_FT} {L : am_LT} {Q : am_QT} {l0 l1 l2 l4 l5 l6 l7 : Option Value} {x3 : Int32} : wt am_S0 d mX12_wishes 123 [l0, l1, l2, some (.int x3), l4, l5, l6, l7] [] F L Q = if ¬ x3 = 1 then wt am_S0 d mX12_wishes 133 [l0, l1, l2, some (.int x3), l4, l5, l6, l7] [] F L Q else wt am_S0 d mX12_wishes 128 [l0, l1, l2, some (.int x3), l4, l5, l6, l7] [] F L Q := (wt_iload_n dX12_wishes_123 rfl).trans ((wt_iconst dX12_wishes_124 (v := 1) (by decide)).trans (wt_if_icmp_ne dX12_wishes_125 (t := 133) rfl))
set_option maxHeartbeats 100000 in
theorem kX12_wishes_128 {d : Nat} {F : am_FT} {L : am_LT} {Q : am_QT} {l0 l1 l2 l3 l4 l6 l7 : Option Value} {x5 : Int32} : wt am_S0 d mX12_wishes 128 [l0, l1, l2, l3, l4, some (.int x5), l6, l7] [] F L Q = wt am_S0 d mX12_wishes 144 [l0, l1, l2, l3, l4, some (.int x5), l6, l7] [.int x5] F L Q := (wt_iload dX12_wishes_128 rfl).trans (wt_goto dX12_wishes_130 (t := 144) rfl)
set_option maxHeartbeats 100000 in
theorem kX12_wishes_133 {d : Nat} {F : am_FT} {L : am_LT} {Q : am_QT} {l0 l1 l2 l3 l5 l6 l7 : Option Value} {x4 : Int32} : wt am_S0 d mX12_wishes 133 [l0, l1, l2, l3, some (.int x4), l5, l6, l7] [] F L Q = if ¬ x4 = 0 then wt am_S0 d mX12_wishes 142 [l0, l1, l2, l3, some (.int x4), l5, l6, l7] [] F L Q else wt am_S0 d mX12_wishes 138 [l0, l1, l2, l3, some (.int x4), l5, l6, l7] [] F L Q := (wt_iload dX12_wishes_133 rfl).trans (wt_ifCond_ne dX12_wishes_135 (t := 142) rfl)
set_option maxHeartbeats 100000 in
theorem kX12_wishes_138 {d : Nat} {F : am_FT} {L : am_LT} {Q : am_QT} {l0 l1 l2 l3 l4 l5 l6 l7 : Option Value} : wt am_S0 d mX12_wishes 138 [l0, l1, l2, l3, l4, l5, l6, l7] [] F L Q = wt am_S0 d mX12_wishes 144 [l0, l1, l2, l3, l4, l5, l6, l7] [.int 0] F L Q := (wt_iconst dX12_wishes_138 (v := 0) (by decide)).trans (wt_goto dX12_wishes_139 (t := 144) rfl)
set_option maxHeartbeats 100000 in
theorem kX12_wishes_142 {d : Nat} {F : am_FT} {L : am_LT} {Q : am_QT} {l0 l1 l2 l3 l4 l5 l7 : Option Value} {x6 : Int32} : wt am_S0 d mX12_wishes 142 [l0, l1, l2, l3, l4, l5, some (.int x6), l7] [] F L Q = wt am_S0 d mX12_wishes 144 [l0, l1, l2, l3, l4, l5, some (.int x6), l7] [.int x6] F L Q := wt_iload dX12_wishes_142 rfl
set_option maxHeartbeats 100000 in
theorem kX12_wishes_144 {d : Nat} {F : am_FT} {L : am_LT} {Q : am_QT} {l0 l1 l2 l3 l4 l5 l6 l7 : Option Value} {s0 : Int32} : wt am_S0 d mX12_wishes 144 [l0, l1, l2, l3, l4, l5, l6, l7] [.int s0] F L Q = Q (some (.int s0)) F L := wt_ireturn dX12_wishes_144 rfl rfl
theorem dX12_save_0 : decode mX12_save.2.2.1 0 = .ok (.iload_n 1, 1) := by decide +kernel
theorem dX12_save_1 : decode mX12_save.2.2.1 1 = .ok (.ifCond .lt 37, 3) := by decide +kernel
theorem dX12_save_4 : decode mX12_save.2.2.1 4 = .ok (.aload_n 0, 1) := by decide +kernel
theorem dX12_save_5 : decode mX12_save.2.2.1 5 = .ok (.iload_n 1, 1) := by decide +kernel
theorem dX12_save_6 : decode mX12_save.2.2.1 6 = .ok (.bipush 100, 2) := by decide +kernel
theorem dX12_save_8 : decode mX12_save.2.2.1 8 = .ok (.idiv, 1) := by decide +kernel
theorem dX12_save_9 : decode mX12_save.2.2.1 9 = .ok (.i2l, 1) := by decide +kernel
theorem dX12_save_10 : decode mX12_save.2.2.1 10 = .ok (.invokevirtual 86, 3) := by decide +kernel
theorem dX12_save_13 : decode mX12_save.2.2.1 13 = .ok (.ifCond .eq 25, 3) := by decide +kernel
theorem dX12_save_16 : decode mX12_save.2.2.1 16 = .ok (.aload_n 0, 1) := by decide +kernel
theorem dX12_save_17 : decode mX12_save.2.2.1 17 = .ok (.iload_n 1, 1) := by decide +kernel
theorem dX12_save_18 : decode mX12_save.2.2.1 18 = .ok (.bipush 100, 2) := by decide +kernel
theorem dX12_save_20 : decode mX12_save.2.2.1 20 = .ok (.irem, 1) := by decide +kernel
theorem dX12_save_21 : decode mX12_save.2.2.1 21 = .ok (.i2l, 1) := by decide +kernel
theorem dX12_save_22 : decode mX12_save.2.2.1 22 = .ok (.invokevirtual 115, 3) := by decide +kernel
theorem dX12_save_25 : decode mX12_save.2.2.1 25 = .ok (.ifCond .eq 13, 3) := by decide +kernel
theorem dX12_save_28 : decode mX12_save.2.2.1 28 = .ok (.iload_n 2, 1) := by decide +kernel
theorem dX12_save_29 : decode mX12_save.2.2.1 29 = .ok (.i2l, 1) := by decide +kernel
theorem dX12_save_30 : decode mX12_save.2.2.1 30 = .ok (.lconst 0, 1) := by decide +kernel
theorem dX12_save_31 : decode mX12_save.2.2.1 31 = .ok (.lconst 1, 1) := by decide +kernel
theorem dX12_save_32 : decode mX12_save.2.2.1 32 = .ok (.invokestatic 75, 3) := by decide +kernel
theorem dX12_save_35 : decode mX12_save.2.2.1 35 = .ok (.ifCond .ne 5, 3) := by decide +kernel
theorem dX12_save_38 : decode mX12_save.2.2.1 38 = .ok (.iconst (-1), 1) := by decide +kernel
theorem dX12_save_39 : decode mX12_save.2.2.1 39 = .ok (.ireturn, 1) := by decide +kernel
theorem dX12_save_40 : decode mX12_save.2.2.1 40 = .ok (.bipush 30, 2) := by decide +kernel
theorem dX12_save_42 : decode mX12_save.2.2.1 42 = .ok (.iload_n 1, 1) := by decide +kernel
theorem dX12_save_43 : decode mX12_save.2.2.1 43 = .ok (.bipush 100, 2) := by decide +kernel
theorem dX12_save_45 : decode mX12_save.2.2.1 45 = .ok (.irem, 1) := by decide +kernel
theorem dX12_save_46 : decode mX12_save.2.2.1 46 = .ok (.iadd, 1) := by decide +kernel
theorem dX12_save_47 : decode mX12_save.2.2.1 47 = .ok (.istore_n 3, 1) := by decide +kernel
theorem dX12_save_48 : decode mX12_save.2.2.1 48 = .ok (.aload_n 0, 1) := by decide +kernel
theorem dX12_save_49 : decode mX12_save.2.2.1 49 = .ok (.getfield 9, 3) := by decide +kernel
theorem dX12_save_52 : decode mX12_save.2.2.1 52 = .ok (.iload_n 3, 1) := by decide +kernel
theorem dX12_save_53 : decode mX12_save.2.2.1 53 = .ok (.iaload, 1) := by decide +kernel
theorem dX12_save_54 : decode mX12_save.2.2.1 54 = .ok (.istore 4, 2) := by decide +kernel
theorem dX12_save_56 : decode mX12_save.2.2.1 56 = .ok (.iconst 0, 1) := by decide +kernel
theorem dX12_save_57 : decode mX12_save.2.2.1 57 = .ok (.istore 5, 2) := by decide +kernel
theorem dX12_save_59 : decode mX12_save.2.2.1 59 = .ok (.iconst (-1), 1) := by decide +kernel
theorem dX12_save_60 : decode mX12_save.2.2.1 60 = .ok (.istore 6, 2) := by decide +kernel
theorem dX12_save_62 : decode mX12_save.2.2.1 62 = .ok (.iconst 0, 1) := by decide +kernel
theorem dX12_save_63 : decode mX12_save.2.2.1 63 = .ok (.istore 7, 2) := by decide +kernel
theorem dX12_save_65 : decode mX12_save.2.2.1 65 = .ok (.iload 7, 2) := by decide +kernel
theorem dX12_save_67 : decode mX12_save.2.2.1 67 = .ok (.sipush 256, 3) := by decide +kernel
theorem dX12_save_70 : decode mX12_save.2.2.1 70 = .ok (.if_icmp .ge 59, 3) := by decide +kernel
theorem dX12_save_73 : decode mX12_save.2.2.1 73 = .ok (.aload_n 0, 1) := by decide +kernel
theorem dX12_save_74 : decode mX12_save.2.2.1 74 = .ok (.getfield 9, 3) := by decide +kernel
theorem dX12_save_77 : decode mX12_save.2.2.1 77 = .ok (.iload_n 3, 1) := by decide +kernel
theorem dX12_save_78 : decode mX12_save.2.2.1 78 = .ok (.iload 7, 2) := by decide +kernel
theorem dX12_save_80 : decode mX12_save.2.2.1 80 = .ok (.iastore, 1) := by decide +kernel
theorem dX12_save_81 : decode mX12_save.2.2.1 81 = .ok (.aload_n 0, 1) := by decide +kernel
theorem dX12_save_82 : decode mX12_save.2.2.1 82 = .ok (.iload_n 1, 1) := by decide +kernel
theorem dX12_save_83 : decode mX12_save.2.2.1 83 = .ok (.bipush 100, 2) := by decide +kernel
theorem dX12_save_85 : decode mX12_save.2.2.1 85 = .ok (.idiv, 1) := by decide +kernel
theorem dX12_save_86 : decode mX12_save.2.2.1 86 = .ok (.invokevirtual 257, 3) := by decide +kernel
theorem dX12_save_89 : decode mX12_save.2.2.1 89 = .ok (.istore 8, 2) := by decide +kernel
theorem dX12_save_91 : decode mX12_save.2.2.1 91 = .ok (.iload 8, 2) := by decide +kernel
theorem dX12_save_93 : decode mX12_save.2.2.1 93 = .ok (.iload 6, 2) := by decide +kernel
theorem dX12_save_95 : decode mX12_save.2.2.1 95 = .ok (.if_icmp .le 8, 3) := by decide +kernel
theorem dX12_save_98 : decode mX12_save.2.2.1 98 = .ok (.iload 7, 2) := by decide +kernel
theorem dX12_save_100 : decode mX12_save.2.2.1 100 = .ok (.goto 5, 3) := by decide +kernel
theorem dX12_save_103 : decode mX12_save.2.2.1 103 = .ok (.iload 5, 2) := by decide +kernel
theorem dX12_save_105 : decode mX12_save.2.2.1 105 = .ok (.istore 5, 2) := by decide +kernel
theorem dX12_save_107 : decode mX12_save.2.2.1 107 = .ok (.iload 8, 2) := by decide +kernel
theorem dX12_save_109 : decode mX12_save.2.2.1 109 = .ok (.iload 6, 2) := by decide +kernel
theorem dX12_save_111 : decode mX12_save.2.2.1 111 = .ok (.if_icmp .le 8, 3) := by decide +kernel
theorem dX12_save_114 : decode mX12_save.2.2.1 114 = .ok (.iload 8, 2) := by decide +kernel
theorem dX12_save_116 : decode mX12_save.2.2.1 116 = .ok (.goto 5, 3) := by decide +kernel
theorem dX12_save_119 : decode mX12_save.2.2.1 119 = .ok (.iload 6, 2) := by decide +kernel
theorem dX12_save_121 : decode mX12_save.2.2.1 121 = .ok (.istore 6, 2) := by decide +kernel
theorem dX12_save_123 : decode mX12_save.2.2.1 123 = .ok (.iinc 7 1, 3) := by decide +kernel
theorem dX12_save_126 : decode mX12_save.2.2.1 126 = .ok (.goto (-61), 3) := by decide +kernel
theorem dX12_save_129 : decode mX12_save.2.2.1 129 = .ok (.aload_n 0, 1) := by decide +kernel
theorem dX12_save_130 : decode mX12_save.2.2.1 130 = .ok (.getfield 9, 3) := by decide +kernel
theorem dX12_save_133 : decode mX12_save.2.2.1 133 = .ok (.iload_n 3, 1) := by decide +kernel
theorem dX12_save_134 : decode mX12_save.2.2.1 134 = .ok (.iload 4, 2) := by decide +kernel
theorem dX12_save_136 : decode mX12_save.2.2.1 136 = .ok (.iastore, 1) := by decide +kernel
theorem dX12_save_137 : decode mX12_save.2.2.1 137 = .ok (.iload_n 2, 1) := by decide +kernel
theorem dX12_save_138 : decode mX12_save.2.2.1 138 = .ok (.ifCond .ne 8, 3) := by decide +kernel
theorem dX12_save_141 : decode mX12_save.2.2.1 141 = .ok (.iload 5, 2) := by decide +kernel
theorem dX12_save_143 : decode mX12_save.2.2.1 143 = .ok (.goto 5, 3) := by decide +kernel
theorem dX12_save_146 : decode mX12_save.2.2.1 146 = .ok (.iload 6, 2) := by decide +kernel
theorem dX12_save_148 : decode mX12_save.2.2.1 148 = .ok (.ireturn, 1) := by decide +kernel
set_option maxHeartbeats 100000 in
theorem kX12_save_0 {d : Nat} {F : am_FT} {L : am_LT} {Q : am_QT} {l0 l2 l3 l4 l5 l6 l7 l8 : Option Value} {x1 : Int32} : wt am_S0 d mX12_save 0 [l0, some (.int x1), l2, l3, l4, l5, l6, l7, l8] [] F L Q = if x1 < 0 then wt am_S0 d mX12_save 38 [l0, some (.int x1), l2, l3, l4, l5, l6, l7, l8] [] F L Q else wt am_S0 d mX12_save 4 [l0, some (.int x1), l2, l3, l4, l5, l6, l7, l8] [] F L Q := (wt_iload_n dX12_save_0 rfl).trans (wt_ifCond_lt dX12_save_1 (t := 38) rfl)
set_option maxHeartbeats 100000 in
theorem kX12_save_4 {d : Nat} {F : am_FT} {L : am_LT} {Q : am_QT} {l2 l3 l4 l5 l6 l7 l8 : Option Value} {x1 : Int32} : wt am_S0 (d + 1) mX12_save 4 [some (.ref 45), some (.int x1), l2, l3, l4, l5, l6, l7, l8] [] F L Q = wc am_S0 d mX12_isTree [.ref 45, .long (Int32.toInt64 (x1 / 100))] F L (fun r G K => wt am_S0 (d + 1) mX12_save 13 [some (.ref 45), some (.int x1), l2, l3, l4, l5, l6, l7, l8] (r.toList ++ []) G K Q) := (wt_aload_n dX12_save_4 rfl rfl).trans ((wt_iload_n dX12_save_5 rfl).trans ((wt_bipush dX12_save_6 (v := 100) (by decide)).trans ((wt_idiv dX12_save_8 (by decide)).trans ((wt_i2l dX12_save_9).trans (wt_callV dX12_save_10 rfl (as := [.long (Int32.toInt64 (x1 / 100))]) (rest := []) rfl rfl (Nat.le_of_ble_eq_true rfl) rfl (Nat.le_of_ble_eq_true rfl))))))
set_option maxHeartbeats 100000 in
theorem kX12_save_13 {d : Nat} {F : am_FT} {L : am_LT} {Q : am_QT} {l0 l1 l2 l3 l4 l5 l6 l7 l8 : Option Value} {s0 : Int32} : wt am_S0 d mX12_save 13 [l0, l1, l2, l3, l4, l5, l6, l7, l8] [.int s0] F L Q = if s0 = 0 then wt am_S0 d mX12_save 38 [l0, l1, l2, l3, l4, l5, l6, l7, l8] [] F L Q else wt am_S0 d mX12_save 16 [l0, l1, l2, l3, l4, l5, l6, l7, l8] [] F L Q := wt_ifCond_eq dX12_save_13 (t := 38) rfl
set_option maxHeartbeats 100000 in
theorem kX12_save_16 {d : Nat} {F : am_FT} {L : am_LT} {Q : am_QT} {l2 l3 l4 l5 l6 l7 l8 : Option Value} {x1 : Int32} : wt am_S0 (d + 1) mX12_save 16 [some (.ref 45), some (.int x1), l2, l3, l4, l5, l6, l7, l8] [] F L Q = wc am_S0 d mX12_isOne [.ref 45, .long (Int32.toInt64 (x1 - x1 / 100 * 100))] F L (fun r G K => wt am_S0 (d + 1) mX12_save 25 [some (.ref 45), some (.int x1), l2, l3, l4, l5, l6, l7, l8] (r.toList ++ []) G K Q) := (wt_aload_n dX12_save_16 rfl rfl).trans ((wt_iload_n dX12_save_17 rfl).trans ((wt_bipush dX12_save_18 (v := 100) (by decide)).trans ((wt_irem dX12_save_20 (by decide)).trans ((wt_i2l dX12_save_21).trans (wt_callV dX12_save_22 rfl (as := [.long (Int32.toInt64 (x1 - x1 / 100 * 100))]) (rest := []) rfl rfl (Nat.le_of_ble_eq_true rfl) rfl (Nat.le_of_ble_eq_true rfl))))))
set_option maxHeartbeats 100000 in
theorem kX12_save_25 {d : Nat} {F : am_FT} {L : am_LT} {Q : am_QT} {l0 l1 l2 l3 l4 l5 l6 l7 l8 : Option Value} {s0 : Int32} : wt am_S0 d mX12_save 25 [l0, l1, l2, l3, l4, l5, l6, l7, l8] [.int s0] F L Q = if s0 = 0 then wt am_S0 d mX12_save 38 [l0, l1, l2, l3, l4, l5, l6, l7, l8] [] F L Q else wt am_S0 d mX12_save 28 [l0, l1, l2, l3, l4, l5, l6, l7, l8] [] F L Q := wt_ifCond_eq dX12_save_25 (t := 38) rfl
set_option maxHeartbeats 100000 in
theorem kX12_save_28 {d : Nat} {F : am_FT} {L : am_LT} {Q : am_QT} {l0 l1 l3 l4 l5 l6 l7 l8 : Option Value} {x2 : Int32} : wt am_S0 (d + 1) mX12_save 28 [l0, l1, some (.int x2), l3, l4, l5, l6, l7, l8] [] F L Q = wc am_S0 d mX12_within [.long (Int32.toInt64 x2), .long 0, .long 1] F L (fun r G K => wt am_S0 (d + 1) mX12_save 35 [l0, l1, some (.int x2), l3, l4, l5, l6, l7, l8] (r.toList ++ []) G K Q) := (wt_iload_n dX12_save_28 rfl).trans ((wt_i2l dX12_save_29).trans ((wt_lconst dX12_save_30 (v := 0) (by decide)).trans ((wt_lconst dX12_save_31 (v := 1) (by decide)).trans (wt_callS dX12_save_32 rfl (as := [.long (Int32.toInt64 x2), .long 0, .long 1]) (rest := []) rfl rfl (Nat.le_of_ble_eq_true rfl) (Nat.le_of_ble_eq_true rfl)))))
set_option maxHeartbeats 100000 in
theorem kX12_save_35 {d : Nat} {F : am_FT} {L : am_LT} {Q : am_QT} {l0 l1 l2 l3 l4 l5 l6 l7 l8 : Option Value} {s0 : Int32} : wt am_S0 d mX12_save 35 [l0, l1, l2, l3, l4, l5, l6, l7, l8] [.int s0] F L Q = if ¬ s0 = 0 then wt am_S0 d mX12_save 40 [l0, l1, l2, l3, l4, l5, l6, l7, l8] [] F L Q else wt am_S0 d mX12_save 38 [l0, l1, l2, l3, l4, l5, l6, l7, l8] [] F L Q := wt_ifCond_ne dX12_save_35 (t := 40) rfl
set_option maxHeartbeats 100000 in
theorem kX12_save_38 {d : Nat} {F : am_FT} {L : am_LT} {Q : am_QT} {l0 l1 l2 l3 l4 l5 l6 l7 l8 : Option Value} : wt am_S0 d mX12_save 38 [l0, l1, l2, l3, l4, l5, l6, l7, l8] [] F L Q = Q (some (.int (-1))) F L := (wt_iconst dX12_save_38 (v := (-1)) (by decide)).trans (wt_ireturn dX12_save_39 rfl rfl)
set_option maxHeartbeats 100000 in
theorem kX12_save_40 {d : Nat} {F : am_FT} {L : am_LT} {Q : am_QT} {l3 l4 l5 l6 l7 l8 : Option Value} {x1 x2 : Int32} (h1 : am_oob (30 + (x1 - x1 / 100 * 100)) 60 = false) : wt am_S0 d mX12_save 40 [some (.ref 45), some (.int x1), some (.int x2), l3, l4, l5, l6, l7, l8] [] F L Q = wt am_S0 d mX12_save 63 [some (.ref 45), some (.int x1), some (.int x2), some (.int (30 + (x1 - x1 / 100 * 100))), some (.int (F 46 (Int32.toNatClampNeg (30 + (x1 - x1 / 100 * 100))))), some (.int 0), some (.int (-1)), l7, l8] [.int 0] F L Q := (wt_bipush dX12_save_40 (v := 30) (by decide)).trans ((wt_iload_n dX12_save_42 rfl).trans ((wt_bipush dX12_save_43 (v := 100) (by decide)).trans ((wt_irem dX12_save_45 (by decide)).trans ((wt_iadd dX12_save_46).trans ((wt_istore_n dX12_save_47 (lv1 := [some (.ref 45), some (.int x1), some (.int x2), some (.int (30 + (x1 - x1 / 100 * 100))), l4, l5, l6, l7, l8]) (Nat.le_of_ble_eq_true rfl) rfl).trans ((wt_aload_n dX12_save_48 rfl rfl).trans ((wt_getfield dX12_save_49 rfl rfl (v := .ref 46) rfl).trans ((wt_iload_n dX12_save_52 rfl).trans ((wt_iaload dX12_save_53 rfl (by decide) h1).trans ((wt_istore dX12_save_54 (lv1 := [some (.ref 45), some (.int x1), some (.int x2), some (.int (30 + (x1 - x1 / 100 * 100))), some (.int (F 46 (Int32.toNatClampNeg (30 + (x1 - x1 / 100 * 100))))), l5, l6, l7, l8]) (Nat.le_of_ble_eq_true rfl) rfl).trans ((wt_iconst dX12_save_56 (v := 0) (by decide)).trans ((wt_istore dX12_save_57 (lv1 := [some (.ref 45), some (.int x1), some (.int x2), some (.int (30 + (x1 - x1 / 100 * 100))), some (.int (F 46 (Int32.toNatClampNeg (30 + (x1 - x1 / 100 * 100))))), some (.int 0), l6, l7, l8]) (Nat.le_of_ble_eq_true rfl) rfl).trans ((wt_iconst dX12_save_59 (v := (-1)) (by decide)).trans ((wt_istore dX12_save_60 (lv1 := [some (.ref 45), some (.int x1), some (.int x2), some (.int (30 + (x1 - x1 / 100 * 100))), some (.int (F 46 (Int32.toNatClampNeg (30 + (x1 - x1 / 100 * 100))))), some (.int 0), some (.int (-1)), l7, l8]) (Nat.le_of_ble_eq_true rfl) rfl).trans (wt_iconst dX12_save_62 (v := 0) (by decide))))))))))))))))
set_option maxHeartbeats 100000 in
theorem kX12_save_63 {d : Nat} {F : am_FT} {L : am_LT} {Q : am_QT} {l0 l1 l2 l3 l4 l5 l7 l8 : Option Value} {s0 x6 : Int32} : wt am_S0 d mX12_save 63 [l0, l1, l2, l3, l4, l5, some (.int x6), l7, l8] [.int s0] F L Q = wt am_S0 d mX12_save 65 [l0, l1, l2, l3, l4, l5, some (.int x6), some (.int s0), l8] [] F L Q := wt_istore dX12_save_63 (lv1 := [l0, l1, l2, l3, l4, l5, some (.int x6), some (.int s0), l8]) (Nat.le_of_ble_eq_true rfl) rfl
set_option maxHeartbeats 100000 in
theorem kX12_save_65 {d : Nat} {F : am_FT} {L : am_LT} {Q : am_QT} {l0 l1 l2 l3 l4 l5 l6 l8 : Option Value} {x7 : Int32} : wt am_S0 d mX12_save 65 [l0, l1, l2, l3, l4, l5, l6, some (.int x7), l8] [] F L Q = if 256 ≤ x7 then wt am_S0 d mX12_save 129 [l0, l1, l2, l3, l4, l5, l6, some (.int x7), l8] [] F L Q else wt am_S0 d mX12_save 73 [l0, l1, l2, l3, l4, l5, l6, some (.int x7), l8] [] F L Q := (wt_iload dX12_save_65 rfl).trans ((wt_sipush dX12_save_67 (v := 256) (by decide)).trans (wt_if_icmp_ge dX12_save_70 (t := 129) rfl))
set_option maxHeartbeats 100000 in
theorem kX12_save_73 {d : Nat} {F : am_FT} {L : am_LT} {Q : am_QT} {l2 l4 l5 l6 l8 : Option Value} {x3 x7 x1 : Int32} (h1 : am_oob x3 60 = false) : wt am_S0 (d + 1) mX12_save 73 [some (.ref 45), some (.int x1), l2, some (.int x3), l4, l5, l6, some (.int x7), l8] [] F L Q = wc am_S0 d mX12_standsIn [.ref 45, .int (x1 / 100)] (am_upF F 46 (Int32.toNatClampNeg x3) x7) L (fun r G K => wt am_S0 (d + 1) mX12_save 89 [some (.ref 45), some (.int x1), l2, some (.int x3), l4, l5, l6, some (.int x7), l8] (r.toList ++ []) G K Q) := (wt_aload_n dX12_save_73 rfl rfl).trans ((wt_getfield dX12_save_74 rfl rfl (v := .ref 46) rfl).trans ((wt_iload_n dX12_save_77 rfl).trans ((wt_iload dX12_save_78 rfl).trans ((wt_iastore dX12_save_80 rfl h1).trans ((wt_aload_n dX12_save_81 rfl rfl).trans ((wt_iload_n dX12_save_82 rfl).trans ((wt_bipush dX12_save_83 (v := 100) (by decide)).trans ((wt_idiv dX12_save_85 (by decide)).trans (wt_callV dX12_save_86 rfl (as := [.int (x1 / 100)]) (rest := []) rfl rfl (Nat.le_of_ble_eq_true rfl) rfl (Nat.le_of_ble_eq_true rfl))))))))))
set_option maxHeartbeats 100000 in
theorem kX12_save_89 {d : Nat} {F : am_FT} {L : am_LT} {Q : am_QT} {l0 l1 l2 l3 l4 l5 l8 : Option Value} {s0 x7 x6 : Int32} : wt am_S0 d mX12_save 89 [l0, l1, l2, l3, l4, l5, some (.int x6), some (.int x7), l8] [.int s0] F L Q = if s0 ≤ x6 then wt am_S0 d mX12_save 103 [l0, l1, l2, l3, l4, l5, some (.int x6), some (.int x7), some (.int s0)] [] F L Q else wt am_S0 d mX12_save 98 [l0, l1, l2, l3, l4, l5, some (.int x6), some (.int x7), some (.int s0)] [] F L Q := (wt_istore dX12_save_89 (lv1 := [l0, l1, l2, l3, l4, l5, some (.int x6), some (.int x7), some (.int s0)]) (Nat.le_of_ble_eq_true rfl) rfl).trans ((wt_iload dX12_save_91 rfl).trans ((wt_iload dX12_save_93 rfl).trans (wt_if_icmp_le dX12_save_95 (t := 103) rfl)))
set_option maxHeartbeats 100000 in
theorem kX12_save_98 {d : Nat} {F : am_FT} {L : am_LT} {Q : am_QT} {l0 l1 l2 l3 l4 l5 l6 l8 : Option Value} {x7 : Int32} : wt am_S0 d mX12_save 98 [l0, l1, l2, l3, l4, l5, l6, some (.int x7), l8] [] F L Q = wt am_S0 d mX12_save 105 [l0, l1, l2, l3, l4, l5, l6, some (.int x7), l8] [.int x7] F L Q := (wt_iload dX12_save_98 rfl).trans (wt_goto dX12_save_100 (t := 105) rfl)
set_option maxHeartbeats 100000 in
theorem kX12_save_103 {d : Nat} {F : am_FT} {L : am_LT} {Q : am_QT} {l0 l1 l2 l3 l4 l6 l7 l8 : Option Value} {x5 : Int32} : wt am_S0 d mX12_save 103 [l0, l1, l2, l3, l4, some (.int x5), l6, l7, l8] [] F L Q = wt am_S0 d mX12_save 105 [l0, l1, l2, l3, l4, some (.int x5), l6, l7, l8] [.int x5] F L Q := wt_iload dX12_save_103 rfl
set_option maxHeartbeats 100000 in
theorem kX12_save_105 {d : Nat} {F : am_FT} {L : am_LT} {Q : am_QT} {l0 l1 l2 l3 l5 l7 : Option Value} {s0 x4 x8 x6 : Int32} : wt am_S0 d mX12_save 105 [l0, l1, l2, l3, some (.int x4), l5, some (.int x6), l7, some (.int x8)] [.int s0] F L Q = if x8 ≤ x6 then wt am_S0 d mX12_save 119 [l0, l1, l2, l3, some (.int x4), some (.int s0), some (.int x6), l7, some (.int x8)] [] F L Q else wt am_S0 d mX12_save 114 [l0, l1, l2, l3, some (.int x4), some (.int s0), some (.int x6), l7, some (.int x8)] [] F L Q := (wt_istore dX12_save_105 (lv1 := [l0, l1, l2, l3, some (.int x4), some (.int s0), some (.int x6), l7, some (.int x8)]) (Nat.le_of_ble_eq_true rfl) rfl).trans ((wt_iload dX12_save_107 rfl).trans ((wt_iload dX12_save_109 rfl).trans (wt_if_icmp_le dX12_save_111 (t := 119) rfl)))
set_option maxHeartbeats 100000 in
theorem kX12_save_114 {d : Nat} {F : am_FT} {L : am_LT} {Q : am_QT} {l0 l1 l2 l3 l4 l5 l6 l7 : Option Value} {x8 : Int32} : wt am_S0 d mX12_save 114 [l0, l1, l2, l3, l4, l5, l6, l7, some (.int x8)] [] F L Q = wt am_S0 d mX12_save 121 [l0, l1, l2, l3, l4, l5, l6, l7, some (.int x8)] [.int x8] F L Q := (wt_iload dX12_save_114 rfl).trans (wt_goto dX12_save_116 (t := 121) rfl)
set_option maxHeartbeats 100000 in
theorem kX12_save_119 {d : Nat} {F : am_FT} {L : am_LT} {Q : am_QT} {l0 l1 l2 l3 l4 l5 l7 l8 : Option Value} {x6 : Int32} : wt am_S0 d mX12_save 119 [l0, l1, l2, l3, l4, l5, some (.int x6), l7, l8] [] F L Q = wt am_S0 d mX12_save 121 [l0, l1, l2, l3, l4, l5, some (.int x6), l7, l8] [.int x6] F L Q := wt_iload dX12_save_119 rfl
set_option maxHeartbeats 100000 in
theorem kX12_save_121 {d : Nat} {F : am_FT} {L : am_LT} {Q : am_QT} {l0 l1 l2 l3 l4 l6 l8 : Option Value} {s0 x5 x7 : Int32} : wt am_S0 d mX12_save 121 [l0, l1, l2, l3, l4, some (.int x5), l6, some (.int x7), l8] [.int s0] F L Q = wt am_S0 d mX12_save 65 [l0, l1, l2, l3, l4, some (.int x5), some (.int s0), some (.int (x7 + 1)), l8] [] F L Q := (wt_istore dX12_save_121 (lv1 := [l0, l1, l2, l3, l4, some (.int x5), some (.int s0), some (.int x7), l8]) (Nat.le_of_ble_eq_true rfl) rfl).trans ((wt_iinc dX12_save_123 (v := 1) (lv1 := [l0, l1, l2, l3, l4, some (.int x5), some (.int s0), some (.int (x7 + 1)), l8]) rfl (Nat.le_of_ble_eq_true rfl) (by decide) rfl).trans (wt_goto dX12_save_126 (t := 65) rfl))
set_option maxHeartbeats 100000 in
theorem kX12_save_129 {d : Nat} {F : am_FT} {L : am_LT} {Q : am_QT} {l1 l5 l6 l7 l8 : Option Value} {x3 x4 x2 : Int32} (h1 : am_oob x3 60 = false) : wt am_S0 d mX12_save 129 [some (.ref 45), l1, some (.int x2), some (.int x3), some (.int x4), l5, l6, l7, l8] [] F L Q = if ¬ x2 = 0 then wt am_S0 d mX12_save 146 [some (.ref 45), l1, some (.int x2), some (.int x3), some (.int x4), l5, l6, l7, l8] [] (am_upF F 46 (Int32.toNatClampNeg x3) x4) L Q else wt am_S0 d mX12_save 141 [some (.ref 45), l1, some (.int x2), some (.int x3), some (.int x4), l5, l6, l7, l8] [] (am_upF F 46 (Int32.toNatClampNeg x3) x4) L Q := (wt_aload_n dX12_save_129 rfl rfl).trans ((wt_getfield dX12_save_130 rfl rfl (v := .ref 46) rfl).trans ((wt_iload_n dX12_save_133 rfl).trans ((wt_iload dX12_save_134 rfl).trans ((wt_iastore dX12_save_136 rfl h1).trans ((wt_iload_n dX12_save_137 rfl).trans (wt_ifCond_ne dX12_save_138 (t := 146) rfl))))))
set_option maxHeartbeats 100000 in
theorem kX12_save_141 {d : Nat} {F : am_FT} {L : am_LT} {Q : am_QT} {l0 l1 l2 l3 l4 l6 l7 l8 : Option Value} {x5 : Int32} : wt am_S0 d mX12_save 141 [l0, l1, l2, l3, l4, some (.int x5), l6, l7, l8] [] F L Q = wt am_S0 d mX12_save 148 [l0, l1, l2, l3, l4, some (.int x5), l6, l7, l8] [.int x5] F L Q := (wt_iload dX12_save_141 rfl).trans (wt_goto dX12_save_143 (t := 148) rfl)
set_option maxHeartbeats 100000 in
theorem kX12_save_146 {d : Nat} {F : am_FT} {L : am_LT} {Q : am_QT} {l0 l1 l2 l3 l4 l5 l7 l8 : Option Value} {x6 : Int32} : wt am_S0 d mX12_save 146 [l0, l1, l2, l3, l4, l5, some (.int x6), l7, l8] [] F L Q = wt am_S0 d mX12_save 148 [l0, l1, l2, l3, l4, l5, some (.int x6), l7, l8] [.int x6] F L Q := wt_iload dX12_save_146 rfl
set_option maxHeartbeats 100000 in
theorem kX12_save_148 {d : Nat} {F : am_FT} {L : am_LT} {Q : am_QT} {l0 l1 l2 l3 l4 l5 l6 l7 l8 : Option Value} {s0 : Int32} : wt am_S0 d mX12_save 148 [l0, l1, l2, l3, l4, l5, l6, l7, l8] [.int s0] F L Q = Q (some (.int s0)) F L := wt_ireturn dX12_save_148 rfl rfl
theorem dX12_standsIn_0 : decode mX12_standsIn.2.2.1 0 = .ok (.iconst 0, 1) := by decide +kernel
theorem dX12_standsIn_1 : decode mX12_standsIn.2.2.1 1 = .ok (.istore_n 2, 1) := by decide +kernel
theorem dX12_standsIn_2 : decode mX12_standsIn.2.2.1 2 = .ok (.iconst 0, 1) := by decide +kernel
theorem dX12_standsIn_3 : decode mX12_standsIn.2.2.1 3 = .ok (.istore_n 3, 1) := by decide +kernel
theorem dX12_standsIn_4 : decode mX12_standsIn.2.2.1 4 = .ok (.iload_n 3, 1) := by decide +kernel
theorem dX12_standsIn_5 : decode mX12_standsIn.2.2.1 5 = .ok (.bipush 12, 2) := by decide +kernel
theorem dX12_standsIn_7 : decode mX12_standsIn.2.2.1 7 = .ok (.if_icmp .ge 26, 3) := by decide +kernel
theorem dX12_standsIn_10 : decode mX12_standsIn.2.2.1 10 = .ok (.iload_n 2, 1) := by decide +kernel
theorem dX12_standsIn_11 : decode mX12_standsIn.2.2.1 11 = .ok (.aload_n 0, 1) := by decide +kernel
theorem dX12_standsIn_12 : decode mX12_standsIn.2.2.1 12 = .ok (.iload_n 1, 1) := by decide +kernel
theorem dX12_standsIn_13 : decode mX12_standsIn.2.2.1 13 = .ok (.iload_n 3, 1) := by decide +kernel
theorem dX12_standsIn_14 : decode mX12_standsIn.2.2.1 14 = .ok (.invokevirtual 218, 3) := by decide +kernel
theorem dX12_standsIn_17 : decode mX12_standsIn.2.2.1 17 = .ok (.ifCond .eq 7, 3) := by decide +kernel
theorem dX12_standsIn_20 : decode mX12_standsIn.2.2.1 20 = .ok (.iconst 0, 1) := by decide +kernel
theorem dX12_standsIn_21 : decode mX12_standsIn.2.2.1 21 = .ok (.goto 4, 3) := by decide +kernel
theorem dX12_standsIn_24 : decode mX12_standsIn.2.2.1 24 = .ok (.iconst 1, 1) := by decide +kernel
theorem dX12_standsIn_25 : decode mX12_standsIn.2.2.1 25 = .ok (.iadd, 1) := by decide +kernel
theorem dX12_standsIn_26 : decode mX12_standsIn.2.2.1 26 = .ok (.istore_n 2, 1) := by decide +kernel
theorem dX12_standsIn_27 : decode mX12_standsIn.2.2.1 27 = .ok (.iinc 3 1, 3) := by decide +kernel
theorem dX12_standsIn_30 : decode mX12_standsIn.2.2.1 30 = .ok (.goto (-26), 3) := by decide +kernel
theorem dX12_standsIn_33 : decode mX12_standsIn.2.2.1 33 = .ok (.iload_n 2, 1) := by decide +kernel
theorem dX12_standsIn_34 : decode mX12_standsIn.2.2.1 34 = .ok (.ireturn, 1) := by decide +kernel
set_option maxHeartbeats 100000 in
theorem kX12_standsIn_0 {d : Nat} {F : am_FT} {L : am_LT} {Q : am_QT} {l0 l2 l3 : Option Value} {x1 : Int32} : wt am_S0 d mX12_standsIn 0 [l0, some (.int x1), l2, l3] [] F L Q = wt am_S0 d mX12_standsIn 4 [l0, some (.int x1), some (.int 0), some (.int 0)] [] F L Q := (wt_iconst dX12_standsIn_0 (v := 0) (by decide)).trans ((wt_istore_n dX12_standsIn_1 (lv1 := [l0, some (.int x1), some (.int 0), l3]) (Nat.le_of_ble_eq_true rfl) rfl).trans ((wt_iconst dX12_standsIn_2 (v := 0) (by decide)).trans (wt_istore_n dX12_standsIn_3 (lv1 := [l0, some (.int x1), some (.int 0), some (.int 0)]) (Nat.le_of_ble_eq_true rfl) rfl)))
set_option maxHeartbeats 100000 in
theorem kX12_standsIn_4 {d : Nat} {F : am_FT} {L : am_LT} {Q : am_QT} {l0 l1 l2 : Option Value} {x3 : Int32} : wt am_S0 d mX12_standsIn 4 [l0, l1, l2, some (.int x3)] [] F L Q = if 12 ≤ x3 then wt am_S0 d mX12_standsIn 33 [l0, l1, l2, some (.int x3)] [] F L Q else wt am_S0 d mX12_standsIn 10 [l0, l1, l2, some (.int x3)] [] F L Q := (wt_iload_n dX12_standsIn_4 rfl).trans ((wt_bipush dX12_standsIn_5 (v := 12) (by decide)).trans (wt_if_icmp_ge dX12_standsIn_7 (t := 33) rfl))
set_option maxHeartbeats 100000 in
theorem kX12_standsIn_10 {d : Nat} {F : am_FT} {L : am_LT} {Q : am_QT} {x2 x1 x3 : Int32} : wt am_S0 (d + 1) mX12_standsIn 10 [some (.ref 45), some (.int x1), some (.int x2), some (.int x3)] [] F L Q = wc am_S0 d mX12_fallsNow [.ref 45, .int x1, .int x3] F L (fun r G K => wt am_S0 (d + 1) mX12_standsIn 17 [some (.ref 45), some (.int x1), some (.int x2), some (.int x3)] (r.toList ++ [.int x2]) G K Q) := (wt_iload_n dX12_standsIn_10 rfl).trans ((wt_aload_n dX12_standsIn_11 rfl rfl).trans ((wt_iload_n dX12_standsIn_12 rfl).trans ((wt_iload_n dX12_standsIn_13 rfl).trans (wt_callV dX12_standsIn_14 rfl (as := [.int x1, .int x3]) (rest := [.int x2]) rfl rfl (Nat.le_of_ble_eq_true rfl) rfl (Nat.le_of_ble_eq_true rfl)))))
set_option maxHeartbeats 100000 in
theorem kX12_standsIn_17 {d : Nat} {F : am_FT} {L : am_LT} {Q : am_QT} {l0 l1 l2 l3 : Option Value} {s0 s1 : Int32} : wt am_S0 d mX12_standsIn 17 [l0, l1, l2, l3] [.int s1, .int s0] F L Q = if s1 = 0 then wt am_S0 d mX12_standsIn 24 [l0, l1, l2, l3] [.int s0] F L Q else wt am_S0 d mX12_standsIn 20 [l0, l1, l2, l3] [.int s0] F L Q := wt_ifCond_eq dX12_standsIn_17 (t := 24) rfl
set_option maxHeartbeats 100000 in
theorem kX12_standsIn_20 {d : Nat} {F : am_FT} {L : am_LT} {Q : am_QT} {l0 l1 l2 l3 : Option Value} {s0 : Int32} : wt am_S0 d mX12_standsIn 20 [l0, l1, l2, l3] [.int s0] F L Q = wt am_S0 d mX12_standsIn 25 [l0, l1, l2, l3] [.int 0, .int s0] F L Q := (wt_iconst dX12_standsIn_20 (v := 0) (by decide)).trans (wt_goto dX12_standsIn_21 (t := 25) rfl)
set_option maxHeartbeats 100000 in
theorem kX12_standsIn_24 {d : Nat} {F : am_FT} {L : am_LT} {Q : am_QT} {l0 l1 l2 l3 : Option Value} {s0 : Int32} : wt am_S0 d mX12_standsIn 24 [l0, l1, l2, l3] [.int s0] F L Q = wt am_S0 d mX12_standsIn 25 [l0, l1, l2, l3] [.int 1, .int s0] F L Q := wt_iconst dX12_standsIn_24 (v := 1) (by decide)
set_option maxHeartbeats 100000 in
theorem kX12_standsIn_25 {d : Nat} {F : am_FT} {L : am_LT} {Q : am_QT} {l0 l2 : Option Value} {s0 s1 x1 x3 : Int32} : wt am_S0 d mX12_standsIn 25 [l0, some (.int x1), l2, some (.int x3)] [.int s1, .int s0] F L Q = wt am_S0 d mX12_standsIn 4 [l0, some (.int x1), some (.int (s0 + s1)), some (.int (x3 + 1))] [] F L Q := (wt_iadd dX12_standsIn_25).trans ((wt_istore_n dX12_standsIn_26 (lv1 := [l0, some (.int x1), some (.int (s0 + s1)), some (.int x3)]) (Nat.le_of_ble_eq_true rfl) rfl).trans ((wt_iinc dX12_standsIn_27 (v := 1) (lv1 := [l0, some (.int x1), some (.int (s0 + s1)), some (.int (x3 + 1))]) rfl (Nat.le_of_ble_eq_true rfl) (by decide) rfl).trans (wt_goto dX12_standsIn_30 (t := 4) rfl)))
set_option maxHeartbeats 100000 in
theorem kX12_standsIn_33 {d : Nat} {F : am_FT} {L : am_LT} {Q : am_QT} {l0 l1 l3 : Option Value} {x2 : Int32} : wt am_S0 d mX12_standsIn 33 [l0, l1, some (.int x2), l3] [] F L Q = Q (some (.int x2)) F L := (wt_iload_n dX12_standsIn_33 rfl).trans (wt_ireturn dX12_standsIn_34 rfl rfl)
theorem dX12_alike_0 : decode mX12_alike.2.2.1 0 = .ok (.iload_n 1, 1) := by decide +kernel
theorem dX12_alike_1 : decode mX12_alike.2.2.1 1 = .ok (.ifCond .lt 35, 3) := by decide +kernel
theorem dX12_alike_4 : decode mX12_alike.2.2.1 4 = .ok (.aload_n 0, 1) := by decide +kernel
theorem dX12_alike_5 : decode mX12_alike.2.2.1 5 = .ok (.iload_n 1, 1) := by decide +kernel
theorem dX12_alike_6 : decode mX12_alike.2.2.1 6 = .ok (.bipush 10, 2) := by decide +kernel
theorem dX12_alike_8 : decode mX12_alike.2.2.1 8 = .ok (.idiv, 1) := by decide +kernel
theorem dX12_alike_9 : decode mX12_alike.2.2.1 9 = .ok (.i2l, 1) := by decide +kernel
theorem dX12_alike_10 : decode mX12_alike.2.2.1 10 = .ok (.invokevirtual 86, 3) := by decide +kernel
theorem dX12_alike_13 : decode mX12_alike.2.2.1 13 = .ok (.ifCond .eq 23, 3) := by decide +kernel
theorem dX12_alike_16 : decode mX12_alike.2.2.1 16 = .ok (.aload_n 0, 1) := by decide +kernel
theorem dX12_alike_17 : decode mX12_alike.2.2.1 17 = .ok (.iload_n 1, 1) := by decide +kernel
theorem dX12_alike_18 : decode mX12_alike.2.2.1 18 = .ok (.bipush 10, 2) := by decide +kernel
theorem dX12_alike_20 : decode mX12_alike.2.2.1 20 = .ok (.irem, 1) := by decide +kernel
theorem dX12_alike_21 : decode mX12_alike.2.2.1 21 = .ok (.i2l, 1) := by decide +kernel
theorem dX12_alike_22 : decode mX12_alike.2.2.1 22 = .ok (.invokevirtual 86, 3) := by decide +kernel
theorem dX12_alike_25 : decode mX12_alike.2.2.1 25 = .ok (.ifCond .eq 11, 3) := by decide +kernel
theorem dX12_alike_28 : decode mX12_alike.2.2.1 28 = .ok (.iload_n 2, 1) := by decide +kernel
theorem dX12_alike_29 : decode mX12_alike.2.2.1 29 = .ok (.i2l, 1) := by decide +kernel
theorem dX12_alike_30 : decode mX12_alike.2.2.1 30 = .ok (.invokestatic 90, 3) := by decide +kernel
theorem dX12_alike_33 : decode mX12_alike.2.2.1 33 = .ok (.ifCond .ne 5, 3) := by decide +kernel
theorem dX12_alike_36 : decode mX12_alike.2.2.1 36 = .ok (.iconst (-1), 1) := by decide +kernel
theorem dX12_alike_37 : decode mX12_alike.2.2.1 37 = .ok (.ireturn, 1) := by decide +kernel
theorem dX12_alike_38 : decode mX12_alike.2.2.1 38 = .ok (.iconst 0, 1) := by decide +kernel
theorem dX12_alike_39 : decode mX12_alike.2.2.1 39 = .ok (.istore_n 3, 1) := by decide +kernel
theorem dX12_alike_40 : decode mX12_alike.2.2.1 40 = .ok (.iload_n 3, 1) := by decide +kernel
theorem dX12_alike_41 : decode mX12_alike.2.2.1 41 = .ok (.sipush 256, 3) := by decide +kernel
theorem dX12_alike_44 : decode mX12_alike.2.2.1 44 = .ok (.if_icmp .ge 34, 3) := by decide +kernel
theorem dX12_alike_47 : decode mX12_alike.2.2.1 47 = .ok (.aload_n 0, 1) := by decide +kernel
theorem dX12_alike_48 : decode mX12_alike.2.2.1 48 = .ok (.iload_n 1, 1) := by decide +kernel
theorem dX12_alike_49 : decode mX12_alike.2.2.1 49 = .ok (.bipush 10, 2) := by decide +kernel
theorem dX12_alike_51 : decode mX12_alike.2.2.1 51 = .ok (.idiv, 1) := by decide +kernel
theorem dX12_alike_52 : decode mX12_alike.2.2.1 52 = .ok (.iload_n 2, 1) := by decide +kernel
theorem dX12_alike_53 : decode mX12_alike.2.2.1 53 = .ok (.iload_n 3, 1) := by decide +kernel
theorem dX12_alike_54 : decode mX12_alike.2.2.1 54 = .ok (.invokevirtual 221, 3) := by decide +kernel
theorem dX12_alike_57 : decode mX12_alike.2.2.1 57 = .ok (.aload_n 0, 1) := by decide +kernel
theorem dX12_alike_58 : decode mX12_alike.2.2.1 58 = .ok (.iload_n 1, 1) := by decide +kernel
theorem dX12_alike_59 : decode mX12_alike.2.2.1 59 = .ok (.bipush 10, 2) := by decide +kernel
theorem dX12_alike_61 : decode mX12_alike.2.2.1 61 = .ok (.irem, 1) := by decide +kernel
theorem dX12_alike_62 : decode mX12_alike.2.2.1 62 = .ok (.iload_n 2, 1) := by decide +kernel
theorem dX12_alike_63 : decode mX12_alike.2.2.1 63 = .ok (.iload_n 3, 1) := by decide +kernel
theorem dX12_alike_64 : decode mX12_alike.2.2.1 64 = .ok (.invokevirtual 221, 3) := by decide +kernel
theorem dX12_alike_67 : decode mX12_alike.2.2.1 67 = .ok (.if_icmp .eq 5, 3) := by decide +kernel
theorem dX12_alike_70 : decode mX12_alike.2.2.1 70 = .ok (.iconst 0, 1) := by decide +kernel
theorem dX12_alike_71 : decode mX12_alike.2.2.1 71 = .ok (.ireturn, 1) := by decide +kernel
theorem dX12_alike_72 : decode mX12_alike.2.2.1 72 = .ok (.iinc 3 1, 3) := by decide +kernel
theorem dX12_alike_75 : decode mX12_alike.2.2.1 75 = .ok (.goto (-35), 3) := by decide +kernel
theorem dX12_alike_78 : decode mX12_alike.2.2.1 78 = .ok (.iconst 1, 1) := by decide +kernel
theorem dX12_alike_79 : decode mX12_alike.2.2.1 79 = .ok (.ireturn, 1) := by decide +kernel
set_option maxHeartbeats 100000 in
theorem kX12_alike_0 {d : Nat} {F : am_FT} {L : am_LT} {Q : am_QT} {l0 l2 l3 : Option Value} {x1 : Int32} : wt am_S0 d mX12_alike 0 [l0, some (.int x1), l2, l3] [] F L Q = if x1 < 0 then wt am_S0 d mX12_alike 36 [l0, some (.int x1), l2, l3] [] F L Q else wt am_S0 d mX12_alike 4 [l0, some (.int x1), l2, l3] [] F L Q := (wt_iload_n dX12_alike_0 rfl).trans (wt_ifCond_lt dX12_alike_1 (t := 36) rfl)
set_option maxHeartbeats 100000 in
theorem kX12_alike_4 {d : Nat} {F : am_FT} {L : am_LT} {Q : am_QT} {l2 l3 : Option Value} {x1 : Int32} : wt am_S0 (d + 1) mX12_alike 4 [some (.ref 45), some (.int x1), l2, l3] [] F L Q = wc am_S0 d mX12_isTree [.ref 45, .long (Int32.toInt64 (x1 / 10))] F L (fun r G K => wt am_S0 (d + 1) mX12_alike 13 [some (.ref 45), some (.int x1), l2, l3] (r.toList ++ []) G K Q) := (wt_aload_n dX12_alike_4 rfl rfl).trans ((wt_iload_n dX12_alike_5 rfl).trans ((wt_bipush dX12_alike_6 (v := 10) (by decide)).trans ((wt_idiv dX12_alike_8 (by decide)).trans ((wt_i2l dX12_alike_9).trans (wt_callV dX12_alike_10 rfl (as := [.long (Int32.toInt64 (x1 / 10))]) (rest := []) rfl rfl (Nat.le_of_ble_eq_true rfl) rfl (Nat.le_of_ble_eq_true rfl))))))
set_option maxHeartbeats 100000 in
theorem kX12_alike_13 {d : Nat} {F : am_FT} {L : am_LT} {Q : am_QT} {l0 l1 l2 l3 : Option Value} {s0 : Int32} : wt am_S0 d mX12_alike 13 [l0, l1, l2, l3] [.int s0] F L Q = if s0 = 0 then wt am_S0 d mX12_alike 36 [l0, l1, l2, l3] [] F L Q else wt am_S0 d mX12_alike 16 [l0, l1, l2, l3] [] F L Q := wt_ifCond_eq dX12_alike_13 (t := 36) rfl
set_option maxHeartbeats 100000 in
theorem kX12_alike_16 {d : Nat} {F : am_FT} {L : am_LT} {Q : am_QT} {l2 l3 : Option Value} {x1 : Int32} : wt am_S0 (d + 1) mX12_alike 16 [some (.ref 45), some (.int x1), l2, l3] [] F L Q = wc am_S0 d mX12_isTree [.ref 45, .long (Int32.toInt64 (x1 - x1 / 10 * 10))] F L (fun r G K => wt am_S0 (d + 1) mX12_alike 25 [some (.ref 45), some (.int x1), l2, l3] (r.toList ++ []) G K Q) := (wt_aload_n dX12_alike_16 rfl rfl).trans ((wt_iload_n dX12_alike_17 rfl).trans ((wt_bipush dX12_alike_18 (v := 10) (by decide)).trans ((wt_irem dX12_alike_20 (by decide)).trans ((wt_i2l dX12_alike_21).trans (wt_callV dX12_alike_22 rfl (as := [.long (Int32.toInt64 (x1 - x1 / 10 * 10))]) (rest := []) rfl rfl (Nat.le_of_ble_eq_true rfl) rfl (Nat.le_of_ble_eq_true rfl))))))
set_option maxHeartbeats 100000 in
theorem kX12_alike_25 {d : Nat} {F : am_FT} {L : am_LT} {Q : am_QT} {l0 l1 l2 l3 : Option Value} {s0 : Int32} : wt am_S0 d mX12_alike 25 [l0, l1, l2, l3] [.int s0] F L Q = if s0 = 0 then wt am_S0 d mX12_alike 36 [l0, l1, l2, l3] [] F L Q else wt am_S0 d mX12_alike 28 [l0, l1, l2, l3] [] F L Q := wt_ifCond_eq dX12_alike_25 (t := 36) rfl
set_option maxHeartbeats 100000 in
theorem kX12_alike_28 {d : Nat} {F : am_FT} {L : am_LT} {Q : am_QT} {l0 l1 l3 : Option Value} {x2 : Int32} : wt am_S0 (d + 1) mX12_alike 28 [l0, l1, some (.int x2), l3] [] F L Q = wc am_S0 d mX12_isMonth [.long (Int32.toInt64 x2)] F L (fun r G K => wt am_S0 (d + 1) mX12_alike 33 [l0, l1, some (.int x2), l3] (r.toList ++ []) G K Q) := (wt_iload_n dX12_alike_28 rfl).trans ((wt_i2l dX12_alike_29).trans (wt_callS dX12_alike_30 rfl (as := [.long (Int32.toInt64 x2)]) (rest := []) rfl rfl (Nat.le_of_ble_eq_true rfl) (Nat.le_of_ble_eq_true rfl)))
set_option maxHeartbeats 100000 in
theorem kX12_alike_33 {d : Nat} {F : am_FT} {L : am_LT} {Q : am_QT} {l0 l1 l2 l3 : Option Value} {s0 : Int32} : wt am_S0 d mX12_alike 33 [l0, l1, l2, l3] [.int s0] F L Q = if ¬ s0 = 0 then wt am_S0 d mX12_alike 38 [l0, l1, l2, l3] [] F L Q else wt am_S0 d mX12_alike 36 [l0, l1, l2, l3] [] F L Q := wt_ifCond_ne dX12_alike_33 (t := 38) rfl
set_option maxHeartbeats 100000 in
theorem kX12_alike_36 {d : Nat} {F : am_FT} {L : am_LT} {Q : am_QT} {l0 l1 l2 l3 : Option Value} : wt am_S0 d mX12_alike 36 [l0, l1, l2, l3] [] F L Q = Q (some (.int (-1))) F L := (wt_iconst dX12_alike_36 (v := (-1)) (by decide)).trans (wt_ireturn dX12_alike_37 rfl rfl)
set_option maxHeartbeats 100000 in
theorem kX12_alike_38 {d : Nat} {F : am_FT} {L : am_LT} {Q : am_QT} {l0 l1 l3 : Option Value} {x2 : Int32} : wt am_S0 d mX12_alike 38 [l0, l1, some (.int x2), l3] [] F L Q = wt am_S0 d mX12_alike 40 [l0, l1, some (.int x2), some (.int 0)] [] F L Q := (wt_iconst dX12_alike_38 (v := 0) (by decide)).trans (wt_istore_n dX12_alike_39 (lv1 := [l0, l1, some (.int x2), some (.int 0)]) (Nat.le_of_ble_eq_true rfl) rfl)
set_option maxHeartbeats 100000 in
theorem kX12_alike_40 {d : Nat} {F : am_FT} {L : am_LT} {Q : am_QT} {l0 l1 l2 : Option Value} {x3 : Int32} : wt am_S0 d mX12_alike 40 [l0, l1, l2, some (.int x3)] [] F L Q = if 256 ≤ x3 then wt am_S0 d mX12_alike 78 [l0, l1, l2, some (.int x3)] [] F L Q else wt am_S0 d mX12_alike 47 [l0, l1, l2, some (.int x3)] [] F L Q := (wt_iload_n dX12_alike_40 rfl).trans ((wt_sipush dX12_alike_41 (v := 256) (by decide)).trans (wt_if_icmp_ge dX12_alike_44 (t := 78) rfl))
set_option maxHeartbeats 100000 in
theorem kX12_alike_47 {d : Nat} {F : am_FT} {L : am_LT} {Q : am_QT} {x1 x2 x3 : Int32} : wt am_S0 (d + 1) mX12_alike 47 [some (.ref 45), some (.int x1), some (.int x2), some (.int x3)] [] F L Q = wc am_S0 d mX12_isShadedNow [.ref 45, .int (x1 / 10), .int x2, .int x3] F L (fun r G K => wt am_S0 (d + 1) mX12_alike 57 [some (.ref 45), some (.int x1), some (.int x2), some (.int x3)] (r.toList ++ []) G K Q) := (wt_aload_n dX12_alike_47 rfl rfl).trans ((wt_iload_n dX12_alike_48 rfl).trans ((wt_bipush dX12_alike_49 (v := 10) (by decide)).trans ((wt_idiv dX12_alike_51 (by decide)).trans ((wt_iload_n dX12_alike_52 rfl).trans ((wt_iload_n dX12_alike_53 rfl).trans (wt_callV dX12_alike_54 rfl (as := [.int (x1 / 10), .int x2, .int x3]) (rest := []) rfl rfl (Nat.le_of_ble_eq_true rfl) rfl (Nat.le_of_ble_eq_true rfl)))))))
set_option maxHeartbeats 100000 in
theorem kX12_alike_57 {d : Nat} {F : am_FT} {L : am_LT} {Q : am_QT} {s0 x1 x2 x3 : Int32} : wt am_S0 (d + 1) mX12_alike 57 [some (.ref 45), some (.int x1), some (.int x2), some (.int x3)] [.int s0] F L Q = wc am_S0 d mX12_isShadedNow [.ref 45, .int (x1 - x1 / 10 * 10), .int x2, .int x3] F L (fun r G K => wt am_S0 (d + 1) mX12_alike 67 [some (.ref 45), some (.int x1), some (.int x2), some (.int x3)] (r.toList ++ [.int s0]) G K Q) := (wt_aload_n dX12_alike_57 rfl rfl).trans ((wt_iload_n dX12_alike_58 rfl).trans ((wt_bipush dX12_alike_59 (v := 10) (by decide)).trans ((wt_irem dX12_alike_61 (by decide)).trans ((wt_iload_n dX12_alike_62 rfl).trans ((wt_iload_n dX12_alike_63 rfl).trans (wt_callV dX12_alike_64 rfl (as := [.int (x1 - x1 / 10 * 10), .int x2, .int x3]) (rest := [.int s0]) rfl rfl (Nat.le_of_ble_eq_true rfl) rfl (Nat.le_of_ble_eq_true rfl)))))))
set_option maxHeartbeats 100000 in
theorem kX12_alike_67 {d : Nat} {F : am_FT} {L : am_LT} {Q : am_QT} {l0 l1 l2 l3 : Option Value} {s0 s1 : Int32} : wt am_S0 d mX12_alike 67 [l0, l1, l2, l3] [.int s1, .int s0] F L Q = if s0 = s1 then wt am_S0 d mX12_alike 72 [l0, l1, l2, l3] [] F L Q else wt am_S0 d mX12_alike 70 [l0, l1, l2, l3] [] F L Q := wt_if_icmp_eq dX12_alike_67 (t := 72) rfl
set_option maxHeartbeats 100000 in
theorem kX12_alike_70 {d : Nat} {F : am_FT} {L : am_LT} {Q : am_QT} {l0 l1 l2 l3 : Option Value} : wt am_S0 d mX12_alike 70 [l0, l1, l2, l3] [] F L Q = Q (some (.int 0)) F L := (wt_iconst dX12_alike_70 (v := 0) (by decide)).trans (wt_ireturn dX12_alike_71 rfl rfl)
set_option maxHeartbeats 100000 in
theorem kX12_alike_72 {d : Nat} {F : am_FT} {L : am_LT} {Q : am_QT} {l0 l1 : Option Value} {x3 x2 : Int32} : wt am_S0 d mX12_alike 72 [l0, l1, some (.int x2), some (.int x3)] [] F L Q = wt am_S0 d mX12_alike 40 [l0, l1, some (.int x2), some (.int (x3 + 1))] [] F L Q := (wt_iinc dX12_alike_72 (v := 1) (lv1 := [l0, l1, some (.int x2), some (.int (x3 + 1))]) rfl (Nat.le_of_ble_eq_true rfl) (by decide) rfl).trans (wt_goto dX12_alike_75 (t := 40) rfl)
set_option maxHeartbeats 100000 in
theorem kX12_alike_78 {d : Nat} {F : am_FT} {L : am_LT} {Q : am_QT} {l0 l1 l2 l3 : Option Value} : wt am_S0 d mX12_alike 78 [l0, l1, l2, l3] [] F L Q = Q (some (.int 1)) F L := (wt_iconst dX12_alike_78 (v := 1) (by decide)).trans (wt_ireturn dX12_alike_79 rfl rfl)
theorem dX12_drawn_0 : decode mX12_drawn.2.2.1 0 = .ok (.iload_n 2, 1) := by decide +kernel
theorem dX12_drawn_1 : decode mX12_drawn.2.2.1 1 = .ok (.ifCond .lt 47, 3) := by decide +kernel
theorem dX12_drawn_4 : decode mX12_drawn.2.2.1 4 = .ok (.iload_n 2, 1) := by decide +kernel
theorem dX12_drawn_5 : decode mX12_drawn.2.2.1 5 = .ok (.bipush 100, 2) := by decide +kernel
theorem dX12_drawn_7 : decode mX12_drawn.2.2.1 7 = .ok (.idiv, 1) := by decide +kernel
theorem dX12_drawn_8 : decode mX12_drawn.2.2.1 8 = .ok (.i2l, 1) := by decide +kernel
theorem dX12_drawn_9 : decode mX12_drawn.2.2.1 9 = .ok (.lconst 1, 1) := by decide +kernel
theorem dX12_drawn_10 : decode mX12_drawn.2.2.1 10 = .ok (.ldc2_w 260, 3) := by decide +kernel
theorem dX12_drawn_13 : decode mX12_drawn.2.2.1 13 = .ok (.invokestatic 75, 3) := by decide +kernel
theorem dX12_drawn_16 : decode mX12_drawn.2.2.1 16 = .ok (.ifCond .eq 32, 3) := by decide +kernel
theorem dX12_drawn_19 : decode mX12_drawn.2.2.1 19 = .ok (.iload_n 2, 1) := by decide +kernel
theorem dX12_drawn_20 : decode mX12_drawn.2.2.1 20 = .ok (.bipush 100, 2) := by decide +kernel
theorem dX12_drawn_22 : decode mX12_drawn.2.2.1 22 = .ok (.irem, 1) := by decide +kernel
theorem dX12_drawn_23 : decode mX12_drawn.2.2.1 23 = .ok (.i2l, 1) := by decide +kernel
theorem dX12_drawn_24 : decode mX12_drawn.2.2.1 24 = .ok (.lconst 0, 1) := by decide +kernel
theorem dX12_drawn_25 : decode mX12_drawn.2.2.1 25 = .ok (.ldc2_w 224, 3) := by decide +kernel
theorem dX12_drawn_28 : decode mX12_drawn.2.2.1 28 = .ok (.invokestatic 75, 3) := by decide +kernel
theorem dX12_drawn_31 : decode mX12_drawn.2.2.1 31 = .ok (.ifCond .eq 17, 3) := by decide +kernel
theorem dX12_drawn_34 : decode mX12_drawn.2.2.1 34 = .ok (.iload_n 3, 1) := by decide +kernel
theorem dX12_drawn_35 : decode mX12_drawn.2.2.1 35 = .ok (.iconst (-1), 1) := by decide +kernel
theorem dX12_drawn_36 : decode mX12_drawn.2.2.1 36 = .ok (.if_icmp .eq 14, 3) := by decide +kernel
theorem dX12_drawn_39 : decode mX12_drawn.2.2.1 39 = .ok (.aload_n 0, 1) := by decide +kernel
theorem dX12_drawn_40 : decode mX12_drawn.2.2.1 40 = .ok (.iload_n 3, 1) := by decide +kernel
theorem dX12_drawn_41 : decode mX12_drawn.2.2.1 41 = .ok (.i2l, 1) := by decide +kernel
theorem dX12_drawn_42 : decode mX12_drawn.2.2.1 42 = .ok (.invokevirtual 86, 3) := by decide +kernel
theorem dX12_drawn_45 : decode mX12_drawn.2.2.1 45 = .ok (.ifCond .ne 5, 3) := by decide +kernel
theorem dX12_drawn_48 : decode mX12_drawn.2.2.1 48 = .ok (.iconst (-1), 1) := by decide +kernel
theorem dX12_drawn_49 : decode mX12_drawn.2.2.1 49 = .ok (.ireturn, 1) := by decide +kernel
theorem dX12_drawn_50 : decode mX12_drawn.2.2.1 50 = .ok (.aload_n 0, 1) := by decide +kernel
theorem dX12_drawn_51 : decode mX12_drawn.2.2.1 51 = .ok (.getfield 98, 3) := by decide +kernel
theorem dX12_drawn_54 : decode mX12_drawn.2.2.1 54 = .ok (.istore 4, 2) := by decide +kernel
theorem dX12_drawn_56 : decode mX12_drawn.2.2.1 56 = .ok (.iload_n 1, 1) := by decide +kernel
theorem dX12_drawn_57 : decode mX12_drawn.2.2.1 57 = .ok (.istore 5, 2) := by decide +kernel
theorem dX12_drawn_59 : decode mX12_drawn.2.2.1 59 = .ok (.iconst 0, 1) := by decide +kernel
theorem dX12_drawn_60 : decode mX12_drawn.2.2.1 60 = .ok (.istore 6, 2) := by decide +kernel
theorem dX12_drawn_62 : decode mX12_drawn.2.2.1 62 = .ok (.iconst 0, 1) := by decide +kernel
theorem dX12_drawn_63 : decode mX12_drawn.2.2.1 63 = .ok (.istore 7, 2) := by decide +kernel
theorem dX12_drawn_65 : decode mX12_drawn.2.2.1 65 = .ok (.iconst 0, 1) := by decide +kernel
theorem dX12_drawn_66 : decode mX12_drawn.2.2.1 66 = .ok (.istore 8, 2) := by decide +kernel
theorem dX12_drawn_68 : decode mX12_drawn.2.2.1 68 = .ok (.iload 8, 2) := by decide +kernel
theorem dX12_drawn_70 : decode mX12_drawn.2.2.1 70 = .ok (.iload_n 2, 1) := by decide +kernel
theorem dX12_drawn_71 : decode mX12_drawn.2.2.1 71 = .ok (.bipush 100, 2) := by decide +kernel
theorem dX12_drawn_73 : decode mX12_drawn.2.2.1 73 = .ok (.idiv, 1) := by decide +kernel
theorem dX12_drawn_74 : decode mX12_drawn.2.2.1 74 = .ok (.if_icmp .ge 118, 3) := by decide +kernel
theorem dX12_drawn_77 : decode mX12_drawn.2.2.1 77 = .ok (.aload_n 0, 1) := by decide +kernel
theorem dX12_drawn_78 : decode mX12_drawn.2.2.1 78 = .ok (.iload 4, 2) := by decide +kernel
theorem dX12_drawn_80 : decode mX12_drawn.2.2.1 80 = .ok (.putfield 98, 3) := by decide +kernel
theorem dX12_drawn_83 : decode mX12_drawn.2.2.1 83 = .ok (.iconst 0, 1) := by decide +kernel
theorem dX12_drawn_84 : decode mX12_drawn.2.2.1 84 = .ok (.istore 9, 2) := by decide +kernel
theorem dX12_drawn_86 : decode mX12_drawn.2.2.1 86 = .ok (.iload 9, 2) := by decide +kernel
theorem dX12_drawn_88 : decode mX12_drawn.2.2.1 88 = .ok (.bipush 12, 2) := by decide +kernel
theorem dX12_drawn_90 : decode mX12_drawn.2.2.1 90 = .ok (.if_icmp .ge 84, 3) := by decide +kernel
theorem dX12_drawn_93 : decode mX12_drawn.2.2.1 93 = .ok (.iload 5, 2) := by decide +kernel
theorem dX12_drawn_95 : decode mX12_drawn.2.2.1 95 = .ok (.ldc_w 262, 3) := by decide +kernel
theorem dX12_drawn_98 : decode mX12_drawn.2.2.1 98 = .ok (.imul, 1) := by decide +kernel
theorem dX12_drawn_99 : decode mX12_drawn.2.2.1 99 = .ok (.sipush 12345, 3) := by decide +kernel
theorem dX12_drawn_102 : decode mX12_drawn.2.2.1 102 = .ok (.iadd, 1) := by decide +kernel
theorem dX12_drawn_103 : decode mX12_drawn.2.2.1 103 = .ok (.istore 5, 2) := by decide +kernel
theorem dX12_drawn_105 : decode mX12_drawn.2.2.1 105 = .ok (.iload 5, 2) := by decide +kernel
theorem dX12_drawn_107 : decode mX12_drawn.2.2.1 107 = .ok (.bipush 8, 2) := by decide +kernel
theorem dX12_drawn_109 : decode mX12_drawn.2.2.1 109 = .ok (.iushr, 1) := by decide +kernel
theorem dX12_drawn_110 : decode mX12_drawn.2.2.1 110 = .ok (.bipush 12, 2) := by decide +kernel
theorem dX12_drawn_112 : decode mX12_drawn.2.2.1 112 = .ok (.irem, 1) := by decide +kernel
theorem dX12_drawn_113 : decode mX12_drawn.2.2.1 113 = .ok (.iload_n 2, 1) := by decide +kernel
theorem dX12_drawn_114 : decode mX12_drawn.2.2.1 114 = .ok (.bipush 100, 2) := by decide +kernel
theorem dX12_drawn_116 : decode mX12_drawn.2.2.1 116 = .ok (.irem, 1) := by decide +kernel
theorem dX12_drawn_117 : decode mX12_drawn.2.2.1 117 = .ok (.if_icmp .ge 7, 3) := by decide +kernel
theorem dX12_drawn_120 : decode mX12_drawn.2.2.1 120 = .ok (.iconst 0, 1) := by decide +kernel
theorem dX12_drawn_121 : decode mX12_drawn.2.2.1 121 = .ok (.goto 9, 3) := by decide +kernel
theorem dX12_drawn_124 : decode mX12_drawn.2.2.1 124 = .ok (.aload_n 0, 1) := by decide +kernel
theorem dX12_drawn_125 : decode mX12_drawn.2.2.1 125 = .ok (.iload 9, 2) := by decide +kernel
theorem dX12_drawn_127 : decode mX12_drawn.2.2.1 127 = .ok (.invokevirtual 226, 3) := by decide +kernel
theorem dX12_drawn_130 : decode mX12_drawn.2.2.1 130 = .ok (.istore 10, 2) := by decide +kernel
theorem dX12_drawn_132 : decode mX12_drawn.2.2.1 132 = .ok (.iload 6, 2) := by decide +kernel
theorem dX12_drawn_134 : decode mX12_drawn.2.2.1 134 = .ok (.iload_n 3, 1) := by decide +kernel
theorem dX12_drawn_135 : decode mX12_drawn.2.2.1 135 = .ok (.ifCond .lt 16, 3) := by decide +kernel
theorem dX12_drawn_138 : decode mX12_drawn.2.2.1 138 = .ok (.iload 10, 2) := by decide +kernel
theorem dX12_drawn_140 : decode mX12_drawn.2.2.1 140 = .ok (.iload_n 3, 1) := by decide +kernel
theorem dX12_drawn_141 : decode mX12_drawn.2.2.1 141 = .ok (.invokestatic 189, 3) := by decide +kernel
theorem dX12_drawn_144 : decode mX12_drawn.2.2.1 144 = .ok (.ifCond .eq 7, 3) := by decide +kernel
theorem dX12_drawn_147 : decode mX12_drawn.2.2.1 147 = .ok (.iconst 1, 1) := by decide +kernel
theorem dX12_drawn_148 : decode mX12_drawn.2.2.1 148 = .ok (.goto 4, 3) := by decide +kernel
theorem dX12_drawn_151 : decode mX12_drawn.2.2.1 151 = .ok (.iconst 0, 1) := by decide +kernel
theorem dX12_drawn_152 : decode mX12_drawn.2.2.1 152 = .ok (.iadd, 1) := by decide +kernel
theorem dX12_drawn_153 : decode mX12_drawn.2.2.1 153 = .ok (.istore 6, 2) := by decide +kernel
theorem dX12_drawn_155 : decode mX12_drawn.2.2.1 155 = .ok (.aload_n 0, 1) := by decide +kernel
theorem dX12_drawn_156 : decode mX12_drawn.2.2.1 156 = .ok (.dup, 1) := by decide +kernel
theorem dX12_drawn_157 : decode mX12_drawn.2.2.1 157 = .ok (.getfield 98, 3) := by decide +kernel
theorem dX12_drawn_160 : decode mX12_drawn.2.2.1 160 = .ok (.iload 10, 2) := by decide +kernel
theorem dX12_drawn_162 : decode mX12_drawn.2.2.1 162 = .ok (.iconst (-1), 1) := by decide +kernel
theorem dX12_drawn_163 : decode mX12_drawn.2.2.1 163 = .ok (.ixor, 1) := by decide +kernel
theorem dX12_drawn_164 : decode mX12_drawn.2.2.1 164 = .ok (.iand, 1) := by decide +kernel
theorem dX12_drawn_165 : decode mX12_drawn.2.2.1 165 = .ok (.putfield 98, 3) := by decide +kernel
theorem dX12_drawn_168 : decode mX12_drawn.2.2.1 168 = .ok (.iinc 9 1, 3) := by decide +kernel
theorem dX12_drawn_171 : decode mX12_drawn.2.2.1 171 = .ok (.goto (-85), 3) := by decide +kernel
theorem dX12_drawn_174 : decode mX12_drawn.2.2.1 174 = .ok (.iload 7, 2) := by decide +kernel
theorem dX12_drawn_176 : decode mX12_drawn.2.2.1 176 = .ok (.aload_n 0, 1) := by decide +kernel
theorem dX12_drawn_177 : decode mX12_drawn.2.2.1 177 = .ok (.getfield 98, 3) := by decide +kernel
theorem dX12_drawn_180 : decode mX12_drawn.2.2.1 180 = .ok (.invokestatic 195, 3) := by decide +kernel
theorem dX12_drawn_183 : decode mX12_drawn.2.2.1 183 = .ok (.iadd, 1) := by decide +kernel
theorem dX12_drawn_184 : decode mX12_drawn.2.2.1 184 = .ok (.istore 7, 2) := by decide +kernel
theorem dX12_drawn_186 : decode mX12_drawn.2.2.1 186 = .ok (.iinc 8 1, 3) := by decide +kernel
theorem dX12_drawn_189 : decode mX12_drawn.2.2.1 189 = .ok (.goto (-121), 3) := by decide +kernel
theorem dX12_drawn_192 : decode mX12_drawn.2.2.1 192 = .ok (.aload_n 0, 1) := by decide +kernel
theorem dX12_drawn_193 : decode mX12_drawn.2.2.1 193 = .ok (.iload 4, 2) := by decide +kernel
theorem dX12_drawn_195 : decode mX12_drawn.2.2.1 195 = .ok (.putfield 98, 3) := by decide +kernel
theorem dX12_drawn_198 : decode mX12_drawn.2.2.1 198 = .ok (.iload_n 3, 1) := by decide +kernel
theorem dX12_drawn_199 : decode mX12_drawn.2.2.1 199 = .ok (.ifCond .ge 8, 3) := by decide +kernel
theorem dX12_drawn_202 : decode mX12_drawn.2.2.1 202 = .ok (.iload 7, 2) := by decide +kernel
theorem dX12_drawn_204 : decode mX12_drawn.2.2.1 204 = .ok (.goto 5, 3) := by decide +kernel
theorem dX12_drawn_207 : decode mX12_drawn.2.2.1 207 = .ok (.iload 6, 2) := by decide +kernel
theorem dX12_drawn_209 : decode mX12_drawn.2.2.1 209 = .ok (.ireturn, 1) := by decide +kernel
set_option maxHeartbeats 100000 in
theorem kX12_drawn_0 {d : Nat} {F : am_FT} {L : am_LT} {Q : am_QT} {l0 l1 l3 l4 l5 l6 l7 l8 l9 l10 : Option Value} {x2 : Int32} : wt am_S0 d mX12_drawn 0 [l0, l1, some (.int x2), l3, l4, l5, l6, l7, l8, l9, l10] [] F L Q = if x2 < 0 then wt am_S0 d mX12_drawn 48 [l0, l1, some (.int x2), l3, l4, l5, l6, l7, l8, l9, l10] [] F L Q else wt am_S0 d mX12_drawn 4 [l0, l1, some (.int x2), l3, l4, l5, l6, l7, l8, l9, l10] [] F L Q := (wt_iload_n dX12_drawn_0 rfl).trans (wt_ifCond_lt dX12_drawn_1 (t := 48) rfl)
set_option maxHeartbeats 100000 in
theorem kX12_drawn_4 {d : Nat} {F : am_FT} {L : am_LT} {Q : am_QT} {l0 l1 l3 l4 l5 l6 l7 l8 l9 l10 : Option Value} {x2 : Int32} : wt am_S0 (d + 1) mX12_drawn 4 [l0, l1, some (.int x2), l3, l4, l5, l6, l7, l8, l9, l10] [] F L Q = wc am_S0 d mX12_within [.long (Int32.toInt64 (x2 / 100)), .long 1, .long 30] F L (fun r G K => wt am_S0 (d + 1) mX12_drawn 16 [l0, l1, some (.int x2), l3, l4, l5, l6, l7, l8, l9, l10] (r.toList ++ []) G K Q) := (wt_iload_n dX12_drawn_4 rfl).trans ((wt_bipush dX12_drawn_5 (v := 100) (by decide)).trans ((wt_idiv dX12_drawn_7 (by decide)).trans ((wt_i2l dX12_drawn_8).trans ((wt_lconst dX12_drawn_9 (v := 1) (by decide)).trans ((wt_ldc2_w dX12_drawn_10 (v := 30) rfl).trans (wt_callS dX12_drawn_13 rfl (as := [.long (Int32.toInt64 (x2 / 100)), .long 1, .long 30]) (rest := []) rfl rfl (Nat.le_of_ble_eq_true rfl) (Nat.le_of_ble_eq_true rfl)))))))
set_option maxHeartbeats 100000 in
theorem kX12_drawn_16 {d : Nat} {F : am_FT} {L : am_LT} {Q : am_QT} {l0 l1 l2 l3 l4 l5 l6 l7 l8 l9 l10 : Option Value} {s0 : Int32} : wt am_S0 d mX12_drawn 16 [l0, l1, l2, l3, l4, l5, l6, l7, l8, l9, l10] [.int s0] F L Q = if s0 = 0 then wt am_S0 d mX12_drawn 48 [l0, l1, l2, l3, l4, l5, l6, l7, l8, l9, l10] [] F L Q else wt am_S0 d mX12_drawn 19 [l0, l1, l2, l3, l4, l5, l6, l7, l8, l9, l10] [] F L Q := wt_ifCond_eq dX12_drawn_16 (t := 48) rfl
set_option maxHeartbeats 100000 in
theorem kX12_drawn_19 {d : Nat} {F : am_FT} {L : am_LT} {Q : am_QT} {l0 l1 l3 l4 l5 l6 l7 l8 l9 l10 : Option Value} {x2 : Int32} : wt am_S0 (d + 1) mX12_drawn 19 [l0, l1, some (.int x2), l3, l4, l5, l6, l7, l8, l9, l10] [] F L Q = wc am_S0 d mX12_within [.long (Int32.toInt64 (x2 - x2 / 100 * 100)), .long 0, .long 12] F L (fun r G K => wt am_S0 (d + 1) mX12_drawn 31 [l0, l1, some (.int x2), l3, l4, l5, l6, l7, l8, l9, l10] (r.toList ++ []) G K Q) := (wt_iload_n dX12_drawn_19 rfl).trans ((wt_bipush dX12_drawn_20 (v := 100) (by decide)).trans ((wt_irem dX12_drawn_22 (by decide)).trans ((wt_i2l dX12_drawn_23).trans ((wt_lconst dX12_drawn_24 (v := 0) (by decide)).trans ((wt_ldc2_w dX12_drawn_25 (v := 12) rfl).trans (wt_callS dX12_drawn_28 rfl (as := [.long (Int32.toInt64 (x2 - x2 / 100 * 100)), .long 0, .long 12]) (rest := []) rfl rfl (Nat.le_of_ble_eq_true rfl) (Nat.le_of_ble_eq_true rfl)))))))
set_option maxHeartbeats 100000 in
theorem kX12_drawn_31 {d : Nat} {F : am_FT} {L : am_LT} {Q : am_QT} {l0 l1 l2 l3 l4 l5 l6 l7 l8 l9 l10 : Option Value} {s0 : Int32} : wt am_S0 d mX12_drawn 31 [l0, l1, l2, l3, l4, l5, l6, l7, l8, l9, l10] [.int s0] F L Q = if s0 = 0 then wt am_S0 d mX12_drawn 48 [l0, l1, l2, l3, l4, l5, l6, l7, l8, l9, l10] [] F L Q else wt am_S0 d mX12_drawn 34 [l0, l1, l2, l3, l4, l5, l6, l7, l8, l9, l10] [] F L Q := wt_ifCond_eq dX12_drawn_31 (t := 48) rfl
set_option maxHeartbeats 100000 in
theorem kX12_drawn_34 {d : Nat} {F : am_FT} {L : am_LT} {Q : am_QT} {l0 l1 l2 l4 l5 l6 l7 l8 l9 l10 : Option Value} {x3 : Int32} : wt am_S0 d mX12_drawn 34 [l0, l1, l2, some (.int x3), l4, l5, l6, l7, l8, l9, l10] [] F L Q = if x3 = (-1) then wt am_S0 d mX12_drawn 50 [l0, l1, l2, some (.int x3), l4, l5, l6, l7, l8, l9, l10] [] F L Q else wt am_S0 d mX12_drawn 39 [l0, l1, l2, some (.int x3), l4, l5, l6, l7, l8, l9, l10] [] F L Q := (wt_iload_n dX12_drawn_34 rfl).trans ((wt_iconst dX12_drawn_35 (v := (-1)) (by decide)).trans (wt_if_icmp_eq dX12_drawn_36 (t := 50) rfl))
set_option maxHeartbeats 100000 in
theorem kX12_drawn_39 {d : Nat} {F : am_FT} {L : am_LT} {Q : am_QT} {l1 l2 l4 l5 l6 l7 l8 l9 l10 : Option Value} {x3 : Int32} : wt am_S0 (d + 1) mX12_drawn 39 [some (.ref 45), l1, l2, some (.int x3), l4, l5, l6, l7, l8, l9, l10] [] F L Q = wc am_S0 d mX12_isTree [.ref 45, .long (Int32.toInt64 x3)] F L (fun r G K => wt am_S0 (d + 1) mX12_drawn 45 [some (.ref 45), l1, l2, some (.int x3), l4, l5, l6, l7, l8, l9, l10] (r.toList ++ []) G K Q) := (wt_aload_n dX12_drawn_39 rfl rfl).trans ((wt_iload_n dX12_drawn_40 rfl).trans ((wt_i2l dX12_drawn_41).trans (wt_callV dX12_drawn_42 rfl (as := [.long (Int32.toInt64 x3)]) (rest := []) rfl rfl (Nat.le_of_ble_eq_true rfl) rfl (Nat.le_of_ble_eq_true rfl))))
set_option maxHeartbeats 100000 in
theorem kX12_drawn_45 {d : Nat} {F : am_FT} {L : am_LT} {Q : am_QT} {l0 l1 l2 l3 l4 l5 l6 l7 l8 l9 l10 : Option Value} {s0 : Int32} : wt am_S0 d mX12_drawn 45 [l0, l1, l2, l3, l4, l5, l6, l7, l8, l9, l10] [.int s0] F L Q = if ¬ s0 = 0 then wt am_S0 d mX12_drawn 50 [l0, l1, l2, l3, l4, l5, l6, l7, l8, l9, l10] [] F L Q else wt am_S0 d mX12_drawn 48 [l0, l1, l2, l3, l4, l5, l6, l7, l8, l9, l10] [] F L Q := wt_ifCond_ne dX12_drawn_45 (t := 50) rfl
set_option maxHeartbeats 100000 in
theorem kX12_drawn_48 {d : Nat} {F : am_FT} {L : am_LT} {Q : am_QT} {l0 l1 l2 l3 l4 l5 l6 l7 l8 l9 l10 : Option Value} : wt am_S0 d mX12_drawn 48 [l0, l1, l2, l3, l4, l5, l6, l7, l8, l9, l10] [] F L Q = Q (some (.int (-1))) F L := (wt_iconst dX12_drawn_48 (v := (-1)) (by decide)).trans (wt_ireturn dX12_drawn_49 rfl rfl)
set_option maxHeartbeats 100000 in
theorem kX12_drawn_50 {d : Nat} {F : am_FT} {L : am_LT} {Q : am_QT} {l2 l4 l5 l6 l7 l8 l9 l10 : Option Value} {x3 x1 : Int32} : wt am_S0 d mX12_drawn 50 [some (.ref 45), some (.int x1), l2, some (.int x3), l4, l5, l6, l7, l8, l9, l10] [] F L Q = wt am_S0 d mX12_drawn 68 [some (.ref 45), some (.int x1), l2, some (.int x3), some (.int (F 45 8)), some (.int x1), some (.int 0), some (.int 0), some (.int 0), l9, l10] [] F L Q := (wt_aload_n dX12_drawn_50 rfl rfl).trans ((wt_getfield dX12_drawn_51 rfl rfl (v := .int (F 45 8)) rfl).trans ((wt_istore dX12_drawn_54 (lv1 := [some (.ref 45), some (.int x1), l2, some (.int x3), some (.int (F 45 8)), l5, l6, l7, l8, l9, l10]) (Nat.le_of_ble_eq_true rfl) rfl).trans ((wt_iload_n dX12_drawn_56 rfl).trans ((wt_istore dX12_drawn_57 (lv1 := [some (.ref 45), some (.int x1), l2, some (.int x3), some (.int (F 45 8)), some (.int x1), l6, l7, l8, l9, l10]) (Nat.le_of_ble_eq_true rfl) rfl).trans ((wt_iconst dX12_drawn_59 (v := 0) (by decide)).trans ((wt_istore dX12_drawn_60 (lv1 := [some (.ref 45), some (.int x1), l2, some (.int x3), some (.int (F 45 8)), some (.int x1), some (.int 0), l7, l8, l9, l10]) (Nat.le_of_ble_eq_true rfl) rfl).trans ((wt_iconst dX12_drawn_62 (v := 0) (by decide)).trans ((wt_istore dX12_drawn_63 (lv1 := [some (.ref 45), some (.int x1), l2, some (.int x3), some (.int (F 45 8)), some (.int x1), some (.int 0), some (.int 0), l8, l9, l10]) (Nat.le_of_ble_eq_true rfl) rfl).trans ((wt_iconst dX12_drawn_65 (v := 0) (by decide)).trans (wt_istore dX12_drawn_66 (lv1 := [some (.ref 45), some (.int x1), l2, some (.int x3), some (.int (F 45 8)), some (.int x1), some (.int 0), some (.int 0), some (.int 0), l9, l10]) (Nat.le_of_ble_eq_true rfl) rfl))))))))))
set_option maxHeartbeats 100000 in
theorem kX12_drawn_68 {d : Nat} {F : am_FT} {L : am_LT} {Q : am_QT} {l0 l1 l3 l4 l5 l6 l7 l9 l10 : Option Value} {x8 x2 : Int32} : wt am_S0 d mX12_drawn 68 [l0, l1, some (.int x2), l3, l4, l5, l6, l7, some (.int x8), l9, l10] [] F L Q = if (x2 / 100) ≤ x8 then wt am_S0 d mX12_drawn 192 [l0, l1, some (.int x2), l3, l4, l5, l6, l7, some (.int x8), l9, l10] [] F L Q else wt am_S0 d mX12_drawn 77 [l0, l1, some (.int x2), l3, l4, l5, l6, l7, some (.int x8), l9, l10] [] F L Q := (wt_iload dX12_drawn_68 rfl).trans ((wt_iload_n dX12_drawn_70 rfl).trans ((wt_bipush dX12_drawn_71 (v := 100) (by decide)).trans ((wt_idiv dX12_drawn_73 (by decide)).trans (wt_if_icmp_ge dX12_drawn_74 (t := 192) rfl))))
set_option maxHeartbeats 100000 in
theorem kX12_drawn_77 {d : Nat} {F : am_FT} {L : am_LT} {Q : am_QT} {l1 l2 l3 l5 l6 l7 l9 l10 : Option Value} {x4 x8 : Int32} : wt am_S0 d mX12_drawn 77 [some (.ref 45), l1, l2, l3, some (.int x4), l5, l6, l7, some (.int x8), l9, l10] [] F L Q = wt am_S0 d mX12_drawn 86 [some (.ref 45), l1, l2, l3, some (.int x4), l5, l6, l7, some (.int x8), some (.int 0), l10] [] (am_upF F 45 8 x4) L Q := (wt_aload_n dX12_drawn_77 rfl rfl).trans ((wt_iload dX12_drawn_78 rfl).trans ((wt_putfield dX12_drawn_80 rfl rfl ⟨rfl, rfl, rfl, rfl⟩).trans ((wt_iconst dX12_drawn_83 (v := 0) (by decide)).trans (wt_istore dX12_drawn_84 (lv1 := [some (.ref 45), l1, l2, l3, some (.int x4), l5, l6, l7, some (.int x8), some (.int 0), l10]) (Nat.le_of_ble_eq_true rfl) rfl))))
set_option maxHeartbeats 100000 in
theorem kX12_drawn_86 {d : Nat} {F : am_FT} {L : am_LT} {Q : am_QT} {l0 l1 l2 l3 l4 l5 l6 l7 l8 l10 : Option Value} {x9 : Int32} : wt am_S0 d mX12_drawn 86 [l0, l1, l2, l3, l4, l5, l6, l7, l8, some (.int x9), l10] [] F L Q = if 12 ≤ x9 then wt am_S0 d mX12_drawn 174 [l0, l1, l2, l3, l4, l5, l6, l7, l8, some (.int x9), l10] [] F L Q else wt am_S0 d mX12_drawn 93 [l0, l1, l2, l3, l4, l5, l6, l7, l8, some (.int x9), l10] [] F L Q := (wt_iload dX12_drawn_86 rfl).trans ((wt_bipush dX12_drawn_88 (v := 12) (by decide)).trans (wt_if_icmp_ge dX12_drawn_90 (t := 174) rfl))
set_option maxHeartbeats 100000 in
theorem kX12_drawn_93 {d : Nat} {F : am_FT} {L : am_LT} {Q : am_QT} {l0 l1 l3 l6 l7 l8 l9 l10 : Option Value} {x5 x4 x2 : Int32} : wt am_S0 d mX12_drawn 93 [l0, l1, some (.int x2), l3, some (.int x4), some (.int x5), l6, l7, l8, l9, l10] [] F L Q = if (x2 - x2 / 100 * 100) ≤ ((Int32.toUInt32 ((x5 * 1103515245) + 12345) >>> (Int32.toUInt32 8 &&& Int32.toUInt32 31)).toInt32 - (Int32.toUInt32 ((x5 * 1103515245) + 12345) >>> (Int32.toUInt32 8 &&& Int32.toUInt32 31)).toInt32 / 12 * 12) then wt am_S0 d mX12_drawn 124 [l0, l1, some (.int x2), l3, some (.int x4), some (.int ((x5 * 1103515245) + 12345)), l6, l7, l8, l9, l10] [] F L Q else wt am_S0 d mX12_drawn 120 [l0, l1, some (.int x2), l3, some (.int x4), some (.int ((x5 * 1103515245) + 12345)), l6, l7, l8, l9, l10] [] F L Q := (wt_iload dX12_drawn_93 rfl).trans ((wt_ldc_w dX12_drawn_95 (v := 1103515245) rfl).trans ((wt_imul dX12_drawn_98).trans ((wt_sipush dX12_drawn_99 (v := 12345) (by decide)).trans ((wt_iadd dX12_drawn_102).trans ((wt_istore dX12_drawn_103 (lv1 := [l0, l1, some (.int x2), l3, some (.int x4), some (.int ((x5 * 1103515245) + 12345)), l6, l7, l8, l9, l10]) (Nat.le_of_ble_eq_true rfl) rfl).trans ((wt_iload dX12_drawn_105 rfl).trans ((wt_bipush dX12_drawn_107 (v := 8) (by decide)).trans ((wt_iushr dX12_drawn_109).trans ((wt_bipush dX12_drawn_110 (v := 12) (by decide)).trans ((wt_irem dX12_drawn_112 (by decide)).trans ((wt_iload_n dX12_drawn_113 rfl).trans ((wt_bipush dX12_drawn_114 (v := 100) (by decide)).trans ((wt_irem dX12_drawn_116 (by decide)).trans (wt_if_icmp_ge dX12_drawn_117 (t := 124) rfl))))))))))))))
set_option maxHeartbeats 100000 in
theorem kX12_drawn_120 {d : Nat} {F : am_FT} {L : am_LT} {Q : am_QT} {l0 l1 l2 l3 l4 l5 l6 l7 l8 l9 l10 : Option Value} : wt am_S0 d mX12_drawn 120 [l0, l1, l2, l3, l4, l5, l6, l7, l8, l9, l10] [] F L Q = wt am_S0 d mX12_drawn 130 [l0, l1, l2, l3, l4, l5, l6, l7, l8, l9, l10] [.int 0] F L Q := (wt_iconst dX12_drawn_120 (v := 0) (by decide)).trans (wt_goto dX12_drawn_121 (t := 130) rfl)
set_option maxHeartbeats 100000 in
theorem kX12_drawn_124 {d : Nat} {F : am_FT} {L : am_LT} {Q : am_QT} {l1 l2 l3 l4 l5 l6 l7 l8 l10 : Option Value} {x9 : Int32} : wt am_S0 (d + 1) mX12_drawn 124 [some (.ref 45), l1, l2, l3, l4, l5, l6, l7, l8, some (.int x9), l10] [] F L Q = wc am_S0 d mX12_fallIn [.ref 45, .int x9] F L (fun r G K => wt am_S0 (d + 1) mX12_drawn 130 [some (.ref 45), l1, l2, l3, l4, l5, l6, l7, l8, some (.int x9), l10] (r.toList ++ []) G K Q) := (wt_aload_n dX12_drawn_124 rfl rfl).trans ((wt_iload dX12_drawn_125 rfl).trans (wt_callV dX12_drawn_127 rfl (as := [.int x9]) (rest := []) rfl rfl (Nat.le_of_ble_eq_true rfl) rfl (Nat.le_of_ble_eq_true rfl)))
set_option maxHeartbeats 100000 in
theorem kX12_drawn_130 {d : Nat} {F : am_FT} {L : am_LT} {Q : am_QT} {l0 l1 l2 l4 l5 l7 l8 l10 : Option Value} {s0 x9 x6 x3 : Int32} : wt am_S0 d mX12_drawn 130 [l0, l1, l2, some (.int x3), l4, l5, some (.int x6), l7, l8, some (.int x9), l10] [.int s0] F L Q = if x3 < 0 then wt am_S0 d mX12_drawn 151 [l0, l1, l2, some (.int x3), l4, l5, some (.int x6), l7, l8, some (.int x9), some (.int s0)] [.int x6] F L Q else wt am_S0 d mX12_drawn 138 [l0, l1, l2, some (.int x3), l4, l5, some (.int x6), l7, l8, some (.int x9), some (.int s0)] [.int x6] F L Q := (wt_istore dX12_drawn_130 (lv1 := [l0, l1, l2, some (.int x3), l4, l5, some (.int x6), l7, l8, some (.int x9), some (.int s0)]) (Nat.le_of_ble_eq_true rfl) rfl).trans ((wt_iload dX12_drawn_132 rfl).trans ((wt_iload_n dX12_drawn_134 rfl).trans (wt_ifCond_lt dX12_drawn_135 (t := 151) rfl)))
set_option maxHeartbeats 100000 in
theorem kX12_drawn_138 {d : Nat} {F : am_FT} {L : am_LT} {Q : am_QT} {l0 l1 l2 l4 l5 l6 l7 l8 l9 : Option Value} {s0 x10 x3 : Int32} : wt am_S0 (d + 1) mX12_drawn 138 [l0, l1, l2, some (.int x3), l4, l5, l6, l7, l8, l9, some (.int x10)] [.int s0] F L Q = wc am_S0 d mX12_isIn [.int x10, .int x3] F L (fun r G K => wt am_S0 (d + 1) mX12_drawn 144 [l0, l1, l2, some (.int x3), l4, l5, l6, l7, l8, l9, some (.int x10)] (r.toList ++ [.int s0]) G K Q) := (wt_iload dX12_drawn_138 rfl).trans ((wt_iload_n dX12_drawn_140 rfl).trans (wt_callS dX12_drawn_141 rfl (as := [.int x10, .int x3]) (rest := [.int s0]) rfl rfl (Nat.le_of_ble_eq_true rfl) (Nat.le_of_ble_eq_true rfl)))
set_option maxHeartbeats 100000 in
theorem kX12_drawn_144 {d : Nat} {F : am_FT} {L : am_LT} {Q : am_QT} {l0 l1 l2 l3 l4 l5 l6 l7 l8 l9 l10 : Option Value} {s0 s1 : Int32} : wt am_S0 d mX12_drawn 144 [l0, l1, l2, l3, l4, l5, l6, l7, l8, l9, l10] [.int s1, .int s0] F L Q = if s1 = 0 then wt am_S0 d mX12_drawn 151 [l0, l1, l2, l3, l4, l5, l6, l7, l8, l9, l10] [.int s0] F L Q else wt am_S0 d mX12_drawn 147 [l0, l1, l2, l3, l4, l5, l6, l7, l8, l9, l10] [.int s0] F L Q := wt_ifCond_eq dX12_drawn_144 (t := 151) rfl
set_option maxHeartbeats 100000 in
theorem kX12_drawn_147 {d : Nat} {F : am_FT} {L : am_LT} {Q : am_QT} {l0 l1 l2 l3 l4 l5 l6 l7 l8 l9 l10 : Option Value} {s0 : Int32} : wt am_S0 d mX12_drawn 147 [l0, l1, l2, l3, l4, l5, l6, l7, l8, l9, l10] [.int s0] F L Q = wt am_S0 d mX12_drawn 152 [l0, l1, l2, l3, l4, l5, l6, l7, l8, l9, l10] [.int 1, .int s0] F L Q := (wt_iconst dX12_drawn_147 (v := 1) (by decide)).trans (wt_goto dX12_drawn_148 (t := 152) rfl)
set_option maxHeartbeats 100000 in
theorem kX12_drawn_151 {d : Nat} {F : am_FT} {L : am_LT} {Q : am_QT} {l0 l1 l2 l3 l4 l5 l6 l7 l8 l9 l10 : Option Value} {s0 : Int32} : wt am_S0 d mX12_drawn 151 [l0, l1, l2, l3, l4, l5, l6, l7, l8, l9, l10] [.int s0] F L Q = wt am_S0 d mX12_drawn 152 [l0, l1, l2, l3, l4, l5, l6, l7, l8, l9, l10] [.int 0, .int s0] F L Q := wt_iconst dX12_drawn_151 (v := 0) (by decide)
set_option maxHeartbeats 100000 in
theorem kX12_drawn_152 {d : Nat} {F : am_FT} {L : am_LT} {Q : am_QT} {l1 l2 l3 l4 l6 l7 : Option Value} {s0 s1 x5 x10 x9 x8 : Int32} : wt am_S0 d mX12_drawn 152 [some (.ref 45), l1, l2, l3, l4, some (.int x5), l6, l7, some (.int x8), some (.int x9), some (.int x10)] [.int s1, .int s0] F L Q = wt am_S0 d mX12_drawn 86 [some (.ref 45), l1, l2, l3, l4, some (.int x5), some (.int (s0 + s1)), l7, some (.int x8), some (.int (x9 + 1)), some (.int x10)] [] (am_upF F 45 8 ((F 45 8) &&& (x10 ^^^ (-1)))) L Q := (wt_iadd dX12_drawn_152).trans ((wt_istore dX12_drawn_153 (lv1 := [some (.ref 45), l1, l2, l3, l4, some (.int x5), some (.int (s0 + s1)), l7, some (.int x8), some (.int x9), some (.int x10)]) (Nat.le_of_ble_eq_true rfl) rfl).trans ((wt_aload_n dX12_drawn_155 rfl rfl).trans ((wt_dup dX12_drawn_156 rfl).trans ((wt_getfield dX12_drawn_157 rfl rfl (v := .int (F 45 8)) rfl).trans ((wt_iload dX12_drawn_160 rfl).trans ((wt_iconst dX12_drawn_162 (v := (-1)) (by decide)).trans ((wt_ixor dX12_drawn_163).trans ((wt_iand dX12_drawn_164).trans ((wt_putfield dX12_drawn_165 rfl rfl ⟨rfl, rfl, rfl, rfl⟩).trans ((wt_iinc dX12_drawn_168 (v := 1) (lv1 := [some (.ref 45), l1, l2, l3, l4, some (.int x5), some (.int (s0 + s1)), l7, some (.int x8), some (.int (x9 + 1)), some (.int x10)]) rfl (Nat.le_of_ble_eq_true rfl) (by decide) rfl).trans (wt_goto dX12_drawn_171 (t := 86) rfl)))))))))))
set_option maxHeartbeats 100000 in
theorem kX12_drawn_174 {d : Nat} {F : am_FT} {L : am_LT} {Q : am_QT} {l1 l2 l3 l4 l5 l6 l8 l9 l10 : Option Value} {x7 : Int32} : wt am_S0 (d + 1) mX12_drawn 174 [some (.ref 45), l1, l2, l3, l4, l5, l6, some (.int x7), l8, l9, l10] [] F L Q = wc am_S0 d mX12_bitsOf [.int (F 45 8)] F L (fun r G K => wt am_S0 (d + 1) mX12_drawn 183 [some (.ref 45), l1, l2, l3, l4, l5, l6, some (.int x7), l8, l9, l10] (r.toList ++ [.int x7]) G K Q) := (wt_iload dX12_drawn_174 rfl).trans ((wt_aload_n dX12_drawn_176 rfl rfl).trans ((wt_getfield dX12_drawn_177 rfl rfl (v := .int (F 45 8)) rfl).trans (wt_callS dX12_drawn_180 rfl (as := [.int (F 45 8)]) (rest := [.int x7]) rfl rfl (Nat.le_of_ble_eq_true rfl) (Nat.le_of_ble_eq_true rfl))))
set_option maxHeartbeats 100000 in
theorem kX12_drawn_183 {d : Nat} {F : am_FT} {L : am_LT} {Q : am_QT} {l0 l1 l2 l3 l4 l5 l7 l9 l10 : Option Value} {s0 s1 x6 x8 : Int32} : wt am_S0 d mX12_drawn 183 [l0, l1, l2, l3, l4, l5, some (.int x6), l7, some (.int x8), l9, l10] [.int s1, .int s0] F L Q = wt am_S0 d mX12_drawn 68 [l0, l1, l2, l3, l4, l5, some (.int x6), some (.int (s0 + s1)), some (.int (x8 + 1)), l9, l10] [] F L Q := (wt_iadd dX12_drawn_183).trans ((wt_istore dX12_drawn_184 (lv1 := [l0, l1, l2, l3, l4, l5, some (.int x6), some (.int (s0 + s1)), some (.int x8), l9, l10]) (Nat.le_of_ble_eq_true rfl) rfl).trans ((wt_iinc dX12_drawn_186 (v := 1) (lv1 := [l0, l1, l2, l3, l4, l5, some (.int x6), some (.int (s0 + s1)), some (.int (x8 + 1)), l9, l10]) rfl (Nat.le_of_ble_eq_true rfl) (by decide) rfl).trans (wt_goto dX12_drawn_189 (t := 68) rfl)))
set_option maxHeartbeats 100000 in
theorem kX12_drawn_192 {d : Nat} {F : am_FT} {L : am_LT} {Q : am_QT} {l1 l2 l5 l6 l7 l8 l9 l10 : Option Value} {x4 x3 : Int32} : wt am_S0 d mX12_drawn 192 [some (.ref 45), l1, l2, some (.int x3), some (.int x4), l5, l6, l7, l8, l9, l10] [] F L Q = if 0 ≤ x3 then wt am_S0 d mX12_drawn 207 [some (.ref 45), l1, l2, some (.int x3), some (.int x4), l5, l6, l7, l8, l9, l10] [] (am_upF F 45 8 x4) L Q else wt am_S0 d mX12_drawn 202 [some (.ref 45), l1, l2, some (.int x3), some (.int x4), l5, l6, l7, l8, l9, l10] [] (am_upF F 45 8 x4) L Q := (wt_aload_n dX12_drawn_192 rfl rfl).trans ((wt_iload dX12_drawn_193 rfl).trans ((wt_putfield dX12_drawn_195 rfl rfl ⟨rfl, rfl, rfl, rfl⟩).trans ((wt_iload_n dX12_drawn_198 rfl).trans (wt_ifCond_ge dX12_drawn_199 (t := 207) rfl))))
set_option maxHeartbeats 100000 in
theorem kX12_drawn_202 {d : Nat} {F : am_FT} {L : am_LT} {Q : am_QT} {l0 l1 l2 l3 l4 l5 l6 l8 l9 l10 : Option Value} {x7 : Int32} : wt am_S0 d mX12_drawn 202 [l0, l1, l2, l3, l4, l5, l6, some (.int x7), l8, l9, l10] [] F L Q = wt am_S0 d mX12_drawn 209 [l0, l1, l2, l3, l4, l5, l6, some (.int x7), l8, l9, l10] [.int x7] F L Q := (wt_iload dX12_drawn_202 rfl).trans (wt_goto dX12_drawn_204 (t := 209) rfl)
set_option maxHeartbeats 100000 in
theorem kX12_drawn_207 {d : Nat} {F : am_FT} {L : am_LT} {Q : am_QT} {l0 l1 l2 l3 l4 l5 l7 l8 l9 l10 : Option Value} {x6 : Int32} : wt am_S0 d mX12_drawn 207 [l0, l1, l2, l3, l4, l5, some (.int x6), l7, l8, l9, l10] [] F L Q = wt am_S0 d mX12_drawn 209 [l0, l1, l2, l3, l4, l5, some (.int x6), l7, l8, l9, l10] [.int x6] F L Q := wt_iload dX12_drawn_207 rfl
set_option maxHeartbeats 100000 in
theorem kX12_drawn_209 {d : Nat} {F : am_FT} {L : am_LT} {Q : am_QT} {l0 l1 l2 l3 l4 l5 l6 l7 l8 l9 l10 : Option Value} {s0 : Int32} : wt am_S0 d mX12_drawn 209 [l0, l1, l2, l3, l4, l5, l6, l7, l8, l9, l10] [.int s0] F L Q = Q (some (.int s0)) F L := wt_ireturn dX12_drawn_209 rfl rfl
