theorem dX11_at_0 : decode mX11_at.2.2.1 0 = .ok (.iload_n 1, 1) := by decide +kernel
theorem dX11_at_1 : decode mX11_at.2.2.1 1 = .ok (.ifCond .lt 15, 3) := by decide +kernel
theorem dX11_at_4 : decode mX11_at.2.2.1 4 = .ok (.iload_n 1, 1) := by decide +kernel
theorem dX11_at_5 : decode mX11_at.2.2.1 5 = .ok (.aload_n 0, 1) := by decide +kernel
theorem dX11_at_6 : decode mX11_at.2.2.1 6 = .ok (.arraylength, 1) := by decide +kernel
theorem dX11_at_7 : decode mX11_at.2.2.1 7 = .ok (.if_icmp .ge 9, 3) := by decide +kernel
theorem dX11_at_10 : decode mX11_at.2.2.1 10 = .ok (.aload_n 0, 1) := by decide +kernel
theorem dX11_at_11 : decode mX11_at.2.2.1 11 = .ok (.iload_n 1, 1) := by decide +kernel
theorem dX11_at_12 : decode mX11_at.2.2.1 12 = .ok (.iaload, 1) := by decide +kernel
theorem dX11_at_13 : decode mX11_at.2.2.1 13 = .ok (.goto 4, 3) := by decide +kernel
theorem dX11_at_16 : decode mX11_at.2.2.1 16 = .ok (.iconst 0, 1) := by decide +kernel
theorem dX11_at_17 : decode mX11_at.2.2.1 17 = .ok (.ireturn, 1) := by decide +kernel
set_option maxHeartbeats 100000 in
theorem kX11_at_0 {d : Nat} {F : am_FT} {L : am_LT} {Q : am_QT} {l0 : Option Value} {x1 : Int32} : wt am_S0 d mX11_at 0 [l0, some (.int x1)] [] F L Q = if x1 < 0 then wt am_S0 d mX11_at 16 [l0, some (.int x1)] [] F L Q else wt am_S0 d mX11_at 4 [l0, some (.int x1)] [] F L Q := (wt_iload_n dX11_at_0 rfl).trans (wt_ifCond_lt dX11_at_1 (t := 16) rfl)
set_option maxHeartbeats 100000 in
theorem kX11_at_4 {d : Nat} {F : am_FT} {L : am_LT} {Q : am_QT} {x1 : Int32} {p0 n1 : Nat} (h1 : am_S0[p0]? = some (100, n1, [])) : wt am_S0 d mX11_at 4 [some (.ref p0), some (.int x1)] [] F L Q = if (Int32.ofNat n1) ≤ x1 then wt am_S0 d mX11_at 16 [some (.ref p0), some (.int x1)] [] F L Q else wt am_S0 d mX11_at 10 [some (.ref p0), some (.int x1)] [] F L Q := (wt_iload_n dX11_at_4 rfl).trans ((wt_aload_n dX11_at_5 rfl rfl).trans ((wt_arraylength dX11_at_6 h1 (am_S0_lt h1) (by decide)).trans (wt_if_icmp_ge dX11_at_7 (t := 16) rfl)))
set_option maxHeartbeats 100000 in
theorem kX11_at_10 {d : Nat} {F : am_FT} {L : am_LT} {Q : am_QT} {p0 n1 : Nat} {x1 : Int32} (h1 : am_S0[p0]? = some (100, n1, [])) (h2 : am_oob x1 n1 = false) : wt am_S0 d mX11_at 10 [some (.ref p0), some (.int x1)] [] F L Q = wt am_S0 d mX11_at 17 [some (.ref p0), some (.int x1)] [.int (F p0 (Int32.toNatClampNeg x1))] F L Q := (wt_aload_n dX11_at_10 rfl rfl).trans ((wt_iload_n dX11_at_11 rfl).trans ((wt_iaload dX11_at_12 h1 (am_S0_lt h1) h2).trans (wt_goto dX11_at_13 (t := 17) rfl)))
set_option maxHeartbeats 100000 in
theorem kX11_at_16 {d : Nat} {F : am_FT} {L : am_LT} {Q : am_QT} {l0 l1 : Option Value} : wt am_S0 d mX11_at 16 [l0, l1] [] F L Q = wt am_S0 d mX11_at 17 [l0, l1] [.int 0] F L Q := wt_iconst dX11_at_16 (v := 0) (by decide)
set_option maxHeartbeats 100000 in
theorem kX11_at_17 {d : Nat} {F : am_FT} {L : am_LT} {Q : am_QT} {l0 l1 : Option Value} {s0 : Int32} : wt am_S0 d mX11_at 17 [l0, l1] [.int s0] F L Q = Q (some (.int s0)) F L := wt_ireturn dX11_at_17 rfl rfl
theorem dX11_lay_0 : decode mX11_lay.2.2.1 0 = .ok (.iload_n 1, 1) := by decide +kernel
theorem dX11_lay_1 : decode mX11_lay.2.2.1 1 = .ok (.ifCond .lt 13, 3) := by decide +kernel
theorem dX11_lay_4 : decode mX11_lay.2.2.1 4 = .ok (.iload_n 1, 1) := by decide +kernel
theorem dX11_lay_5 : decode mX11_lay.2.2.1 5 = .ok (.aload_n 0, 1) := by decide +kernel
theorem dX11_lay_6 : decode mX11_lay.2.2.1 6 = .ok (.arraylength, 1) := by decide +kernel
theorem dX11_lay_7 : decode mX11_lay.2.2.1 7 = .ok (.if_icmp .ge 7, 3) := by decide +kernel
theorem dX11_lay_10 : decode mX11_lay.2.2.1 10 = .ok (.aload_n 0, 1) := by decide +kernel
theorem dX11_lay_11 : decode mX11_lay.2.2.1 11 = .ok (.iload_n 1, 1) := by decide +kernel
theorem dX11_lay_12 : decode mX11_lay.2.2.1 12 = .ok (.iload_n 2, 1) := by decide +kernel
theorem dX11_lay_13 : decode mX11_lay.2.2.1 13 = .ok (.iastore, 1) := by decide +kernel
theorem dX11_lay_14 : decode mX11_lay.2.2.1 14 = .ok (.return_, 1) := by decide +kernel
set_option maxHeartbeats 100000 in
theorem kX11_lay_0 {d : Nat} {F : am_FT} {L : am_LT} {Q : am_QT} {l0 l2 : Option Value} {x1 : Int32} : wt am_S0 d mX11_lay 0 [l0, some (.int x1), l2] [] F L Q = if x1 < 0 then wt am_S0 d mX11_lay 14 [l0, some (.int x1), l2] [] F L Q else wt am_S0 d mX11_lay 4 [l0, some (.int x1), l2] [] F L Q := (wt_iload_n dX11_lay_0 rfl).trans (wt_ifCond_lt dX11_lay_1 (t := 14) rfl)
set_option maxHeartbeats 100000 in
theorem kX11_lay_4 {d : Nat} {F : am_FT} {L : am_LT} {Q : am_QT} {l2 : Option Value} {x1 : Int32} {p0 n1 : Nat} (h1 : am_S0[p0]? = some (100, n1, [])) : wt am_S0 d mX11_lay 4 [some (.ref p0), some (.int x1), l2] [] F L Q = if (Int32.ofNat n1) ≤ x1 then wt am_S0 d mX11_lay 14 [some (.ref p0), some (.int x1), l2] [] F L Q else wt am_S0 d mX11_lay 10 [some (.ref p0), some (.int x1), l2] [] F L Q := (wt_iload_n dX11_lay_4 rfl).trans ((wt_aload_n dX11_lay_5 rfl rfl).trans ((wt_arraylength dX11_lay_6 h1 (am_S0_lt h1) (by decide)).trans (wt_if_icmp_ge dX11_lay_7 (t := 14) rfl)))
set_option maxHeartbeats 100000 in
theorem kX11_lay_10 {d : Nat} {F : am_FT} {L : am_LT} {Q : am_QT} {p0 n1 : Nat} {x1 x2 : Int32} (h1 : am_S0[p0]? = some (100, n1, [])) (h2 : am_oob x1 n1 = false) : wt am_S0 d mX11_lay 10 [some (.ref p0), some (.int x1), some (.int x2)] [] F L Q = wt am_S0 d mX11_lay 14 [some (.ref p0), some (.int x1), some (.int x2)] [] (am_upF F p0 (Int32.toNatClampNeg x1) x2) L Q := (wt_aload_n dX11_lay_10 rfl rfl).trans ((wt_iload_n dX11_lay_11 rfl).trans ((wt_iload_n dX11_lay_12 rfl).trans (wt_iastore dX11_lay_13 h1 h2)))
set_option maxHeartbeats 100000 in
theorem kX11_lay_14 {d : Nat} {F : am_FT} {L : am_LT} {Q : am_QT} {l0 l1 l2 : Option Value} : wt am_S0 d mX11_lay 14 [l0, l1, l2] [] F L Q = Q none F L := wt_return dX11_lay_14 rfl
theorem dX11_tree_0 : decode mX11_tree.2.2.1 0 = .ok (.aload_n 0, 1) := by decide +kernel
theorem dX11_tree_1 : decode mX11_tree.2.2.1 1 = .ok (.getfield 12, 3) := by decide +kernel
theorem dX11_tree_4 : decode mX11_tree.2.2.1 4 = .ok (.iconst 0, 1) := by decide +kernel
theorem dX11_tree_5 : decode mX11_tree.2.2.1 5 = .ok (.iload_n 1, 1) := by decide +kernel
theorem dX11_tree_6 : decode mX11_tree.2.2.1 6 = .ok (.invokevirtual 101, 3) := by decide +kernel
theorem dX11_tree_9 : decode mX11_tree.2.2.1 9 = .ok (.ifCond .eq 15, 3) := by decide +kernel
theorem dX11_tree_12 : decode mX11_tree.2.2.1 12 = .ok (.aload_n 0, 1) := by decide +kernel
theorem dX11_tree_13 : decode mX11_tree.2.2.1 13 = .ok (.getfield 12, 3) := by decide +kernel
theorem dX11_tree_16 : decode mX11_tree.2.2.1 16 = .ok (.iconst 1, 1) := by decide +kernel
theorem dX11_tree_17 : decode mX11_tree.2.2.1 17 = .ok (.iload_n 2, 1) := by decide +kernel
theorem dX11_tree_18 : decode mX11_tree.2.2.1 18 = .ok (.invokevirtual 101, 3) := by decide +kernel
theorem dX11_tree_21 : decode mX11_tree.2.2.1 21 = .ok (.ifCond .ne 5, 3) := by decide +kernel
theorem dX11_tree_24 : decode mX11_tree.2.2.1 24 = .ok (.iconst (-1), 1) := by decide +kernel
theorem dX11_tree_25 : decode mX11_tree.2.2.1 25 = .ok (.ireturn, 1) := by decide +kernel
theorem dX11_tree_26 : decode mX11_tree.2.2.1 26 = .ok (.aload_n 0, 1) := by decide +kernel
theorem dX11_tree_27 : decode mX11_tree.2.2.1 27 = .ok (.getfield 12, 3) := by decide +kernel
theorem dX11_tree_30 : decode mX11_tree.2.2.1 30 = .ok (.iload_n 1, 1) := by decide +kernel
theorem dX11_tree_31 : decode mX11_tree.2.2.1 31 = .ok (.iload_n 2, 1) := by decide +kernel
theorem dX11_tree_32 : decode mX11_tree.2.2.1 32 = .ok (.invokevirtual 105, 3) := by decide +kernel
theorem dX11_tree_35 : decode mX11_tree.2.2.1 35 = .ok (.ireturn, 1) := by decide +kernel
set_option maxHeartbeats 100000 in
theorem kX11_tree_0 {d : Nat} {F : am_FT} {L : am_LT} {Q : am_QT} {l2 : Option Value} {x1 : Int32} : wt am_S0 (d + 1) mX11_tree 0 [some (.ref 0), some (.int x1), l2] [] F L Q = wc am_S0 d mX5_fits [.ref 1, .int 0, .int x1] F L (fun r G K => wt am_S0 (d + 1) mX11_tree 9 [some (.ref 0), some (.int x1), l2] (r.toList ++ []) G K Q) := (wt_aload_n dX11_tree_0 rfl rfl).trans ((wt_getfield dX11_tree_1 rfl rfl (v := .ref 1) rfl).trans ((wt_iconst dX11_tree_4 (v := 0) (by decide)).trans ((wt_iload_n dX11_tree_5 rfl).trans (wt_callV dX11_tree_6 rfl (as := [.int 0, .int x1]) (rest := []) rfl rfl (Nat.le_of_ble_eq_true rfl) rfl (Nat.le_of_ble_eq_true rfl)))))
set_option maxHeartbeats 100000 in
theorem kX11_tree_9 {d : Nat} {F : am_FT} {L : am_LT} {Q : am_QT} {l0 l1 l2 : Option Value} {s0 : Int32} : wt am_S0 d mX11_tree 9 [l0, l1, l2] [.int s0] F L Q = if s0 = 0 then wt am_S0 d mX11_tree 24 [l0, l1, l2] [] F L Q else wt am_S0 d mX11_tree 12 [l0, l1, l2] [] F L Q := wt_ifCond_eq dX11_tree_9 (t := 24) rfl
set_option maxHeartbeats 100000 in
theorem kX11_tree_12 {d : Nat} {F : am_FT} {L : am_LT} {Q : am_QT} {l1 : Option Value} {x2 : Int32} : wt am_S0 (d + 1) mX11_tree 12 [some (.ref 0), l1, some (.int x2)] [] F L Q = wc am_S0 d mX5_fits [.ref 1, .int 1, .int x2] F L (fun r G K => wt am_S0 (d + 1) mX11_tree 21 [some (.ref 0), l1, some (.int x2)] (r.toList ++ []) G K Q) := (wt_aload_n dX11_tree_12 rfl rfl).trans ((wt_getfield dX11_tree_13 rfl rfl (v := .ref 1) rfl).trans ((wt_iconst dX11_tree_16 (v := 1) (by decide)).trans ((wt_iload_n dX11_tree_17 rfl).trans (wt_callV dX11_tree_18 rfl (as := [.int 1, .int x2]) (rest := []) rfl rfl (Nat.le_of_ble_eq_true rfl) rfl (Nat.le_of_ble_eq_true rfl)))))
set_option maxHeartbeats 100000 in
theorem kX11_tree_21 {d : Nat} {F : am_FT} {L : am_LT} {Q : am_QT} {l0 l1 l2 : Option Value} {s0 : Int32} : wt am_S0 d mX11_tree 21 [l0, l1, l2] [.int s0] F L Q = if ¬ s0 = 0 then wt am_S0 d mX11_tree 26 [l0, l1, l2] [] F L Q else wt am_S0 d mX11_tree 24 [l0, l1, l2] [] F L Q := wt_ifCond_ne dX11_tree_21 (t := 26) rfl
set_option maxHeartbeats 100000 in
theorem kX11_tree_24 {d : Nat} {F : am_FT} {L : am_LT} {Q : am_QT} {l0 l1 l2 : Option Value} : wt am_S0 d mX11_tree 24 [l0, l1, l2] [] F L Q = Q (some (.int (-1))) F L := (wt_iconst dX11_tree_24 (v := (-1)) (by decide)).trans (wt_ireturn dX11_tree_25 rfl rfl)
set_option maxHeartbeats 100000 in
theorem kX11_tree_26 {d : Nat} {F : am_FT} {L : am_LT} {Q : am_QT} {x1 x2 : Int32} : wt am_S0 (d + 1) mX11_tree 26 [some (.ref 0), some (.int x1), some (.int x2)] [] F L Q = wc am_S0 d mX5_addTree [.ref 1, .int x1, .int x2] F L (fun r G K => wt am_S0 (d + 1) mX11_tree 35 [some (.ref 0), some (.int x1), some (.int x2)] (r.toList ++ []) G K Q) := (wt_aload_n dX11_tree_26 rfl rfl).trans ((wt_getfield dX11_tree_27 rfl rfl (v := .ref 1) rfl).trans ((wt_iload_n dX11_tree_30 rfl).trans ((wt_iload_n dX11_tree_31 rfl).trans (wt_callV dX11_tree_32 rfl (as := [.int x1, .int x2]) (rest := []) rfl rfl (Nat.le_of_ble_eq_true rfl) rfl (Nat.le_of_ble_eq_true rfl)))))
set_option maxHeartbeats 100000 in
theorem kX11_tree_35 {d : Nat} {F : am_FT} {L : am_LT} {Q : am_QT} {l0 l1 l2 : Option Value} {s0 : Int32} : wt am_S0 d mX11_tree 35 [l0, l1, l2] [.int s0] F L Q = Q (some (.int s0)) F L := wt_ireturn dX11_tree_35 rfl rfl
theorem dX11_within_0 : decode mX11_within.2.2.1 0 = .ok (.iload_n 0, 1) := by decide +kernel
theorem dX11_within_1 : decode mX11_within.2.2.1 1 = .ok (.iload_n 1, 1) := by decide +kernel
theorem dX11_within_2 : decode mX11_within.2.2.1 2 = .ok (.if_icmp .lt 12, 3) := by decide +kernel
theorem dX11_within_5 : decode mX11_within.2.2.1 5 = .ok (.iload_n 0, 1) := by decide +kernel
theorem dX11_within_6 : decode mX11_within.2.2.1 6 = .ok (.iload_n 2, 1) := by decide +kernel
theorem dX11_within_7 : decode mX11_within.2.2.1 7 = .ok (.if_icmp .gt 7, 3) := by decide +kernel
theorem dX11_within_10 : decode mX11_within.2.2.1 10 = .ok (.iconst 1, 1) := by decide +kernel
theorem dX11_within_11 : decode mX11_within.2.2.1 11 = .ok (.goto 4, 3) := by decide +kernel
theorem dX11_within_14 : decode mX11_within.2.2.1 14 = .ok (.iconst 0, 1) := by decide +kernel
theorem dX11_within_15 : decode mX11_within.2.2.1 15 = .ok (.ireturn, 1) := by decide +kernel
set_option maxHeartbeats 100000 in
theorem kX11_within_0 {d : Nat} {F : am_FT} {L : am_LT} {Q : am_QT} {l2 : Option Value} {x0 x1 : Int32} : wt am_S0 d mX11_within 0 [some (.int x0), some (.int x1), l2] [] F L Q = if x0 < x1 then wt am_S0 d mX11_within 14 [some (.int x0), some (.int x1), l2] [] F L Q else wt am_S0 d mX11_within 5 [some (.int x0), some (.int x1), l2] [] F L Q := (wt_iload_n dX11_within_0 rfl).trans ((wt_iload_n dX11_within_1 rfl).trans (wt_if_icmp_lt dX11_within_2 (t := 14) rfl))
set_option maxHeartbeats 100000 in
theorem kX11_within_5 {d : Nat} {F : am_FT} {L : am_LT} {Q : am_QT} {l1 : Option Value} {x0 x2 : Int32} : wt am_S0 d mX11_within 5 [some (.int x0), l1, some (.int x2)] [] F L Q = if x2 < x0 then wt am_S0 d mX11_within 14 [some (.int x0), l1, some (.int x2)] [] F L Q else wt am_S0 d mX11_within 10 [some (.int x0), l1, some (.int x2)] [] F L Q := (wt_iload_n dX11_within_5 rfl).trans ((wt_iload_n dX11_within_6 rfl).trans (wt_if_icmp_gt dX11_within_7 (t := 14) rfl))
set_option maxHeartbeats 100000 in
theorem kX11_within_10 {d : Nat} {F : am_FT} {L : am_LT} {Q : am_QT} {l0 l1 l2 : Option Value} : wt am_S0 d mX11_within 10 [l0, l1, l2] [] F L Q = wt am_S0 d mX11_within 15 [l0, l1, l2] [.int 1] F L Q := (wt_iconst dX11_within_10 (v := 1) (by decide)).trans (wt_goto dX11_within_11 (t := 15) rfl)
set_option maxHeartbeats 100000 in
theorem kX11_within_14 {d : Nat} {F : am_FT} {L : am_LT} {Q : am_QT} {l0 l1 l2 : Option Value} : wt am_S0 d mX11_within 14 [l0, l1, l2] [] F L Q = wt am_S0 d mX11_within 15 [l0, l1, l2] [.int 0] F L Q := wt_iconst dX11_within_14 (v := 0) (by decide)
set_option maxHeartbeats 100000 in
theorem kX11_within_15 {d : Nat} {F : am_FT} {L : am_LT} {Q : am_QT} {l0 l1 l2 : Option Value} {s0 : Int32} (h1 : narrow .boolean (.int s0) = .int s0) : wt am_S0 d mX11_within 15 [l0, l1, l2] [.int s0] F L Q = Q (some (.int s0)) F L := wt_ireturn dX11_within_15 rfl h1
theorem dX11_person_0 : decode mX11_person.2.2.1 0 = .ok (.aload_n 0, 1) := by decide +kernel
theorem dX11_person_1 : decode mX11_person.2.2.1 1 = .ok (.getfield 12, 3) := by decide +kernel
theorem dX11_person_4 : decode mX11_person.2.2.1 4 = .ok (.iconst 4, 1) := by decide +kernel
theorem dX11_person_5 : decode mX11_person.2.2.1 5 = .ok (.iload_n 1, 1) := by decide +kernel
theorem dX11_person_6 : decode mX11_person.2.2.1 6 = .ok (.invokevirtual 101, 3) := by decide +kernel
theorem dX11_person_9 : decode mX11_person.2.2.1 9 = .ok (.ifCond .eq 15, 3) := by decide +kernel
theorem dX11_person_12 : decode mX11_person.2.2.1 12 = .ok (.aload_n 0, 1) := by decide +kernel
theorem dX11_person_13 : decode mX11_person.2.2.1 13 = .ok (.getfield 12, 3) := by decide +kernel
theorem dX11_person_16 : decode mX11_person.2.2.1 16 = .ok (.iconst 5, 1) := by decide +kernel
theorem dX11_person_17 : decode mX11_person.2.2.1 17 = .ok (.iload_n 2, 1) := by decide +kernel
theorem dX11_person_18 : decode mX11_person.2.2.1 18 = .ok (.invokevirtual 101, 3) := by decide +kernel
theorem dX11_person_21 : decode mX11_person.2.2.1 21 = .ok (.ifCond .ne 5, 3) := by decide +kernel
theorem dX11_person_24 : decode mX11_person.2.2.1 24 = .ok (.iconst (-1), 1) := by decide +kernel
theorem dX11_person_25 : decode mX11_person.2.2.1 25 = .ok (.ireturn, 1) := by decide +kernel
theorem dX11_person_26 : decode mX11_person.2.2.1 26 = .ok (.aload_n 0, 1) := by decide +kernel
theorem dX11_person_27 : decode mX11_person.2.2.1 27 = .ok (.getfield 12, 3) := by decide +kernel
theorem dX11_person_30 : decode mX11_person.2.2.1 30 = .ok (.iload_n 1, 1) := by decide +kernel
theorem dX11_person_31 : decode mX11_person.2.2.1 31 = .ok (.iload_n 2, 1) := by decide +kernel
theorem dX11_person_32 : decode mX11_person.2.2.1 32 = .ok (.iconst 1, 1) := by decide +kernel
theorem dX11_person_33 : decode mX11_person.2.2.1 33 = .ok (.invokevirtual 109, 3) := by decide +kernel
theorem dX11_person_36 : decode mX11_person.2.2.1 36 = .ok (.ireturn, 1) := by decide +kernel
set_option maxHeartbeats 100000 in
theorem kX11_person_0 {d : Nat} {F : am_FT} {L : am_LT} {Q : am_QT} {l2 : Option Value} {x1 : Int32} : wt am_S0 (d + 1) mX11_person 0 [some (.ref 0), some (.int x1), l2] [] F L Q = wc am_S0 d mX5_fits [.ref 1, .int 4, .int x1] F L (fun r G K => wt am_S0 (d + 1) mX11_person 9 [some (.ref 0), some (.int x1), l2] (r.toList ++ []) G K Q) := (wt_aload_n dX11_person_0 rfl rfl).trans ((wt_getfield dX11_person_1 rfl rfl (v := .ref 1) rfl).trans ((wt_iconst dX11_person_4 (v := 4) (by decide)).trans ((wt_iload_n dX11_person_5 rfl).trans (wt_callV dX11_person_6 rfl (as := [.int 4, .int x1]) (rest := []) rfl rfl (Nat.le_of_ble_eq_true rfl) rfl (Nat.le_of_ble_eq_true rfl)))))
set_option maxHeartbeats 100000 in
theorem kX11_person_9 {d : Nat} {F : am_FT} {L : am_LT} {Q : am_QT} {l0 l1 l2 : Option Value} {s0 : Int32} : wt am_S0 d mX11_person 9 [l0, l1, l2] [.int s0] F L Q = if s0 = 0 then wt am_S0 d mX11_person 24 [l0, l1, l2] [] F L Q else wt am_S0 d mX11_person 12 [l0, l1, l2] [] F L Q := wt_ifCond_eq dX11_person_9 (t := 24) rfl
set_option maxHeartbeats 100000 in
theorem kX11_person_12 {d : Nat} {F : am_FT} {L : am_LT} {Q : am_QT} {l1 : Option Value} {x2 : Int32} : wt am_S0 (d + 1) mX11_person 12 [some (.ref 0), l1, some (.int x2)] [] F L Q = wc am_S0 d mX5_fits [.ref 1, .int 5, .int x2] F L (fun r G K => wt am_S0 (d + 1) mX11_person 21 [some (.ref 0), l1, some (.int x2)] (r.toList ++ []) G K Q) := (wt_aload_n dX11_person_12 rfl rfl).trans ((wt_getfield dX11_person_13 rfl rfl (v := .ref 1) rfl).trans ((wt_iconst dX11_person_16 (v := 5) (by decide)).trans ((wt_iload_n dX11_person_17 rfl).trans (wt_callV dX11_person_18 rfl (as := [.int 5, .int x2]) (rest := []) rfl rfl (Nat.le_of_ble_eq_true rfl) rfl (Nat.le_of_ble_eq_true rfl)))))
set_option maxHeartbeats 100000 in
theorem kX11_person_21 {d : Nat} {F : am_FT} {L : am_LT} {Q : am_QT} {l0 l1 l2 : Option Value} {s0 : Int32} : wt am_S0 d mX11_person 21 [l0, l1, l2] [.int s0] F L Q = if ¬ s0 = 0 then wt am_S0 d mX11_person 26 [l0, l1, l2] [] F L Q else wt am_S0 d mX11_person 24 [l0, l1, l2] [] F L Q := wt_ifCond_ne dX11_person_21 (t := 26) rfl
set_option maxHeartbeats 100000 in
theorem kX11_person_24 {d : Nat} {F : am_FT} {L : am_LT} {Q : am_QT} {l0 l1 l2 : Option Value} : wt am_S0 d mX11_person 24 [l0, l1, l2] [] F L Q = Q (some (.int (-1))) F L := (wt_iconst dX11_person_24 (v := (-1)) (by decide)).trans (wt_ireturn dX11_person_25 rfl rfl)
set_option maxHeartbeats 100000 in
theorem kX11_person_26 {d : Nat} {F : am_FT} {L : am_LT} {Q : am_QT} {x1 x2 : Int32} : wt am_S0 (d + 1) mX11_person 26 [some (.ref 0), some (.int x1), some (.int x2)] [] F L Q = wc am_S0 d mX5_addPerson [.ref 1, .int x1, .int x2, .int 1] F L (fun r G K => wt am_S0 (d + 1) mX11_person 36 [some (.ref 0), some (.int x1), some (.int x2)] (r.toList ++ []) G K Q) := (wt_aload_n dX11_person_26 rfl rfl).trans ((wt_getfield dX11_person_27 rfl rfl (v := .ref 1) rfl).trans ((wt_iload_n dX11_person_30 rfl).trans ((wt_iload_n dX11_person_31 rfl).trans ((wt_iconst dX11_person_32 (v := 1) (by decide)).trans (wt_callV dX11_person_33 rfl (as := [.int x1, .int x2, .int 1]) (rest := []) rfl rfl (Nat.le_of_ble_eq_true rfl) rfl (Nat.le_of_ble_eq_true rfl))))))
set_option maxHeartbeats 100000 in
theorem kX11_person_36 {d : Nat} {F : am_FT} {L : am_LT} {Q : am_QT} {l0 l1 l2 : Option Value} {s0 : Int32} : wt am_S0 d mX11_person 36 [l0, l1, l2] [.int s0] F L Q = Q (some (.int s0)) F L := wt_ireturn dX11_person_36 rfl rfl
theorem dX11_people_0 : decode mX11_people.2.2.1 0 = .ok (.aload_n 0, 1) := by decide +kernel
theorem dX11_people_1 : decode mX11_people.2.2.1 1 = .ok (.iload_n 1, 1) := by decide +kernel
theorem dX11_people_2 : decode mX11_people.2.2.1 2 = .ok (.invokevirtual 113, 3) := by decide +kernel
theorem dX11_people_5 : decode mX11_people.2.2.1 5 = .ok (.astore 4, 2) := by decide +kernel
theorem dX11_people_7 : decode mX11_people.2.2.1 7 = .ok (.aload 4, 2) := by decide +kernel
theorem dX11_people_9 : decode mX11_people.2.2.1 9 = .ok (.ifnull 13, 3) := by decide +kernel
theorem dX11_people_12 : decode mX11_people.2.2.1 12 = .ok (.iload_n 3, 1) := by decide +kernel
theorem dX11_people_13 : decode mX11_people.2.2.1 13 = .ok (.iconst 1, 1) := by decide +kernel
theorem dX11_people_14 : decode mX11_people.2.2.1 14 = .ok (.bipush 10, 2) := by decide +kernel
theorem dX11_people_16 : decode mX11_people.2.2.1 16 = .ok (.invokestatic 117, 3) := by decide +kernel
theorem dX11_people_19 : decode mX11_people.2.2.1 19 = .ok (.ifCond .ne 5, 3) := by decide +kernel
theorem dX11_people_22 : decode mX11_people.2.2.1 22 = .ok (.iconst (-1), 1) := by decide +kernel
theorem dX11_people_23 : decode mX11_people.2.2.1 23 = .ok (.ireturn, 1) := by decide +kernel
theorem dX11_people_24 : decode mX11_people.2.2.1 24 = .ok (.aload 4, 2) := by decide +kernel
theorem dX11_people_26 : decode mX11_people.2.2.1 26 = .ok (.invokevirtual 121, 3) := by decide +kernel
theorem dX11_people_29 : decode mX11_people.2.2.1 29 = .ok (.ifCond .ne 15, 3) := by decide +kernel
theorem dX11_people_32 : decode mX11_people.2.2.1 32 = .ok (.aload 4, 2) := by decide +kernel
theorem dX11_people_34 : decode mX11_people.2.2.1 34 = .ok (.iconst 1, 1) := by decide +kernel
theorem dX11_people_35 : decode mX11_people.2.2.1 35 = .ok (.invokevirtual 125, 3) := by decide +kernel
theorem dX11_people_38 : decode mX11_people.2.2.1 38 = .ok (.ifCond .ne 6, 3) := by decide +kernel
theorem dX11_people_41 : decode mX11_people.2.2.1 41 = .ok (.bipush (-12), 2) := by decide +kernel
theorem dX11_people_43 : decode mX11_people.2.2.1 43 = .ok (.ireturn, 1) := by decide +kernel
theorem dX11_people_44 : decode mX11_people.2.2.1 44 = .ok (.iconst 0, 1) := by decide +kernel
theorem dX11_people_45 : decode mX11_people.2.2.1 45 = .ok (.istore 5, 2) := by decide +kernel
theorem dX11_people_47 : decode mX11_people.2.2.1 47 = .ok (.iconst 0, 1) := by decide +kernel
theorem dX11_people_48 : decode mX11_people.2.2.1 48 = .ok (.istore 6, 2) := by decide +kernel
theorem dX11_people_50 : decode mX11_people.2.2.1 50 = .ok (.iload 6, 2) := by decide +kernel
theorem dX11_people_52 : decode mX11_people.2.2.1 52 = .ok (.iload_n 3, 1) := by decide +kernel
theorem dX11_people_53 : decode mX11_people.2.2.1 53 = .ok (.if_icmp .ge 32, 3) := by decide +kernel
theorem dX11_people_56 : decode mX11_people.2.2.1 56 = .ok (.aload_n 0, 1) := by decide +kernel
theorem dX11_people_57 : decode mX11_people.2.2.1 57 = .ok (.aload 4, 2) := by decide +kernel
theorem dX11_people_59 : decode mX11_people.2.2.1 59 = .ok (.iload_n 2, 1) := by decide +kernel
theorem dX11_people_60 : decode mX11_people.2.2.1 60 = .ok (.i2l, 1) := by decide +kernel
theorem dX11_people_61 : decode mX11_people.2.2.1 61 = .ok (.iconst 3, 1) := by decide +kernel
theorem dX11_people_62 : decode mX11_people.2.2.1 62 = .ok (.iload 6, 2) := by decide +kernel
theorem dX11_people_64 : decode mX11_people.2.2.1 64 = .ok (.imul, 1) := by decide +kernel
theorem dX11_people_65 : decode mX11_people.2.2.1 65 = .ok (.i2l, 1) := by decide +kernel
theorem dX11_people_66 : decode mX11_people.2.2.1 66 = .ok (.ladd, 1) := by decide +kernel
theorem dX11_people_67 : decode mX11_people.2.2.1 67 = .ok (.invokevirtual 129, 3) := by decide +kernel
theorem dX11_people_70 : decode mX11_people.2.2.1 70 = .ok (.ifCond .ne 6, 3) := by decide +kernel
theorem dX11_people_73 : decode mX11_people.2.2.1 73 = .ok (.goto 12, 3) := by decide +kernel
theorem dX11_people_76 : decode mX11_people.2.2.1 76 = .ok (.iinc 5 1, 3) := by decide +kernel
theorem dX11_people_79 : decode mX11_people.2.2.1 79 = .ok (.iinc 6 1, 3) := by decide +kernel
theorem dX11_people_82 : decode mX11_people.2.2.1 82 = .ok (.goto (-32), 3) := by decide +kernel
theorem dX11_people_85 : decode mX11_people.2.2.1 85 = .ok (.iload 5, 2) := by decide +kernel
theorem dX11_people_87 : decode mX11_people.2.2.1 87 = .ok (.ireturn, 1) := by decide +kernel
set_option maxHeartbeats 100000 in
theorem kX11_people_0 {d : Nat} {F : am_FT} {L : am_LT} {Q : am_QT} {l2 l3 l4 l5 l6 : Option Value} {x1 : Int32} : wt am_S0 (d + 1) mX11_people 0 [some (.ref 0), some (.int x1), l2, l3, l4, l5, l6] [] F L Q = wc am_S0 d mX11_shelfAt [.ref 0, .int x1] F L (fun r G K => wt am_S0 (d + 1) mX11_people 5 [some (.ref 0), some (.int x1), l2, l3, l4, l5, l6] (r.toList ++ []) G K Q) := (wt_aload_n dX11_people_0 rfl rfl).trans ((wt_iload_n dX11_people_1 rfl).trans (wt_callV dX11_people_2 rfl (as := [.int x1]) (rest := []) rfl rfl (Nat.le_of_ble_eq_true rfl) rfl (Nat.le_of_ble_eq_true rfl)))
set_option maxHeartbeats 100000 in
theorem kX11_people_5 {d : Nat} {F : am_FT} {L : am_LT} {Q : am_QT} {l0 l1 l2 l4 l5 l6 : Option Value} {q0 : Nat} {x3 : Int32} : wt am_S0 d mX11_people 5 [l0, l1, l2, some (.int x3), l4, l5, l6] [.ref q0] F L Q = wt am_S0 d mX11_people 12 [l0, l1, l2, some (.int x3), some (.ref q0), l5, l6] [] F L Q := (wt_astore dX11_people_5 (lv1 := [l0, l1, l2, some (.int x3), some (.ref q0), l5, l6]) rfl (Nat.le_of_ble_eq_true rfl) rfl).trans ((wt_aload dX11_people_7 rfl rfl).trans (wt_ifnull dX11_people_9))
set_option maxHeartbeats 100000 in
theorem kX11_people_5N {d : Nat} {F : am_FT} {L : am_LT} {Q : am_QT} {l0 l1 l2 l4 l5 l6 : Option Value} {x3 : Int32} : wt am_S0 d mX11_people 5 [l0, l1, l2, some (.int x3), l4, l5, l6] [.null] F L Q = wt am_S0 d mX11_people 22 [l0, l1, l2, some (.int x3), some .null, l5, l6] [] F L Q := (wt_astore dX11_people_5 (lv1 := [l0, l1, l2, some (.int x3), some .null, l5, l6]) rfl (Nat.le_of_ble_eq_true rfl) rfl).trans ((wt_aload dX11_people_7 rfl rfl).trans (wt_ifnullN dX11_people_9 (t := 22) rfl))
set_option maxHeartbeats 100000 in
theorem kX11_people_12 {d : Nat} {F : am_FT} {L : am_LT} {Q : am_QT} {l0 l1 l2 l4 l5 l6 : Option Value} {x3 : Int32} : wt am_S0 (d + 1) mX11_people 12 [l0, l1, l2, some (.int x3), l4, l5, l6] [] F L Q = wc am_S0 d mX11_within [.int x3, .int 1, .int 10] F L (fun r G K => wt am_S0 (d + 1) mX11_people 19 [l0, l1, l2, some (.int x3), l4, l5, l6] (r.toList ++ []) G K Q) := (wt_iload_n dX11_people_12 rfl).trans ((wt_iconst dX11_people_13 (v := 1) (by decide)).trans ((wt_bipush dX11_people_14 (v := 10) (by decide)).trans (wt_callS dX11_people_16 rfl (as := [.int x3, .int 1, .int 10]) (rest := []) rfl rfl (Nat.le_of_ble_eq_true rfl) (Nat.le_of_ble_eq_true rfl))))
set_option maxHeartbeats 100000 in
theorem kX11_people_19 {d : Nat} {F : am_FT} {L : am_LT} {Q : am_QT} {l0 l1 l2 l3 l4 l5 l6 : Option Value} {s0 : Int32} : wt am_S0 d mX11_people 19 [l0, l1, l2, l3, l4, l5, l6] [.int s0] F L Q = if ¬ s0 = 0 then wt am_S0 d mX11_people 24 [l0, l1, l2, l3, l4, l5, l6] [] F L Q else wt am_S0 d mX11_people 22 [l0, l1, l2, l3, l4, l5, l6] [] F L Q := wt_ifCond_ne dX11_people_19 (t := 24) rfl
set_option maxHeartbeats 100000 in
theorem kX11_people_22 {d : Nat} {F : am_FT} {L : am_LT} {Q : am_QT} {l0 l1 l2 l3 l4 l5 l6 : Option Value} : wt am_S0 d mX11_people 22 [l0, l1, l2, l3, l4, l5, l6] [] F L Q = Q (some (.int (-1))) F L := (wt_iconst dX11_people_22 (v := (-1)) (by decide)).trans (wt_ireturn dX11_people_23 rfl rfl)
set_option maxHeartbeats 100000 in
theorem kX11_people_24 {d : Nat} {F : am_FT} {L : am_LT} {Q : am_QT} {l0 l1 l2 l3 l5 l6 : Option Value} {p4 e1 : Nat} (h1 : am_S0[p4]? = some (8, 4, [some e1, none, none, none])) : wt am_S0 (d + 1) mX11_people 24 [l0, l1, l2, l3, some (.ref p4), l5, l6] [] F L Q = wc am_S0 d mX8_isEmpty [.ref p4] F L (fun r G K => wt am_S0 (d + 1) mX11_people 29 [l0, l1, l2, l3, some (.ref p4), l5, l6] (r.toList ++ []) G K Q) := (wt_aload dX11_people_24 rfl rfl).trans (wt_callV dX11_people_26 rfl (as := []) (rest := []) rfl rfl (Nat.le_of_ble_eq_true rfl) h1 (Nat.le_of_ble_eq_true rfl))
set_option maxHeartbeats 100000 in
theorem kX11_people_29 {d : Nat} {F : am_FT} {L : am_LT} {Q : am_QT} {l0 l1 l2 l3 l4 l5 l6 : Option Value} {s0 : Int32} : wt am_S0 d mX11_people 29 [l0, l1, l2, l3, l4, l5, l6] [.int s0] F L Q = if ¬ s0 = 0 then wt am_S0 d mX11_people 44 [l0, l1, l2, l3, l4, l5, l6] [] F L Q else wt am_S0 d mX11_people 32 [l0, l1, l2, l3, l4, l5, l6] [] F L Q := wt_ifCond_ne dX11_people_29 (t := 44) rfl
set_option maxHeartbeats 100000 in
theorem kX11_people_32 {d : Nat} {F : am_FT} {L : am_LT} {Q : am_QT} {l0 l1 l2 l3 l5 l6 : Option Value} {p4 e1 : Nat} (h1 : am_S0[p4]? = some (8, 4, [some e1, none, none, none])) : wt am_S0 (d + 1) mX11_people 32 [l0, l1, l2, l3, some (.ref p4), l5, l6] [] F L Q = wc am_S0 d mX8_isRowOf [.ref p4, .int 1] F L (fun r G K => wt am_S0 (d + 1) mX11_people 38 [l0, l1, l2, l3, some (.ref p4), l5, l6] (r.toList ++ []) G K Q) := (wt_aload dX11_people_32 rfl rfl).trans ((wt_iconst dX11_people_34 (v := 1) (by decide)).trans (wt_callV dX11_people_35 rfl (as := [.int 1]) (rest := []) rfl rfl (Nat.le_of_ble_eq_true rfl) h1 (Nat.le_of_ble_eq_true rfl)))
set_option maxHeartbeats 100000 in
theorem kX11_people_38 {d : Nat} {F : am_FT} {L : am_LT} {Q : am_QT} {l0 l1 l2 l3 l4 l5 l6 : Option Value} {s0 : Int32} : wt am_S0 d mX11_people 38 [l0, l1, l2, l3, l4, l5, l6] [.int s0] F L Q = if ¬ s0 = 0 then wt am_S0 d mX11_people 44 [l0, l1, l2, l3, l4, l5, l6] [] F L Q else wt am_S0 d mX11_people 41 [l0, l1, l2, l3, l4, l5, l6] [] F L Q := wt_ifCond_ne dX11_people_38 (t := 44) rfl
set_option maxHeartbeats 100000 in
theorem kX11_people_41 {d : Nat} {F : am_FT} {L : am_LT} {Q : am_QT} {l0 l1 l2 l3 l4 l5 l6 : Option Value} : wt am_S0 d mX11_people 41 [l0, l1, l2, l3, l4, l5, l6] [] F L Q = Q (some (.int (-12))) F L := (wt_bipush dX11_people_41 (v := (-12)) (by decide)).trans (wt_ireturn dX11_people_43 rfl rfl)
set_option maxHeartbeats 100000 in
theorem kX11_people_44 {d : Nat} {F : am_FT} {L : am_LT} {Q : am_QT} {l0 l1 l2 l3 l5 l6 : Option Value} {p4 : Nat} : wt am_S0 d mX11_people 44 [l0, l1, l2, l3, some (.ref p4), l5, l6] [] F L Q = wt am_S0 d mX11_people 50 [l0, l1, l2, l3, some (.ref p4), some (.int 0), some (.int 0)] [] F L Q := (wt_iconst dX11_people_44 (v := 0) (by decide)).trans ((wt_istore dX11_people_45 (lv1 := [l0, l1, l2, l3, some (.ref p4), some (.int 0), l6]) (Nat.le_of_ble_eq_true rfl) rfl).trans ((wt_iconst dX11_people_47 (v := 0) (by decide)).trans (wt_istore dX11_people_48 (lv1 := [l0, l1, l2, l3, some (.ref p4), some (.int 0), some (.int 0)]) (Nat.le_of_ble_eq_true rfl) rfl)))
set_option maxHeartbeats 100000 in
theorem kX11_people_44N {d : Nat} {F : am_FT} {L : am_LT} {Q : am_QT} {l0 l1 l2 l3 l5 l6 : Option Value} : wt am_S0 d mX11_people 44 [l0, l1, l2, l3, some .null, l5, l6] [] F L Q = wt am_S0 d mX11_people 50 [l0, l1, l2, l3, some .null, some (.int 0), some (.int 0)] [] F L Q := (wt_iconst dX11_people_44 (v := 0) (by decide)).trans ((wt_istore dX11_people_45 (lv1 := [l0, l1, l2, l3, some .null, some (.int 0), l6]) (Nat.le_of_ble_eq_true rfl) rfl).trans ((wt_iconst dX11_people_47 (v := 0) (by decide)).trans (wt_istore dX11_people_48 (lv1 := [l0, l1, l2, l3, some .null, some (.int 0), some (.int 0)]) (Nat.le_of_ble_eq_true rfl) rfl)))
set_option maxHeartbeats 100000 in
theorem kX11_people_50 {d : Nat} {F : am_FT} {L : am_LT} {Q : am_QT} {l0 l1 l2 l4 l5 : Option Value} {x6 x3 : Int32} : wt am_S0 d mX11_people 50 [l0, l1, l2, some (.int x3), l4, l5, some (.int x6)] [] F L Q = if x3 ≤ x6 then wt am_S0 d mX11_people 85 [l0, l1, l2, some (.int x3), l4, l5, some (.int x6)] [] F L Q else wt am_S0 d mX11_people 56 [l0, l1, l2, some (.int x3), l4, l5, some (.int x6)] [] F L Q := (wt_iload dX11_people_50 rfl).trans ((wt_iload_n dX11_people_52 rfl).trans (wt_if_icmp_ge dX11_people_53 (t := 85) rfl))
set_option maxHeartbeats 100000 in
theorem kX11_people_56 {d : Nat} {F : am_FT} {L : am_LT} {Q : am_QT} {l1 l3 l5 : Option Value} {p4 : Nat} {x2 x6 : Int32} : wt am_S0 (d + 1) mX11_people 56 [some (.ref 0), l1, some (.int x2), l3, some (.ref p4), l5, some (.int x6)] [] F L Q = wc am_S0 d mX11_comesFrom [.ref 0, .ref p4, .long ((Int32.toInt64 x2) + (Int32.toInt64 (3 * x6)))] F L (fun r G K => wt am_S0 (d + 1) mX11_people 70 [some (.ref 0), l1, some (.int x2), l3, some (.ref p4), l5, some (.int x6)] (r.toList ++ []) G K Q) := (wt_aload_n dX11_people_56 rfl rfl).trans ((wt_aload dX11_people_57 rfl rfl).trans ((wt_iload_n dX11_people_59 rfl).trans ((wt_i2l dX11_people_60).trans ((wt_iconst dX11_people_61 (v := 3) (by decide)).trans ((wt_iload dX11_people_62 rfl).trans ((wt_imul dX11_people_64).trans ((wt_i2l dX11_people_65).trans ((wt_ladd dX11_people_66).trans (wt_callV dX11_people_67 rfl (as := [.ref p4, .long ((Int32.toInt64 x2) + (Int32.toInt64 (3 * x6)))]) (rest := []) rfl rfl (Nat.le_of_ble_eq_true rfl) rfl (Nat.le_of_ble_eq_true rfl))))))))))
set_option maxHeartbeats 100000 in
theorem kX11_people_56N {d : Nat} {F : am_FT} {L : am_LT} {Q : am_QT} {l1 l3 l5 : Option Value} {x2 x6 : Int32} : wt am_S0 (d + 1) mX11_people 56 [some (.ref 0), l1, some (.int x2), l3, some .null, l5, some (.int x6)] [] F L Q = wc am_S0 d mX11_comesFrom [.ref 0, .null, .long ((Int32.toInt64 x2) + (Int32.toInt64 (3 * x6)))] F L (fun r G K => wt am_S0 (d + 1) mX11_people 70 [some (.ref 0), l1, some (.int x2), l3, some .null, l5, some (.int x6)] (r.toList ++ []) G K Q) := (wt_aload_n dX11_people_56 rfl rfl).trans ((wt_aload dX11_people_57 rfl rfl).trans ((wt_iload_n dX11_people_59 rfl).trans ((wt_i2l dX11_people_60).trans ((wt_iconst dX11_people_61 (v := 3) (by decide)).trans ((wt_iload dX11_people_62 rfl).trans ((wt_imul dX11_people_64).trans ((wt_i2l dX11_people_65).trans ((wt_ladd dX11_people_66).trans (wt_callV dX11_people_67 rfl (as := [.null, .long ((Int32.toInt64 x2) + (Int32.toInt64 (3 * x6)))]) (rest := []) rfl rfl (Nat.le_of_ble_eq_true rfl) rfl (Nat.le_of_ble_eq_true rfl))))))))))
set_option maxHeartbeats 100000 in
theorem kX11_people_70 {d : Nat} {F : am_FT} {L : am_LT} {Q : am_QT} {l0 l1 l2 l3 l4 l5 l6 : Option Value} {s0 : Int32} : wt am_S0 d mX11_people 70 [l0, l1, l2, l3, l4, l5, l6] [.int s0] F L Q = if ¬ s0 = 0 then wt am_S0 d mX11_people 76 [l0, l1, l2, l3, l4, l5, l6] [] F L Q else wt am_S0 d mX11_people 73 [l0, l1, l2, l3, l4, l5, l6] [] F L Q := wt_ifCond_ne dX11_people_70 (t := 76) rfl
set_option maxHeartbeats 100000 in
theorem kX11_people_73 {d : Nat} {F : am_FT} {L : am_LT} {Q : am_QT} {l0 l1 l2 l3 l4 l5 l6 : Option Value} : wt am_S0 d mX11_people 73 [l0, l1, l2, l3, l4, l5, l6] [] F L Q = wt am_S0 d mX11_people 85 [l0, l1, l2, l3, l4, l5, l6] [] F L Q := wt_goto dX11_people_73 (t := 85) rfl
set_option maxHeartbeats 100000 in
theorem kX11_people_76 {d : Nat} {F : am_FT} {L : am_LT} {Q : am_QT} {l0 l1 l2 l3 : Option Value} {x5 x6 : Int32} {p4 : Nat} : wt am_S0 d mX11_people 76 [l0, l1, l2, l3, some (.ref p4), some (.int x5), some (.int x6)] [] F L Q = wt am_S0 d mX11_people 50 [l0, l1, l2, l3, some (.ref p4), some (.int (x5 + 1)), some (.int (x6 + 1))] [] F L Q := (wt_iinc dX11_people_76 (v := 1) (lv1 := [l0, l1, l2, l3, some (.ref p4), some (.int (x5 + 1)), some (.int x6)]) rfl (Nat.le_of_ble_eq_true rfl) (by decide) rfl).trans ((wt_iinc dX11_people_79 (v := 1) (lv1 := [l0, l1, l2, l3, some (.ref p4), some (.int (x5 + 1)), some (.int (x6 + 1))]) rfl (Nat.le_of_ble_eq_true rfl) (by decide) rfl).trans (wt_goto dX11_people_82 (t := 50) rfl))
set_option maxHeartbeats 100000 in
theorem kX11_people_76N {d : Nat} {F : am_FT} {L : am_LT} {Q : am_QT} {l0 l1 l2 l3 : Option Value} {x5 x6 : Int32} : wt am_S0 d mX11_people 76 [l0, l1, l2, l3, some .null, some (.int x5), some (.int x6)] [] F L Q = wt am_S0 d mX11_people 50 [l0, l1, l2, l3, some .null, some (.int (x5 + 1)), some (.int (x6 + 1))] [] F L Q := (wt_iinc dX11_people_76 (v := 1) (lv1 := [l0, l1, l2, l3, some .null, some (.int (x5 + 1)), some (.int x6)]) rfl (Nat.le_of_ble_eq_true rfl) (by decide) rfl).trans ((wt_iinc dX11_people_79 (v := 1) (lv1 := [l0, l1, l2, l3, some .null, some (.int (x5 + 1)), some (.int (x6 + 1))]) rfl (Nat.le_of_ble_eq_true rfl) (by decide) rfl).trans (wt_goto dX11_people_82 (t := 50) rfl))
set_option maxHeartbeats 100000 in
theorem kX11_people_85 {d : Nat} {F : am_FT} {L : am_LT} {Q : am_QT} {l0 l1 l2 l3 l4 l6 : Option Value} {x5 : Int32} : wt am_S0 d mX11_people 85 [l0, l1, l2, l3, l4, some (.int x5), l6] [] F L Q = Q (some (.int x5)) F L := (wt_iload dX11_people_85 rfl).trans (wt_ireturn dX11_people_87 rfl rfl)
theorem dX11_shelfAt_0 : decode mX11_shelfAt.2.2.1 0 = .ok (.iload_n 1, 1) := by decide +kernel
theorem dX11_shelfAt_1 : decode mX11_shelfAt.2.2.1 1 = .ok (.ifCond .lt 21, 3) := by decide +kernel
theorem dX11_shelfAt_4 : decode mX11_shelfAt.2.2.1 4 = .ok (.iload_n 1, 1) := by decide +kernel
theorem dX11_shelfAt_5 : decode mX11_shelfAt.2.2.1 5 = .ok (.aload_n 0, 1) := by decide +kernel
theorem dX11_shelfAt_6 : decode mX11_shelfAt.2.2.1 6 = .ok (.getfield 97, 3) := by decide +kernel
theorem dX11_shelfAt_9 : decode mX11_shelfAt.2.2.1 9 = .ok (.arraylength, 1) := by decide +kernel
theorem dX11_shelfAt_10 : decode mX11_shelfAt.2.2.1 10 = .ok (.if_icmp .ge 12, 3) := by decide +kernel
theorem dX11_shelfAt_13 : decode mX11_shelfAt.2.2.1 13 = .ok (.aload_n 0, 1) := by decide +kernel
theorem dX11_shelfAt_14 : decode mX11_shelfAt.2.2.1 14 = .ok (.getfield 97, 3) := by decide +kernel
theorem dX11_shelfAt_17 : decode mX11_shelfAt.2.2.1 17 = .ok (.iload_n 1, 1) := by decide +kernel
theorem dX11_shelfAt_18 : decode mX11_shelfAt.2.2.1 18 = .ok (.aaload, 1) := by decide +kernel
theorem dX11_shelfAt_19 : decode mX11_shelfAt.2.2.1 19 = .ok (.goto 4, 3) := by decide +kernel
theorem dX11_shelfAt_22 : decode mX11_shelfAt.2.2.1 22 = .ok (.aconst_null, 1) := by decide +kernel
theorem dX11_shelfAt_23 : decode mX11_shelfAt.2.2.1 23 = .ok (.areturn, 1) := by decide +kernel
set_option maxHeartbeats 100000 in
theorem kX11_shelfAt_0 {d : Nat} {F : am_FT} {L : am_LT} {Q : am_QT} {l0 : Option Value} {x1 : Int32} : wt am_S0 d mX11_shelfAt 0 [l0, some (.int x1)] [] F L Q = if x1 < 0 then wt am_S0 d mX11_shelfAt 22 [l0, some (.int x1)] [] F L Q else wt am_S0 d mX11_shelfAt 4 [l0, some (.int x1)] [] F L Q := (wt_iload_n dX11_shelfAt_0 rfl).trans (wt_ifCond_lt dX11_shelfAt_1 (t := 22) rfl)
set_option maxHeartbeats 100000 in
theorem kX11_shelfAt_4 {d : Nat} {F : am_FT} {L : am_LT} {Q : am_QT} {x1 : Int32} : wt am_S0 d mX11_shelfAt 4 [some (.ref 0), some (.int x1)] [] F L Q = if 6 ≤ x1 then wt am_S0 d mX11_shelfAt 22 [some (.ref 0), some (.int x1)] [] F L Q else wt am_S0 d mX11_shelfAt 13 [some (.ref 0), some (.int x1)] [] F L Q := (wt_iload_n dX11_shelfAt_4 rfl).trans ((wt_aload_n dX11_shelfAt_5 rfl rfl).trans ((wt_getfield dX11_shelfAt_6 rfl rfl (v := .ref 32) rfl).trans ((wt_arraylength dX11_shelfAt_9 rfl (by decide) (by decide)).trans (wt_if_icmp_ge dX11_shelfAt_10 (t := 22) rfl))))
set_option maxHeartbeats 100000 in
theorem kX11_shelfAt_13 {d : Nat} {F : am_FT} {L : am_LT} {Q : am_QT} {x1 : Int32} {pv : Nat} (h1 : am_oob x1 6 = false) (h2 : va_rf (am_rf [some 33, some 35, some 37, some 39, some 41, some 43] (Int32.toNatClampNeg x1)) = .ref pv) : wt am_S0 d mX11_shelfAt 13 [some (.ref 0), some (.int x1)] [] F L Q = wt am_S0 d mX11_shelfAt 23 [some (.ref 0), some (.int x1)] [.ref pv] F L Q := (wt_aload_n dX11_shelfAt_13 rfl rfl).trans ((wt_getfield dX11_shelfAt_14 rfl rfl (v := .ref 32) rfl).trans ((wt_iload_n dX11_shelfAt_17 rfl).trans ((wt_aaload dX11_shelfAt_18 rfl h1 h2).trans (wt_goto dX11_shelfAt_19 (t := 23) rfl))))
set_option maxHeartbeats 100000 in
theorem kX11_shelfAt_22 {d : Nat} {F : am_FT} {L : am_LT} {Q : am_QT} {l0 l1 : Option Value} : wt am_S0 d mX11_shelfAt 22 [l0, l1] [] F L Q = wt am_S0 d mX11_shelfAt 23 [l0, l1] [.null] F L Q := wt_null dX11_shelfAt_22
set_option maxHeartbeats 100000 in
theorem kX11_shelfAt_23 {d : Nat} {F : am_FT} {L : am_LT} {Q : am_QT} {l0 l1 : Option Value} {q0 : Nat} : wt am_S0 d mX11_shelfAt 23 [l0, l1] [.ref q0] F L Q = Q (some (.ref q0)) F L := wt_areturn dX11_shelfAt_23 rfl rfl
set_option maxHeartbeats 100000 in
theorem kX11_shelfAt_23N {d : Nat} {F : am_FT} {L : am_LT} {Q : am_QT} {l0 l1 : Option Value} : wt am_S0 d mX11_shelfAt 23 [l0, l1] [.null] F L Q = Q (some (.null)) F L := wt_areturn dX11_shelfAt_23 rfl rfl
theorem dX11_comesFrom_0 : decode mX11_comesFrom.2.2.1 0 = .ok (.aload_n 1, 1) := by decide +kernel
theorem dX11_comesFrom_1 : decode mX11_comesFrom.2.2.1 1 = .ok (.invokevirtual 133, 3) := by decide +kernel
theorem dX11_comesFrom_4 : decode mX11_comesFrom.2.2.1 4 = .ok (.ifCond .eq 23, 3) := by decide +kernel
theorem dX11_comesFrom_7 : decode mX11_comesFrom.2.2.1 7 = .ok (.lload_n 2, 1) := by decide +kernel
theorem dX11_comesFrom_8 : decode mX11_comesFrom.2.2.1 8 = .ok (.lconst 0, 1) := by decide +kernel
theorem dX11_comesFrom_9 : decode mX11_comesFrom.2.2.1 9 = .ok (.lcmp, 1) := by decide +kernel
theorem dX11_comesFrom_10 : decode mX11_comesFrom.2.2.1 10 = .ok (.ifCond .lt 17, 3) := by decide +kernel
theorem dX11_comesFrom_13 : decode mX11_comesFrom.2.2.1 13 = .ok (.lload_n 2, 1) := by decide +kernel
theorem dX11_comesFrom_14 : decode mX11_comesFrom.2.2.1 14 = .ok (.ldc2_w 136, 3) := by decide +kernel
theorem dX11_comesFrom_17 : decode mX11_comesFrom.2.2.1 17 = .ok (.ladd, 1) := by decide +kernel
theorem dX11_comesFrom_18 : decode mX11_comesFrom.2.2.1 18 = .ok (.aload_n 1, 1) := by decide +kernel
theorem dX11_comesFrom_19 : decode mX11_comesFrom.2.2.1 19 = .ok (.invokevirtual 138, 3) := by decide +kernel
theorem dX11_comesFrom_22 : decode mX11_comesFrom.2.2.1 22 = .ok (.i2l, 1) := by decide +kernel
theorem dX11_comesFrom_23 : decode mX11_comesFrom.2.2.1 23 = .ok (.lcmp, 1) := by decide +kernel
theorem dX11_comesFrom_24 : decode mX11_comesFrom.2.2.1 24 = .ok (.ifCond .le 5, 3) := by decide +kernel
theorem dX11_comesFrom_27 : decode mX11_comesFrom.2.2.1 27 = .ok (.iconst 0, 1) := by decide +kernel
theorem dX11_comesFrom_28 : decode mX11_comesFrom.2.2.1 28 = .ok (.ireturn, 1) := by decide +kernel
theorem dX11_comesFrom_29 : decode mX11_comesFrom.2.2.1 29 = .ok (.lload_n 2, 1) := by decide +kernel
theorem dX11_comesFrom_30 : decode mX11_comesFrom.2.2.1 30 = .ok (.l2i, 1) := by decide +kernel
theorem dX11_comesFrom_31 : decode mX11_comesFrom.2.2.1 31 = .ok (.istore 4, 2) := by decide +kernel
theorem dX11_comesFrom_33 : decode mX11_comesFrom.2.2.1 33 = .ok (.aload_n 1, 1) := by decide +kernel
theorem dX11_comesFrom_34 : decode mX11_comesFrom.2.2.1 34 = .ok (.iload 4, 2) := by decide +kernel
theorem dX11_comesFrom_36 : decode mX11_comesFrom.2.2.1 36 = .ok (.invokevirtual 142, 3) := by decide +kernel
theorem dX11_comesFrom_39 : decode mX11_comesFrom.2.2.1 39 = .ok (.l2i, 1) := by decide +kernel
theorem dX11_comesFrom_40 : decode mX11_comesFrom.2.2.1 40 = .ok (.istore 5, 2) := by decide +kernel
theorem dX11_comesFrom_42 : decode mX11_comesFrom.2.2.1 42 = .ok (.aload_n 1, 1) := by decide +kernel
theorem dX11_comesFrom_43 : decode mX11_comesFrom.2.2.1 43 = .ok (.iload 4, 2) := by decide +kernel
theorem dX11_comesFrom_45 : decode mX11_comesFrom.2.2.1 45 = .ok (.iconst 1, 1) := by decide +kernel
theorem dX11_comesFrom_46 : decode mX11_comesFrom.2.2.1 46 = .ok (.iadd, 1) := by decide +kernel
theorem dX11_comesFrom_47 : decode mX11_comesFrom.2.2.1 47 = .ok (.invokevirtual 142, 3) := by decide +kernel
theorem dX11_comesFrom_50 : decode mX11_comesFrom.2.2.1 50 = .ok (.l2i, 1) := by decide +kernel
theorem dX11_comesFrom_51 : decode mX11_comesFrom.2.2.1 51 = .ok (.istore 6, 2) := by decide +kernel
theorem dX11_comesFrom_53 : decode mX11_comesFrom.2.2.1 53 = .ok (.aload_n 1, 1) := by decide +kernel
theorem dX11_comesFrom_54 : decode mX11_comesFrom.2.2.1 54 = .ok (.iload 4, 2) := by decide +kernel
theorem dX11_comesFrom_56 : decode mX11_comesFrom.2.2.1 56 = .ok (.iconst 2, 1) := by decide +kernel
theorem dX11_comesFrom_57 : decode mX11_comesFrom.2.2.1 57 = .ok (.iadd, 1) := by decide +kernel
theorem dX11_comesFrom_58 : decode mX11_comesFrom.2.2.1 58 = .ok (.invokevirtual 142, 3) := by decide +kernel
theorem dX11_comesFrom_61 : decode mX11_comesFrom.2.2.1 61 = .ok (.l2i, 1) := by decide +kernel
theorem dX11_comesFrom_62 : decode mX11_comesFrom.2.2.1 62 = .ok (.istore 7, 2) := by decide +kernel
theorem dX11_comesFrom_64 : decode mX11_comesFrom.2.2.1 64 = .ok (.aload_n 0, 1) := by decide +kernel
theorem dX11_comesFrom_65 : decode mX11_comesFrom.2.2.1 65 = .ok (.getfield 12, 3) := by decide +kernel
theorem dX11_comesFrom_68 : decode mX11_comesFrom.2.2.1 68 = .ok (.iconst 4, 1) := by decide +kernel
theorem dX11_comesFrom_69 : decode mX11_comesFrom.2.2.1 69 = .ok (.iload 5, 2) := by decide +kernel
theorem dX11_comesFrom_71 : decode mX11_comesFrom.2.2.1 71 = .ok (.invokevirtual 101, 3) := by decide +kernel
theorem dX11_comesFrom_74 : decode mX11_comesFrom.2.2.1 74 = .ok (.ifCond .eq 30, 3) := by decide +kernel
theorem dX11_comesFrom_77 : decode mX11_comesFrom.2.2.1 77 = .ok (.aload_n 0, 1) := by decide +kernel
theorem dX11_comesFrom_78 : decode mX11_comesFrom.2.2.1 78 = .ok (.getfield 12, 3) := by decide +kernel
theorem dX11_comesFrom_81 : decode mX11_comesFrom.2.2.1 81 = .ok (.iconst 5, 1) := by decide +kernel
theorem dX11_comesFrom_82 : decode mX11_comesFrom.2.2.1 82 = .ok (.iload 6, 2) := by decide +kernel
theorem dX11_comesFrom_84 : decode mX11_comesFrom.2.2.1 84 = .ok (.invokevirtual 101, 3) := by decide +kernel
theorem dX11_comesFrom_87 : decode mX11_comesFrom.2.2.1 87 = .ok (.ifCond .eq 17, 3) := by decide +kernel
theorem dX11_comesFrom_90 : decode mX11_comesFrom.2.2.1 90 = .ok (.aload_n 0, 1) := by decide +kernel
theorem dX11_comesFrom_91 : decode mX11_comesFrom.2.2.1 91 = .ok (.getfield 12, 3) := by decide +kernel
theorem dX11_comesFrom_94 : decode mX11_comesFrom.2.2.1 94 = .ok (.bipush 6, 2) := by decide +kernel
theorem dX11_comesFrom_96 : decode mX11_comesFrom.2.2.1 96 = .ok (.iload 7, 2) := by decide +kernel
theorem dX11_comesFrom_98 : decode mX11_comesFrom.2.2.1 98 = .ok (.invokevirtual 101, 3) := by decide +kernel
theorem dX11_comesFrom_101 : decode mX11_comesFrom.2.2.1 101 = .ok (.ifCond .ne 5, 3) := by decide +kernel
theorem dX11_comesFrom_104 : decode mX11_comesFrom.2.2.1 104 = .ok (.iconst 0, 1) := by decide +kernel
theorem dX11_comesFrom_105 : decode mX11_comesFrom.2.2.1 105 = .ok (.ireturn, 1) := by decide +kernel
theorem dX11_comesFrom_106 : decode mX11_comesFrom.2.2.1 106 = .ok (.aload_n 0, 1) := by decide +kernel
theorem dX11_comesFrom_107 : decode mX11_comesFrom.2.2.1 107 = .ok (.getfield 12, 3) := by decide +kernel
theorem dX11_comesFrom_110 : decode mX11_comesFrom.2.2.1 110 = .ok (.iload 5, 2) := by decide +kernel
theorem dX11_comesFrom_112 : decode mX11_comesFrom.2.2.1 112 = .ok (.iload 6, 2) := by decide +kernel
theorem dX11_comesFrom_114 : decode mX11_comesFrom.2.2.1 114 = .ok (.iload 7, 2) := by decide +kernel
theorem dX11_comesFrom_116 : decode mX11_comesFrom.2.2.1 116 = .ok (.invokevirtual 109, 3) := by decide +kernel
theorem dX11_comesFrom_119 : decode mX11_comesFrom.2.2.1 119 = .ok (.bipush (-3), 2) := by decide +kernel
theorem dX11_comesFrom_121 : decode mX11_comesFrom.2.2.1 121 = .ok (.if_icmp .eq 7, 3) := by decide +kernel
theorem dX11_comesFrom_124 : decode mX11_comesFrom.2.2.1 124 = .ok (.iconst 1, 1) := by decide +kernel
theorem dX11_comesFrom_125 : decode mX11_comesFrom.2.2.1 125 = .ok (.goto 4, 3) := by decide +kernel
theorem dX11_comesFrom_128 : decode mX11_comesFrom.2.2.1 128 = .ok (.iconst 0, 1) := by decide +kernel
theorem dX11_comesFrom_129 : decode mX11_comesFrom.2.2.1 129 = .ok (.ireturn, 1) := by decide +kernel
set_option maxHeartbeats 100000 in
theorem kX11_comesFrom_0 {d : Nat} {F : am_FT} {L : am_LT} {Q : am_QT} {l0 l2 l3 l4 l5 l6 l7 : Option Value} {p1 e1 : Nat} (h1 : am_S0[p1]? = some (8, 4, [some e1, none, none, none])) : wt am_S0 (d + 1) mX11_comesFrom 0 [l0, some (.ref p1), l2, l3, l4, l5, l6, l7] [] F L Q = wc am_S0 d mX8_isRow [.ref p1] F L (fun r G K => wt am_S0 (d + 1) mX11_comesFrom 4 [l0, some (.ref p1), l2, l3, l4, l5, l6, l7] (r.toList ++ []) G K Q) := (wt_aload_n dX11_comesFrom_0 rfl rfl).trans (wt_callV dX11_comesFrom_1 rfl (as := []) (rest := []) rfl rfl (Nat.le_of_ble_eq_true rfl) h1 (Nat.le_of_ble_eq_true rfl))
set_option maxHeartbeats 100000 in
theorem kX11_comesFrom_4 {d : Nat} {F : am_FT} {L : am_LT} {Q : am_QT} {l0 l1 l2 l3 l4 l5 l6 l7 : Option Value} {s0 : Int32} : wt am_S0 d mX11_comesFrom 4 [l0, l1, l2, l3, l4, l5, l6, l7] [.int s0] F L Q = if s0 = 0 then wt am_S0 d mX11_comesFrom 27 [l0, l1, l2, l3, l4, l5, l6, l7] [] F L Q else wt am_S0 d mX11_comesFrom 7 [l0, l1, l2, l3, l4, l5, l6, l7] [] F L Q := wt_ifCond_eq dX11_comesFrom_4 (t := 27) rfl
set_option maxHeartbeats 100000 in
theorem kX11_comesFrom_7 {d : Nat} {F : am_FT} {L : am_LT} {Q : am_QT} {l0 l1 l3 l4 l5 l6 l7 : Option Value} {x2 : Int64} : wt am_S0 d mX11_comesFrom 7 [l0, l1, some (.long x2), l3, l4, l5, l6, l7] [] F L Q = if (lg_cmp x2 0) < 0 then wt am_S0 d mX11_comesFrom 27 [l0, l1, some (.long x2), l3, l4, l5, l6, l7] [] F L Q else wt am_S0 d mX11_comesFrom 13 [l0, l1, some (.long x2), l3, l4, l5, l6, l7] [] F L Q := (wt_lload_n dX11_comesFrom_7 rfl).trans ((wt_lconst dX11_comesFrom_8 (v := 0) (by decide)).trans ((wt_lcmp dX11_comesFrom_9).trans (wt_ifCond_lt dX11_comesFrom_10 (t := 27) rfl)))
set_option maxHeartbeats 100000 in
theorem kX11_comesFrom_13 {d : Nat} {F : am_FT} {L : am_LT} {Q : am_QT} {l0 l3 l4 l5 l6 l7 : Option Value} {x2 : Int64} {p1 e1 : Nat} (h1 : am_S0[p1]? = some (8, 4, [some e1, none, none, none])) : wt am_S0 (d + 1) mX11_comesFrom 13 [l0, some (.ref p1), some (.long x2), l3, l4, l5, l6, l7] [] F L Q = wc am_S0 d mX8_size [.ref p1] F L (fun r G K => wt am_S0 (d + 1) mX11_comesFrom 22 [l0, some (.ref p1), some (.long x2), l3, l4, l5, l6, l7] (r.toList ++ [.long (x2 + 3)]) G K Q) := (wt_lload_n dX11_comesFrom_13 rfl).trans ((wt_ldc2_w dX11_comesFrom_14 (v := 3) rfl).trans ((wt_ladd dX11_comesFrom_17).trans ((wt_aload_n dX11_comesFrom_18 rfl rfl).trans (wt_callV dX11_comesFrom_19 rfl (as := []) (rest := [.long (x2 + 3)]) rfl rfl (Nat.le_of_ble_eq_true rfl) h1 (Nat.le_of_ble_eq_true rfl)))))
set_option maxHeartbeats 100000 in
theorem kX11_comesFrom_22 {d : Nat} {F : am_FT} {L : am_LT} {Q : am_QT} {l0 l1 l2 l3 l4 l5 l6 l7 : Option Value} {s0 : Int64} {s1 : Int32} : wt am_S0 d mX11_comesFrom 22 [l0, l1, l2, l3, l4, l5, l6, l7] [.int s1, .long s0] F L Q = if (lg_cmp s0 (Int32.toInt64 s1)) ≤ 0 then wt am_S0 d mX11_comesFrom 29 [l0, l1, l2, l3, l4, l5, l6, l7] [] F L Q else wt am_S0 d mX11_comesFrom 27 [l0, l1, l2, l3, l4, l5, l6, l7] [] F L Q := (wt_i2l dX11_comesFrom_22).trans ((wt_lcmp dX11_comesFrom_23).trans (wt_ifCond_le dX11_comesFrom_24 (t := 29) rfl))
set_option maxHeartbeats 100000 in
theorem kX11_comesFrom_27 {d : Nat} {F : am_FT} {L : am_LT} {Q : am_QT} {l0 l1 l2 l3 l4 l5 l6 l7 : Option Value} : wt am_S0 d mX11_comesFrom 27 [l0, l1, l2, l3, l4, l5, l6, l7] [] F L Q = Q (some (.int 0)) F L := (wt_iconst dX11_comesFrom_27 (v := 0) (by decide)).trans (wt_ireturn dX11_comesFrom_28 rfl (by decide))
set_option maxHeartbeats 100000 in
theorem kX11_comesFrom_29 {d : Nat} {F : am_FT} {L : am_LT} {Q : am_QT} {l0 l4 l5 l6 l7 : Option Value} {x2 : Int64} {p1 e1 : Nat} (h1 : am_S0[p1]? = some (8, 4, [some e1, none, none, none])) : wt am_S0 (d + 1) mX11_comesFrom 29 [l0, some (.ref p1), some (.long x2), none, l4, l5, l6, l7] [] F L Q = wc am_S0 d mX8_valueAt [.ref p1, .int (Int64.toInt32 x2)] F L (fun r G K => wt am_S0 (d + 1) mX11_comesFrom 39 [l0, some (.ref p1), some (.long x2), none, some (.int (Int64.toInt32 x2)), l5, l6, l7] (r.toList ++ []) G K Q) := (wt_lload_n dX11_comesFrom_29 rfl).trans ((wt_l2i dX11_comesFrom_30).trans ((wt_istore dX11_comesFrom_31 (lv1 := [l0, some (.ref p1), some (.long x2), none, some (.int (Int64.toInt32 x2)), l5, l6, l7]) (Nat.le_of_ble_eq_true rfl) rfl).trans ((wt_aload_n dX11_comesFrom_33 rfl rfl).trans ((wt_iload dX11_comesFrom_34 rfl).trans (wt_callV dX11_comesFrom_36 rfl (as := [.int (Int64.toInt32 x2)]) (rest := []) rfl rfl (Nat.le_of_ble_eq_true rfl) h1 (Nat.le_of_ble_eq_true rfl))))))
set_option maxHeartbeats 100000 in
theorem kX11_comesFrom_39 {d : Nat} {F : am_FT} {L : am_LT} {Q : am_QT} {l0 l2 l3 l5 l6 l7 : Option Value} {s0 : Int64} {x4 : Int32} {p1 e1 : Nat} (h1 : am_S0[p1]? = some (8, 4, [some e1, none, none, none])) : wt am_S0 (d + 1) mX11_comesFrom 39 [l0, some (.ref p1), l2, l3, some (.int x4), l5, l6, l7] [.long s0] F L Q = wc am_S0 d mX8_valueAt [.ref p1, .int (x4 + 1)] F L (fun r G K => wt am_S0 (d + 1) mX11_comesFrom 50 [l0, some (.ref p1), l2, l3, some (.int x4), some (.int (Int64.toInt32 s0)), l6, l7] (r.toList ++ []) G K Q) := (wt_l2i dX11_comesFrom_39).trans ((wt_istore dX11_comesFrom_40 (lv1 := [l0, some (.ref p1), l2, l3, some (.int x4), some (.int (Int64.toInt32 s0)), l6, l7]) (Nat.le_of_ble_eq_true rfl) rfl).trans ((wt_aload_n dX11_comesFrom_42 rfl rfl).trans ((wt_iload dX11_comesFrom_43 rfl).trans ((wt_iconst dX11_comesFrom_45 (v := 1) (by decide)).trans ((wt_iadd dX11_comesFrom_46).trans (wt_callV dX11_comesFrom_47 rfl (as := [.int (x4 + 1)]) (rest := []) rfl rfl (Nat.le_of_ble_eq_true rfl) h1 (Nat.le_of_ble_eq_true rfl)))))))
set_option maxHeartbeats 100000 in
theorem kX11_comesFrom_50 {d : Nat} {F : am_FT} {L : am_LT} {Q : am_QT} {l0 l2 l3 l6 l7 : Option Value} {s0 : Int64} {x5 x4 : Int32} {p1 e1 : Nat} (h1 : am_S0[p1]? = some (8, 4, [some e1, none, none, none])) : wt am_S0 (d + 1) mX11_comesFrom 50 [l0, some (.ref p1), l2, l3, some (.int x4), some (.int x5), l6, l7] [.long s0] F L Q = wc am_S0 d mX8_valueAt [.ref p1, .int (x4 + 2)] F L (fun r G K => wt am_S0 (d + 1) mX11_comesFrom 61 [l0, some (.ref p1), l2, l3, some (.int x4), some (.int x5), some (.int (Int64.toInt32 s0)), l7] (r.toList ++ []) G K Q) := (wt_l2i dX11_comesFrom_50).trans ((wt_istore dX11_comesFrom_51 (lv1 := [l0, some (.ref p1), l2, l3, some (.int x4), some (.int x5), some (.int (Int64.toInt32 s0)), l7]) (Nat.le_of_ble_eq_true rfl) rfl).trans ((wt_aload_n dX11_comesFrom_53 rfl rfl).trans ((wt_iload dX11_comesFrom_54 rfl).trans ((wt_iconst dX11_comesFrom_56 (v := 2) (by decide)).trans ((wt_iadd dX11_comesFrom_57).trans (wt_callV dX11_comesFrom_58 rfl (as := [.int (x4 + 2)]) (rest := []) rfl rfl (Nat.le_of_ble_eq_true rfl) h1 (Nat.le_of_ble_eq_true rfl)))))))
set_option maxHeartbeats 100000 in
theorem kX11_comesFrom_61 {d : Nat} {F : am_FT} {L : am_LT} {Q : am_QT} {l1 l2 l3 l4 l7 : Option Value} {s0 : Int64} {x6 x5 : Int32} : wt am_S0 (d + 1) mX11_comesFrom 61 [some (.ref 0), l1, l2, l3, l4, some (.int x5), some (.int x6), l7] [.long s0] F L Q = wc am_S0 d mX5_fits [.ref 1, .int 4, .int x5] F L (fun r G K => wt am_S0 (d + 1) mX11_comesFrom 74 [some (.ref 0), l1, l2, l3, l4, some (.int x5), some (.int x6), some (.int (Int64.toInt32 s0))] (r.toList ++ []) G K Q) := (wt_l2i dX11_comesFrom_61).trans ((wt_istore dX11_comesFrom_62 (lv1 := [some (.ref 0), l1, l2, l3, l4, some (.int x5), some (.int x6), some (.int (Int64.toInt32 s0))]) (Nat.le_of_ble_eq_true rfl) rfl).trans ((wt_aload_n dX11_comesFrom_64 rfl rfl).trans ((wt_getfield dX11_comesFrom_65 rfl rfl (v := .ref 1) rfl).trans ((wt_iconst dX11_comesFrom_68 (v := 4) (by decide)).trans ((wt_iload dX11_comesFrom_69 rfl).trans (wt_callV dX11_comesFrom_71 rfl (as := [.int 4, .int x5]) (rest := []) rfl rfl (Nat.le_of_ble_eq_true rfl) rfl (Nat.le_of_ble_eq_true rfl)))))))
set_option maxHeartbeats 100000 in
theorem kX11_comesFrom_74 {d : Nat} {F : am_FT} {L : am_LT} {Q : am_QT} {l0 l1 l2 l3 l4 l5 l6 l7 : Option Value} {s0 : Int32} : wt am_S0 d mX11_comesFrom 74 [l0, l1, l2, l3, l4, l5, l6, l7] [.int s0] F L Q = if s0 = 0 then wt am_S0 d mX11_comesFrom 104 [l0, l1, l2, l3, l4, l5, l6, l7] [] F L Q else wt am_S0 d mX11_comesFrom 77 [l0, l1, l2, l3, l4, l5, l6, l7] [] F L Q := wt_ifCond_eq dX11_comesFrom_74 (t := 104) rfl
set_option maxHeartbeats 100000 in
theorem kX11_comesFrom_77 {d : Nat} {F : am_FT} {L : am_LT} {Q : am_QT} {l1 l2 l3 l4 l5 l7 : Option Value} {x6 : Int32} : wt am_S0 (d + 1) mX11_comesFrom 77 [some (.ref 0), l1, l2, l3, l4, l5, some (.int x6), l7] [] F L Q = wc am_S0 d mX5_fits [.ref 1, .int 5, .int x6] F L (fun r G K => wt am_S0 (d + 1) mX11_comesFrom 87 [some (.ref 0), l1, l2, l3, l4, l5, some (.int x6), l7] (r.toList ++ []) G K Q) := (wt_aload_n dX11_comesFrom_77 rfl rfl).trans ((wt_getfield dX11_comesFrom_78 rfl rfl (v := .ref 1) rfl).trans ((wt_iconst dX11_comesFrom_81 (v := 5) (by decide)).trans ((wt_iload dX11_comesFrom_82 rfl).trans (wt_callV dX11_comesFrom_84 rfl (as := [.int 5, .int x6]) (rest := []) rfl rfl (Nat.le_of_ble_eq_true rfl) rfl (Nat.le_of_ble_eq_true rfl)))))
set_option maxHeartbeats 100000 in
theorem kX11_comesFrom_87 {d : Nat} {F : am_FT} {L : am_LT} {Q : am_QT} {l0 l1 l2 l3 l4 l5 l6 l7 : Option Value} {s0 : Int32} : wt am_S0 d mX11_comesFrom 87 [l0, l1, l2, l3, l4, l5, l6, l7] [.int s0] F L Q = if s0 = 0 then wt am_S0 d mX11_comesFrom 104 [l0, l1, l2, l3, l4, l5, l6, l7] [] F L Q else wt am_S0 d mX11_comesFrom 90 [l0, l1, l2, l3, l4, l5, l6, l7] [] F L Q := wt_ifCond_eq dX11_comesFrom_87 (t := 104) rfl
set_option maxHeartbeats 100000 in
theorem kX11_comesFrom_90 {d : Nat} {F : am_FT} {L : am_LT} {Q : am_QT} {l1 l2 l3 l4 l5 l6 : Option Value} {x7 : Int32} : wt am_S0 (d + 1) mX11_comesFrom 90 [some (.ref 0), l1, l2, l3, l4, l5, l6, some (.int x7)] [] F L Q = wc am_S0 d mX5_fits [.ref 1, .int 6, .int x7] F L (fun r G K => wt am_S0 (d + 1) mX11_comesFrom 101 [some (.ref 0), l1, l2, l3, l4, l5, l6, some (.int x7)] (r.toList ++ []) G K Q) := (wt_aload_n dX11_comesFrom_90 rfl rfl).trans ((wt_getfield dX11_comesFrom_91 rfl rfl (v := .ref 1) rfl).trans ((wt_bipush dX11_comesFrom_94 (v := 6) (by decide)).trans ((wt_iload dX11_comesFrom_96 rfl).trans (wt_callV dX11_comesFrom_98 rfl (as := [.int 6, .int x7]) (rest := []) rfl rfl (Nat.le_of_ble_eq_true rfl) rfl (Nat.le_of_ble_eq_true rfl)))))
set_option maxHeartbeats 100000 in
theorem kX11_comesFrom_101 {d : Nat} {F : am_FT} {L : am_LT} {Q : am_QT} {l0 l1 l2 l3 l4 l5 l6 l7 : Option Value} {s0 : Int32} : wt am_S0 d mX11_comesFrom 101 [l0, l1, l2, l3, l4, l5, l6, l7] [.int s0] F L Q = if ¬ s0 = 0 then wt am_S0 d mX11_comesFrom 106 [l0, l1, l2, l3, l4, l5, l6, l7] [] F L Q else wt am_S0 d mX11_comesFrom 104 [l0, l1, l2, l3, l4, l5, l6, l7] [] F L Q := wt_ifCond_ne dX11_comesFrom_101 (t := 106) rfl
set_option maxHeartbeats 100000 in
theorem kX11_comesFrom_104 {d : Nat} {F : am_FT} {L : am_LT} {Q : am_QT} {l0 l1 l2 l3 l4 l5 l6 l7 : Option Value} : wt am_S0 d mX11_comesFrom 104 [l0, l1, l2, l3, l4, l5, l6, l7] [] F L Q = Q (some (.int 0)) F L := (wt_iconst dX11_comesFrom_104 (v := 0) (by decide)).trans (wt_ireturn dX11_comesFrom_105 rfl (by decide))
set_option maxHeartbeats 100000 in
theorem kX11_comesFrom_106 {d : Nat} {F : am_FT} {L : am_LT} {Q : am_QT} {l1 l2 l3 l4 : Option Value} {x5 x6 x7 : Int32} : wt am_S0 (d + 1) mX11_comesFrom 106 [some (.ref 0), l1, l2, l3, l4, some (.int x5), some (.int x6), some (.int x7)] [] F L Q = wc am_S0 d mX5_addPerson [.ref 1, .int x5, .int x6, .int x7] F L (fun r G K => wt am_S0 (d + 1) mX11_comesFrom 119 [some (.ref 0), l1, l2, l3, l4, some (.int x5), some (.int x6), some (.int x7)] (r.toList ++ []) G K Q) := (wt_aload_n dX11_comesFrom_106 rfl rfl).trans ((wt_getfield dX11_comesFrom_107 rfl rfl (v := .ref 1) rfl).trans ((wt_iload dX11_comesFrom_110 rfl).trans ((wt_iload dX11_comesFrom_112 rfl).trans ((wt_iload dX11_comesFrom_114 rfl).trans (wt_callV dX11_comesFrom_116 rfl (as := [.int x5, .int x6, .int x7]) (rest := []) rfl rfl (Nat.le_of_ble_eq_true rfl) rfl (Nat.le_of_ble_eq_true rfl))))))
set_option maxHeartbeats 100000 in
theorem kX11_comesFrom_119 {d : Nat} {F : am_FT} {L : am_LT} {Q : am_QT} {l0 l1 l2 l3 l4 l5 l6 l7 : Option Value} {s0 : Int32} : wt am_S0 d mX11_comesFrom 119 [l0, l1, l2, l3, l4, l5, l6, l7] [.int s0] F L Q = if s0 = (-3) then wt am_S0 d mX11_comesFrom 128 [l0, l1, l2, l3, l4, l5, l6, l7] [] F L Q else wt am_S0 d mX11_comesFrom 124 [l0, l1, l2, l3, l4, l5, l6, l7] [] F L Q := (wt_bipush dX11_comesFrom_119 (v := (-3)) (by decide)).trans (wt_if_icmp_eq dX11_comesFrom_121 (t := 128) rfl)
set_option maxHeartbeats 100000 in
theorem kX11_comesFrom_124 {d : Nat} {F : am_FT} {L : am_LT} {Q : am_QT} {l0 l1 l2 l3 l4 l5 l6 l7 : Option Value} : wt am_S0 d mX11_comesFrom 124 [l0, l1, l2, l3, l4, l5, l6, l7] [] F L Q = wt am_S0 d mX11_comesFrom 129 [l0, l1, l2, l3, l4, l5, l6, l7] [.int 1] F L Q := (wt_iconst dX11_comesFrom_124 (v := 1) (by decide)).trans (wt_goto dX11_comesFrom_125 (t := 129) rfl)
set_option maxHeartbeats 100000 in
theorem kX11_comesFrom_128 {d : Nat} {F : am_FT} {L : am_LT} {Q : am_QT} {l0 l1 l2 l3 l4 l5 l6 l7 : Option Value} : wt am_S0 d mX11_comesFrom 128 [l0, l1, l2, l3, l4, l5, l6, l7] [] F L Q = wt am_S0 d mX11_comesFrom 129 [l0, l1, l2, l3, l4, l5, l6, l7] [.int 0] F L Q := wt_iconst dX11_comesFrom_128 (v := 0) (by decide)
set_option maxHeartbeats 100000 in
theorem kX11_comesFrom_129 {d : Nat} {F : am_FT} {L : am_LT} {Q : am_QT} {l0 l1 l2 l3 l4 l5 l6 l7 : Option Value} {s0 : Int32} (h1 : narrow .boolean (.int s0) = .int s0) : wt am_S0 d mX11_comesFrom 129 [l0, l1, l2, l3, l4, l5, l6, l7] [.int s0] F L Q = Q (some (.int s0)) F L := wt_ireturn dX11_comesFrom_129 rfl h1
theorem dX11_mend_0 : decode mX11_mend.2.2.1 0 = .ok (.iload_n 2, 1) := by decide +kernel
theorem dX11_mend_1 : decode mX11_mend.2.2.1 1 = .ok (.bipush 6, 2) := by decide +kernel
theorem dX11_mend_3 : decode mX11_mend.2.2.1 3 = .ok (.if_icmp .gt 27, 3) := by decide +kernel
theorem dX11_mend_6 : decode mX11_mend.2.2.1 6 = .ok (.aload_n 0, 1) := by decide +kernel
theorem dX11_mend_7 : decode mX11_mend.2.2.1 7 = .ok (.getfield 12, 3) := by decide +kernel
theorem dX11_mend_10 : decode mX11_mend.2.2.1 10 = .ok (.iload_n 1, 1) := by decide +kernel
theorem dX11_mend_11 : decode mX11_mend.2.2.1 11 = .ok (.iload_n 2, 1) := by decide +kernel
theorem dX11_mend_12 : decode mX11_mend.2.2.1 12 = .ok (.invokevirtual 146, 3) := by decide +kernel
theorem dX11_mend_15 : decode mX11_mend.2.2.1 15 = .ok (.ifCond .eq 15, 3) := by decide +kernel
theorem dX11_mend_18 : decode mX11_mend.2.2.1 18 = .ok (.aload_n 0, 1) := by decide +kernel
theorem dX11_mend_19 : decode mX11_mend.2.2.1 19 = .ok (.getfield 12, 3) := by decide +kernel
theorem dX11_mend_22 : decode mX11_mend.2.2.1 22 = .ok (.iload_n 2, 1) := by decide +kernel
theorem dX11_mend_23 : decode mX11_mend.2.2.1 23 = .ok (.iload_n 3, 1) := by decide +kernel
theorem dX11_mend_24 : decode mX11_mend.2.2.1 24 = .ok (.invokevirtual 101, 3) := by decide +kernel
theorem dX11_mend_27 : decode mX11_mend.2.2.1 27 = .ok (.ifCond .ne 5, 3) := by decide +kernel
theorem dX11_mend_30 : decode mX11_mend.2.2.1 30 = .ok (.iconst (-1), 1) := by decide +kernel
theorem dX11_mend_31 : decode mX11_mend.2.2.1 31 = .ok (.ireturn, 1) := by decide +kernel
theorem dX11_mend_32 : decode mX11_mend.2.2.1 32 = .ok (.aload_n 0, 1) := by decide +kernel
theorem dX11_mend_33 : decode mX11_mend.2.2.1 33 = .ok (.getfield 12, 3) := by decide +kernel
theorem dX11_mend_36 : decode mX11_mend.2.2.1 36 = .ok (.iload_n 1, 1) := by decide +kernel
theorem dX11_mend_37 : decode mX11_mend.2.2.1 37 = .ok (.iload_n 2, 1) := by decide +kernel
theorem dX11_mend_38 : decode mX11_mend.2.2.1 38 = .ok (.invokevirtual 149, 3) := by decide +kernel
theorem dX11_mend_41 : decode mX11_mend.2.2.1 41 = .ok (.istore 4, 2) := by decide +kernel
theorem dX11_mend_43 : decode mX11_mend.2.2.1 43 = .ok (.iload 4, 2) := by decide +kernel
theorem dX11_mend_45 : decode mX11_mend.2.2.1 45 = .ok (.iload_n 3, 1) := by decide +kernel
theorem dX11_mend_46 : decode mX11_mend.2.2.1 46 = .ok (.if_icmp .eq 25, 3) := by decide +kernel
theorem dX11_mend_49 : decode mX11_mend.2.2.1 49 = .ok (.aload_n 0, 1) := by decide +kernel
theorem dX11_mend_50 : decode mX11_mend.2.2.1 50 = .ok (.getfield 12, 3) := by decide +kernel
theorem dX11_mend_53 : decode mX11_mend.2.2.1 53 = .ok (.iload_n 1, 1) := by decide +kernel
theorem dX11_mend_54 : decode mX11_mend.2.2.1 54 = .ok (.iload_n 2, 1) := by decide +kernel
theorem dX11_mend_55 : decode mX11_mend.2.2.1 55 = .ok (.iload_n 3, 1) := by decide +kernel
theorem dX11_mend_56 : decode mX11_mend.2.2.1 56 = .ok (.invokevirtual 152, 3) := by decide +kernel
theorem dX11_mend_59 : decode mX11_mend.2.2.1 59 = .ok (.aload_n 0, 1) := by decide +kernel
theorem dX11_mend_60 : decode mX11_mend.2.2.1 60 = .ok (.getfield 83, 3) := by decide +kernel
theorem dX11_mend_63 : decode mX11_mend.2.2.1 63 = .ok (.iload_n 1, 1) := by decide +kernel
theorem dX11_mend_64 : decode mX11_mend.2.2.1 64 = .ok (.iload_n 2, 1) := by decide +kernel
theorem dX11_mend_65 : decode mX11_mend.2.2.1 65 = .ok (.iload 4, 2) := by decide +kernel
theorem dX11_mend_67 : decode mX11_mend.2.2.1 67 = .ok (.iload_n 3, 1) := by decide +kernel
theorem dX11_mend_68 : decode mX11_mend.2.2.1 68 = .ok (.invokevirtual 156, 3) := by decide +kernel
theorem dX11_mend_71 : decode mX11_mend.2.2.1 71 = .ok (.iload 4, 2) := by decide +kernel
theorem dX11_mend_73 : decode mX11_mend.2.2.1 73 = .ok (.ireturn, 1) := by decide +kernel
set_option maxHeartbeats 100000 in
theorem kX11_mend_0 {d : Nat} {F : am_FT} {L : am_LT} {Q : am_QT} {l0 l1 l3 l4 : Option Value} {x2 : Int32} : wt am_S0 d mX11_mend 0 [l0, l1, some (.int x2), l3, l4] [] F L Q = if 6 < x2 then wt am_S0 d mX11_mend 30 [l0, l1, some (.int x2), l3, l4] [] F L Q else wt am_S0 d mX11_mend 6 [l0, l1, some (.int x2), l3, l4] [] F L Q := (wt_iload_n dX11_mend_0 rfl).trans ((wt_bipush dX11_mend_1 (v := 6) (by decide)).trans (wt_if_icmp_gt dX11_mend_3 (t := 30) rfl))
set_option maxHeartbeats 100000 in
theorem kX11_mend_6 {d : Nat} {F : am_FT} {L : am_LT} {Q : am_QT} {l3 l4 : Option Value} {x1 x2 : Int32} : wt am_S0 (d + 1) mX11_mend 6 [some (.ref 0), some (.int x1), some (.int x2), l3, l4] [] F L Q = wc am_S0 d mX5_has [.ref 1, .int x1, .int x2] F L (fun r G K => wt am_S0 (d + 1) mX11_mend 15 [some (.ref 0), some (.int x1), some (.int x2), l3, l4] (r.toList ++ []) G K Q) := (wt_aload_n dX11_mend_6 rfl rfl).trans ((wt_getfield dX11_mend_7 rfl rfl (v := .ref 1) rfl).trans ((wt_iload_n dX11_mend_10 rfl).trans ((wt_iload_n dX11_mend_11 rfl).trans (wt_callV dX11_mend_12 rfl (as := [.int x1, .int x2]) (rest := []) rfl rfl (Nat.le_of_ble_eq_true rfl) rfl (Nat.le_of_ble_eq_true rfl)))))
set_option maxHeartbeats 100000 in
theorem kX11_mend_15 {d : Nat} {F : am_FT} {L : am_LT} {Q : am_QT} {l0 l1 l2 l3 l4 : Option Value} {s0 : Int32} : wt am_S0 d mX11_mend 15 [l0, l1, l2, l3, l4] [.int s0] F L Q = if s0 = 0 then wt am_S0 d mX11_mend 30 [l0, l1, l2, l3, l4] [] F L Q else wt am_S0 d mX11_mend 18 [l0, l1, l2, l3, l4] [] F L Q := wt_ifCond_eq dX11_mend_15 (t := 30) rfl
set_option maxHeartbeats 100000 in
theorem kX11_mend_18 {d : Nat} {F : am_FT} {L : am_LT} {Q : am_QT} {l1 l4 : Option Value} {x2 x3 : Int32} : wt am_S0 (d + 1) mX11_mend 18 [some (.ref 0), l1, some (.int x2), some (.int x3), l4] [] F L Q = wc am_S0 d mX5_fits [.ref 1, .int x2, .int x3] F L (fun r G K => wt am_S0 (d + 1) mX11_mend 27 [some (.ref 0), l1, some (.int x2), some (.int x3), l4] (r.toList ++ []) G K Q) := (wt_aload_n dX11_mend_18 rfl rfl).trans ((wt_getfield dX11_mend_19 rfl rfl (v := .ref 1) rfl).trans ((wt_iload_n dX11_mend_22 rfl).trans ((wt_iload_n dX11_mend_23 rfl).trans (wt_callV dX11_mend_24 rfl (as := [.int x2, .int x3]) (rest := []) rfl rfl (Nat.le_of_ble_eq_true rfl) rfl (Nat.le_of_ble_eq_true rfl)))))
set_option maxHeartbeats 100000 in
theorem kX11_mend_27 {d : Nat} {F : am_FT} {L : am_LT} {Q : am_QT} {l0 l1 l2 l3 l4 : Option Value} {s0 : Int32} : wt am_S0 d mX11_mend 27 [l0, l1, l2, l3, l4] [.int s0] F L Q = if ¬ s0 = 0 then wt am_S0 d mX11_mend 32 [l0, l1, l2, l3, l4] [] F L Q else wt am_S0 d mX11_mend 30 [l0, l1, l2, l3, l4] [] F L Q := wt_ifCond_ne dX11_mend_27 (t := 32) rfl
set_option maxHeartbeats 100000 in
theorem kX11_mend_30 {d : Nat} {F : am_FT} {L : am_LT} {Q : am_QT} {l0 l1 l2 l3 l4 : Option Value} : wt am_S0 d mX11_mend 30 [l0, l1, l2, l3, l4] [] F L Q = Q (some (.int (-1))) F L := (wt_iconst dX11_mend_30 (v := (-1)) (by decide)).trans (wt_ireturn dX11_mend_31 rfl rfl)
set_option maxHeartbeats 100000 in
theorem kX11_mend_32 {d : Nat} {F : am_FT} {L : am_LT} {Q : am_QT} {l3 l4 : Option Value} {x1 x2 : Int32} : wt am_S0 (d + 1) mX11_mend 32 [some (.ref 0), some (.int x1), some (.int x2), l3, l4] [] F L Q = wc am_S0 d mX5_read [.ref 1, .int x1, .int x2] F L (fun r G K => wt am_S0 (d + 1) mX11_mend 41 [some (.ref 0), some (.int x1), some (.int x2), l3, l4] (r.toList ++ []) G K Q) := (wt_aload_n dX11_mend_32 rfl rfl).trans ((wt_getfield dX11_mend_33 rfl rfl (v := .ref 1) rfl).trans ((wt_iload_n dX11_mend_36 rfl).trans ((wt_iload_n dX11_mend_37 rfl).trans (wt_callV dX11_mend_38 rfl (as := [.int x1, .int x2]) (rest := []) rfl rfl (Nat.le_of_ble_eq_true rfl) rfl (Nat.le_of_ble_eq_true rfl)))))
set_option maxHeartbeats 100000 in
theorem kX11_mend_41 {d : Nat} {F : am_FT} {L : am_LT} {Q : am_QT} {l0 l1 l2 l4 : Option Value} {s0 x3 : Int32} : wt am_S0 d mX11_mend 41 [l0, l1, l2, some (.int x3), l4] [.int s0] F L Q = if s0 = x3 then wt am_S0 d mX11_mend 71 [l0, l1, l2, some (.int x3), some (.int s0)] [] F L Q else wt am_S0 d mX11_mend 49 [l0, l1, l2, some (.int x3), some (.int s0)] [] F L Q := (wt_istore dX11_mend_41 (lv1 := [l0, l1, l2, some (.int x3), some (.int s0)]) (Nat.le_of_ble_eq_true rfl) rfl).trans ((wt_iload dX11_mend_43 rfl).trans ((wt_iload_n dX11_mend_45 rfl).trans (wt_if_icmp_eq dX11_mend_46 (t := 71) rfl)))
set_option maxHeartbeats 100000 in
theorem kX11_mend_49 {d : Nat} {F : am_FT} {L : am_LT} {Q : am_QT} {l4 : Option Value} {x1 x2 x3 : Int32} : wt am_S0 (d + 1) mX11_mend 49 [some (.ref 0), some (.int x1), some (.int x2), some (.int x3), l4] [] F L Q = wc am_S0 d mX5_write [.ref 1, .int x1, .int x2, .int x3] F L (fun r G K => wt am_S0 (d + 1) mX11_mend 59 [some (.ref 0), some (.int x1), some (.int x2), some (.int x3), l4] (r.toList ++ []) G K Q) := (wt_aload_n dX11_mend_49 rfl rfl).trans ((wt_getfield dX11_mend_50 rfl rfl (v := .ref 1) rfl).trans ((wt_iload_n dX11_mend_53 rfl).trans ((wt_iload_n dX11_mend_54 rfl).trans ((wt_iload_n dX11_mend_55 rfl).trans (wt_callV dX11_mend_56 rfl (as := [.int x1, .int x2, .int x3]) (rest := []) rfl rfl (Nat.le_of_ble_eq_true rfl) rfl (Nat.le_of_ble_eq_true rfl))))))
set_option maxHeartbeats 100000 in
theorem kX11_mend_59 {d : Nat} {F : am_FT} {L : am_LT} {Q : am_QT} {x1 x2 x4 x3 : Int32} : wt am_S0 (d + 1) mX11_mend 59 [some (.ref 0), some (.int x1), some (.int x2), some (.int x3), some (.int x4)] [] F L Q = wc am_S0 d mX2_add [.ref 24, .int x1, .int x2, .int x4, .int x3] F L (fun r G K => wt am_S0 (d + 1) mX11_mend 71 [some (.ref 0), some (.int x1), some (.int x2), some (.int x3), some (.int x4)] (r.toList ++ []) G K Q) := (wt_aload_n dX11_mend_59 rfl rfl).trans ((wt_getfield dX11_mend_60 rfl rfl (v := .ref 24) rfl).trans ((wt_iload_n dX11_mend_63 rfl).trans ((wt_iload_n dX11_mend_64 rfl).trans ((wt_iload dX11_mend_65 rfl).trans ((wt_iload_n dX11_mend_67 rfl).trans (wt_callV dX11_mend_68 rfl (as := [.int x1, .int x2, .int x4, .int x3]) (rest := []) rfl rfl (Nat.le_of_ble_eq_true rfl) rfl (Nat.le_of_ble_eq_true rfl)))))))
set_option maxHeartbeats 100000 in
theorem kX11_mend_71 {d : Nat} {F : am_FT} {L : am_LT} {Q : am_QT} {l0 l1 l2 l3 : Option Value} {x4 : Int32} : wt am_S0 d mX11_mend 71 [l0, l1, l2, l3, some (.int x4)] [] F L Q = Q (some (.int x4)) F L := (wt_iload dX11_mend_71 rfl).trans (wt_ireturn dX11_mend_73 rfl rfl)
theorem dX11_of_0 : decode mX11_of.2.2.1 0 = .ok (.aload_n 0, 1) := by decide +kernel
theorem dX11_of_1 : decode mX11_of.2.2.1 1 = .ok (.getfield 12, 3) := by decide +kernel
theorem dX11_of_4 : decode mX11_of.2.2.1 4 = .ok (.iload_n 1, 1) := by decide +kernel
theorem dX11_of_5 : decode mX11_of.2.2.1 5 = .ok (.iload_n 2, 1) := by decide +kernel
theorem dX11_of_6 : decode mX11_of.2.2.1 6 = .ok (.invokevirtual 146, 3) := by decide +kernel
theorem dX11_of_9 : decode mX11_of.2.2.1 9 = .ok (.ifCond .eq 15, 3) := by decide +kernel
theorem dX11_of_12 : decode mX11_of.2.2.1 12 = .ok (.aload_n 0, 1) := by decide +kernel
theorem dX11_of_13 : decode mX11_of.2.2.1 13 = .ok (.getfield 12, 3) := by decide +kernel
theorem dX11_of_16 : decode mX11_of.2.2.1 16 = .ok (.iload_n 1, 1) := by decide +kernel
theorem dX11_of_17 : decode mX11_of.2.2.1 17 = .ok (.iload_n 2, 1) := by decide +kernel
theorem dX11_of_18 : decode mX11_of.2.2.1 18 = .ok (.invokevirtual 149, 3) := by decide +kernel
theorem dX11_of_21 : decode mX11_of.2.2.1 21 = .ok (.goto 4, 3) := by decide +kernel
theorem dX11_of_24 : decode mX11_of.2.2.1 24 = .ok (.iconst (-1), 1) := by decide +kernel
theorem dX11_of_25 : decode mX11_of.2.2.1 25 = .ok (.ireturn, 1) := by decide +kernel
set_option maxHeartbeats 100000 in
theorem kX11_of_0 {d : Nat} {F : am_FT} {L : am_LT} {Q : am_QT} {x1 x2 : Int32} : wt am_S0 (d + 1) mX11_of 0 [some (.ref 0), some (.int x1), some (.int x2)] [] F L Q = wc am_S0 d mX5_has [.ref 1, .int x1, .int x2] F L (fun r G K => wt am_S0 (d + 1) mX11_of 9 [some (.ref 0), some (.int x1), some (.int x2)] (r.toList ++ []) G K Q) := (wt_aload_n dX11_of_0 rfl rfl).trans ((wt_getfield dX11_of_1 rfl rfl (v := .ref 1) rfl).trans ((wt_iload_n dX11_of_4 rfl).trans ((wt_iload_n dX11_of_5 rfl).trans (wt_callV dX11_of_6 rfl (as := [.int x1, .int x2]) (rest := []) rfl rfl (Nat.le_of_ble_eq_true rfl) rfl (Nat.le_of_ble_eq_true rfl)))))
set_option maxHeartbeats 100000 in
theorem kX11_of_9 {d : Nat} {F : am_FT} {L : am_LT} {Q : am_QT} {l0 l1 l2 : Option Value} {s0 : Int32} : wt am_S0 d mX11_of 9 [l0, l1, l2] [.int s0] F L Q = if s0 = 0 then wt am_S0 d mX11_of 24 [l0, l1, l2] [] F L Q else wt am_S0 d mX11_of 12 [l0, l1, l2] [] F L Q := wt_ifCond_eq dX11_of_9 (t := 24) rfl
set_option maxHeartbeats 100000 in
theorem kX11_of_12 {d : Nat} {F : am_FT} {L : am_LT} {Q : am_QT} {x1 x2 : Int32} : wt am_S0 (d + 1) mX11_of 12 [some (.ref 0), some (.int x1), some (.int x2)] [] F L Q = wc am_S0 d mX5_read [.ref 1, .int x1, .int x2] F L (fun r G K => wt am_S0 (d + 1) mX11_of 21 [some (.ref 0), some (.int x1), some (.int x2)] (r.toList ++ []) G K Q) := (wt_aload_n dX11_of_12 rfl rfl).trans ((wt_getfield dX11_of_13 rfl rfl (v := .ref 1) rfl).trans ((wt_iload_n dX11_of_16 rfl).trans ((wt_iload_n dX11_of_17 rfl).trans (wt_callV dX11_of_18 rfl (as := [.int x1, .int x2]) (rest := []) rfl rfl (Nat.le_of_ble_eq_true rfl) rfl (Nat.le_of_ble_eq_true rfl)))))
set_option maxHeartbeats 100000 in
theorem kX11_of_21 {d : Nat} {F : am_FT} {L : am_LT} {Q : am_QT} {l0 l1 l2 : Option Value} {s0 : Int32} : wt am_S0 d mX11_of 21 [l0, l1, l2] [.int s0] F L Q = wt am_S0 d mX11_of 25 [l0, l1, l2] [.int s0] F L Q := wt_goto dX11_of_21 (t := 25) rfl
set_option maxHeartbeats 100000 in
theorem kX11_of_24 {d : Nat} {F : am_FT} {L : am_LT} {Q : am_QT} {l0 l1 l2 : Option Value} : wt am_S0 d mX11_of 24 [l0, l1, l2] [] F L Q = wt am_S0 d mX11_of 25 [l0, l1, l2] [.int (-1)] F L Q := wt_iconst dX11_of_24 (v := (-1)) (by decide)
set_option maxHeartbeats 100000 in
theorem kX11_of_25 {d : Nat} {F : am_FT} {L : am_LT} {Q : am_QT} {l0 l1 l2 : Option Value} {s0 : Int32} : wt am_S0 d mX11_of 25 [l0, l1, l2] [.int s0] F L Q = Q (some (.int s0)) F L := wt_ireturn dX11_of_25 rfl rfl
theorem dX11_feed_0 : decode mX11_feed.2.2.1 0 = .ok (.iload_n 1, 1) := by decide +kernel
theorem dX11_feed_1 : decode mX11_feed.2.2.1 1 = .ok (.iconst 0, 1) := by decide +kernel
theorem dX11_feed_2 : decode mX11_feed.2.2.1 2 = .ok (.sipush 255, 3) := by decide +kernel
theorem dX11_feed_5 : decode mX11_feed.2.2.1 5 = .ok (.invokestatic 117, 3) := by decide +kernel
theorem dX11_feed_8 : decode mX11_feed.2.2.1 8 = .ok (.ifCond .eq 14, 3) := by decide +kernel
theorem dX11_feed_11 : decode mX11_feed.2.2.1 11 = .ok (.aload_n 0, 1) := by decide +kernel
theorem dX11_feed_12 : decode mX11_feed.2.2.1 12 = .ok (.getfield 19, 3) := by decide +kernel
theorem dX11_feed_15 : decode mX11_feed.2.2.1 15 = .ok (.iload_n 1, 1) := by decide +kernel
theorem dX11_feed_16 : decode mX11_feed.2.2.1 16 = .ok (.invokevirtual 160, 3) := by decide +kernel
theorem dX11_feed_19 : decode mX11_feed.2.2.1 19 = .ok (.goto 4, 3) := by decide +kernel
theorem dX11_feed_22 : decode mX11_feed.2.2.1 22 = .ok (.iconst (-1), 1) := by decide +kernel
theorem dX11_feed_23 : decode mX11_feed.2.2.1 23 = .ok (.ireturn, 1) := by decide +kernel
set_option maxHeartbeats 100000 in
theorem kX11_feed_0 {d : Nat} {F : am_FT} {L : am_LT} {Q : am_QT} {l0 : Option Value} {x1 : Int32} : wt am_S0 (d + 1) mX11_feed 0 [l0, some (.int x1)] [] F L Q = wc am_S0 d mX11_within [.int x1, .int 0, .int 255] F L (fun r G K => wt am_S0 (d + 1) mX11_feed 8 [l0, some (.int x1)] (r.toList ++ []) G K Q) := (wt_iload_n dX11_feed_0 rfl).trans ((wt_iconst dX11_feed_1 (v := 0) (by decide)).trans ((wt_sipush dX11_feed_2 (v := 255) (by decide)).trans (wt_callS dX11_feed_5 rfl (as := [.int x1, .int 0, .int 255]) (rest := []) rfl rfl (Nat.le_of_ble_eq_true rfl) (Nat.le_of_ble_eq_true rfl))))
set_option maxHeartbeats 100000 in
theorem kX11_feed_8 {d : Nat} {F : am_FT} {L : am_LT} {Q : am_QT} {l0 l1 : Option Value} {s0 : Int32} : wt am_S0 d mX11_feed 8 [l0, l1] [.int s0] F L Q = if s0 = 0 then wt am_S0 d mX11_feed 22 [l0, l1] [] F L Q else wt am_S0 d mX11_feed 11 [l0, l1] [] F L Q := wt_ifCond_eq dX11_feed_8 (t := 22) rfl
set_option maxHeartbeats 100000 in
theorem kX11_feed_11 {d : Nat} {F : am_FT} {L : am_LT} {Q : am_QT} {x1 : Int32} : wt am_S0 (d + 1) mX11_feed 11 [some (.ref 0), some (.int x1)] [] F L Q = wc am_S0 d mX7_take [.ref 3, .int x1] F L (fun r G K => wt am_S0 (d + 1) mX11_feed 19 [some (.ref 0), some (.int x1)] (r.toList ++ []) G K Q) := (wt_aload_n dX11_feed_11 rfl rfl).trans ((wt_getfield dX11_feed_12 rfl rfl (v := .ref 3) rfl).trans ((wt_iload_n dX11_feed_15 rfl).trans (wt_callV dX11_feed_16 rfl (as := [.int x1]) (rest := []) rfl rfl (Nat.le_of_ble_eq_true rfl) rfl (Nat.le_of_ble_eq_true rfl))))
set_option maxHeartbeats 100000 in
theorem kX11_feed_19 {d : Nat} {F : am_FT} {L : am_LT} {Q : am_QT} {l0 l1 : Option Value} {s0 : Int32} : wt am_S0 d mX11_feed 19 [l0, l1] [.int s0] F L Q = wt am_S0 d mX11_feed 23 [l0, l1] [.int s0] F L Q := wt_goto dX11_feed_19 (t := 23) rfl
set_option maxHeartbeats 100000 in
theorem kX11_feed_22 {d : Nat} {F : am_FT} {L : am_LT} {Q : am_QT} {l0 l1 : Option Value} : wt am_S0 d mX11_feed 22 [l0, l1] [] F L Q = wt am_S0 d mX11_feed 23 [l0, l1] [.int (-1)] F L Q := wt_iconst dX11_feed_22 (v := (-1)) (by decide)
set_option maxHeartbeats 100000 in
theorem kX11_feed_23 {d : Nat} {F : am_FT} {L : am_LT} {Q : am_QT} {l0 l1 : Option Value} {s0 : Int32} : wt am_S0 d mX11_feed 23 [l0, l1] [.int s0] F L Q = Q (some (.int s0)) F L := wt_ireturn dX11_feed_23 rfl rfl
theorem dX11_law_0 : decode mX11_law.2.2.1 0 = .ok (.aload_n 0, 1) := by decide +kernel
theorem dX11_law_1 : decode mX11_law.2.2.1 1 = .ok (.getfield 19, 3) := by decide +kernel
theorem dX11_law_4 : decode mX11_law.2.2.1 4 = .ok (.invokevirtual 164, 3) := by decide +kernel
theorem dX11_law_7 : decode mX11_law.2.2.1 7 = .ok (.istore_n 1, 1) := by decide +kernel
theorem dX11_law_8 : decode mX11_law.2.2.1 8 = .ok (.iload_n 1, 1) := by decide +kernel
theorem dX11_law_9 : decode mX11_law.2.2.1 9 = .ok (.iconst (-1), 1) := by decide +kernel
theorem dX11_law_10 : decode mX11_law.2.2.1 10 = .ok (.if_icmp .ne 24, 3) := by decide +kernel
theorem dX11_law_13 : decode mX11_law.2.2.1 13 = .ok (.aload_n 0, 1) := by decide +kernel
theorem dX11_law_14 : decode mX11_law.2.2.1 14 = .ok (.getfield 26, 3) := by decide +kernel
theorem dX11_law_17 : decode mX11_law.2.2.1 17 = .ok (.aload_n 0, 1) := by decide +kernel
theorem dX11_law_18 : decode mX11_law.2.2.1 18 = .ok (.getfield 19, 3) := by decide +kernel
theorem dX11_law_21 : decode mX11_law.2.2.1 21 = .ok (.getfield 167, 3) := by decide +kernel
theorem dX11_law_24 : decode mX11_law.2.2.1 24 = .ok (.aload_n 0, 1) := by decide +kernel
theorem dX11_law_25 : decode mX11_law.2.2.1 25 = .ok (.getfield 19, 3) := by decide +kernel
theorem dX11_law_28 : decode mX11_law.2.2.1 28 = .ok (.getfield 170, 3) := by decide +kernel
theorem dX11_law_31 : decode mX11_law.2.2.1 31 = .ok (.invokevirtual 174, 3) := by decide +kernel
theorem dX11_law_34 : decode mX11_law.2.2.1 34 = .ok (.aload_n 0, 1) := by decide +kernel
theorem dX11_law_35 : decode mX11_law.2.2.1 35 = .ok (.getfield 19, 3) := by decide +kernel
theorem dX11_law_38 : decode mX11_law.2.2.1 38 = .ok (.invokevirtual 178, 3) := by decide +kernel
theorem dX11_law_41 : decode mX11_law.2.2.1 41 = .ok (.iload_n 1, 1) := by decide +kernel
theorem dX11_law_42 : decode mX11_law.2.2.1 42 = .ok (.iconst (-1), 1) := by decide +kernel
theorem dX11_law_43 : decode mX11_law.2.2.1 43 = .ok (.if_icmp .ne 7, 3) := by decide +kernel
theorem dX11_law_46 : decode mX11_law.2.2.1 46 = .ok (.iconst 1, 1) := by decide +kernel
theorem dX11_law_47 : decode mX11_law.2.2.1 47 = .ok (.goto 7, 3) := by decide +kernel
theorem dX11_law_50 : decode mX11_law.2.2.1 50 = .ok (.bipush (-100), 2) := by decide +kernel
theorem dX11_law_52 : decode mX11_law.2.2.1 52 = .ok (.iload_n 1, 1) := by decide +kernel
theorem dX11_law_53 : decode mX11_law.2.2.1 53 = .ok (.isub, 1) := by decide +kernel
theorem dX11_law_54 : decode mX11_law.2.2.1 54 = .ok (.ireturn, 1) := by decide +kernel
set_option maxHeartbeats 100000 in
theorem kX11_law_0 {d : Nat} {F : am_FT} {L : am_LT} {Q : am_QT} {l1 : Option Value} : wt am_S0 (d + 1) mX11_law 0 [some (.ref 0), l1] [] F L Q = wc am_S0 d mX7_findFault [.ref 3] F L (fun r G K => wt am_S0 (d + 1) mX11_law 7 [some (.ref 0), l1] (r.toList ++ []) G K Q) := (wt_aload_n dX11_law_0 rfl rfl).trans ((wt_getfield dX11_law_1 rfl rfl (v := .ref 3) rfl).trans (wt_callV dX11_law_4 rfl (as := []) (rest := []) rfl rfl (Nat.le_of_ble_eq_true rfl) rfl (Nat.le_of_ble_eq_true rfl)))
set_option maxHeartbeats 100000 in
theorem kX11_law_7 {d : Nat} {F : am_FT} {L : am_LT} {Q : am_QT} {l1 : Option Value} {s0 : Int32} : wt am_S0 d mX11_law 7 [some (.ref 0), l1] [.int s0] F L Q = if ¬ s0 = (-1) then wt am_S0 d mX11_law 34 [some (.ref 0), some (.int s0)] [] F L Q else wt am_S0 d mX11_law 13 [some (.ref 0), some (.int s0)] [] F L Q := (wt_istore_n dX11_law_7 (lv1 := [some (.ref 0), some (.int s0)]) (Nat.le_of_ble_eq_true rfl) rfl).trans ((wt_iload_n dX11_law_8 rfl).trans ((wt_iconst dX11_law_9 (v := (-1)) (by decide)).trans (wt_if_icmp_ne dX11_law_10 (t := 34) rfl)))
set_option maxHeartbeats 100000 in
theorem kX11_law_13 {d : Nat} {F : am_FT} {L : am_LT} {Q : am_QT} {l1 : Option Value} : wt am_S0 (d + 1) mX11_law 13 [some (.ref 0), l1] [] F L Q = wc am_S0 d mX6_become [.ref 6, .ref 5, .int (F 3 4)] F L (fun r G K => wt am_S0 (d + 1) mX11_law 34 [some (.ref 0), l1] (r.toList ++ []) G K Q) := (wt_aload_n dX11_law_13 rfl rfl).trans ((wt_getfield dX11_law_14 rfl rfl (v := .ref 6) rfl).trans ((wt_aload_n dX11_law_17 rfl rfl).trans ((wt_getfield dX11_law_18 rfl rfl (v := .ref 3) rfl).trans ((wt_getfield dX11_law_21 rfl rfl (v := .ref 5) rfl).trans ((wt_aload_n dX11_law_24 rfl rfl).trans ((wt_getfield dX11_law_25 rfl rfl (v := .ref 3) rfl).trans ((wt_getfield dX11_law_28 rfl rfl (v := .int (F 3 4)) rfl).trans (wt_callV dX11_law_31 rfl (as := [.ref 5, .int (F 3 4)]) (rest := []) rfl rfl (Nat.le_of_ble_eq_true rfl) rfl (Nat.le_of_ble_eq_true rfl)))))))))
set_option maxHeartbeats 100000 in
theorem kX11_law_34 {d : Nat} {F : am_FT} {L : am_LT} {Q : am_QT} {l1 : Option Value} : wt am_S0 (d + 1) mX11_law 34 [some (.ref 0), l1] [] F L Q = wc am_S0 d mX7_clear [.ref 3] F L (fun r G K => wt am_S0 (d + 1) mX11_law 41 [some (.ref 0), l1] (r.toList ++ []) G K Q) := (wt_aload_n dX11_law_34 rfl rfl).trans ((wt_getfield dX11_law_35 rfl rfl (v := .ref 3) rfl).trans (wt_callV dX11_law_38 rfl (as := []) (rest := []) rfl rfl (Nat.le_of_ble_eq_true rfl) rfl (Nat.le_of_ble_eq_true rfl)))
set_option maxHeartbeats 100000 in
theorem kX11_law_41 {d : Nat} {F : am_FT} {L : am_LT} {Q : am_QT} {l0 : Option Value} {x1 : Int32} : wt am_S0 d mX11_law 41 [l0, some (.int x1)] [] F L Q = if ¬ x1 = (-1) then wt am_S0 d mX11_law 50 [l0, some (.int x1)] [] F L Q else wt am_S0 d mX11_law 46 [l0, some (.int x1)] [] F L Q := (wt_iload_n dX11_law_41 rfl).trans ((wt_iconst dX11_law_42 (v := (-1)) (by decide)).trans (wt_if_icmp_ne dX11_law_43 (t := 50) rfl))
set_option maxHeartbeats 100000 in
theorem kX11_law_46 {d : Nat} {F : am_FT} {L : am_LT} {Q : am_QT} {l0 l1 : Option Value} : wt am_S0 d mX11_law 46 [l0, l1] [] F L Q = wt am_S0 d mX11_law 54 [l0, l1] [.int 1] F L Q := (wt_iconst dX11_law_46 (v := 1) (by decide)).trans (wt_goto dX11_law_47 (t := 54) rfl)
set_option maxHeartbeats 100000 in
theorem kX11_law_50 {d : Nat} {F : am_FT} {L : am_LT} {Q : am_QT} {l0 : Option Value} {x1 : Int32} : wt am_S0 d mX11_law 50 [l0, some (.int x1)] [] F L Q = wt am_S0 d mX11_law 54 [l0, some (.int x1)] [.int ((-100) - x1)] F L Q := (wt_bipush dX11_law_50 (v := (-100)) (by decide)).trans ((wt_iload_n dX11_law_52 rfl).trans (wt_isub dX11_law_53))
set_option maxHeartbeats 100000 in
theorem kX11_law_54 {d : Nat} {F : am_FT} {L : am_LT} {Q : am_QT} {l0 l1 : Option Value} {s0 : Int32} : wt am_S0 d mX11_law 54 [l0, l1] [.int s0] F L Q = Q (some (.int s0)) F L := wt_ireturn dX11_law_54 rfl rfl
theorem dX11_shade_0 : decode mX11_shade.2.2.1 0 = .ok (.aload_n 0, 1) := by decide +kernel
theorem dX11_shade_1 : decode mX11_shade.2.2.1 1 = .ok (.iload_n 1, 1) := by decide +kernel
theorem dX11_shade_2 : decode mX11_shade.2.2.1 2 = .ok (.invokevirtual 181, 3) := by decide +kernel
theorem dX11_shade_5 : decode mX11_shade.2.2.1 5 = .ok (.ifCond .eq 21, 3) := by decide +kernel
theorem dX11_shade_8 : decode mX11_shade.2.2.1 8 = .ok (.aload_n 0, 1) := by decide +kernel
theorem dX11_shade_9 : decode mX11_shade.2.2.1 9 = .ok (.getfield 44, 3) := by decide +kernel
theorem dX11_shade_12 : decode mX11_shade.2.2.1 12 = .ok (.iload_n 1, 1) := by decide +kernel
theorem dX11_shade_13 : decode mX11_shade.2.2.1 13 = .ok (.bipush 100, 2) := by decide +kernel
theorem dX11_shade_15 : decode mX11_shade.2.2.1 15 = .ok (.idiv, 1) := by decide +kernel
theorem dX11_shade_16 : decode mX11_shade.2.2.1 16 = .ok (.iload_n 1, 1) := by decide +kernel
theorem dX11_shade_17 : decode mX11_shade.2.2.1 17 = .ok (.bipush 100, 2) := by decide +kernel
theorem dX11_shade_19 : decode mX11_shade.2.2.1 19 = .ok (.irem, 1) := by decide +kernel
theorem dX11_shade_20 : decode mX11_shade.2.2.1 20 = .ok (.invokevirtual 184, 3) := by decide +kernel
theorem dX11_shade_23 : decode mX11_shade.2.2.1 23 = .ok (.goto 4, 3) := by decide +kernel
theorem dX11_shade_26 : decode mX11_shade.2.2.1 26 = .ok (.iconst (-1), 1) := by decide +kernel
theorem dX11_shade_27 : decode mX11_shade.2.2.1 27 = .ok (.ireturn, 1) := by decide +kernel
set_option maxHeartbeats 100000 in
theorem kX11_shade_0 {d : Nat} {F : am_FT} {L : am_LT} {Q : am_QT} {x1 : Int32} : wt am_S0 (d + 1) mX11_shade 0 [some (.ref 0), some (.int x1)] [] F L Q = wc am_S0 d mX11_isTreeMonth [.ref 0, .int x1] F L (fun r G K => wt am_S0 (d + 1) mX11_shade 5 [some (.ref 0), some (.int x1)] (r.toList ++ []) G K Q) := (wt_aload_n dX11_shade_0 rfl rfl).trans ((wt_iload_n dX11_shade_1 rfl).trans (wt_callV dX11_shade_2 rfl (as := [.int x1]) (rest := []) rfl rfl (Nat.le_of_ble_eq_true rfl) rfl (Nat.le_of_ble_eq_true rfl)))
set_option maxHeartbeats 100000 in
theorem kX11_shade_5 {d : Nat} {F : am_FT} {L : am_LT} {Q : am_QT} {l0 l1 : Option Value} {s0 : Int32} : wt am_S0 d mX11_shade 5 [l0, l1] [.int s0] F L Q = if s0 = 0 then wt am_S0 d mX11_shade 26 [l0, l1] [] F L Q else wt am_S0 d mX11_shade 8 [l0, l1] [] F L Q := wt_ifCond_eq dX11_shade_5 (t := 26) rfl
set_option maxHeartbeats 100000 in
theorem kX11_shade_8 {d : Nat} {F : am_FT} {L : am_LT} {Q : am_QT} {x1 : Int32} : wt am_S0 (d + 1) mX11_shade 8 [some (.ref 0), some (.int x1)] [] F L Q = wc am_S0 d mX9_sittersIn [.ref 12, .int (x1 / 100), .int (x1 - x1 / 100 * 100)] F L (fun r G K => wt am_S0 (d + 1) mX11_shade 23 [some (.ref 0), some (.int x1)] (r.toList ++ []) G K Q) := (wt_aload_n dX11_shade_8 rfl rfl).trans ((wt_getfield dX11_shade_9 rfl rfl (v := .ref 12) rfl).trans ((wt_iload_n dX11_shade_12 rfl).trans ((wt_bipush dX11_shade_13 (v := 100) (by decide)).trans ((wt_idiv dX11_shade_15 (by decide)).trans ((wt_iload_n dX11_shade_16 rfl).trans ((wt_bipush dX11_shade_17 (v := 100) (by decide)).trans ((wt_irem dX11_shade_19 (by decide)).trans (wt_callV dX11_shade_20 rfl (as := [.int (x1 / 100), .int (x1 - x1 / 100 * 100)]) (rest := []) rfl rfl (Nat.le_of_ble_eq_true rfl) rfl (Nat.le_of_ble_eq_true rfl)))))))))
set_option maxHeartbeats 100000 in
theorem kX11_shade_23 {d : Nat} {F : am_FT} {L : am_LT} {Q : am_QT} {l0 l1 : Option Value} {s0 : Int32} : wt am_S0 d mX11_shade 23 [l0, l1] [.int s0] F L Q = wt am_S0 d mX11_shade 27 [l0, l1] [.int s0] F L Q := wt_goto dX11_shade_23 (t := 27) rfl
set_option maxHeartbeats 100000 in
theorem kX11_shade_26 {d : Nat} {F : am_FT} {L : am_LT} {Q : am_QT} {l0 l1 : Option Value} : wt am_S0 d mX11_shade 26 [l0, l1] [] F L Q = wt am_S0 d mX11_shade 27 [l0, l1] [.int (-1)] F L Q := wt_iconst dX11_shade_26 (v := (-1)) (by decide)
set_option maxHeartbeats 100000 in
theorem kX11_shade_27 {d : Nat} {F : am_FT} {L : am_LT} {Q : am_QT} {l0 l1 : Option Value} {s0 : Int32} : wt am_S0 d mX11_shade 27 [l0, l1] [.int s0] F L Q = Q (some (.int s0)) F L := wt_ireturn dX11_shade_27 rfl rfl
theorem dX11_isTreeMonth_0 : decode mX11_isTreeMonth.2.2.1 0 = .ok (.iload_n 1, 1) := by decide +kernel
theorem dX11_isTreeMonth_1 : decode mX11_isTreeMonth.2.2.1 1 = .ok (.ifCond .lt 29, 3) := by decide +kernel
theorem dX11_isTreeMonth_4 : decode mX11_isTreeMonth.2.2.1 4 = .ok (.aload_n 0, 1) := by decide +kernel
theorem dX11_isTreeMonth_5 : decode mX11_isTreeMonth.2.2.1 5 = .ok (.iload_n 1, 1) := by decide +kernel
theorem dX11_isTreeMonth_6 : decode mX11_isTreeMonth.2.2.1 6 = .ok (.bipush 100, 2) := by decide +kernel
theorem dX11_isTreeMonth_8 : decode mX11_isTreeMonth.2.2.1 8 = .ok (.idiv, 1) := by decide +kernel
theorem dX11_isTreeMonth_9 : decode mX11_isTreeMonth.2.2.1 9 = .ok (.invokevirtual 255, 3) := by decide +kernel
theorem dX11_isTreeMonth_12 : decode mX11_isTreeMonth.2.2.1 12 = .ok (.ifCond .eq 18, 3) := by decide +kernel
theorem dX11_isTreeMonth_15 : decode mX11_isTreeMonth.2.2.1 15 = .ok (.aload_n 0, 1) := by decide +kernel
theorem dX11_isTreeMonth_16 : decode mX11_isTreeMonth.2.2.1 16 = .ok (.iload_n 1, 1) := by decide +kernel
theorem dX11_isTreeMonth_17 : decode mX11_isTreeMonth.2.2.1 17 = .ok (.bipush 100, 2) := by decide +kernel
theorem dX11_isTreeMonth_19 : decode mX11_isTreeMonth.2.2.1 19 = .ok (.irem, 1) := by decide +kernel
theorem dX11_isTreeMonth_20 : decode mX11_isTreeMonth.2.2.1 20 = .ok (.invokevirtual 215, 3) := by decide +kernel
theorem dX11_isTreeMonth_23 : decode mX11_isTreeMonth.2.2.1 23 = .ok (.ifCond .eq 7, 3) := by decide +kernel
theorem dX11_isTreeMonth_26 : decode mX11_isTreeMonth.2.2.1 26 = .ok (.iconst 1, 1) := by decide +kernel
theorem dX11_isTreeMonth_27 : decode mX11_isTreeMonth.2.2.1 27 = .ok (.goto 4, 3) := by decide +kernel
theorem dX11_isTreeMonth_30 : decode mX11_isTreeMonth.2.2.1 30 = .ok (.iconst 0, 1) := by decide +kernel
theorem dX11_isTreeMonth_31 : decode mX11_isTreeMonth.2.2.1 31 = .ok (.ireturn, 1) := by decide +kernel
set_option maxHeartbeats 100000 in
theorem kX11_isTreeMonth_0 {d : Nat} {F : am_FT} {L : am_LT} {Q : am_QT} {l0 : Option Value} {x1 : Int32} : wt am_S0 d mX11_isTreeMonth 0 [l0, some (.int x1)] [] F L Q = if x1 < 0 then wt am_S0 d mX11_isTreeMonth 30 [l0, some (.int x1)] [] F L Q else wt am_S0 d mX11_isTreeMonth 4 [l0, some (.int x1)] [] F L Q := (wt_iload_n dX11_isTreeMonth_0 rfl).trans (wt_ifCond_lt dX11_isTreeMonth_1 (t := 30) rfl)
set_option maxHeartbeats 100000 in
theorem kX11_isTreeMonth_4 {d : Nat} {F : am_FT} {L : am_LT} {Q : am_QT} {x1 : Int32} : wt am_S0 (d + 1) mX11_isTreeMonth 4 [some (.ref 0), some (.int x1)] [] F L Q = wc am_S0 d mX11_isTree [.ref 0, .int (x1 / 100)] F L (fun r G K => wt am_S0 (d + 1) mX11_isTreeMonth 12 [some (.ref 0), some (.int x1)] (r.toList ++ []) G K Q) := (wt_aload_n dX11_isTreeMonth_4 rfl rfl).trans ((wt_iload_n dX11_isTreeMonth_5 rfl).trans ((wt_bipush dX11_isTreeMonth_6 (v := 100) (by decide)).trans ((wt_idiv dX11_isTreeMonth_8 (by decide)).trans (wt_callV dX11_isTreeMonth_9 rfl (as := [.int (x1 / 100)]) (rest := []) rfl rfl (Nat.le_of_ble_eq_true rfl) rfl (Nat.le_of_ble_eq_true rfl)))))
set_option maxHeartbeats 100000 in
theorem kX11_isTreeMonth_12 {d : Nat} {F : am_FT} {L : am_LT} {Q : am_QT} {l0 l1 : Option Value} {s0 : Int32} : wt am_S0 d mX11_isTreeMonth 12 [l0, l1] [.int s0] F L Q = if s0 = 0 then wt am_S0 d mX11_isTreeMonth 30 [l0, l1] [] F L Q else wt am_S0 d mX11_isTreeMonth 15 [l0, l1] [] F L Q := wt_ifCond_eq dX11_isTreeMonth_12 (t := 30) rfl
set_option maxHeartbeats 100000 in
theorem kX11_isTreeMonth_15 {d : Nat} {F : am_FT} {L : am_LT} {Q : am_QT} {x1 : Int32} : wt am_S0 (d + 1) mX11_isTreeMonth 15 [some (.ref 0), some (.int x1)] [] F L Q = wc am_S0 d mX11_isMonth [.ref 0, .int (x1 - x1 / 100 * 100)] F L (fun r G K => wt am_S0 (d + 1) mX11_isTreeMonth 23 [some (.ref 0), some (.int x1)] (r.toList ++ []) G K Q) := (wt_aload_n dX11_isTreeMonth_15 rfl rfl).trans ((wt_iload_n dX11_isTreeMonth_16 rfl).trans ((wt_bipush dX11_isTreeMonth_17 (v := 100) (by decide)).trans ((wt_irem dX11_isTreeMonth_19 (by decide)).trans (wt_callV dX11_isTreeMonth_20 rfl (as := [.int (x1 - x1 / 100 * 100)]) (rest := []) rfl rfl (Nat.le_of_ble_eq_true rfl) rfl (Nat.le_of_ble_eq_true rfl)))))
set_option maxHeartbeats 100000 in
theorem kX11_isTreeMonth_23 {d : Nat} {F : am_FT} {L : am_LT} {Q : am_QT} {l0 l1 : Option Value} {s0 : Int32} : wt am_S0 d mX11_isTreeMonth 23 [l0, l1] [.int s0] F L Q = if s0 = 0 then wt am_S0 d mX11_isTreeMonth 30 [l0, l1] [] F L Q else wt am_S0 d mX11_isTreeMonth 26 [l0, l1] [] F L Q := wt_ifCond_eq dX11_isTreeMonth_23 (t := 30) rfl
set_option maxHeartbeats 100000 in
theorem kX11_isTreeMonth_26 {d : Nat} {F : am_FT} {L : am_LT} {Q : am_QT} {l0 l1 : Option Value} : wt am_S0 d mX11_isTreeMonth 26 [l0, l1] [] F L Q = wt am_S0 d mX11_isTreeMonth 31 [l0, l1] [.int 1] F L Q := (wt_iconst dX11_isTreeMonth_26 (v := 1) (by decide)).trans (wt_goto dX11_isTreeMonth_27 (t := 31) rfl)
set_option maxHeartbeats 100000 in
theorem kX11_isTreeMonth_30 {d : Nat} {F : am_FT} {L : am_LT} {Q : am_QT} {l0 l1 : Option Value} : wt am_S0 d mX11_isTreeMonth 30 [l0, l1] [] F L Q = wt am_S0 d mX11_isTreeMonth 31 [l0, l1] [.int 0] F L Q := wt_iconst dX11_isTreeMonth_30 (v := 0) (by decide)
set_option maxHeartbeats 100000 in
theorem kX11_isTreeMonth_31 {d : Nat} {F : am_FT} {L : am_LT} {Q : am_QT} {l0 l1 : Option Value} {s0 : Int32} (h1 : narrow .boolean (.int s0) = .int s0) : wt am_S0 d mX11_isTreeMonth 31 [l0, l1] [.int s0] F L Q = Q (some (.int s0)) F L := wt_ireturn dX11_isTreeMonth_31 rfl h1
theorem dX11_isTree_0 : decode mX11_isTree.2.2.1 0 = .ok (.aload_n 0, 1) := by decide +kernel
theorem dX11_isTree_1 : decode mX11_isTree.2.2.1 1 = .ok (.getfield 12, 3) := by decide +kernel
theorem dX11_isTree_4 : decode mX11_isTree.2.2.1 4 = .ok (.iload_n 1, 1) := by decide +kernel
theorem dX11_isTree_5 : decode mX11_isTree.2.2.1 5 = .ok (.iconst 0, 1) := by decide +kernel
theorem dX11_isTree_6 : decode mX11_isTree.2.2.1 6 = .ok (.invokevirtual 146, 3) := by decide +kernel
theorem dX11_isTree_9 : decode mX11_isTree.2.2.1 9 = .ok (.ireturn, 1) := by decide +kernel
set_option maxHeartbeats 100000 in
theorem kX11_isTree_0 {d : Nat} {F : am_FT} {L : am_LT} {Q : am_QT} {x1 : Int32} : wt am_S0 (d + 1) mX11_isTree 0 [some (.ref 0), some (.int x1)] [] F L Q = wc am_S0 d mX5_has [.ref 1, .int x1, .int 0] F L (fun r G K => wt am_S0 (d + 1) mX11_isTree 9 [some (.ref 0), some (.int x1)] (r.toList ++ []) G K Q) := (wt_aload_n dX11_isTree_0 rfl rfl).trans ((wt_getfield dX11_isTree_1 rfl rfl (v := .ref 1) rfl).trans ((wt_iload_n dX11_isTree_4 rfl).trans ((wt_iconst dX11_isTree_5 (v := 0) (by decide)).trans (wt_callV dX11_isTree_6 rfl (as := [.int x1, .int 0]) (rest := []) rfl rfl (Nat.le_of_ble_eq_true rfl) rfl (Nat.le_of_ble_eq_true rfl)))))
set_option maxHeartbeats 100000 in
theorem kX11_isTree_9 {d : Nat} {F : am_FT} {L : am_LT} {Q : am_QT} {l0 l1 : Option Value} {s0 : Int32} (h1 : narrow .boolean (.int s0) = .int s0) : wt am_S0 d mX11_isTree 9 [l0, l1] [.int s0] F L Q = Q (some (.int s0)) F L := wt_ireturn dX11_isTree_9 rfl h1
theorem dX11_isMonth_0 : decode mX11_isMonth.2.2.1 0 = .ok (.iload_n 1, 1) := by decide +kernel
theorem dX11_isMonth_1 : decode mX11_isMonth.2.2.1 1 = .ok (.iconst 0, 1) := by decide +kernel
theorem dX11_isMonth_2 : decode mX11_isMonth.2.2.1 2 = .ok (.bipush 11, 2) := by decide +kernel
theorem dX11_isMonth_4 : decode mX11_isMonth.2.2.1 4 = .ok (.invokestatic 117, 3) := by decide +kernel
theorem dX11_isMonth_7 : decode mX11_isMonth.2.2.1 7 = .ok (.ireturn, 1) := by decide +kernel
set_option maxHeartbeats 100000 in
theorem kX11_isMonth_0 {d : Nat} {F : am_FT} {L : am_LT} {Q : am_QT} {l0 : Option Value} {x1 : Int32} : wt am_S0 (d + 1) mX11_isMonth 0 [l0, some (.int x1)] [] F L Q = wc am_S0 d mX11_within [.int x1, .int 0, .int 11] F L (fun r G K => wt am_S0 (d + 1) mX11_isMonth 7 [l0, some (.int x1)] (r.toList ++ []) G K Q) := (wt_iload_n dX11_isMonth_0 rfl).trans ((wt_iconst dX11_isMonth_1 (v := 0) (by decide)).trans ((wt_bipush dX11_isMonth_2 (v := 11) (by decide)).trans (wt_callS dX11_isMonth_4 rfl (as := [.int x1, .int 0, .int 11]) (rest := []) rfl rfl (Nat.le_of_ble_eq_true rfl) (Nat.le_of_ble_eq_true rfl))))
set_option maxHeartbeats 100000 in
theorem kX11_isMonth_7 {d : Nat} {F : am_FT} {L : am_LT} {Q : am_QT} {l0 l1 : Option Value} {s0 : Int32} (h1 : narrow .boolean (.int s0) = .int s0) : wt am_S0 d mX11_isMonth 7 [l0, l1] [.int s0] F L Q = Q (some (.int s0)) F L := wt_ireturn dX11_isMonth_7 rfl h1
theorem dX11_votes_0 : decode mX11_votes.2.2.1 0 = .ok (.aload_n 0, 1) := by decide +kernel
theorem dX11_votes_1 : decode mX11_votes.2.2.1 1 = .ok (.iload_n 1, 1) := by decide +kernel
theorem dX11_votes_2 : decode mX11_votes.2.2.1 2 = .ok (.invokevirtual 181, 3) := by decide +kernel
theorem dX11_votes_5 : decode mX11_votes.2.2.1 5 = .ok (.ifCond .eq 12, 3) := by decide +kernel
theorem dX11_votes_8 : decode mX11_votes.2.2.1 8 = .ok (.iload_n 2, 1) := by decide +kernel
theorem dX11_votes_9 : decode mX11_votes.2.2.1 9 = .ok (.iconst 0, 1) := by decide +kernel
theorem dX11_votes_10 : decode mX11_votes.2.2.1 10 = .ok (.iconst 3, 1) := by decide +kernel
theorem dX11_votes_11 : decode mX11_votes.2.2.1 11 = .ok (.invokestatic 117, 3) := by decide +kernel
theorem dX11_votes_14 : decode mX11_votes.2.2.1 14 = .ok (.ifCond .ne 5, 3) := by decide +kernel
theorem dX11_votes_17 : decode mX11_votes.2.2.1 17 = .ok (.iconst (-1), 1) := by decide +kernel
theorem dX11_votes_18 : decode mX11_votes.2.2.1 18 = .ok (.ireturn, 1) := by decide +kernel
theorem dX11_votes_19 : decode mX11_votes.2.2.1 19 = .ok (.iload_n 2, 1) := by decide +kernel
theorem dX11_votes_20 : decode mX11_votes.2.2.1 20 = .ok (.iconst 3, 1) := by decide +kernel
theorem dX11_votes_21 : decode mX11_votes.2.2.1 21 = .ok (.if_icmp .ne 19, 3) := by decide +kernel
theorem dX11_votes_24 : decode mX11_votes.2.2.1 24 = .ok (.aload_n 0, 1) := by decide +kernel
theorem dX11_votes_25 : decode mX11_votes.2.2.1 25 = .ok (.getfield 12, 3) := by decide +kernel
theorem dX11_votes_28 : decode mX11_votes.2.2.1 28 = .ok (.iload_n 1, 1) := by decide +kernel
theorem dX11_votes_29 : decode mX11_votes.2.2.1 29 = .ok (.bipush 100, 2) := by decide +kernel
theorem dX11_votes_31 : decode mX11_votes.2.2.1 31 = .ok (.idiv, 1) := by decide +kernel
theorem dX11_votes_32 : decode mX11_votes.2.2.1 32 = .ok (.iload_n 1, 1) := by decide +kernel
theorem dX11_votes_33 : decode mX11_votes.2.2.1 33 = .ok (.bipush 100, 2) := by decide +kernel
theorem dX11_votes_35 : decode mX11_votes.2.2.1 35 = .ok (.irem, 1) := by decide +kernel
theorem dX11_votes_36 : decode mX11_votes.2.2.1 36 = .ok (.invokevirtual 187, 3) := by decide +kernel
theorem dX11_votes_39 : decode mX11_votes.2.2.1 39 = .ok (.ireturn, 1) := by decide +kernel
theorem dX11_votes_40 : decode mX11_votes.2.2.1 40 = .ok (.aload_n 0, 1) := by decide +kernel
theorem dX11_votes_41 : decode mX11_votes.2.2.1 41 = .ok (.getfield 35, 3) := by decide +kernel
theorem dX11_votes_44 : decode mX11_votes.2.2.1 44 = .ok (.iload_n 1, 1) := by decide +kernel
theorem dX11_votes_45 : decode mX11_votes.2.2.1 45 = .ok (.bipush 100, 2) := by decide +kernel
theorem dX11_votes_47 : decode mX11_votes.2.2.1 47 = .ok (.idiv, 1) := by decide +kernel
theorem dX11_votes_48 : decode mX11_votes.2.2.1 48 = .ok (.iload_n 1, 1) := by decide +kernel
theorem dX11_votes_49 : decode mX11_votes.2.2.1 49 = .ok (.bipush 100, 2) := by decide +kernel
theorem dX11_votes_51 : decode mX11_votes.2.2.1 51 = .ok (.irem, 1) := by decide +kernel
theorem dX11_votes_52 : decode mX11_votes.2.2.1 52 = .ok (.invokevirtual 190, 3) := by decide +kernel
theorem dX11_votes_55 : decode mX11_votes.2.2.1 55 = .ok (.iload_n 2, 1) := by decide +kernel
theorem dX11_votes_56 : decode mX11_votes.2.2.1 56 = .ok (.iconst 2, 1) := by decide +kernel
theorem dX11_votes_57 : decode mX11_votes.2.2.1 57 = .ok (.if_icmp .ne 33, 3) := by decide +kernel
theorem dX11_votes_60 : decode mX11_votes.2.2.1 60 = .ok (.aload_n 0, 1) := by decide +kernel
theorem dX11_votes_61 : decode mX11_votes.2.2.1 61 = .ok (.getfield 35, 3) := by decide +kernel
theorem dX11_votes_64 : decode mX11_votes.2.2.1 64 = .ok (.aload_n 0, 1) := by decide +kernel
theorem dX11_votes_65 : decode mX11_votes.2.2.1 65 = .ok (.getfield 35, 3) := by decide +kernel
theorem dX11_votes_68 : decode mX11_votes.2.2.1 68 = .ok (.getfield 194, 3) := by decide +kernel
theorem dX11_votes_71 : decode mX11_votes.2.2.1 71 = .ok (.aload_n 0, 1) := by decide +kernel
theorem dX11_votes_72 : decode mX11_votes.2.2.1 72 = .ok (.getfield 35, 3) := by decide +kernel
theorem dX11_votes_75 : decode mX11_votes.2.2.1 75 = .ok (.getfield 197, 3) := by decide +kernel
theorem dX11_votes_78 : decode mX11_votes.2.2.1 78 = .ok (.invokevirtual 200, 3) := by decide +kernel
theorem dX11_votes_81 : decode mX11_votes.2.2.1 81 = .ok (.ifCond .eq 7, 3) := by decide +kernel
theorem dX11_votes_84 : decode mX11_votes.2.2.1 84 = .ok (.iconst 1, 1) := by decide +kernel
theorem dX11_votes_85 : decode mX11_votes.2.2.1 85 = .ok (.goto 4, 3) := by decide +kernel
theorem dX11_votes_88 : decode mX11_votes.2.2.1 88 = .ok (.iconst 0, 1) := by decide +kernel
theorem dX11_votes_89 : decode mX11_votes.2.2.1 89 = .ok (.ireturn, 1) := by decide +kernel
theorem dX11_votes_90 : decode mX11_votes.2.2.1 90 = .ok (.aload_n 0, 1) := by decide +kernel
theorem dX11_votes_91 : decode mX11_votes.2.2.1 91 = .ok (.getfield 35, 3) := by decide +kernel
theorem dX11_votes_94 : decode mX11_votes.2.2.1 94 = .ok (.iload_n 2, 1) := by decide +kernel
theorem dX11_votes_95 : decode mX11_votes.2.2.1 95 = .ok (.ifCond .ne 13, 3) := by decide +kernel
theorem dX11_votes_98 : decode mX11_votes.2.2.1 98 = .ok (.aload_n 0, 1) := by decide +kernel
theorem dX11_votes_99 : decode mX11_votes.2.2.1 99 = .ok (.getfield 35, 3) := by decide +kernel
theorem dX11_votes_102 : decode mX11_votes.2.2.1 102 = .ok (.getfield 197, 3) := by decide +kernel
theorem dX11_votes_105 : decode mX11_votes.2.2.1 105 = .ok (.goto 10, 3) := by decide +kernel
theorem dX11_votes_108 : decode mX11_votes.2.2.1 108 = .ok (.aload_n 0, 1) := by decide +kernel
theorem dX11_votes_109 : decode mX11_votes.2.2.1 109 = .ok (.getfield 35, 3) := by decide +kernel
theorem dX11_votes_112 : decode mX11_votes.2.2.1 112 = .ok (.getfield 194, 3) := by decide +kernel
theorem dX11_votes_115 : decode mX11_votes.2.2.1 115 = .ok (.invokevirtual 203, 3) := by decide +kernel
theorem dX11_votes_118 : decode mX11_votes.2.2.1 118 = .ok (.ireturn, 1) := by decide +kernel
set_option maxHeartbeats 100000 in
theorem kX11_votes_0 {d : Nat} {F : am_FT} {L : am_LT} {Q : am_QT} {l2 : Option Value} {x1 : Int32} : wt am_S0 (d + 1) mX11_votes 0 [some (.ref 0), some (.int x1), l2] [] F L Q = wc am_S0 d mX11_isTreeMonth [.ref 0, .int x1] F L (fun r G K => wt am_S0 (d + 1) mX11_votes 5 [some (.ref 0), some (.int x1), l2] (r.toList ++ []) G K Q) := (wt_aload_n dX11_votes_0 rfl rfl).trans ((wt_iload_n dX11_votes_1 rfl).trans (wt_callV dX11_votes_2 rfl (as := [.int x1]) (rest := []) rfl rfl (Nat.le_of_ble_eq_true rfl) rfl (Nat.le_of_ble_eq_true rfl)))
set_option maxHeartbeats 100000 in
theorem kX11_votes_5 {d : Nat} {F : am_FT} {L : am_LT} {Q : am_QT} {l0 l1 l2 : Option Value} {s0 : Int32} : wt am_S0 d mX11_votes 5 [l0, l1, l2] [.int s0] F L Q = if s0 = 0 then wt am_S0 d mX11_votes 17 [l0, l1, l2] [] F L Q else wt am_S0 d mX11_votes 8 [l0, l1, l2] [] F L Q := wt_ifCond_eq dX11_votes_5 (t := 17) rfl
set_option maxHeartbeats 100000 in
theorem kX11_votes_8 {d : Nat} {F : am_FT} {L : am_LT} {Q : am_QT} {l0 l1 : Option Value} {x2 : Int32} : wt am_S0 (d + 1) mX11_votes 8 [l0, l1, some (.int x2)] [] F L Q = wc am_S0 d mX11_within [.int x2, .int 0, .int 3] F L (fun r G K => wt am_S0 (d + 1) mX11_votes 14 [l0, l1, some (.int x2)] (r.toList ++ []) G K Q) := (wt_iload_n dX11_votes_8 rfl).trans ((wt_iconst dX11_votes_9 (v := 0) (by decide)).trans ((wt_iconst dX11_votes_10 (v := 3) (by decide)).trans (wt_callS dX11_votes_11 rfl (as := [.int x2, .int 0, .int 3]) (rest := []) rfl rfl (Nat.le_of_ble_eq_true rfl) (Nat.le_of_ble_eq_true rfl))))
set_option maxHeartbeats 100000 in
theorem kX11_votes_14 {d : Nat} {F : am_FT} {L : am_LT} {Q : am_QT} {l0 l1 l2 : Option Value} {s0 : Int32} : wt am_S0 d mX11_votes 14 [l0, l1, l2] [.int s0] F L Q = if ¬ s0 = 0 then wt am_S0 d mX11_votes 19 [l0, l1, l2] [] F L Q else wt am_S0 d mX11_votes 17 [l0, l1, l2] [] F L Q := wt_ifCond_ne dX11_votes_14 (t := 19) rfl
set_option maxHeartbeats 100000 in
theorem kX11_votes_17 {d : Nat} {F : am_FT} {L : am_LT} {Q : am_QT} {l0 l1 l2 : Option Value} : wt am_S0 d mX11_votes 17 [l0, l1, l2] [] F L Q = Q (some (.int (-1))) F L := (wt_iconst dX11_votes_17 (v := (-1)) (by decide)).trans (wt_ireturn dX11_votes_18 rfl rfl)
set_option maxHeartbeats 100000 in
theorem kX11_votes_19 {d : Nat} {F : am_FT} {L : am_LT} {Q : am_QT} {l0 l1 : Option Value} {x2 : Int32} : wt am_S0 d mX11_votes 19 [l0, l1, some (.int x2)] [] F L Q = if ¬ x2 = 3 then wt am_S0 d mX11_votes 40 [l0, l1, some (.int x2)] [] F L Q else wt am_S0 d mX11_votes 24 [l0, l1, some (.int x2)] [] F L Q := (wt_iload_n dX11_votes_19 rfl).trans ((wt_iconst dX11_votes_20 (v := 3) (by decide)).trans (wt_if_icmp_ne dX11_votes_21 (t := 40) rfl))
set_option maxHeartbeats 100000 in
theorem kX11_votes_24 {d : Nat} {F : am_FT} {L : am_LT} {Q : am_QT} {l2 : Option Value} {x1 : Int32} : wt am_S0 (d + 1) mX11_votes 24 [some (.ref 0), some (.int x1), l2] [] F L Q = wc am_S0 d mX5_cellsOf [.ref 1, .int (x1 / 100), .int (x1 - x1 / 100 * 100)] F L (fun r G K => wt am_S0 (d + 1) mX11_votes 39 [some (.ref 0), some (.int x1), l2] (r.toList ++ []) G K Q) := (wt_aload_n dX11_votes_24 rfl rfl).trans ((wt_getfield dX11_votes_25 rfl rfl (v := .ref 1) rfl).trans ((wt_iload_n dX11_votes_28 rfl).trans ((wt_bipush dX11_votes_29 (v := 100) (by decide)).trans ((wt_idiv dX11_votes_31 (by decide)).trans ((wt_iload_n dX11_votes_32 rfl).trans ((wt_bipush dX11_votes_33 (v := 100) (by decide)).trans ((wt_irem dX11_votes_35 (by decide)).trans (wt_callV dX11_votes_36 rfl (as := [.int (x1 / 100), .int (x1 - x1 / 100 * 100)]) (rest := []) rfl rfl (Nat.le_of_ble_eq_true rfl) rfl (Nat.le_of_ble_eq_true rfl)))))))))
set_option maxHeartbeats 100000 in
theorem kX11_votes_39 {d : Nat} {F : am_FT} {L : am_LT} {Q : am_QT} {l0 l1 l2 : Option Value} {s0 : Int32} : wt am_S0 d mX11_votes 39 [l0, l1, l2] [.int s0] F L Q = Q (some (.int s0)) F L := wt_ireturn dX11_votes_39 rfl rfl
set_option maxHeartbeats 100000 in
theorem kX11_votes_40 {d : Nat} {F : am_FT} {L : am_LT} {Q : am_QT} {l2 : Option Value} {x1 : Int32} : wt am_S0 (d + 1) mX11_votes 40 [some (.ref 0), some (.int x1), l2] [] F L Q = wc am_S0 d mX0_open [.ref 9, .int (x1 / 100), .int (x1 - x1 / 100 * 100)] F L (fun r G K => wt am_S0 (d + 1) mX11_votes 55 [some (.ref 0), some (.int x1), l2] (r.toList ++ []) G K Q) := (wt_aload_n dX11_votes_40 rfl rfl).trans ((wt_getfield dX11_votes_41 rfl rfl (v := .ref 9) rfl).trans ((wt_iload_n dX11_votes_44 rfl).trans ((wt_bipush dX11_votes_45 (v := 100) (by decide)).trans ((wt_idiv dX11_votes_47 (by decide)).trans ((wt_iload_n dX11_votes_48 rfl).trans ((wt_bipush dX11_votes_49 (v := 100) (by decide)).trans ((wt_irem dX11_votes_51 (by decide)).trans (wt_callV dX11_votes_52 rfl (as := [.int (x1 / 100), .int (x1 - x1 / 100 * 100)]) (rest := []) rfl rfl (Nat.le_of_ble_eq_true rfl) rfl (Nat.le_of_ble_eq_true rfl)))))))))
set_option maxHeartbeats 100000 in
theorem kX11_votes_55 {d : Nat} {F : am_FT} {L : am_LT} {Q : am_QT} {l0 l1 : Option Value} {x2 : Int32} : wt am_S0 d mX11_votes 55 [l0, l1, some (.int x2)] [] F L Q = if ¬ x2 = 2 then wt am_S0 d mX11_votes 90 [l0, l1, some (.int x2)] [] F L Q else wt am_S0 d mX11_votes 60 [l0, l1, some (.int x2)] [] F L Q := (wt_iload_n dX11_votes_55 rfl).trans ((wt_iconst dX11_votes_56 (v := 2) (by decide)).trans (wt_if_icmp_ne dX11_votes_57 (t := 90) rfl))
set_option maxHeartbeats 100000 in
theorem kX11_votes_60 {d : Nat} {F : am_FT} {L : am_LT} {Q : am_QT} {l1 l2 : Option Value} : wt am_S0 (d + 1) mX11_votes 60 [some (.ref 0), l1, l2] [] F L Q = wc am_S0 d mX0_passes [.ref 9, .int (F 9 5), .int (F 9 6)] F L (fun r G K => wt am_S0 (d + 1) mX11_votes 81 [some (.ref 0), l1, l2] (r.toList ++ []) G K Q) := (wt_aload_n dX11_votes_60 rfl rfl).trans ((wt_getfield dX11_votes_61 rfl rfl (v := .ref 9) rfl).trans ((wt_aload_n dX11_votes_64 rfl rfl).trans ((wt_getfield dX11_votes_65 rfl rfl (v := .ref 9) rfl).trans ((wt_getfield dX11_votes_68 rfl rfl (v := .int (F 9 5)) rfl).trans ((wt_aload_n dX11_votes_71 rfl rfl).trans ((wt_getfield dX11_votes_72 rfl rfl (v := .ref 9) rfl).trans ((wt_getfield dX11_votes_75 rfl rfl (v := .int (F 9 6)) rfl).trans (wt_callV dX11_votes_78 rfl (as := [.int (F 9 5), .int (F 9 6)]) (rest := []) rfl rfl (Nat.le_of_ble_eq_true rfl) rfl (Nat.le_of_ble_eq_true rfl)))))))))
set_option maxHeartbeats 100000 in
theorem kX11_votes_81 {d : Nat} {F : am_FT} {L : am_LT} {Q : am_QT} {l0 l1 l2 : Option Value} {s0 : Int32} : wt am_S0 d mX11_votes 81 [l0, l1, l2] [.int s0] F L Q = if s0 = 0 then wt am_S0 d mX11_votes 88 [l0, l1, l2] [] F L Q else wt am_S0 d mX11_votes 84 [l0, l1, l2] [] F L Q := wt_ifCond_eq dX11_votes_81 (t := 88) rfl
set_option maxHeartbeats 100000 in
theorem kX11_votes_84 {d : Nat} {F : am_FT} {L : am_LT} {Q : am_QT} {l0 l1 l2 : Option Value} : wt am_S0 d mX11_votes 84 [l0, l1, l2] [] F L Q = wt am_S0 d mX11_votes 89 [l0, l1, l2] [.int 1] F L Q := (wt_iconst dX11_votes_84 (v := 1) (by decide)).trans (wt_goto dX11_votes_85 (t := 89) rfl)
set_option maxHeartbeats 100000 in
theorem kX11_votes_88 {d : Nat} {F : am_FT} {L : am_LT} {Q : am_QT} {l0 l1 l2 : Option Value} : wt am_S0 d mX11_votes 88 [l0, l1, l2] [] F L Q = wt am_S0 d mX11_votes 89 [l0, l1, l2] [.int 0] F L Q := wt_iconst dX11_votes_88 (v := 0) (by decide)
set_option maxHeartbeats 100000 in
theorem kX11_votes_89 {d : Nat} {F : am_FT} {L : am_LT} {Q : am_QT} {l0 l1 l2 : Option Value} {s0 : Int32} : wt am_S0 d mX11_votes 89 [l0, l1, l2] [.int s0] F L Q = Q (some (.int s0)) F L := wt_ireturn dX11_votes_89 rfl rfl
set_option maxHeartbeats 100000 in
theorem kX11_votes_90 {d : Nat} {F : am_FT} {L : am_LT} {Q : am_QT} {l1 : Option Value} {x2 : Int32} : wt am_S0 d mX11_votes 90 [some (.ref 0), l1, some (.int x2)] [] F L Q = if ¬ x2 = 0 then wt am_S0 d mX11_votes 108 [some (.ref 0), l1, some (.int x2)] [.ref 9] F L Q else wt am_S0 d mX11_votes 98 [some (.ref 0), l1, some (.int x2)] [.ref 9] F L Q := (wt_aload_n dX11_votes_90 rfl rfl).trans ((wt_getfield dX11_votes_91 rfl rfl (v := .ref 9) rfl).trans ((wt_iload_n dX11_votes_94 rfl).trans (wt_ifCond_ne dX11_votes_95 (t := 108) rfl)))
set_option maxHeartbeats 100000 in
theorem kX11_votes_98 {d : Nat} {F : am_FT} {L : am_LT} {Q : am_QT} {l1 l2 : Option Value} : wt am_S0 d mX11_votes 98 [some (.ref 0), l1, l2] [.ref 9] F L Q = wt am_S0 d mX11_votes 115 [some (.ref 0), l1, l2] [.int (F 9 6), .ref 9] F L Q := (wt_aload_n dX11_votes_98 rfl rfl).trans ((wt_getfield dX11_votes_99 rfl rfl (v := .ref 9) rfl).trans ((wt_getfield dX11_votes_102 rfl rfl (v := .int (F 9 6)) rfl).trans (wt_goto dX11_votes_105 (t := 115) rfl)))
set_option maxHeartbeats 100000 in
theorem kX11_votes_108 {d : Nat} {F : am_FT} {L : am_LT} {Q : am_QT} {l1 l2 : Option Value} : wt am_S0 d mX11_votes 108 [some (.ref 0), l1, l2] [.ref 9] F L Q = wt am_S0 d mX11_votes 115 [some (.ref 0), l1, l2] [.int (F 9 5), .ref 9] F L Q := (wt_aload_n dX11_votes_108 rfl rfl).trans ((wt_getfield dX11_votes_109 rfl rfl (v := .ref 9) rfl).trans (wt_getfield dX11_votes_112 rfl rfl (v := .int (F 9 5)) rfl))
set_option maxHeartbeats 100000 in
theorem kX11_votes_115 {d : Nat} {F : am_FT} {L : am_LT} {Q : am_QT} {l0 l1 l2 : Option Value} {s1 : Int32} : wt am_S0 (d + 1) mX11_votes 115 [l0, l1, l2] [.int s1, .ref 9] F L Q = wc am_S0 d mX0_sumOf [.ref 9, .int s1] F L (fun r G K => wt am_S0 (d + 1) mX11_votes 118 [l0, l1, l2] (r.toList ++ []) G K Q) := wt_callV dX11_votes_115 rfl (as := [.int s1]) (rest := []) rfl rfl (Nat.le_of_ble_eq_true rfl) rfl (Nat.le_of_ble_eq_true rfl)
set_option maxHeartbeats 100000 in
theorem kX11_votes_118 {d : Nat} {F : am_FT} {L : am_LT} {Q : am_QT} {l0 l1 l2 : Option Value} {s0 : Int32} : wt am_S0 d mX11_votes 118 [l0, l1, l2] [.int s0] F L Q = Q (some (.int s0)) F L := wt_ireturn dX11_votes_118 rfl rfl
theorem dX11_holds_0 : decode mX11_holds.2.2.1 0 = .ok (.iload_n 0, 1) := by decide +kernel
theorem dX11_holds_1 : decode mX11_holds.2.2.1 1 = .ok (.iload_n 1, 1) := by decide +kernel
theorem dX11_holds_2 : decode mX11_holds.2.2.1 2 = .ok (.iushr, 1) := by decide +kernel
theorem dX11_holds_3 : decode mX11_holds.2.2.1 3 = .ok (.iconst 1, 1) := by decide +kernel
theorem dX11_holds_4 : decode mX11_holds.2.2.1 4 = .ok (.iand, 1) := by decide +kernel
theorem dX11_holds_5 : decode mX11_holds.2.2.1 5 = .ok (.ifCond .eq 7, 3) := by decide +kernel
theorem dX11_holds_8 : decode mX11_holds.2.2.1 8 = .ok (.iconst 1, 1) := by decide +kernel
theorem dX11_holds_9 : decode mX11_holds.2.2.1 9 = .ok (.goto 4, 3) := by decide +kernel
theorem dX11_holds_12 : decode mX11_holds.2.2.1 12 = .ok (.iconst 0, 1) := by decide +kernel
theorem dX11_holds_13 : decode mX11_holds.2.2.1 13 = .ok (.ireturn, 1) := by decide +kernel
set_option maxHeartbeats 100000 in
theorem kX11_holds_0 {d : Nat} {F : am_FT} {L : am_LT} {Q : am_QT} {x0 x1 : Int32} : wt am_S0 d mX11_holds 0 [some (.int x0), some (.int x1)] [] F L Q = if ((Int32.toUInt32 x0 >>> (Int32.toUInt32 x1 &&& Int32.toUInt32 31)).toInt32 &&& 1) = 0 then wt am_S0 d mX11_holds 12 [some (.int x0), some (.int x1)] [] F L Q else wt am_S0 d mX11_holds 8 [some (.int x0), some (.int x1)] [] F L Q := (wt_iload_n dX11_holds_0 rfl).trans ((wt_iload_n dX11_holds_1 rfl).trans ((wt_iushr dX11_holds_2).trans ((wt_iconst dX11_holds_3 (v := 1) (by decide)).trans ((wt_iand dX11_holds_4).trans (wt_ifCond_eq dX11_holds_5 (t := 12) rfl)))))
set_option maxHeartbeats 100000 in
theorem kX11_holds_8 {d : Nat} {F : am_FT} {L : am_LT} {Q : am_QT} {l0 l1 : Option Value} : wt am_S0 d mX11_holds 8 [l0, l1] [] F L Q = wt am_S0 d mX11_holds 13 [l0, l1] [.int 1] F L Q := (wt_iconst dX11_holds_8 (v := 1) (by decide)).trans (wt_goto dX11_holds_9 (t := 13) rfl)
set_option maxHeartbeats 100000 in
theorem kX11_holds_12 {d : Nat} {F : am_FT} {L : am_LT} {Q : am_QT} {l0 l1 : Option Value} : wt am_S0 d mX11_holds 12 [l0, l1] [] F L Q = wt am_S0 d mX11_holds 13 [l0, l1] [.int 0] F L Q := wt_iconst dX11_holds_12 (v := 0) (by decide)
set_option maxHeartbeats 100000 in
theorem kX11_holds_13 {d : Nat} {F : am_FT} {L : am_LT} {Q : am_QT} {l0 l1 : Option Value} {s0 : Int32} (h1 : narrow .boolean (.int s0) = .int s0) : wt am_S0 d mX11_holds 13 [l0, l1] [.int s0] F L Q = Q (some (.int s0)) F L := wt_ireturn dX11_holds_13 rfl h1
