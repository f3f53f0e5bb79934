theorem dX8_isEmpty_0 : decode mX8_isEmpty.2.2.1 0 = .ok (.aload_n 0, 1) := by decide +kernel
theorem dX8_isEmpty_1 : decode mX8_isEmpty.2.2.1 1 = .ok (.invokevirtual 20, 3) := by decide +kernel
theorem dX8_isEmpty_4 : decode mX8_isEmpty.2.2.1 4 = .ok (.ifCond .ne 15, 3) := by decide +kernel
theorem dX8_isEmpty_7 : decode mX8_isEmpty.2.2.1 7 = .ok (.aload_n 0, 1) := by decide +kernel
theorem dX8_isEmpty_8 : decode mX8_isEmpty.2.2.1 8 = .ok (.getfield 17, 3) := by decide +kernel
theorem dX8_isEmpty_11 : decode mX8_isEmpty.2.2.1 11 = .ok (.iconst (-1), 1) := by decide +kernel
theorem dX8_isEmpty_12 : decode mX8_isEmpty.2.2.1 12 = .ok (.if_icmp .ne 7, 3) := by decide +kernel
theorem dX8_isEmpty_15 : decode mX8_isEmpty.2.2.1 15 = .ok (.iconst 1, 1) := by decide +kernel
theorem dX8_isEmpty_16 : decode mX8_isEmpty.2.2.1 16 = .ok (.goto 4, 3) := by decide +kernel
theorem dX8_isEmpty_19 : decode mX8_isEmpty.2.2.1 19 = .ok (.iconst 0, 1) := by decide +kernel
theorem dX8_isEmpty_20 : decode mX8_isEmpty.2.2.1 20 = .ok (.ireturn, 1) := by decide +kernel
set_option maxHeartbeats 100000 in
theorem kX8_isEmpty_0 {d : Nat} {F : am_FT} {L : am_LT} {Q : am_QT} {p0 e1 : Nat} (h1 : am_S0[p0]? = some (8, 4, [some e1, none, none, none])) : wt am_S0 (d + 1) mX8_isEmpty 0 [some (.ref p0)] [] F L Q = wc am_S0 d mX8_isRow [.ref p0] F L (fun r G K => wt am_S0 (d + 1) mX8_isEmpty 4 [some (.ref p0)] (r.toList ++ []) G K Q) := (wt_aload_n dX8_isEmpty_0 rfl rfl).trans (wt_callV dX8_isEmpty_1 rfl (as := []) (rest := []) rfl rfl (Nat.le_of_ble_eq_true rfl) h1 (Nat.le_of_ble_eq_true rfl))
set_option maxHeartbeats 100000 in
theorem kX8_isEmpty_4 {d : Nat} {F : am_FT} {L : am_LT} {Q : am_QT} {l0 : Option Value} {s0 : Int32} : wt am_S0 d mX8_isEmpty 4 [l0] [.int s0] F L Q = if ¬ s0 = 0 then wt am_S0 d mX8_isEmpty 19 [l0] [] F L Q else wt am_S0 d mX8_isEmpty 7 [l0] [] F L Q := wt_ifCond_ne dX8_isEmpty_4 (t := 19) rfl
set_option maxHeartbeats 100000 in
theorem kX8_isEmpty_7 {d : Nat} {F : am_FT} {L : am_LT} {Q : am_QT} {p0 e1 : Nat} (h1 : am_S0[p0]? = some (8, 4, [some e1, none, none, none])) : wt am_S0 d mX8_isEmpty 7 [some (.ref p0)] [] F L Q = if ¬ (F p0 3) = (-1) then wt am_S0 d mX8_isEmpty 19 [some (.ref p0)] [] F L Q else wt am_S0 d mX8_isEmpty 15 [some (.ref p0)] [] F L Q := (wt_aload_n dX8_isEmpty_7 rfl rfl).trans ((wt_getfield dX8_isEmpty_8 rfl h1 (v := .int (F p0 3)) rfl).trans ((wt_iconst dX8_isEmpty_11 (v := (-1)) (by decide)).trans (wt_if_icmp_ne dX8_isEmpty_12 (t := 19) rfl)))
set_option maxHeartbeats 100000 in
theorem kX8_isEmpty_15 {d : Nat} {F : am_FT} {L : am_LT} {Q : am_QT} {l0 : Option Value} : wt am_S0 d mX8_isEmpty 15 [l0] [] F L Q = wt am_S0 d mX8_isEmpty 20 [l0] [.int 1] F L Q := (wt_iconst dX8_isEmpty_15 (v := 1) (by decide)).trans (wt_goto dX8_isEmpty_16 (t := 20) rfl)
set_option maxHeartbeats 100000 in
theorem kX8_isEmpty_19 {d : Nat} {F : am_FT} {L : am_LT} {Q : am_QT} {l0 : Option Value} : wt am_S0 d mX8_isEmpty 19 [l0] [] F L Q = wt am_S0 d mX8_isEmpty 20 [l0] [.int 0] F L Q := wt_iconst dX8_isEmpty_19 (v := 0) (by decide)
set_option maxHeartbeats 100000 in
theorem kX8_isEmpty_20 {d : Nat} {F : am_FT} {L : am_LT} {Q : am_QT} {l0 : Option Value} {s0 : Int32} (h1 : narrow .boolean (.int s0) = .int s0) : wt am_S0 d mX8_isEmpty 20 [l0] [.int s0] F L Q = Q (some (.int s0)) F L := wt_ireturn dX8_isEmpty_20 rfl h1
theorem dX8_isRow_0 : decode mX8_isRow.2.2.1 0 = .ok (.aload_n 0, 1) := by decide +kernel
theorem dX8_isRow_1 : decode mX8_isRow.2.2.1 1 = .ok (.getfield 13, 3) := by decide +kernel
theorem dX8_isRow_4 : decode mX8_isRow.2.2.1 4 = .ok (.iconst (-1), 1) := by decide +kernel
theorem dX8_isRow_5 : decode mX8_isRow.2.2.1 5 = .ok (.if_icmp .eq 7, 3) := by decide +kernel
theorem dX8_isRow_8 : decode mX8_isRow.2.2.1 8 = .ok (.iconst 1, 1) := by decide +kernel
theorem dX8_isRow_9 : decode mX8_isRow.2.2.1 9 = .ok (.goto 4, 3) := by decide +kernel
theorem dX8_isRow_12 : decode mX8_isRow.2.2.1 12 = .ok (.iconst 0, 1) := by decide +kernel
theorem dX8_isRow_13 : decode mX8_isRow.2.2.1 13 = .ok (.ireturn, 1) := by decide +kernel
set_option maxHeartbeats 100000 in
theorem kX8_isRow_0 {d : Nat} {F : am_FT} {L : am_LT} {Q : am_QT} {p0 e1 : Nat} (h1 : am_S0[p0]? = some (8, 4, [some e1, none, none, none])) : wt am_S0 d mX8_isRow 0 [some (.ref p0)] [] F L Q = if (F p0 1) = (-1) then wt am_S0 d mX8_isRow 12 [some (.ref p0)] [] F L Q else wt am_S0 d mX8_isRow 8 [some (.ref p0)] [] F L Q := (wt_aload_n dX8_isRow_0 rfl rfl).trans ((wt_getfield dX8_isRow_1 rfl h1 (v := .int (F p0 1)) rfl).trans ((wt_iconst dX8_isRow_4 (v := (-1)) (by decide)).trans (wt_if_icmp_eq dX8_isRow_5 (t := 12) rfl)))
set_option maxHeartbeats 100000 in
theorem kX8_isRow_8 {d : Nat} {F : am_FT} {L : am_LT} {Q : am_QT} {l0 : Option Value} : wt am_S0 d mX8_isRow 8 [l0] [] F L Q = wt am_S0 d mX8_isRow 13 [l0] [.int 1] F L Q := (wt_iconst dX8_isRow_8 (v := 1) (by decide)).trans (wt_goto dX8_isRow_9 (t := 13) rfl)
set_option maxHeartbeats 100000 in
theorem kX8_isRow_12 {d : Nat} {F : am_FT} {L : am_LT} {Q : am_QT} {l0 : Option Value} : wt am_S0 d mX8_isRow 12 [l0] [] F L Q = wt am_S0 d mX8_isRow 13 [l0] [.int 0] F L Q := wt_iconst dX8_isRow_12 (v := 0) (by decide)
set_option maxHeartbeats 100000 in
theorem kX8_isRow_13 {d : Nat} {F : am_FT} {L : am_LT} {Q : am_QT} {l0 : Option Value} {s0 : Int32} (h1 : narrow .boolean (.int s0) = .int s0) : wt am_S0 d mX8_isRow 13 [l0] [.int s0] F L Q = Q (some (.int s0)) F L := wt_ireturn dX8_isRow_13 rfl h1
theorem dX8_isRowOf_0 : decode mX8_isRowOf.2.2.1 0 = .ok (.aload_n 0, 1) := by decide +kernel
theorem dX8_isRowOf_1 : decode mX8_isRowOf.2.2.1 1 = .ok (.invokevirtual 20, 3) := by decide +kernel
theorem dX8_isRowOf_4 : decode mX8_isRowOf.2.2.1 4 = .ok (.ifCond .eq 15, 3) := by decide +kernel
theorem dX8_isRowOf_7 : decode mX8_isRowOf.2.2.1 7 = .ok (.aload_n 0, 1) := by decide +kernel
theorem dX8_isRowOf_8 : decode mX8_isRowOf.2.2.1 8 = .ok (.getfield 13, 3) := by decide +kernel
theorem dX8_isRowOf_11 : decode mX8_isRowOf.2.2.1 11 = .ok (.iload_n 1, 1) := by decide +kernel
theorem dX8_isRowOf_12 : decode mX8_isRowOf.2.2.1 12 = .ok (.if_icmp .ne 7, 3) := by decide +kernel
theorem dX8_isRowOf_15 : decode mX8_isRowOf.2.2.1 15 = .ok (.iconst 1, 1) := by decide +kernel
theorem dX8_isRowOf_16 : decode mX8_isRowOf.2.2.1 16 = .ok (.goto 4, 3) := by decide +kernel
theorem dX8_isRowOf_19 : decode mX8_isRowOf.2.2.1 19 = .ok (.iconst 0, 1) := by decide +kernel
theorem dX8_isRowOf_20 : decode mX8_isRowOf.2.2.1 20 = .ok (.ireturn, 1) := by decide +kernel
set_option maxHeartbeats 100000 in
theorem kX8_isRowOf_0 {d : Nat} {F : am_FT} {L : am_LT} {Q : am_QT} {l1 : Option Value} {p0 e1 : Nat} (h1 : am_S0[p0]? = some (8, 4, [some e1, none, none, none])) : wt am_S0 (d + 1) mX8_isRowOf 0 [some (.ref p0), l1] [] F L Q = wc am_S0 d mX8_isRow [.ref p0] F L (fun r G K => wt am_S0 (d + 1) mX8_isRowOf 4 [some (.ref p0), l1] (r.toList ++ []) G K Q) := (wt_aload_n dX8_isRowOf_0 rfl rfl).trans (wt_callV dX8_isRowOf_1 rfl (as := []) (rest := []) rfl rfl (Nat.le_of_ble_eq_true rfl) h1 (Nat.le_of_ble_eq_true rfl))
set_option maxHeartbeats 100000 in
theorem kX8_isRowOf_4 {d : Nat} {F : am_FT} {L : am_LT} {Q : am_QT} {l0 l1 : Option Value} {s0 : Int32} : wt am_S0 d mX8_isRowOf 4 [l0, l1] [.int s0] F L Q = if s0 = 0 then wt am_S0 d mX8_isRowOf 19 [l0, l1] [] F L Q else wt am_S0 d mX8_isRowOf 7 [l0, l1] [] F L Q := wt_ifCond_eq dX8_isRowOf_4 (t := 19) rfl
set_option maxHeartbeats 100000 in
theorem kX8_isRowOf_7 {d : Nat} {F : am_FT} {L : am_LT} {Q : am_QT} {p0 e1 : Nat} {x1 : Int32} (h1 : am_S0[p0]? = some (8, 4, [some e1, none, none, none])) : wt am_S0 d mX8_isRowOf 7 [some (.ref p0), some (.int x1)] [] F L Q = if ¬ (F p0 1) = x1 then wt am_S0 d mX8_isRowOf 19 [some (.ref p0), some (.int x1)] [] F L Q else wt am_S0 d mX8_isRowOf 15 [some (.ref p0), some (.int x1)] [] F L Q := (wt_aload_n dX8_isRowOf_7 rfl rfl).trans ((wt_getfield dX8_isRowOf_8 rfl h1 (v := .int (F p0 1)) rfl).trans ((wt_iload_n dX8_isRowOf_11 rfl).trans (wt_if_icmp_ne dX8_isRowOf_12 (t := 19) rfl)))
set_option maxHeartbeats 100000 in
theorem kX8_isRowOf_15 {d : Nat} {F : am_FT} {L : am_LT} {Q : am_QT} {l0 l1 : Option Value} : wt am_S0 d mX8_isRowOf 15 [l0, l1] [] F L Q = wt am_S0 d mX8_isRowOf 20 [l0, l1] [.int 1] F L Q := (wt_iconst dX8_isRowOf_15 (v := 1) (by decide)).trans (wt_goto dX8_isRowOf_16 (t := 20) rfl)
set_option maxHeartbeats 100000 in
theorem kX8_isRowOf_19 {d : Nat} {F : am_FT} {L : am_LT} {Q : am_QT} {l0 l1 : Option Value} : wt am_S0 d mX8_isRowOf 19 [l0, l1] [] F L Q = wt am_S0 d mX8_isRowOf 20 [l0, l1] [.int 0] F L Q := wt_iconst dX8_isRowOf_19 (v := 0) (by decide)
set_option maxHeartbeats 100000 in
theorem kX8_isRowOf_20 {d : Nat} {F : am_FT} {L : am_LT} {Q : am_QT} {l0 l1 : Option Value} {s0 : Int32} (h1 : narrow .boolean (.int s0) = .int s0) : wt am_S0 d mX8_isRowOf 20 [l0, l1] [.int s0] F L Q = Q (some (.int s0)) F L := wt_ireturn dX8_isRowOf_20 rfl h1
theorem dX8_size_0 : decode mX8_size.2.2.1 0 = .ok (.aload_n 0, 1) := by decide +kernel
theorem dX8_size_1 : decode mX8_size.2.2.1 1 = .ok (.getfield 24, 3) := by decide +kernel
theorem dX8_size_4 : decode mX8_size.2.2.1 4 = .ok (.ireturn, 1) := by decide +kernel
set_option maxHeartbeats 100000 in
theorem kX8_size_0 {d : Nat} {F : am_FT} {L : am_LT} {Q : am_QT} {p0 e1 : Nat} (h1 : am_S0[p0]? = some (8, 4, [some e1, none, none, none])) : wt am_S0 d mX8_size 0 [some (.ref p0)] [] F L Q = Q (some (.int (F p0 2))) F L := (wt_aload_n dX8_size_0 rfl rfl).trans ((wt_getfield dX8_size_1 rfl h1 (v := .int (F p0 2)) rfl).trans (wt_ireturn dX8_size_4 rfl rfl))
theorem dX8_valueAt_0 : decode mX8_valueAt.2.2.1 0 = .ok (.iload_n 1, 1) := by decide +kernel
theorem dX8_valueAt_1 : decode mX8_valueAt.2.2.1 1 = .ok (.ifCond .lt 21, 3) := by decide +kernel
theorem dX8_valueAt_4 : decode mX8_valueAt.2.2.1 4 = .ok (.iload_n 1, 1) := by decide +kernel
theorem dX8_valueAt_5 : decode mX8_valueAt.2.2.1 5 = .ok (.aload_n 0, 1) := by decide +kernel
theorem dX8_valueAt_6 : decode mX8_valueAt.2.2.1 6 = .ok (.getfield 9, 3) := by decide +kernel
theorem dX8_valueAt_9 : decode mX8_valueAt.2.2.1 9 = .ok (.arraylength, 1) := by decide +kernel
theorem dX8_valueAt_10 : decode mX8_valueAt.2.2.1 10 = .ok (.if_icmp .ge 12, 3) := by decide +kernel
theorem dX8_valueAt_13 : decode mX8_valueAt.2.2.1 13 = .ok (.aload_n 0, 1) := by decide +kernel
theorem dX8_valueAt_14 : decode mX8_valueAt.2.2.1 14 = .ok (.getfield 9, 3) := by decide +kernel
theorem dX8_valueAt_17 : decode mX8_valueAt.2.2.1 17 = .ok (.iload_n 1, 1) := by decide +kernel
theorem dX8_valueAt_18 : decode mX8_valueAt.2.2.1 18 = .ok (.laload, 1) := by decide +kernel
theorem dX8_valueAt_19 : decode mX8_valueAt.2.2.1 19 = .ok (.goto 4, 3) := by decide +kernel
theorem dX8_valueAt_22 : decode mX8_valueAt.2.2.1 22 = .ok (.lconst 0, 1) := by decide +kernel
theorem dX8_valueAt_23 : decode mX8_valueAt.2.2.1 23 = .ok (.lreturn, 1) := by decide +kernel
set_option maxHeartbeats 100000 in
theorem kX8_valueAt_0 {d : Nat} {F : am_FT} {L : am_LT} {Q : am_QT} {l0 : Option Value} {x1 : Int32} : wt am_S0 d mX8_valueAt 0 [l0, some (.int x1)] [] F L Q = if x1 < 0 then wt am_S0 d mX8_valueAt 22 [l0, some (.int x1)] [] F L Q else wt am_S0 d mX8_valueAt 4 [l0, some (.int x1)] [] F L Q := (wt_iload_n dX8_valueAt_0 rfl).trans (wt_ifCond_lt dX8_valueAt_1 (t := 22) rfl)
set_option maxHeartbeats 100000 in
theorem kX8_valueAt_4 {d : Nat} {F : am_FT} {L : am_LT} {Q : am_QT} {x1 : Int32} {p0 e1 : Nat} (h1 : am_S0[p0]? = some (8, 4, [some e1, none, none, none])) (h2 : am_S0[e1]? = some (101, 60, [])) : wt am_S0 d mX8_valueAt 4 [some (.ref p0), some (.int x1)] [] F L Q = if 60 ≤ x1 then wt am_S0 d mX8_valueAt 22 [some (.ref p0), some (.int x1)] [] F L Q else wt am_S0 d mX8_valueAt 13 [some (.ref p0), some (.int x1)] [] F L Q := (wt_iload_n dX8_valueAt_4 rfl).trans ((wt_aload_n dX8_valueAt_5 rfl rfl).trans ((wt_getfield dX8_valueAt_6 rfl h1 (v := .ref e1) rfl).trans ((wt_arraylength dX8_valueAt_9 h2 (am_S0_lt h2) (by decide)).trans (wt_if_icmp_ge dX8_valueAt_10 (t := 22) rfl))))
set_option maxHeartbeats 100000 in
theorem kX8_valueAt_13 {d : Nat} {F : am_FT} {L : am_LT} {Q : am_QT} {p0 e1 : Nat} {x1 : Int32} (h1 : am_S0[p0]? = some (8, 4, [some e1, none, none, none])) (h2 : am_S0[e1]? = some (101, 60, [])) (h3 : am_oob x1 60 = false) : wt am_S0 d mX8_valueAt 13 [some (.ref p0), some (.int x1)] [] F L Q = wt am_S0 d mX8_valueAt 23 [some (.ref p0), some (.int x1)] [.long (L e1 (Int32.toNatClampNeg x1))] F L Q := (wt_aload_n dX8_valueAt_13 rfl rfl).trans ((wt_getfield dX8_valueAt_14 rfl h1 (v := .ref e1) rfl).trans ((wt_iload_n dX8_valueAt_17 rfl).trans ((wt_laload dX8_valueAt_18 h2 h3).trans (wt_goto dX8_valueAt_19 (t := 23) rfl))))
set_option maxHeartbeats 100000 in
theorem kX8_valueAt_22 {d : Nat} {F : am_FT} {L : am_LT} {Q : am_QT} {l0 l1 : Option Value} : wt am_S0 d mX8_valueAt 22 [l0, l1] [] F L Q = wt am_S0 d mX8_valueAt 23 [l0, l1] [.long 0] F L Q := wt_lconst dX8_valueAt_22 (v := 0) (by decide)
set_option maxHeartbeats 100000 in
theorem kX8_valueAt_23 {d : Nat} {F : am_FT} {L : am_LT} {Q : am_QT} {l0 l1 : Option Value} {s0 : Int64} : wt am_S0 d mX8_valueAt 23 [l0, l1] [.long s0] F L Q = Q (some (.long s0)) F L := wt_lreturn dX8_valueAt_23 rfl
theorem dX8_holdVoter_0 : decode mX8_holdVoter.2.2.1 0 = .ok (.aload_n 0, 1) := by decide +kernel
theorem dX8_holdVoter_1 : decode mX8_holdVoter.2.2.1 1 = .ok (.iconst (-1), 1) := by decide +kernel
theorem dX8_holdVoter_2 : decode mX8_holdVoter.2.2.1 2 = .ok (.putfield 13, 3) := by decide +kernel
theorem dX8_holdVoter_5 : decode mX8_holdVoter.2.2.1 5 = .ok (.aload_n 0, 1) := by decide +kernel
theorem dX8_holdVoter_6 : decode mX8_holdVoter.2.2.1 6 = .ok (.iconst 0, 1) := by decide +kernel
theorem dX8_holdVoter_7 : decode mX8_holdVoter.2.2.1 7 = .ok (.putfield 24, 3) := by decide +kernel
theorem dX8_holdVoter_10 : decode mX8_holdVoter.2.2.1 10 = .ok (.aload_n 0, 1) := by decide +kernel
theorem dX8_holdVoter_11 : decode mX8_holdVoter.2.2.1 11 = .ok (.iload_n 1, 1) := by decide +kernel
theorem dX8_holdVoter_12 : decode mX8_holdVoter.2.2.1 12 = .ok (.putfield 17, 3) := by decide +kernel
theorem dX8_holdVoter_15 : decode mX8_holdVoter.2.2.1 15 = .ok (.return_, 1) := by decide +kernel
set_option maxHeartbeats 100000 in
theorem kX8_holdVoter_0 {d : Nat} {F : am_FT} {L : am_LT} {Q : am_QT} {p0 e1 : Nat} {x1 : Int32} (h1 : am_S0[p0]? = some (8, 4, [some e1, none, none, none])) : wt am_S0 d mX8_holdVoter 0 [some (.ref p0), some (.int x1)] [] F L Q = Q none (am_upF (am_upF (am_upF F p0 1 (-1)) p0 2 0) p0 3 x1) L := (wt_aload_n dX8_holdVoter_0 rfl rfl).trans ((wt_iconst dX8_holdVoter_1 (v := (-1)) (by decide)).trans ((wt_putfield dX8_holdVoter_2 rfl h1 ⟨rfl, rfl, rfl, rfl⟩).trans ((wt_aload_n dX8_holdVoter_5 rfl rfl).trans ((wt_iconst dX8_holdVoter_6 (v := 0) (by decide)).trans ((wt_putfield dX8_holdVoter_7 rfl h1 ⟨rfl, rfl, rfl, rfl⟩).trans ((wt_aload_n dX8_holdVoter_10 rfl rfl).trans ((wt_iload_n dX8_holdVoter_11 rfl).trans ((wt_putfield dX8_holdVoter_12 rfl h1 ⟨rfl, rfl, rfl, rfl⟩).trans (wt_return dX8_holdVoter_15 rfl)))))))))
theorem dX8_holdRow_0 : decode mX8_holdRow.2.2.1 0 = .ok (.aload_n 0, 1) := by decide +kernel
theorem dX8_holdRow_1 : decode mX8_holdRow.2.2.1 1 = .ok (.iconst (-1), 1) := by decide +kernel
theorem dX8_holdRow_2 : decode mX8_holdRow.2.2.1 2 = .ok (.putfield 17, 3) := by decide +kernel
theorem dX8_holdRow_5 : decode mX8_holdRow.2.2.1 5 = .ok (.aload_n 0, 1) := by decide +kernel
theorem dX8_holdRow_6 : decode mX8_holdRow.2.2.1 6 = .ok (.iload_n 1, 1) := by decide +kernel
theorem dX8_holdRow_7 : decode mX8_holdRow.2.2.1 7 = .ok (.putfield 13, 3) := by decide +kernel
theorem dX8_holdRow_10 : decode mX8_holdRow.2.2.1 10 = .ok (.aload_n 0, 1) := by decide +kernel
theorem dX8_holdRow_11 : decode mX8_holdRow.2.2.1 11 = .ok (.iload_n 2, 1) := by decide +kernel
theorem dX8_holdRow_12 : decode mX8_holdRow.2.2.1 12 = .ok (.aload_n 0, 1) := by decide +kernel
theorem dX8_holdRow_13 : decode mX8_holdRow.2.2.1 13 = .ok (.getfield 9, 3) := by decide +kernel
theorem dX8_holdRow_16 : decode mX8_holdRow.2.2.1 16 = .ok (.arraylength, 1) := by decide +kernel
theorem dX8_holdRow_17 : decode mX8_holdRow.2.2.1 17 = .ok (.invokestatic 27, 3) := by decide +kernel
theorem dX8_holdRow_20 : decode mX8_holdRow.2.2.1 20 = .ok (.putfield 24, 3) := by decide +kernel
theorem dX8_holdRow_23 : decode mX8_holdRow.2.2.1 23 = .ok (.iconst 0, 1) := by decide +kernel
theorem dX8_holdRow_24 : decode mX8_holdRow.2.2.1 24 = .ok (.istore_n 3, 1) := by decide +kernel
theorem dX8_holdRow_25 : decode mX8_holdRow.2.2.1 25 = .ok (.iload_n 3, 1) := by decide +kernel
theorem dX8_holdRow_26 : decode mX8_holdRow.2.2.1 26 = .ok (.aload_n 0, 1) := by decide +kernel
theorem dX8_holdRow_27 : decode mX8_holdRow.2.2.1 27 = .ok (.getfield 9, 3) := by decide +kernel
theorem dX8_holdRow_30 : decode mX8_holdRow.2.2.1 30 = .ok (.arraylength, 1) := by decide +kernel
theorem dX8_holdRow_31 : decode mX8_holdRow.2.2.1 31 = .ok (.if_icmp .ge 16, 3) := by decide +kernel
theorem dX8_holdRow_34 : decode mX8_holdRow.2.2.1 34 = .ok (.aload_n 0, 1) := by decide +kernel
theorem dX8_holdRow_35 : decode mX8_holdRow.2.2.1 35 = .ok (.getfield 9, 3) := by decide +kernel
theorem dX8_holdRow_38 : decode mX8_holdRow.2.2.1 38 = .ok (.iload_n 3, 1) := by decide +kernel
theorem dX8_holdRow_39 : decode mX8_holdRow.2.2.1 39 = .ok (.lconst 0, 1) := by decide +kernel
theorem dX8_holdRow_40 : decode mX8_holdRow.2.2.1 40 = .ok (.lastore, 1) := by decide +kernel
theorem dX8_holdRow_41 : decode mX8_holdRow.2.2.1 41 = .ok (.iinc 3 1, 3) := by decide +kernel
theorem dX8_holdRow_44 : decode mX8_holdRow.2.2.1 44 = .ok (.goto (-19), 3) := by decide +kernel
theorem dX8_holdRow_47 : decode mX8_holdRow.2.2.1 47 = .ok (.return_, 1) := by decide +kernel
set_option maxHeartbeats 100000 in
theorem kX8_holdRow_0 {d : Nat} {F : am_FT} {L : am_LT} {Q : am_QT} {l3 : Option Value} {p0 e1 : Nat} {x1 x2 : Int32} (h1 : am_S0[p0]? = some (8, 4, [some e1, none, none, none])) (h2 : am_S0[e1]? = some (101, 60, [])) : wt am_S0 (d + 1) mX8_holdRow 0 [some (.ref p0), some (.int x1), some (.int x2), l3] [] F L Q = wt am_S0 (d + 1) mX8_holdRow 25 [some (.ref p0), some (.int x1), some (.int x2), some (.int 0)] [] (am_upF (am_upF (am_upF F p0 3 (-1)) p0 1 x1) p0 2 (if 60 < x2 then 60 else x2)) L Q := (wt_aload_n dX8_holdRow_0 rfl rfl).trans ((wt_iconst dX8_holdRow_1 (v := (-1)) (by decide)).trans ((wt_putfield dX8_holdRow_2 rfl h1 ⟨rfl, rfl, rfl, rfl⟩).trans ((wt_aload_n dX8_holdRow_5 rfl rfl).trans ((wt_iload_n dX8_holdRow_6 rfl).trans ((wt_putfield dX8_holdRow_7 rfl h1 ⟨rfl, rfl, rfl, rfl⟩).trans ((wt_aload_n dX8_holdRow_10 rfl rfl).trans ((wt_iload_n dX8_holdRow_11 rfl).trans ((wt_aload_n dX8_holdRow_12 rfl rfl).trans ((wt_getfield dX8_holdRow_13 rfl h1 (v := .ref e1) rfl).trans ((wt_arraylength dX8_holdRow_16 h2 (am_S0_lt h2) (by decide)).trans ((wt_min dX8_holdRow_17 rfl (Nat.le_of_ble_eq_true rfl)).trans ((wt_putfield dX8_holdRow_20 rfl h1 ⟨rfl, rfl, rfl, rfl⟩).trans ((wt_iconst dX8_holdRow_23 (v := 0) (by decide)).trans (wt_istore_n dX8_holdRow_24 (lv1 := [some (.ref p0), some (.int x1), some (.int x2), some (.int 0)]) (Nat.le_of_ble_eq_true rfl) rfl))))))))))))))
set_option maxHeartbeats 100000 in
theorem kX8_holdRow_25 {d : Nat} {F : am_FT} {L : am_LT} {Q : am_QT} {l1 l2 : Option Value} {x3 : Int32} {p0 e1 : Nat} (h1 : am_S0[p0]? = some (8, 4, [some e1, none, none, none])) (h2 : am_S0[e1]? = some (101, 60, [])) : wt am_S0 d mX8_holdRow 25 [some (.ref p0), l1, l2, some (.int x3)] [] F L Q = if 60 ≤ x3 then wt am_S0 d mX8_holdRow 47 [some (.ref p0), l1, l2, some (.int x3)] [] F L Q else wt am_S0 d mX8_holdRow 34 [some (.ref p0), l1, l2, some (.int x3)] [] F L Q := (wt_iload_n dX8_holdRow_25 rfl).trans ((wt_aload_n dX8_holdRow_26 rfl rfl).trans ((wt_getfield dX8_holdRow_27 rfl h1 (v := .ref e1) rfl).trans ((wt_arraylength dX8_holdRow_30 h2 (am_S0_lt h2) (by decide)).trans (wt_if_icmp_ge dX8_holdRow_31 (t := 47) rfl))))
set_option maxHeartbeats 100000 in
theorem kX8_holdRow_34 {d : Nat} {F : am_FT} {L : am_LT} {Q : am_QT} {l1 : Option Value} {p0 e1 : Nat} {x3 x2 : Int32} (h1 : am_S0[p0]? = some (8, 4, [some e1, none, none, none])) (h2 : am_S0[e1]? = some (101, 60, [])) (h3 : am_oob x3 60 = false) : wt am_S0 d mX8_holdRow 34 [some (.ref p0), l1, some (.int x2), some (.int x3)] [] F L Q = wt am_S0 d mX8_holdRow 25 [some (.ref p0), l1, some (.int x2), some (.int (x3 + 1))] [] F (am_upL L e1 (Int32.toNatClampNeg x3) 0) Q := (wt_aload_n dX8_holdRow_34 rfl rfl).trans ((wt_getfield dX8_holdRow_35 rfl h1 (v := .ref e1) rfl).trans ((wt_iload_n dX8_holdRow_38 rfl).trans ((wt_lconst dX8_holdRow_39 (v := 0) (by decide)).trans ((wt_lastore dX8_holdRow_40 h2 h3).trans ((wt_iinc dX8_holdRow_41 (v := 1) (lv1 := [some (.ref p0), l1, some (.int x2), some (.int (x3 + 1))]) rfl (Nat.le_of_ble_eq_true rfl) (by decide) rfl).trans (wt_goto dX8_holdRow_44 (t := 25) rfl))))))
set_option maxHeartbeats 100000 in
theorem kX8_holdRow_47 {d : Nat} {F : am_FT} {L : am_LT} {Q : am_QT} {l0 l1 l2 l3 : Option Value} : wt am_S0 d mX8_holdRow 47 [l0, l1, l2, l3] [] F L Q = Q none F L := wt_return dX8_holdRow_47 rfl
theorem dX8_write_0 : decode mX8_write.2.2.1 0 = .ok (.iload_n 1, 1) := by decide +kernel
theorem dX8_write_1 : decode mX8_write.2.2.1 1 = .ok (.ifCond .lt 23, 3) := by decide +kernel
theorem dX8_write_4 : decode mX8_write.2.2.1 4 = .ok (.iload_n 1, 1) := by decide +kernel
theorem dX8_write_5 : decode mX8_write.2.2.1 5 = .ok (.aload_n 0, 1) := by decide +kernel
theorem dX8_write_6 : decode mX8_write.2.2.1 6 = .ok (.getfield 9, 3) := by decide +kernel
theorem dX8_write_9 : decode mX8_write.2.2.1 9 = .ok (.arraylength, 1) := by decide +kernel
theorem dX8_write_10 : decode mX8_write.2.2.1 10 = .ok (.if_icmp .ge 14, 3) := by decide +kernel
theorem dX8_write_13 : decode mX8_write.2.2.1 13 = .ok (.aload_n 0, 1) := by decide +kernel
theorem dX8_write_14 : decode mX8_write.2.2.1 14 = .ok (.getfield 9, 3) := by decide +kernel
theorem dX8_write_17 : decode mX8_write.2.2.1 17 = .ok (.iload_n 1, 1) := by decide +kernel
theorem dX8_write_18 : decode mX8_write.2.2.1 18 = .ok (.aload_n 0, 1) := by decide +kernel
theorem dX8_write_19 : decode mX8_write.2.2.1 19 = .ok (.lload_n 2, 1) := by decide +kernel
theorem dX8_write_20 : decode mX8_write.2.2.1 20 = .ok (.invokevirtual 33, 3) := by decide +kernel
theorem dX8_write_23 : decode mX8_write.2.2.1 23 = .ok (.lastore, 1) := by decide +kernel
theorem dX8_write_24 : decode mX8_write.2.2.1 24 = .ok (.return_, 1) := by decide +kernel
set_option maxHeartbeats 100000 in
theorem kX8_write_0 {d : Nat} {F : am_FT} {L : am_LT} {Q : am_QT} {l0 l2 l3 : Option Value} {x1 : Int32} : wt am_S0 d mX8_write 0 [l0, some (.int x1), l2, l3] [] F L Q = if x1 < 0 then wt am_S0 d mX8_write 24 [l0, some (.int x1), l2, l3] [] F L Q else wt am_S0 d mX8_write 4 [l0, some (.int x1), l2, l3] [] F L Q := (wt_iload_n dX8_write_0 rfl).trans (wt_ifCond_lt dX8_write_1 (t := 24) rfl)
set_option maxHeartbeats 100000 in
theorem kX8_write_4 {d : Nat} {F : am_FT} {L : am_LT} {Q : am_QT} {l2 l3 : Option Value} {x1 : Int32} {p0 e1 : Nat} (h1 : am_S0[p0]? = some (8, 4, [some e1, none, none, none])) (h2 : am_S0[e1]? = some (101, 60, [])) : wt am_S0 d mX8_write 4 [some (.ref p0), some (.int x1), l2, l3] [] F L Q = if 60 ≤ x1 then wt am_S0 d mX8_write 24 [some (.ref p0), some (.int x1), l2, l3] [] F L Q else wt am_S0 d mX8_write 13 [some (.ref p0), some (.int x1), l2, l3] [] F L Q := (wt_iload_n dX8_write_4 rfl).trans ((wt_aload_n dX8_write_5 rfl rfl).trans ((wt_getfield dX8_write_6 rfl h1 (v := .ref e1) rfl).trans ((wt_arraylength dX8_write_9 h2 (am_S0_lt h2) (by decide)).trans (wt_if_icmp_ge dX8_write_10 (t := 24) rfl))))
set_option maxHeartbeats 100000 in
theorem kX8_write_13 {d : Nat} {F : am_FT} {L : am_LT} {Q : am_QT} {l3 : Option Value} {p0 e1 : Nat} {x1 : Int32} {x2 : Int64} (h1 : am_S0[p0]? = some (8, 4, [some e1, none, none, none])) : wt am_S0 (d + 1) mX8_write 13 [some (.ref p0), some (.int x1), some (.long x2), l3] [] F L Q = wc am_S0 d mX8_narrowed [.ref p0, .long x2] F L (fun r G K => wt am_S0 (d + 1) mX8_write 23 [some (.ref p0), some (.int x1), some (.long x2), l3] (r.toList ++ [.int x1, .ref e1]) G K Q) := (wt_aload_n dX8_write_13 rfl rfl).trans ((wt_getfield dX8_write_14 rfl h1 (v := .ref e1) rfl).trans ((wt_iload_n dX8_write_17 rfl).trans ((wt_aload_n dX8_write_18 rfl rfl).trans ((wt_lload_n dX8_write_19 rfl).trans (wt_callV dX8_write_20 rfl (as := [.long x2]) (rest := [.int x1, .ref e1]) rfl rfl (Nat.le_of_ble_eq_true rfl) h1 (Nat.le_of_ble_eq_true rfl))))))
set_option maxHeartbeats 100000 in
theorem kX8_write_23 {d : Nat} {F : am_FT} {L : am_LT} {Q : am_QT} {l0 l1 l2 l3 : Option Value} {q0 : Nat} {s1 : Int32} {s2 : Int64} (h1 : am_S0[q0]? = some (101, 60, [])) (h2 : am_oob s1 60 = false) : wt am_S0 d mX8_write 23 [l0, l1, l2, l3] [.long s2, .int s1, .ref q0] F L Q = wt am_S0 d mX8_write 24 [l0, l1, l2, l3] [] F (am_upL L q0 (Int32.toNatClampNeg s1) s2) Q := wt_lastore dX8_write_23 h1 h2
set_option maxHeartbeats 100000 in
theorem kX8_write_24 {d : Nat} {F : am_FT} {L : am_LT} {Q : am_QT} {l0 l1 l2 l3 : Option Value} : wt am_S0 d mX8_write 24 [l0, l1, l2, l3] [] F L Q = Q none F L := wt_return dX8_write_24 rfl
theorem dX8_narrowed_0 : decode mX8_narrowed.2.2.1 0 = .ok (.aload_n 0, 1) := by decide +kernel
theorem dX8_narrowed_1 : decode mX8_narrowed.2.2.1 1 = .ok (.getfield 13, 3) := by decide +kernel
theorem dX8_narrowed_4 : decode mX8_narrowed.2.2.1 4 = .ok (.tableswitch 62 0 4 #[36, 41, 46, 62, 50], 36) := by decide +kernel
theorem dX8_narrowed_40 : decode mX8_narrowed.2.2.1 40 = .ok (.lload_n 1, 1) := by decide +kernel
theorem dX8_narrowed_41 : decode mX8_narrowed.2.2.1 41 = .ok (.l2i, 1) := by decide +kernel
theorem dX8_narrowed_42 : decode mX8_narrowed.2.2.1 42 = .ok (.i2b, 1) := by decide +kernel
theorem dX8_narrowed_43 : decode mX8_narrowed.2.2.1 43 = .ok (.i2l, 1) := by decide +kernel
theorem dX8_narrowed_44 : decode mX8_narrowed.2.2.1 44 = .ok (.lreturn, 1) := by decide +kernel
theorem dX8_narrowed_45 : decode mX8_narrowed.2.2.1 45 = .ok (.lload_n 1, 1) := by decide +kernel
theorem dX8_narrowed_46 : decode mX8_narrowed.2.2.1 46 = .ok (.l2i, 1) := by decide +kernel
theorem dX8_narrowed_47 : decode mX8_narrowed.2.2.1 47 = .ok (.i2s, 1) := by decide +kernel
theorem dX8_narrowed_48 : decode mX8_narrowed.2.2.1 48 = .ok (.i2l, 1) := by decide +kernel
theorem dX8_narrowed_49 : decode mX8_narrowed.2.2.1 49 = .ok (.lreturn, 1) := by decide +kernel
theorem dX8_narrowed_50 : decode mX8_narrowed.2.2.1 50 = .ok (.lload_n 1, 1) := by decide +kernel
theorem dX8_narrowed_51 : decode mX8_narrowed.2.2.1 51 = .ok (.l2i, 1) := by decide +kernel
theorem dX8_narrowed_52 : decode mX8_narrowed.2.2.1 52 = .ok (.i2l, 1) := by decide +kernel
theorem dX8_narrowed_53 : decode mX8_narrowed.2.2.1 53 = .ok (.lreturn, 1) := by decide +kernel
theorem dX8_narrowed_54 : decode mX8_narrowed.2.2.1 54 = .ok (.lload_n 1, 1) := by decide +kernel
theorem dX8_narrowed_55 : decode mX8_narrowed.2.2.1 55 = .ok (.lconst 0, 1) := by decide +kernel
theorem dX8_narrowed_56 : decode mX8_narrowed.2.2.1 56 = .ok (.lcmp, 1) := by decide +kernel
theorem dX8_narrowed_57 : decode mX8_narrowed.2.2.1 57 = .ok (.ifCond .eq 7, 3) := by decide +kernel
theorem dX8_narrowed_60 : decode mX8_narrowed.2.2.1 60 = .ok (.lconst 1, 1) := by decide +kernel
theorem dX8_narrowed_61 : decode mX8_narrowed.2.2.1 61 = .ok (.goto 4, 3) := by decide +kernel
theorem dX8_narrowed_64 : decode mX8_narrowed.2.2.1 64 = .ok (.lconst 0, 1) := by decide +kernel
theorem dX8_narrowed_65 : decode mX8_narrowed.2.2.1 65 = .ok (.lreturn, 1) := by decide +kernel
theorem dX8_narrowed_66 : decode mX8_narrowed.2.2.1 66 = .ok (.lload_n 1, 1) := by decide +kernel
theorem dX8_narrowed_67 : decode mX8_narrowed.2.2.1 67 = .ok (.lreturn, 1) := by decide +kernel
set_option maxHeartbeats 100000 in
theorem kX8_narrowed_0 {d : Nat} {F : am_FT} {L : am_LT} {Q : am_QT} {l1 l2 : Option Value} {p0 e1 : Nat} (h1 : am_S0[p0]? = some (8, 4, [some e1, none, none, none])) : wt am_S0 d mX8_narrowed 0 [some (.ref p0), l1, l2] [] F L Q = if (F p0 1) = 0 then wt am_S0 d mX8_narrowed 40 [some (.ref p0), l1, l2] [] F L Q else if (F p0 1) = 1 then wt am_S0 d mX8_narrowed 45 [some (.ref p0), l1, l2] [] F L Q else if (F p0 1) = 2 then wt am_S0 d mX8_narrowed 50 [some (.ref p0), l1, l2] [] F L Q else if (F p0 1) = 3 then wt am_S0 d mX8_narrowed 66 [some (.ref p0), l1, l2] [] F L Q else if (F p0 1) = 4 then wt am_S0 d mX8_narrowed 54 [some (.ref p0), l1, l2] [] F L Q else wt am_S0 d mX8_narrowed 66 [some (.ref p0), l1, l2] [] F L Q := by
  rw [wt_aload_n dX8_narrowed_0 rfl rfl]
  rw [wt_getfield dX8_narrowed_1 rfl h1 (v := .int (F p0 1)) rfl]
  by_cases g0 : (F p0 1) = 0
  · rw [if_pos g0, g0]
    exact wt_tableI dX8_narrowed_4 (by decide) (off := 36) rfl (t := 40) rfl
  rw [if_neg g0]
  by_cases g1 : (F p0 1) = 1
  · rw [if_pos g1, g1]
    exact wt_tableI dX8_narrowed_4 (by decide) (off := 41) rfl (t := 45) rfl
  rw [if_neg g1]
  by_cases g2 : (F p0 1) = 2
  · rw [if_pos g2, g2]
    exact wt_tableI dX8_narrowed_4 (by decide) (off := 46) rfl (t := 50) rfl
  rw [if_neg g2]
  by_cases g3 : (F p0 1) = 3
  · rw [if_pos g3, g3]
    exact wt_tableI dX8_narrowed_4 (by decide) (off := 62) rfl (t := 66) rfl
  rw [if_neg g3]
  by_cases g4 : (F p0 1) = 4
  · rw [if_pos g4, g4]
    exact wt_tableI dX8_narrowed_4 (by decide) (off := 50) rfl (t := 54) rfl
  rw [if_neg g4]
  have i0 : ¬ (((F p0 1) : Int32)).toInt = 0 := fun z => g0 (Int32.toInt_inj.mp (z.trans (by decide)))
  have i1 : ¬ (((F p0 1) : Int32)).toInt = 1 := fun z => g1 (Int32.toInt_inj.mp (z.trans (by decide)))
  have i2 : ¬ (((F p0 1) : Int32)).toInt = 2 := fun z => g2 (Int32.toInt_inj.mp (z.trans (by decide)))
  have i3 : ¬ (((F p0 1) : Int32)).toInt = 3 := fun z => g3 (Int32.toInt_inj.mp (z.trans (by decide)))
  have i4 : ¬ (((F p0 1) : Int32)).toInt = 4 := fun z => g4 (Int32.toInt_inj.mp (z.trans (by decide)))
  exact wt_tableO dX8_narrowed_4 (by omega) (t := 66) rfl
set_option maxHeartbeats 100000 in
theorem kX8_narrowed_40 {d : Nat} {F : am_FT} {L : am_LT} {Q : am_QT} {l0 l2 : Option Value} {x1 : Int64} : wt am_S0 d mX8_narrowed 40 [l0, some (.long x1), l2] [] F L Q = Q (some (.long (Int32.toInt64 ((Int32.toInt8 (Int64.toInt32 x1)).toInt32)))) F L := (wt_lload_n dX8_narrowed_40 rfl).trans ((wt_l2i dX8_narrowed_41).trans ((wt_i2b dX8_narrowed_42).trans ((wt_i2l dX8_narrowed_43).trans (wt_lreturn dX8_narrowed_44 rfl))))
set_option maxHeartbeats 100000 in
theorem kX8_narrowed_45 {d : Nat} {F : am_FT} {L : am_LT} {Q : am_QT} {l0 l2 : Option Value} {x1 : Int64} : wt am_S0 d mX8_narrowed 45 [l0, some (.long x1), l2] [] F L Q = Q (some (.long (Int32.toInt64 ((Int32.toInt16 (Int64.toInt32 x1)).toInt32)))) F L := (wt_lload_n dX8_narrowed_45 rfl).trans ((wt_l2i dX8_narrowed_46).trans ((wt_i2s dX8_narrowed_47).trans ((wt_i2l dX8_narrowed_48).trans (wt_lreturn dX8_narrowed_49 rfl))))
set_option maxHeartbeats 100000 in
theorem kX8_narrowed_50 {d : Nat} {F : am_FT} {L : am_LT} {Q : am_QT} {l0 l2 : Option Value} {x1 : Int64} : wt am_S0 d mX8_narrowed 50 [l0, some (.long x1), l2] [] F L Q = Q (some (.long (Int32.toInt64 (Int64.toInt32 x1)))) F L := (wt_lload_n dX8_narrowed_50 rfl).trans ((wt_l2i dX8_narrowed_51).trans ((wt_i2l dX8_narrowed_52).trans (wt_lreturn dX8_narrowed_53 rfl)))
set_option maxHeartbeats 100000 in
theorem kX8_narrowed_54 {d : Nat} {F : am_FT} {L : am_LT} {Q : am_QT} {l0 l2 : Option Value} {x1 : Int64} : wt am_S0 d mX8_narrowed 54 [l0, some (.long x1), l2] [] F L Q = if (lg_cmp x1 0) = 0 then wt am_S0 d mX8_narrowed 64 [l0, some (.long x1), l2] [] F L Q else wt am_S0 d mX8_narrowed 60 [l0, some (.long x1), l2] [] F L Q := (wt_lload_n dX8_narrowed_54 rfl).trans ((wt_lconst dX8_narrowed_55 (v := 0) (by decide)).trans ((wt_lcmp dX8_narrowed_56).trans (wt_ifCond_eq dX8_narrowed_57 (t := 64) rfl)))
set_option maxHeartbeats 100000 in
theorem kX8_narrowed_60 {d : Nat} {F : am_FT} {L : am_LT} {Q : am_QT} {l0 l1 l2 : Option Value} : wt am_S0 d mX8_narrowed 60 [l0, l1, l2] [] F L Q = wt am_S0 d mX8_narrowed 65 [l0, l1, l2] [.long 1] F L Q := (wt_lconst dX8_narrowed_60 (v := 1) (by decide)).trans (wt_goto dX8_narrowed_61 (t := 65) rfl)
set_option maxHeartbeats 100000 in
theorem kX8_narrowed_64 {d : Nat} {F : am_FT} {L : am_LT} {Q : am_QT} {l0 l1 l2 : Option Value} : wt am_S0 d mX8_narrowed 64 [l0, l1, l2] [] F L Q = wt am_S0 d mX8_narrowed 65 [l0, l1, l2] [.long 0] F L Q := wt_lconst dX8_narrowed_64 (v := 0) (by decide)
set_option maxHeartbeats 100000 in
theorem kX8_narrowed_65 {d : Nat} {F : am_FT} {L : am_LT} {Q : am_QT} {l0 l1 l2 : Option Value} {s0 : Int64} : wt am_S0 d mX8_narrowed 65 [l0, l1, l2] [.long s0] F L Q = Q (some (.long s0)) F L := wt_lreturn dX8_narrowed_65 rfl
set_option maxHeartbeats 100000 in
theorem kX8_narrowed_66 {d : Nat} {F : am_FT} {L : am_LT} {Q : am_QT} {l0 l2 : Option Value} {x1 : Int64} : wt am_S0 d mX8_narrowed 66 [l0, some (.long x1), l2] [] F L Q = Q (some (.long x1)) F L := (wt_lload_n dX8_narrowed_66 rfl).trans (wt_lreturn dX8_narrowed_67 rfl)
theorem dX8_takeFrom_0 : decode mX8_takeFrom.2.2.1 0 = .ok (.iload_n 2, 1) := by decide +kernel
theorem dX8_takeFrom_1 : decode mX8_takeFrom.2.2.1 1 = .ok (.ifCond .lt 34, 3) := by decide +kernel
theorem dX8_takeFrom_4 : decode mX8_takeFrom.2.2.1 4 = .ok (.iload_n 3, 1) := by decide +kernel
theorem dX8_takeFrom_5 : decode mX8_takeFrom.2.2.1 5 = .ok (.ifCond .lt 30, 3) := by decide +kernel
theorem dX8_takeFrom_8 : decode mX8_takeFrom.2.2.1 8 = .ok (.iload 4, 2) := by decide +kernel
theorem dX8_takeFrom_10 : decode mX8_takeFrom.2.2.1 10 = .ok (.ifCond .lt 25, 3) := by decide +kernel
theorem dX8_takeFrom_13 : decode mX8_takeFrom.2.2.1 13 = .ok (.iload_n 2, 1) := by decide +kernel
theorem dX8_takeFrom_14 : decode mX8_takeFrom.2.2.1 14 = .ok (.aload_n 1, 1) := by decide +kernel
theorem dX8_takeFrom_15 : decode mX8_takeFrom.2.2.1 15 = .ok (.getfield 24, 3) := by decide +kernel
theorem dX8_takeFrom_18 : decode mX8_takeFrom.2.2.1 18 = .ok (.iload 4, 2) := by decide +kernel
theorem dX8_takeFrom_20 : decode mX8_takeFrom.2.2.1 20 = .ok (.isub, 1) := by decide +kernel
theorem dX8_takeFrom_21 : decode mX8_takeFrom.2.2.1 21 = .ok (.if_icmp .gt 14, 3) := by decide +kernel
theorem dX8_takeFrom_24 : decode mX8_takeFrom.2.2.1 24 = .ok (.iload_n 3, 1) := by decide +kernel
theorem dX8_takeFrom_25 : decode mX8_takeFrom.2.2.1 25 = .ok (.aload_n 0, 1) := by decide +kernel
theorem dX8_takeFrom_26 : decode mX8_takeFrom.2.2.1 26 = .ok (.getfield 24, 3) := by decide +kernel
theorem dX8_takeFrom_29 : decode mX8_takeFrom.2.2.1 29 = .ok (.iload 4, 2) := by decide +kernel
theorem dX8_takeFrom_31 : decode mX8_takeFrom.2.2.1 31 = .ok (.isub, 1) := by decide +kernel
theorem dX8_takeFrom_32 : decode mX8_takeFrom.2.2.1 32 = .ok (.if_icmp .le 5, 3) := by decide +kernel
theorem dX8_takeFrom_35 : decode mX8_takeFrom.2.2.1 35 = .ok (.iconst 0, 1) := by decide +kernel
theorem dX8_takeFrom_36 : decode mX8_takeFrom.2.2.1 36 = .ok (.ireturn, 1) := by decide +kernel
theorem dX8_takeFrom_37 : decode mX8_takeFrom.2.2.1 37 = .ok (.aload_n 1, 1) := by decide +kernel
theorem dX8_takeFrom_38 : decode mX8_takeFrom.2.2.1 38 = .ok (.getfield 9, 3) := by decide +kernel
theorem dX8_takeFrom_41 : decode mX8_takeFrom.2.2.1 41 = .ok (.iload_n 2, 1) := by decide +kernel
theorem dX8_takeFrom_42 : decode mX8_takeFrom.2.2.1 42 = .ok (.aload_n 0, 1) := by decide +kernel
theorem dX8_takeFrom_43 : decode mX8_takeFrom.2.2.1 43 = .ok (.getfield 9, 3) := by decide +kernel
theorem dX8_takeFrom_46 : decode mX8_takeFrom.2.2.1 46 = .ok (.iload_n 3, 1) := by decide +kernel
theorem dX8_takeFrom_47 : decode mX8_takeFrom.2.2.1 47 = .ok (.iload 4, 2) := by decide +kernel
theorem dX8_takeFrom_49 : decode mX8_takeFrom.2.2.1 49 = .ok (.invokestatic 37, 3) := by decide +kernel
theorem dX8_takeFrom_52 : decode mX8_takeFrom.2.2.1 52 = .ok (.iconst 1, 1) := by decide +kernel
theorem dX8_takeFrom_53 : decode mX8_takeFrom.2.2.1 53 = .ok (.ireturn, 1) := by decide +kernel
set_option maxHeartbeats 100000 in
theorem kX8_takeFrom_0 {d : Nat} {F : am_FT} {L : am_LT} {Q : am_QT} {l0 l1 l3 l4 : Option Value} {x2 : Int32} : wt am_S0 d mX8_takeFrom 0 [l0, l1, some (.int x2), l3, l4] [] F L Q = if x2 < 0 then wt am_S0 d mX8_takeFrom 35 [l0, l1, some (.int x2), l3, l4] [] F L Q else wt am_S0 d mX8_takeFrom 4 [l0, l1, some (.int x2), l3, l4] [] F L Q := (wt_iload_n dX8_takeFrom_0 rfl).trans (wt_ifCond_lt dX8_takeFrom_1 (t := 35) rfl)
set_option maxHeartbeats 100000 in
theorem kX8_takeFrom_4 {d : Nat} {F : am_FT} {L : am_LT} {Q : am_QT} {l0 l1 l2 l4 : Option Value} {x3 : Int32} : wt am_S0 d mX8_takeFrom 4 [l0, l1, l2, some (.int x3), l4] [] F L Q = if x3 < 0 then wt am_S0 d mX8_takeFrom 35 [l0, l1, l2, some (.int x3), l4] [] F L Q else wt am_S0 d mX8_takeFrom 8 [l0, l1, l2, some (.int x3), l4] [] F L Q := (wt_iload_n dX8_takeFrom_4 rfl).trans (wt_ifCond_lt dX8_takeFrom_5 (t := 35) rfl)
set_option maxHeartbeats 100000 in
theorem kX8_takeFrom_8 {d : Nat} {F : am_FT} {L : am_LT} {Q : am_QT} {l0 l1 l2 l3 : Option Value} {x4 : Int32} : wt am_S0 d mX8_takeFrom 8 [l0, l1, l2, l3, some (.int x4)] [] F L Q = if x4 < 0 then wt am_S0 d mX8_takeFrom 35 [l0, l1, l2, l3, some (.int x4)] [] F L Q else wt am_S0 d mX8_takeFrom 13 [l0, l1, l2, l3, some (.int x4)] [] F L Q := (wt_iload dX8_takeFrom_8 rfl).trans (wt_ifCond_lt dX8_takeFrom_10 (t := 35) rfl)
set_option maxHeartbeats 100000 in
theorem kX8_takeFrom_13 {d : Nat} {F : am_FT} {L : am_LT} {Q : am_QT} {l0 l3 : Option Value} {x2 x4 : Int32} {p1 e1 : Nat} (h1 : am_S0[p1]? = some (8, 4, [some e1, none, none, none])) : wt am_S0 d mX8_takeFrom 13 [l0, some (.ref p1), some (.int x2), l3, some (.int x4)] [] F L Q = if ((F p1 2) - x4) < x2 then wt am_S0 d mX8_takeFrom 35 [l0, some (.ref p1), some (.int x2), l3, some (.int x4)] [] F L Q else wt am_S0 d mX8_takeFrom 24 [l0, some (.ref p1), some (.int x2), l3, some (.int x4)] [] F L Q := (wt_iload_n dX8_takeFrom_13 rfl).trans ((wt_aload_n dX8_takeFrom_14 rfl rfl).trans ((wt_getfield dX8_takeFrom_15 rfl h1 (v := .int (F p1 2)) rfl).trans ((wt_iload dX8_takeFrom_18 rfl).trans ((wt_isub dX8_takeFrom_20).trans (wt_if_icmp_gt dX8_takeFrom_21 (t := 35) rfl)))))
set_option maxHeartbeats 100000 in
theorem kX8_takeFrom_24 {d : Nat} {F : am_FT} {L : am_LT} {Q : am_QT} {l1 l2 : Option Value} {x3 x4 : Int32} {p0 e1 : Nat} (h1 : am_S0[p0]? = some (8, 4, [some e1, none, none, none])) : wt am_S0 d mX8_takeFrom 24 [some (.ref p0), l1, l2, some (.int x3), some (.int x4)] [] F L Q = if x3 ≤ ((F p0 2) - x4) then wt am_S0 d mX8_takeFrom 37 [some (.ref p0), l1, l2, some (.int x3), some (.int x4)] [] F L Q else wt am_S0 d mX8_takeFrom 35 [some (.ref p0), l1, l2, some (.int x3), some (.int x4)] [] F L Q := (wt_iload_n dX8_takeFrom_24 rfl).trans ((wt_aload_n dX8_takeFrom_25 rfl rfl).trans ((wt_getfield dX8_takeFrom_26 rfl h1 (v := .int (F p0 2)) rfl).trans ((wt_iload dX8_takeFrom_29 rfl).trans ((wt_isub dX8_takeFrom_31).trans (wt_if_icmp_le dX8_takeFrom_32 (t := 37) rfl)))))
set_option maxHeartbeats 100000 in
theorem kX8_takeFrom_35 {d : Nat} {F : am_FT} {L : am_LT} {Q : am_QT} {l0 l1 l2 l3 l4 : Option Value} : wt am_S0 d mX8_takeFrom 35 [l0, l1, l2, l3, l4] [] F L Q = Q (some (.int 0)) F L := (wt_iconst dX8_takeFrom_35 (v := 0) (by decide)).trans (wt_ireturn dX8_takeFrom_36 rfl (by decide))
set_option maxHeartbeats 100000 in
theorem kX8_takeFrom_37 {d : Nat} {F : am_FT} {L : am_LT} {Q : am_QT} {p1 e1 p0 e2 : Nat} {x2 x3 x4 : Int32} (h1 : am_S0[p1]? = some (8, 4, [some e1, none, none, none])) (h2 : am_S0[p0]? = some (8, 4, [some e2, none, none, none])) (h3 : am_S0[e1]? = some (101, 60, [])) (h4 : am_S0[e2]? = some (101, 60, [])) (h5 : ¬ x2 < 0 ∧ ¬ x3 < 0 ∧ ¬ x4 < 0 ∧ Int32.toNatClampNeg x2 + Int32.toNatClampNeg x4 ≤ 60 ∧ Int32.toNatClampNeg x3 + Int32.toNatClampNeg x4 ≤ 60) : wt am_S0 (d + 1) mX8_takeFrom 37 [some (.ref p0), some (.ref p1), some (.int x2), some (.int x3), some (.int x4)] [] F L Q = Q (some (.int 1)) F (fun q => if q = e2 then va_cpy (L e1) (L e2) (Int32.toNatClampNeg x2) (Int32.toNatClampNeg x3) (Int32.toNatClampNeg x4) else L q) := (wt_aload_n dX8_takeFrom_37 rfl rfl).trans ((wt_getfield dX8_takeFrom_38 rfl h1 (v := .ref e1) rfl).trans ((wt_iload_n dX8_takeFrom_41 rfl).trans ((wt_aload_n dX8_takeFrom_42 rfl rfl).trans ((wt_getfield dX8_takeFrom_43 rfl h2 (v := .ref e2) rfl).trans ((wt_iload_n dX8_takeFrom_46 rfl).trans ((wt_iload dX8_takeFrom_47 rfl).trans ((wt_copy dX8_takeFrom_49 rfl (Nat.le_of_ble_eq_true rfl) h3 h4 h5).trans ((wt_iconst dX8_takeFrom_52 (v := 1) (by decide)).trans (wt_ireturn dX8_takeFrom_53 rfl (by decide))))))))))
