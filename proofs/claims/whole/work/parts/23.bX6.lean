theorem dX6_become_0 : decode mX6_become.2.2.1 0 = .ok (.aload_n 0, 1) := by decide +kernel
theorem dX6_become_1 : decode mX6_become.2.2.1 1 = .ok (.iload_n 2, 1) := by decide +kernel
theorem dX6_become_2 : decode mX6_become.2.2.1 2 = .ok (.aload_n 0, 1) := by decide +kernel
theorem dX6_become_3 : decode mX6_become.2.2.1 3 = .ok (.getfield 9, 3) := by decide +kernel
theorem dX6_become_6 : decode mX6_become.2.2.1 6 = .ok (.arraylength, 1) := by decide +kernel
theorem dX6_become_7 : decode mX6_become.2.2.1 7 = .ok (.invokestatic 18, 3) := by decide +kernel
theorem dX6_become_10 : decode mX6_become.2.2.1 10 = .ok (.putfield 24, 3) := by decide +kernel
theorem dX6_become_13 : decode mX6_become.2.2.1 13 = .ok (.iconst 0, 1) := by decide +kernel
theorem dX6_become_14 : decode mX6_become.2.2.1 14 = .ok (.istore_n 3, 1) := by decide +kernel
theorem dX6_become_15 : decode mX6_become.2.2.1 15 = .ok (.iload_n 3, 1) := by decide +kernel
theorem dX6_become_16 : decode mX6_become.2.2.1 16 = .ok (.aload_n 0, 1) := by decide +kernel
theorem dX6_become_17 : decode mX6_become.2.2.1 17 = .ok (.getfield 24, 3) := by decide +kernel
theorem dX6_become_20 : decode mX6_become.2.2.1 20 = .ok (.if_icmp .ge 22, 3) := by decide +kernel
theorem dX6_become_23 : decode mX6_become.2.2.1 23 = .ok (.aload_n 0, 1) := by decide +kernel
theorem dX6_become_24 : decode mX6_become.2.2.1 24 = .ok (.getfield 9, 3) := by decide +kernel
theorem dX6_become_27 : decode mX6_become.2.2.1 27 = .ok (.iload_n 3, 1) := by decide +kernel
theorem dX6_become_28 : decode mX6_become.2.2.1 28 = .ok (.aload_n 1, 1) := by decide +kernel
theorem dX6_become_29 : decode mX6_become.2.2.1 29 = .ok (.iload_n 3, 1) := by decide +kernel
theorem dX6_become_30 : decode mX6_become.2.2.1 30 = .ok (.invokestatic 28, 3) := by decide +kernel
theorem dX6_become_33 : decode mX6_become.2.2.1 33 = .ok (.invokestatic 34, 3) := by decide +kernel
theorem dX6_become_36 : decode mX6_become.2.2.1 36 = .ok (.iinc 3 1, 3) := by decide +kernel
theorem dX6_become_39 : decode mX6_become.2.2.1 39 = .ok (.goto (-24), 3) := by decide +kernel
theorem dX6_become_42 : decode mX6_become.2.2.1 42 = .ok (.return_, 1) := by decide +kernel
set_option maxHeartbeats 100000 in
theorem kX6_become_0 {d : Nat} {F : am_FT} {L : am_LT} {Q : am_QT} {l1 l3 : Option Value} {x2 : Int32} : wt am_S0 (d + 1) mX6_become 0 [some (.ref 6), l1, some (.int x2), l3] [] F L Q = wt am_S0 (d + 1) mX6_become 15 [some (.ref 6), l1, some (.int x2), some (.int 0)] [] (am_upF F 6 2 (if 121 < x2 then 121 else x2)) L Q := (wt_aload_n dX6_become_0 rfl rfl).trans ((wt_iload_n dX6_become_1 rfl).trans ((wt_aload_n dX6_become_2 rfl rfl).trans ((wt_getfield dX6_become_3 rfl rfl (v := .ref 7) rfl).trans ((wt_arraylength dX6_become_6 rfl (by decide) (by decide)).trans ((wt_min dX6_become_7 rfl (Nat.le_of_ble_eq_true rfl)).trans ((wt_putfield dX6_become_10 rfl rfl ⟨rfl, rfl, rfl, rfl⟩).trans ((wt_iconst dX6_become_13 (v := 0) (by decide)).trans (wt_istore_n dX6_become_14 (lv1 := [some (.ref 6), l1, some (.int x2), some (.int 0)]) (Nat.le_of_ble_eq_true rfl) rfl))))))))
set_option maxHeartbeats 100000 in
theorem kX6_become_15 {d : Nat} {F : am_FT} {L : am_LT} {Q : am_QT} {l1 l2 : Option Value} {x3 : Int32} : wt am_S0 d mX6_become 15 [some (.ref 6), l1, l2, some (.int x3)] [] F L Q = if (F 6 2) ≤ x3 then wt am_S0 d mX6_become 42 [some (.ref 6), l1, l2, some (.int x3)] [] F L Q else wt am_S0 d mX6_become 23 [some (.ref 6), l1, l2, some (.int x3)] [] F L Q := (wt_iload_n dX6_become_15 rfl).trans ((wt_aload_n dX6_become_16 rfl rfl).trans ((wt_getfield dX6_become_17 rfl rfl (v := .int (F 6 2)) rfl).trans (wt_if_icmp_ge dX6_become_20 (t := 42) rfl)))
set_option maxHeartbeats 100000 in
theorem kX6_become_23 {d : Nat} {F : am_FT} {L : am_LT} {Q : am_QT} {l2 : Option Value} {x3 : Int32} {p1 : Nat} : wt am_S0 (d + 1) mX6_become 23 [some (.ref 6), some (.ref p1), l2, some (.int x3)] [] F L Q = wc am_S0 d mX11_at [.ref p1, .int x3] F L (fun r G K => wt am_S0 (d + 1) mX6_become 33 [some (.ref 6), some (.ref p1), l2, some (.int x3)] (r.toList ++ [.int x3, .ref 7]) G K Q) := (wt_aload_n dX6_become_23 rfl rfl).trans ((wt_getfield dX6_become_24 rfl rfl (v := .ref 7) rfl).trans ((wt_iload_n dX6_become_27 rfl).trans ((wt_aload_n dX6_become_28 rfl rfl).trans ((wt_iload_n dX6_become_29 rfl).trans (wt_callS dX6_become_30 rfl (as := [.ref p1, .int x3]) (rest := [.int x3, .ref 7]) rfl rfl (Nat.le_of_ble_eq_true rfl) (Nat.le_of_ble_eq_true rfl))))))
set_option maxHeartbeats 100000 in
theorem kX6_become_33 {d : Nat} {F : am_FT} {L : am_LT} {Q : am_QT} {l0 l1 l2 l3 : Option Value} {s1 s2 : Int32} : wt am_S0 (d + 1) mX6_become 33 [l0, l1, l2, l3] [.int s2, .int s1, .ref 7] F L Q = wc am_S0 d mX11_lay [.ref 7, .int s1, .int s2] F L (fun r G K => wt am_S0 (d + 1) mX6_become 36 [l0, l1, l2, l3] (r.toList ++ []) G K Q) := wt_callS dX6_become_33 rfl (as := [.ref 7, .int s1, .int s2]) (rest := []) rfl rfl (Nat.le_of_ble_eq_true rfl) (Nat.le_of_ble_eq_true rfl)
set_option maxHeartbeats 100000 in
theorem kX6_become_36 {d : Nat} {F : am_FT} {L : am_LT} {Q : am_QT} {l0 l1 : Option Value} {x3 x2 : Int32} : wt am_S0 d mX6_become 36 [l0, l1, some (.int x2), some (.int x3)] [] F L Q = wt am_S0 d mX6_become 15 [l0, l1, some (.int x2), some (.int (x3 + 1))] [] F L Q := (wt_iinc dX6_become_36 (v := 1) (lv1 := [l0, l1, some (.int x2), some (.int (x3 + 1))]) rfl (Nat.le_of_ble_eq_true rfl) (by decide) rfl).trans (wt_goto dX6_become_39 (t := 15) rfl)
set_option maxHeartbeats 100000 in
theorem kX6_become_42 {d : Nat} {F : am_FT} {L : am_LT} {Q : am_QT} {l0 l1 l2 l3 : Option Value} : wt am_S0 d mX6_become 42 [l0, l1, l2, l3] [] F L Q = Q none F L := wt_return dX6_become_42 rfl
theorem dX6_nameTree_0 : decode mX6_nameTree.2.2.1 0 = .ok (.aload_n 0, 1) := by decide +kernel
theorem dX6_nameTree_1 : decode mX6_nameTree.2.2.1 1 = .ok (.iload_n 1, 1) := by decide +kernel
theorem dX6_nameTree_2 : decode mX6_nameTree.2.2.1 2 = .ok (.putfield 38, 3) := by decide +kernel
theorem dX6_nameTree_5 : decode mX6_nameTree.2.2.1 5 = .ok (.aload_n 0, 1) := by decide +kernel
theorem dX6_nameTree_6 : decode mX6_nameTree.2.2.1 6 = .ok (.iload_n 2, 1) := by decide +kernel
theorem dX6_nameTree_7 : decode mX6_nameTree.2.2.1 7 = .ok (.putfield 41, 3) := by decide +kernel
theorem dX6_nameTree_10 : decode mX6_nameTree.2.2.1 10 = .ok (.aload_n 0, 1) := by decide +kernel
theorem dX6_nameTree_11 : decode mX6_nameTree.2.2.1 11 = .ok (.iload_n 3, 1) := by decide +kernel
theorem dX6_nameTree_12 : decode mX6_nameTree.2.2.1 12 = .ok (.putfield 44, 3) := by decide +kernel
theorem dX6_nameTree_15 : decode mX6_nameTree.2.2.1 15 = .ok (.return_, 1) := by decide +kernel
set_option maxHeartbeats 100000 in
theorem kX6_nameTree_0 {d : Nat} {F : am_FT} {L : am_LT} {Q : am_QT} {x1 x2 x3 : Int32} : wt am_S0 d mX6_nameTree 0 [some (.ref 6), some (.int x1), some (.int x2), some (.int x3)] [] F L Q = Q none (am_upF (am_upF (am_upF F 6 7 x1) 6 5 x2) 6 4 x3) L := (wt_aload_n dX6_nameTree_0 rfl rfl).trans ((wt_iload_n dX6_nameTree_1 rfl).trans ((wt_putfield dX6_nameTree_2 rfl rfl ⟨rfl, rfl, rfl, rfl⟩).trans ((wt_aload_n dX6_nameTree_5 rfl rfl).trans ((wt_iload_n dX6_nameTree_6 rfl).trans ((wt_putfield dX6_nameTree_7 rfl rfl ⟨rfl, rfl, rfl, rfl⟩).trans ((wt_aload_n dX6_nameTree_10 rfl rfl).trans ((wt_iload_n dX6_nameTree_11 rfl).trans ((wt_putfield dX6_nameTree_12 rfl rfl ⟨rfl, rfl, rfl, rfl⟩).trans (wt_return dX6_nameTree_15 rfl)))))))))
theorem dX6_nameVoter_0 : decode mX6_nameVoter.2.2.1 0 = .ok (.aload_n 0, 1) := by decide +kernel
theorem dX6_nameVoter_1 : decode mX6_nameVoter.2.2.1 1 = .ok (.iload_n 1, 1) := by decide +kernel
theorem dX6_nameVoter_2 : decode mX6_nameVoter.2.2.1 2 = .ok (.putfield 47, 3) := by decide +kernel
theorem dX6_nameVoter_5 : decode mX6_nameVoter.2.2.1 5 = .ok (.aload_n 0, 1) := by decide +kernel
theorem dX6_nameVoter_6 : decode mX6_nameVoter.2.2.1 6 = .ok (.iload_n 2, 1) := by decide +kernel
theorem dX6_nameVoter_7 : decode mX6_nameVoter.2.2.1 7 = .ok (.putfield 50, 3) := by decide +kernel
theorem dX6_nameVoter_10 : decode mX6_nameVoter.2.2.1 10 = .ok (.aload_n 0, 1) := by decide +kernel
theorem dX6_nameVoter_11 : decode mX6_nameVoter.2.2.1 11 = .ok (.iload_n 3, 1) := by decide +kernel
theorem dX6_nameVoter_12 : decode mX6_nameVoter.2.2.1 12 = .ok (.putfield 53, 3) := by decide +kernel
theorem dX6_nameVoter_15 : decode mX6_nameVoter.2.2.1 15 = .ok (.return_, 1) := by decide +kernel
set_option maxHeartbeats 100000 in
theorem kX6_nameVoter_0 {d : Nat} {F : am_FT} {L : am_LT} {Q : am_QT} {x1 x2 x3 : Int32} : wt am_S0 d mX6_nameVoter 0 [some (.ref 6), some (.int x1), some (.int x2), some (.int x3)] [] F L Q = Q none (am_upF (am_upF (am_upF F 6 8 x1) 6 3 x2) 6 6 x3) L := (wt_aload_n dX6_nameVoter_0 rfl rfl).trans ((wt_iload_n dX6_nameVoter_1 rfl).trans ((wt_putfield dX6_nameVoter_2 rfl rfl ⟨rfl, rfl, rfl, rfl⟩).trans ((wt_aload_n dX6_nameVoter_5 rfl rfl).trans ((wt_iload_n dX6_nameVoter_6 rfl).trans ((wt_putfield dX6_nameVoter_7 rfl rfl ⟨rfl, rfl, rfl, rfl⟩).trans ((wt_aload_n dX6_nameVoter_10 rfl rfl).trans ((wt_iload_n dX6_nameVoter_11 rfl).trans ((wt_putfield dX6_nameVoter_12 rfl rfl ⟨rfl, rfl, rfl, rfl⟩).trans (wt_return dX6_nameVoter_15 rfl)))))))))
theorem dX6_value_0 : decode mX6_value.2.2.1 0 = .ok (.aload_n 0, 1) := by decide +kernel
theorem dX6_value_1 : decode mX6_value.2.2.1 1 = .ok (.getfield 24, 3) := by decide +kernel
theorem dX6_value_4 : decode mX6_value.2.2.1 4 = .ok (.ifCond .ne 8, 3) := by decide +kernel
theorem dX6_value_7 : decode mX6_value.2.2.1 7 = .ok (.aload_n 0, 1) := by decide +kernel
theorem dX6_value_8 : decode mX6_value.2.2.1 8 = .ok (.getfield 50, 3) := by decide +kernel
theorem dX6_value_11 : decode mX6_value.2.2.1 11 = .ok (.ireturn, 1) := by decide +kernel
theorem dX6_value_12 : decode mX6_value.2.2.1 12 = .ok (.iconst 0, 1) := by decide +kernel
theorem dX6_value_13 : decode mX6_value.2.2.1 13 = .ok (.istore_n 1, 1) := by decide +kernel
theorem dX6_value_14 : decode mX6_value.2.2.1 14 = .ok (.iconst 0, 1) := by decide +kernel
theorem dX6_value_15 : decode mX6_value.2.2.1 15 = .ok (.istore_n 2, 1) := by decide +kernel
theorem dX6_value_16 : decode mX6_value.2.2.1 16 = .ok (.iconst 0, 1) := by decide +kernel
theorem dX6_value_17 : decode mX6_value.2.2.1 17 = .ok (.istore_n 3, 1) := by decide +kernel
theorem dX6_value_18 : decode mX6_value.2.2.1 18 = .ok (.iload_n 3, 1) := by decide +kernel
theorem dX6_value_19 : decode mX6_value.2.2.1 19 = .ok (.aload_n 0, 1) := by decide +kernel
theorem dX6_value_20 : decode mX6_value.2.2.1 20 = .ok (.getfield 24, 3) := by decide +kernel
theorem dX6_value_23 : decode mX6_value.2.2.1 23 = .ok (.if_icmp .ge 215, 3) := by decide +kernel
theorem dX6_value_26 : decode mX6_value.2.2.1 26 = .ok (.aload_n 0, 1) := by decide +kernel
theorem dX6_value_27 : decode mX6_value.2.2.1 27 = .ok (.getfield 9, 3) := by decide +kernel
theorem dX6_value_30 : decode mX6_value.2.2.1 30 = .ok (.iload_n 3, 1) := by decide +kernel
theorem dX6_value_31 : decode mX6_value.2.2.1 31 = .ok (.invokestatic 28, 3) := by decide +kernel
theorem dX6_value_34 : decode mX6_value.2.2.1 34 = .ok (.istore 4, 2) := by decide +kernel
theorem dX6_value_36 : decode mX6_value.2.2.1 36 = .ok (.iload_n 2, 1) := by decide +kernel
theorem dX6_value_37 : decode mX6_value.2.2.1 37 = .ok (.ifCond .eq 19, 3) := by decide +kernel
theorem dX6_value_40 : decode mX6_value.2.2.1 40 = .ok (.iload 4, 2) := by decide +kernel
theorem dX6_value_42 : decode mX6_value.2.2.1 42 = .ok (.bipush 59, 2) := by decide +kernel
theorem dX6_value_44 : decode mX6_value.2.2.1 44 = .ok (.if_icmp .eq 7, 3) := by decide +kernel
theorem dX6_value_47 : decode mX6_value.2.2.1 47 = .ok (.iconst 1, 1) := by decide +kernel
theorem dX6_value_48 : decode mX6_value.2.2.1 48 = .ok (.goto 4, 3) := by decide +kernel
theorem dX6_value_51 : decode mX6_value.2.2.1 51 = .ok (.iconst 0, 1) := by decide +kernel
theorem dX6_value_52 : decode mX6_value.2.2.1 52 = .ok (.istore_n 2, 1) := by decide +kernel
theorem dX6_value_53 : decode mX6_value.2.2.1 53 = .ok (.goto 179, 3) := by decide +kernel
theorem dX6_value_56 : decode mX6_value.2.2.1 56 = .ok (.iload 4, 2) := by decide +kernel
theorem dX6_value_58 : decode mX6_value.2.2.1 58 = .ok (.bipush 59, 2) := by decide +kernel
theorem dX6_value_60 : decode mX6_value.2.2.1 60 = .ok (.if_icmp .ne 14, 3) := by decide +kernel
theorem dX6_value_63 : decode mX6_value.2.2.1 63 = .ok (.aload_n 0, 1) := by decide +kernel
theorem dX6_value_64 : decode mX6_value.2.2.1 64 = .ok (.getfield 15, 3) := by decide +kernel
theorem dX6_value_67 : decode mX6_value.2.2.1 67 = .ok (.iload_n 1, 1) := by decide +kernel
theorem dX6_value_68 : decode mX6_value.2.2.1 68 = .ok (.iconst 1, 1) := by decide +kernel
theorem dX6_value_69 : decode mX6_value.2.2.1 69 = .ok (.isub, 1) := by decide +kernel
theorem dX6_value_70 : decode mX6_value.2.2.1 70 = .ok (.invokestatic 28, 3) := by decide +kernel
theorem dX6_value_73 : decode mX6_value.2.2.1 73 = .ok (.ireturn, 1) := by decide +kernel
theorem dX6_value_74 : decode mX6_value.2.2.1 74 = .ok (.iload 4, 2) := by decide +kernel
theorem dX6_value_76 : decode mX6_value.2.2.1 76 = .ok (.bipush 63, 2) := by decide +kernel
theorem dX6_value_78 : decode mX6_value.2.2.1 78 = .ok (.if_icmp .ne 26, 3) := by decide +kernel
theorem dX6_value_81 : decode mX6_value.2.2.1 81 = .ok (.iinc 1 (-1), 3) := by decide +kernel
theorem dX6_value_84 : decode mX6_value.2.2.1 84 = .ok (.aload_n 0, 1) := by decide +kernel
theorem dX6_value_85 : decode mX6_value.2.2.1 85 = .ok (.getfield 15, 3) := by decide +kernel
theorem dX6_value_88 : decode mX6_value.2.2.1 88 = .ok (.iload_n 1, 1) := by decide +kernel
theorem dX6_value_89 : decode mX6_value.2.2.1 89 = .ok (.invokestatic 28, 3) := by decide +kernel
theorem dX6_value_92 : decode mX6_value.2.2.1 92 = .ok (.ifCond .ne 7, 3) := by decide +kernel
theorem dX6_value_95 : decode mX6_value.2.2.1 95 = .ok (.iconst 1, 1) := by decide +kernel
theorem dX6_value_96 : decode mX6_value.2.2.1 96 = .ok (.goto 4, 3) := by decide +kernel
theorem dX6_value_99 : decode mX6_value.2.2.1 99 = .ok (.iconst 0, 1) := by decide +kernel
theorem dX6_value_100 : decode mX6_value.2.2.1 100 = .ok (.istore_n 2, 1) := by decide +kernel
theorem dX6_value_101 : decode mX6_value.2.2.1 101 = .ok (.goto 131, 3) := by decide +kernel
theorem dX6_value_104 : decode mX6_value.2.2.1 104 = .ok (.iload 4, 2) := by decide +kernel
theorem dX6_value_106 : decode mX6_value.2.2.1 106 = .ok (.bipush 33, 2) := by decide +kernel
theorem dX6_value_108 : decode mX6_value.2.2.1 108 = .ok (.if_icmp .eq 11, 3) := by decide +kernel
theorem dX6_value_111 : decode mX6_value.2.2.1 111 = .ok (.iload 4, 2) := by decide +kernel
theorem dX6_value_113 : decode mX6_value.2.2.1 113 = .ok (.sipush 256, 3) := by decide +kernel
theorem dX6_value_116 : decode mX6_value.2.2.1 116 = .ok (.if_icmp .ne 52, 3) := by decide +kernel
theorem dX6_value_119 : decode mX6_value.2.2.1 119 = .ok (.aload_n 0, 1) := by decide +kernel
theorem dX6_value_120 : decode mX6_value.2.2.1 120 = .ok (.getfield 15, 3) := by decide +kernel
theorem dX6_value_123 : decode mX6_value.2.2.1 123 = .ok (.iload_n 1, 1) := by decide +kernel
theorem dX6_value_124 : decode mX6_value.2.2.1 124 = .ok (.iconst 1, 1) := by decide +kernel
theorem dX6_value_125 : decode mX6_value.2.2.1 125 = .ok (.isub, 1) := by decide +kernel
theorem dX6_value_126 : decode mX6_value.2.2.1 126 = .ok (.invokestatic 28, 3) := by decide +kernel
theorem dX6_value_129 : decode mX6_value.2.2.1 129 = .ok (.istore 5, 2) := by decide +kernel
theorem dX6_value_131 : decode mX6_value.2.2.1 131 = .ok (.aload_n 0, 1) := by decide +kernel
theorem dX6_value_132 : decode mX6_value.2.2.1 132 = .ok (.getfield 15, 3) := by decide +kernel
theorem dX6_value_135 : decode mX6_value.2.2.1 135 = .ok (.iload_n 1, 1) := by decide +kernel
theorem dX6_value_136 : decode mX6_value.2.2.1 136 = .ok (.iconst 1, 1) := by decide +kernel
theorem dX6_value_137 : decode mX6_value.2.2.1 137 = .ok (.isub, 1) := by decide +kernel
theorem dX6_value_138 : decode mX6_value.2.2.1 138 = .ok (.iload 4, 2) := by decide +kernel
theorem dX6_value_140 : decode mX6_value.2.2.1 140 = .ok (.sipush 256, 3) := by decide +kernel
theorem dX6_value_143 : decode mX6_value.2.2.1 143 = .ok (.if_icmp .ne 9, 3) := by decide +kernel
theorem dX6_value_146 : decode mX6_value.2.2.1 146 = .ok (.iload 5, 2) := by decide +kernel
theorem dX6_value_148 : decode mX6_value.2.2.1 148 = .ok (.ineg, 1) := by decide +kernel
theorem dX6_value_149 : decode mX6_value.2.2.1 149 = .ok (.goto 13, 3) := by decide +kernel
theorem dX6_value_152 : decode mX6_value.2.2.1 152 = .ok (.iload 5, 2) := by decide +kernel
theorem dX6_value_154 : decode mX6_value.2.2.1 154 = .ok (.ifCond .ne 7, 3) := by decide +kernel
theorem dX6_value_157 : decode mX6_value.2.2.1 157 = .ok (.iconst 1, 1) := by decide +kernel
theorem dX6_value_158 : decode mX6_value.2.2.1 158 = .ok (.goto 4, 3) := by decide +kernel
theorem dX6_value_161 : decode mX6_value.2.2.1 161 = .ok (.iconst 0, 1) := by decide +kernel
theorem dX6_value_162 : decode mX6_value.2.2.1 162 = .ok (.invokestatic 34, 3) := by decide +kernel
theorem dX6_value_165 : decode mX6_value.2.2.1 165 = .ok (.goto 67, 3) := by decide +kernel
theorem dX6_value_168 : decode mX6_value.2.2.1 168 = .ok (.iload 4, 2) := by decide +kernel
theorem dX6_value_170 : decode mX6_value.2.2.1 170 = .ok (.invokestatic 56, 3) := by decide +kernel
theorem dX6_value_173 : decode mX6_value.2.2.1 173 = .ok (.ifCond .lt 42, 3) := by decide +kernel
theorem dX6_value_176 : decode mX6_value.2.2.1 176 = .ok (.iinc 1 (-1), 3) := by decide +kernel
theorem dX6_value_179 : decode mX6_value.2.2.1 179 = .ok (.aload_n 0, 1) := by decide +kernel
theorem dX6_value_180 : decode mX6_value.2.2.1 180 = .ok (.getfield 15, 3) := by decide +kernel
theorem dX6_value_183 : decode mX6_value.2.2.1 183 = .ok (.iload_n 1, 1) := by decide +kernel
theorem dX6_value_184 : decode mX6_value.2.2.1 184 = .ok (.iconst 1, 1) := by decide +kernel
theorem dX6_value_185 : decode mX6_value.2.2.1 185 = .ok (.isub, 1) := by decide +kernel
theorem dX6_value_186 : decode mX6_value.2.2.1 186 = .ok (.iload 4, 2) := by decide +kernel
theorem dX6_value_188 : decode mX6_value.2.2.1 188 = .ok (.aload_n 0, 1) := by decide +kernel
theorem dX6_value_189 : decode mX6_value.2.2.1 189 = .ok (.getfield 15, 3) := by decide +kernel
theorem dX6_value_192 : decode mX6_value.2.2.1 192 = .ok (.iload_n 1, 1) := by decide +kernel
theorem dX6_value_193 : decode mX6_value.2.2.1 193 = .ok (.iconst 1, 1) := by decide +kernel
theorem dX6_value_194 : decode mX6_value.2.2.1 194 = .ok (.isub, 1) := by decide +kernel
theorem dX6_value_195 : decode mX6_value.2.2.1 195 = .ok (.invokestatic 28, 3) := by decide +kernel
theorem dX6_value_198 : decode mX6_value.2.2.1 198 = .ok (.aload_n 0, 1) := by decide +kernel
theorem dX6_value_199 : decode mX6_value.2.2.1 199 = .ok (.getfield 15, 3) := by decide +kernel
theorem dX6_value_202 : decode mX6_value.2.2.1 202 = .ok (.iload_n 1, 1) := by decide +kernel
theorem dX6_value_203 : decode mX6_value.2.2.1 203 = .ok (.invokestatic 28, 3) := by decide +kernel
theorem dX6_value_206 : decode mX6_value.2.2.1 206 = .ok (.invokestatic 60, 3) := by decide +kernel
theorem dX6_value_209 : decode mX6_value.2.2.1 209 = .ok (.invokestatic 34, 3) := by decide +kernel
theorem dX6_value_212 : decode mX6_value.2.2.1 212 = .ok (.goto 20, 3) := by decide +kernel
theorem dX6_value_215 : decode mX6_value.2.2.1 215 = .ok (.aload_n 0, 1) := by decide +kernel
theorem dX6_value_216 : decode mX6_value.2.2.1 216 = .ok (.getfield 15, 3) := by decide +kernel
theorem dX6_value_219 : decode mX6_value.2.2.1 219 = .ok (.iload_n 1, 1) := by decide +kernel
theorem dX6_value_220 : decode mX6_value.2.2.1 220 = .ok (.aload_n 0, 1) := by decide +kernel
theorem dX6_value_221 : decode mX6_value.2.2.1 221 = .ok (.iload 4, 2) := by decide +kernel
theorem dX6_value_223 : decode mX6_value.2.2.1 223 = .ok (.invokevirtual 64, 3) := by decide +kernel
theorem dX6_value_226 : decode mX6_value.2.2.1 226 = .ok (.invokestatic 34, 3) := by decide +kernel
theorem dX6_value_229 : decode mX6_value.2.2.1 229 = .ok (.iinc 1 1, 3) := by decide +kernel
theorem dX6_value_232 : decode mX6_value.2.2.1 232 = .ok (.iinc 3 1, 3) := by decide +kernel
theorem dX6_value_235 : decode mX6_value.2.2.1 235 = .ok (.goto (-217), 3) := by decide +kernel
theorem dX6_value_238 : decode mX6_value.2.2.1 238 = .ok (.iconst 0, 1) := by decide +kernel
theorem dX6_value_239 : decode mX6_value.2.2.1 239 = .ok (.ireturn, 1) := by decide +kernel
set_option maxHeartbeats 100000 in
theorem kX6_value_0 {d : Nat} {F : am_FT} {L : am_LT} {Q : am_QT} {l1 l2 l3 l4 l5 : Option Value} : wt am_S0 d mX6_value 0 [some (.ref 6), l1, l2, l3, l4, l5] [] F L Q = if ¬ (F 6 2) = 0 then wt am_S0 d mX6_value 12 [some (.ref 6), l1, l2, l3, l4, l5] [] F L Q else wt am_S0 d mX6_value 7 [some (.ref 6), l1, l2, l3, l4, l5] [] F L Q := (wt_aload_n dX6_value_0 rfl rfl).trans ((wt_getfield dX6_value_1 rfl rfl (v := .int (F 6 2)) rfl).trans (wt_ifCond_ne dX6_value_4 (t := 12) rfl))
set_option maxHeartbeats 100000 in
theorem kX6_value_7 {d : Nat} {F : am_FT} {L : am_LT} {Q : am_QT} {l1 l2 l3 l4 l5 : Option Value} : wt am_S0 d mX6_value 7 [some (.ref 6), l1, l2, l3, l4, l5] [] F L Q = Q (some (.int (F 6 3))) F L := (wt_aload_n dX6_value_7 rfl rfl).trans ((wt_getfield dX6_value_8 rfl rfl (v := .int (F 6 3)) rfl).trans (wt_ireturn dX6_value_11 rfl rfl))
set_option maxHeartbeats 100000 in
theorem kX6_value_12 {d : Nat} {F : am_FT} {L : am_LT} {Q : am_QT} {l1 l2 l3 l4 l5 : Option Value} : wt am_S0 d mX6_value 12 [some (.ref 6), l1, l2, l3, l4, l5] [] F L Q = wt am_S0 d mX6_value 18 [some (.ref 6), some (.int 0), some (.int 0), some (.int 0), l4, l5] [] F L Q := (wt_iconst dX6_value_12 (v := 0) (by decide)).trans ((wt_istore_n dX6_value_13 (lv1 := [some (.ref 6), some (.int 0), l2, l3, l4, l5]) (Nat.le_of_ble_eq_true rfl) rfl).trans ((wt_iconst dX6_value_14 (v := 0) (by decide)).trans ((wt_istore_n dX6_value_15 (lv1 := [some (.ref 6), some (.int 0), some (.int 0), l3, l4, l5]) (Nat.le_of_ble_eq_true rfl) rfl).trans ((wt_iconst dX6_value_16 (v := 0) (by decide)).trans (wt_istore_n dX6_value_17 (lv1 := [some (.ref 6), some (.int 0), some (.int 0), some (.int 0), l4, l5]) (Nat.le_of_ble_eq_true rfl) rfl)))))
set_option maxHeartbeats 100000 in
theorem kX6_value_18 {d : Nat} {F : am_FT} {L : am_LT} {Q : am_QT} {l1 l2 l4 l5 : Option Value} {x3 : Int32} : wt am_S0 d mX6_value 18 [some (.ref 6), l1, l2, some (.int x3), l4, l5] [] F L Q = if (F 6 2) ≤ x3 then wt am_S0 d mX6_value 238 [some (.ref 6), l1, l2, some (.int x3), l4, l5] [] F L Q else wt am_S0 d mX6_value 26 [some (.ref 6), l1, l2, some (.int x3), l4, l5] [] F L Q := (wt_iload_n dX6_value_18 rfl).trans ((wt_aload_n dX6_value_19 rfl rfl).trans ((wt_getfield dX6_value_20 rfl rfl (v := .int (F 6 2)) rfl).trans (wt_if_icmp_ge dX6_value_23 (t := 238) rfl)))
set_option maxHeartbeats 100000 in
theorem kX6_value_26 {d : Nat} {F : am_FT} {L : am_LT} {Q : am_QT} {l1 l2 l4 l5 : Option Value} {x3 : Int32} : wt am_S0 (d + 1) mX6_value 26 [some (.ref 6), l1, l2, some (.int x3), l4, l5] [] F L Q = wc am_S0 d mX11_at [.ref 7, .int x3] F L (fun r G K => wt am_S0 (d + 1) mX6_value 34 [some (.ref 6), l1, l2, some (.int x3), l4, l5] (r.toList ++ []) G K Q) := (wt_aload_n dX6_value_26 rfl rfl).trans ((wt_getfield dX6_value_27 rfl rfl (v := .ref 7) rfl).trans ((wt_iload_n dX6_value_30 rfl).trans (wt_callS dX6_value_31 rfl (as := [.ref 7, .int x3]) (rest := []) rfl rfl (Nat.le_of_ble_eq_true rfl) (Nat.le_of_ble_eq_true rfl))))
set_option maxHeartbeats 100000 in
theorem kX6_value_34 {d : Nat} {F : am_FT} {L : am_LT} {Q : am_QT} {l0 l1 l4 l5 : Option Value} {s0 x3 x2 : Int32} : wt am_S0 d mX6_value 34 [l0, l1, some (.int x2), some (.int x3), l4, l5] [.int s0] F L Q = if x2 = 0 then wt am_S0 d mX6_value 56 [l0, l1, some (.int x2), some (.int x3), some (.int s0), l5] [] F L Q else wt am_S0 d mX6_value 40 [l0, l1, some (.int x2), some (.int x3), some (.int s0), l5] [] F L Q := (wt_istore dX6_value_34 (lv1 := [l0, l1, some (.int x2), some (.int x3), some (.int s0), l5]) (Nat.le_of_ble_eq_true rfl) rfl).trans ((wt_iload_n dX6_value_36 rfl).trans (wt_ifCond_eq dX6_value_37 (t := 56) rfl))
set_option maxHeartbeats 100000 in
theorem kX6_value_40 {d : Nat} {F : am_FT} {L : am_LT} {Q : am_QT} {l0 l1 l2 l3 l5 : Option Value} {x4 : Int32} : wt am_S0 d mX6_value 40 [l0, l1, l2, l3, some (.int x4), l5] [] F L Q = if x4 = 59 then wt am_S0 d mX6_value 51 [l0, l1, l2, l3, some (.int x4), l5] [] F L Q else wt am_S0 d mX6_value 47 [l0, l1, l2, l3, some (.int x4), l5] [] F L Q := (wt_iload dX6_value_40 rfl).trans ((wt_bipush dX6_value_42 (v := 59) (by decide)).trans (wt_if_icmp_eq dX6_value_44 (t := 51) rfl))
set_option maxHeartbeats 100000 in
theorem kX6_value_47 {d : Nat} {F : am_FT} {L : am_LT} {Q : am_QT} {l0 l1 l2 l3 l4 l5 : Option Value} : wt am_S0 d mX6_value 47 [l0, l1, l2, l3, l4, l5] [] F L Q = wt am_S0 d mX6_value 52 [l0, l1, l2, l3, l4, l5] [.int 1] F L Q := (wt_iconst dX6_value_47 (v := 1) (by decide)).trans (wt_goto dX6_value_48 (t := 52) rfl)
set_option maxHeartbeats 100000 in
theorem kX6_value_51 {d : Nat} {F : am_FT} {L : am_LT} {Q : am_QT} {l0 l1 l2 l3 l4 l5 : Option Value} : wt am_S0 d mX6_value 51 [l0, l1, l2, l3, l4, l5] [] F L Q = wt am_S0 d mX6_value 52 [l0, l1, l2, l3, l4, l5] [.int 0] F L Q := wt_iconst dX6_value_51 (v := 0) (by decide)
set_option maxHeartbeats 100000 in
theorem kX6_value_52 {d : Nat} {F : am_FT} {L : am_LT} {Q : am_QT} {l0 l2 l3 l4 l5 : Option Value} {s0 x1 : Int32} : wt am_S0 d mX6_value 52 [l0, some (.int x1), l2, l3, l4, l5] [.int s0] F L Q = wt am_S0 d mX6_value 232 [l0, some (.int x1), some (.int s0), l3, l4, l5] [] F L Q := (wt_istore_n dX6_value_52 (lv1 := [l0, some (.int x1), some (.int s0), l3, l4, l5]) (Nat.le_of_ble_eq_true rfl) rfl).trans (wt_goto dX6_value_53 (t := 232) rfl)
set_option maxHeartbeats 100000 in
theorem kX6_value_56 {d : Nat} {F : am_FT} {L : am_LT} {Q : am_QT} {l0 l1 l2 l3 l5 : Option Value} {x4 : Int32} : wt am_S0 d mX6_value 56 [l0, l1, l2, l3, some (.int x4), l5] [] F L Q = if ¬ x4 = 59 then wt am_S0 d mX6_value 74 [l0, l1, l2, l3, some (.int x4), l5] [] F L Q else wt am_S0 d mX6_value 63 [l0, l1, l2, l3, some (.int x4), l5] [] F L Q := (wt_iload dX6_value_56 rfl).trans ((wt_bipush dX6_value_58 (v := 59) (by decide)).trans (wt_if_icmp_ne dX6_value_60 (t := 74) rfl))
set_option maxHeartbeats 100000 in
theorem kX6_value_63 {d : Nat} {F : am_FT} {L : am_LT} {Q : am_QT} {l2 l3 l4 l5 : Option Value} {x1 : Int32} : wt am_S0 (d + 1) mX6_value 63 [some (.ref 6), some (.int x1), l2, l3, l4, l5] [] F L Q = wc am_S0 d mX11_at [.ref 8, .int (x1 - 1)] F L (fun r G K => wt am_S0 (d + 1) mX6_value 73 [some (.ref 6), some (.int x1), l2, l3, l4, l5] (r.toList ++ []) G K Q) := (wt_aload_n dX6_value_63 rfl rfl).trans ((wt_getfield dX6_value_64 rfl rfl (v := .ref 8) rfl).trans ((wt_iload_n dX6_value_67 rfl).trans ((wt_iconst dX6_value_68 (v := 1) (by decide)).trans ((wt_isub dX6_value_69).trans (wt_callS dX6_value_70 rfl (as := [.ref 8, .int (x1 - 1)]) (rest := []) rfl rfl (Nat.le_of_ble_eq_true rfl) (Nat.le_of_ble_eq_true rfl))))))
set_option maxHeartbeats 100000 in
theorem kX6_value_73 {d : Nat} {F : am_FT} {L : am_LT} {Q : am_QT} {l0 l1 l2 l3 l4 l5 : Option Value} {s0 : Int32} : wt am_S0 d mX6_value 73 [l0, l1, l2, l3, l4, l5] [.int s0] F L Q = Q (some (.int s0)) F L := wt_ireturn dX6_value_73 rfl rfl
set_option maxHeartbeats 100000 in
theorem kX6_value_74 {d : Nat} {F : am_FT} {L : am_LT} {Q : am_QT} {l0 l1 l2 l3 l5 : Option Value} {x4 : Int32} : wt am_S0 d mX6_value 74 [l0, l1, l2, l3, some (.int x4), l5] [] F L Q = if ¬ x4 = 63 then wt am_S0 d mX6_value 104 [l0, l1, l2, l3, some (.int x4), l5] [] F L Q else wt am_S0 d mX6_value 81 [l0, l1, l2, l3, some (.int x4), l5] [] F L Q := (wt_iload dX6_value_74 rfl).trans ((wt_bipush dX6_value_76 (v := 63) (by decide)).trans (wt_if_icmp_ne dX6_value_78 (t := 104) rfl))
set_option maxHeartbeats 100000 in
theorem kX6_value_81 {d : Nat} {F : am_FT} {L : am_LT} {Q : am_QT} {l2 l3 l4 l5 : Option Value} {x1 : Int32} : wt am_S0 (d + 1) mX6_value 81 [some (.ref 6), some (.int x1), l2, l3, l4, l5] [] F L Q = wc am_S0 d mX11_at [.ref 8, .int (x1 + (-1))] F L (fun r G K => wt am_S0 (d + 1) mX6_value 92 [some (.ref 6), some (.int (x1 + (-1))), l2, l3, l4, l5] (r.toList ++ []) G K Q) := (wt_iinc dX6_value_81 (v := (-1)) (lv1 := [some (.ref 6), some (.int (x1 + (-1))), l2, l3, l4, l5]) rfl (Nat.le_of_ble_eq_true rfl) (by decide) rfl).trans ((wt_aload_n dX6_value_84 rfl rfl).trans ((wt_getfield dX6_value_85 rfl rfl (v := .ref 8) rfl).trans ((wt_iload_n dX6_value_88 rfl).trans (wt_callS dX6_value_89 rfl (as := [.ref 8, .int (x1 + (-1))]) (rest := []) rfl rfl (Nat.le_of_ble_eq_true rfl) (Nat.le_of_ble_eq_true rfl)))))
set_option maxHeartbeats 100000 in
theorem kX6_value_92 {d : Nat} {F : am_FT} {L : am_LT} {Q : am_QT} {l0 l1 l2 l3 l4 l5 : Option Value} {s0 : Int32} : wt am_S0 d mX6_value 92 [l0, l1, l2, l3, l4, l5] [.int s0] F L Q = if ¬ s0 = 0 then wt am_S0 d mX6_value 99 [l0, l1, l2, l3, l4, l5] [] F L Q else wt am_S0 d mX6_value 95 [l0, l1, l2, l3, l4, l5] [] F L Q := wt_ifCond_ne dX6_value_92 (t := 99) rfl
set_option maxHeartbeats 100000 in
theorem kX6_value_95 {d : Nat} {F : am_FT} {L : am_LT} {Q : am_QT} {l0 l1 l2 l3 l4 l5 : Option Value} : wt am_S0 d mX6_value 95 [l0, l1, l2, l3, l4, l5] [] F L Q = wt am_S0 d mX6_value 100 [l0, l1, l2, l3, l4, l5] [.int 1] F L Q := (wt_iconst dX6_value_95 (v := 1) (by decide)).trans (wt_goto dX6_value_96 (t := 100) rfl)
set_option maxHeartbeats 100000 in
theorem kX6_value_99 {d : Nat} {F : am_FT} {L : am_LT} {Q : am_QT} {l0 l1 l2 l3 l4 l5 : Option Value} : wt am_S0 d mX6_value 99 [l0, l1, l2, l3, l4, l5] [] F L Q = wt am_S0 d mX6_value 100 [l0, l1, l2, l3, l4, l5] [.int 0] F L Q := wt_iconst dX6_value_99 (v := 0) (by decide)
set_option maxHeartbeats 100000 in
theorem kX6_value_100 {d : Nat} {F : am_FT} {L : am_LT} {Q : am_QT} {l0 l2 l3 l4 l5 : Option Value} {s0 x1 : Int32} : wt am_S0 d mX6_value 100 [l0, some (.int x1), l2, l3, l4, l5] [.int s0] F L Q = wt am_S0 d mX6_value 232 [l0, some (.int x1), some (.int s0), l3, l4, l5] [] F L Q := (wt_istore_n dX6_value_100 (lv1 := [l0, some (.int x1), some (.int s0), l3, l4, l5]) (Nat.le_of_ble_eq_true rfl) rfl).trans (wt_goto dX6_value_101 (t := 232) rfl)
set_option maxHeartbeats 100000 in
theorem kX6_value_104 {d : Nat} {F : am_FT} {L : am_LT} {Q : am_QT} {l0 l1 l2 l3 l5 : Option Value} {x4 : Int32} : wt am_S0 d mX6_value 104 [l0, l1, l2, l3, some (.int x4), l5] [] F L Q = if x4 = 33 then wt am_S0 d mX6_value 119 [l0, l1, l2, l3, some (.int x4), l5] [] F L Q else wt am_S0 d mX6_value 111 [l0, l1, l2, l3, some (.int x4), l5] [] F L Q := (wt_iload dX6_value_104 rfl).trans ((wt_bipush dX6_value_106 (v := 33) (by decide)).trans (wt_if_icmp_eq dX6_value_108 (t := 119) rfl))
set_option maxHeartbeats 100000 in
theorem kX6_value_111 {d : Nat} {F : am_FT} {L : am_LT} {Q : am_QT} {l0 l1 l2 l3 l5 : Option Value} {x4 : Int32} : wt am_S0 d mX6_value 111 [l0, l1, l2, l3, some (.int x4), l5] [] F L Q = if ¬ x4 = 256 then wt am_S0 d mX6_value 168 [l0, l1, l2, l3, some (.int x4), l5] [] F L Q else wt am_S0 d mX6_value 119 [l0, l1, l2, l3, some (.int x4), l5] [] F L Q := (wt_iload dX6_value_111 rfl).trans ((wt_sipush dX6_value_113 (v := 256) (by decide)).trans (wt_if_icmp_ne dX6_value_116 (t := 168) rfl))
set_option maxHeartbeats 100000 in
theorem kX6_value_119 {d : Nat} {F : am_FT} {L : am_LT} {Q : am_QT} {l2 l3 l4 l5 : Option Value} {x1 : Int32} : wt am_S0 (d + 1) mX6_value 119 [some (.ref 6), some (.int x1), l2, l3, l4, l5] [] F L Q = wc am_S0 d mX11_at [.ref 8, .int (x1 - 1)] F L (fun r G K => wt am_S0 (d + 1) mX6_value 129 [some (.ref 6), some (.int x1), l2, l3, l4, l5] (r.toList ++ []) G K Q) := (wt_aload_n dX6_value_119 rfl rfl).trans ((wt_getfield dX6_value_120 rfl rfl (v := .ref 8) rfl).trans ((wt_iload_n dX6_value_123 rfl).trans ((wt_iconst dX6_value_124 (v := 1) (by decide)).trans ((wt_isub dX6_value_125).trans (wt_callS dX6_value_126 rfl (as := [.ref 8, .int (x1 - 1)]) (rest := []) rfl rfl (Nat.le_of_ble_eq_true rfl) (Nat.le_of_ble_eq_true rfl))))))
set_option maxHeartbeats 100000 in
theorem kX6_value_129 {d : Nat} {F : am_FT} {L : am_LT} {Q : am_QT} {l2 l3 l5 : Option Value} {s0 x4 x1 : Int32} : wt am_S0 d mX6_value 129 [some (.ref 6), some (.int x1), l2, l3, some (.int x4), l5] [.int s0] F L Q = if ¬ x4 = 256 then wt am_S0 d mX6_value 152 [some (.ref 6), some (.int x1), l2, l3, some (.int x4), some (.int s0)] [.int (x1 - 1), .ref 8] F L Q else wt am_S0 d mX6_value 146 [some (.ref 6), some (.int x1), l2, l3, some (.int x4), some (.int s0)] [.int (x1 - 1), .ref 8] F L Q := (wt_istore dX6_value_129 (lv1 := [some (.ref 6), some (.int x1), l2, l3, some (.int x4), some (.int s0)]) (Nat.le_of_ble_eq_true rfl) rfl).trans ((wt_aload_n dX6_value_131 rfl rfl).trans ((wt_getfield dX6_value_132 rfl rfl (v := .ref 8) rfl).trans ((wt_iload_n dX6_value_135 rfl).trans ((wt_iconst dX6_value_136 (v := 1) (by decide)).trans ((wt_isub dX6_value_137).trans ((wt_iload dX6_value_138 rfl).trans ((wt_sipush dX6_value_140 (v := 256) (by decide)).trans (wt_if_icmp_ne dX6_value_143 (t := 152) rfl))))))))
set_option maxHeartbeats 100000 in
theorem kX6_value_146 {d : Nat} {F : am_FT} {L : am_LT} {Q : am_QT} {l0 l1 l2 l3 l4 : Option Value} {s1 x5 : Int32} : wt am_S0 d mX6_value 146 [l0, l1, l2, l3, l4, some (.int x5)] [.int s1, .ref 8] F L Q = wt am_S0 d mX6_value 162 [l0, l1, l2, l3, l4, some (.int x5)] [.int (-x5), .int s1, .ref 8] F L Q := (wt_iload dX6_value_146 rfl).trans ((wt_ineg dX6_value_148).trans (wt_goto dX6_value_149 (t := 162) rfl))
set_option maxHeartbeats 100000 in
theorem kX6_value_152 {d : Nat} {F : am_FT} {L : am_LT} {Q : am_QT} {l0 l1 l2 l3 l4 : Option Value} {s1 x5 : Int32} : wt am_S0 d mX6_value 152 [l0, l1, l2, l3, l4, some (.int x5)] [.int s1, .ref 8] F L Q = if ¬ x5 = 0 then wt am_S0 d mX6_value 161 [l0, l1, l2, l3, l4, some (.int x5)] [.int s1, .ref 8] F L Q else wt am_S0 d mX6_value 157 [l0, l1, l2, l3, l4, some (.int x5)] [.int s1, .ref 8] F L Q := (wt_iload dX6_value_152 rfl).trans (wt_ifCond_ne dX6_value_154 (t := 161) rfl)
set_option maxHeartbeats 100000 in
theorem kX6_value_157 {d : Nat} {F : am_FT} {L : am_LT} {Q : am_QT} {l0 l1 l2 l3 l4 l5 : Option Value} {s1 : Int32} : wt am_S0 d mX6_value 157 [l0, l1, l2, l3, l4, l5] [.int s1, .ref 8] F L Q = wt am_S0 d mX6_value 162 [l0, l1, l2, l3, l4, l5] [.int 1, .int s1, .ref 8] F L Q := (wt_iconst dX6_value_157 (v := 1) (by decide)).trans (wt_goto dX6_value_158 (t := 162) rfl)
set_option maxHeartbeats 100000 in
theorem kX6_value_161 {d : Nat} {F : am_FT} {L : am_LT} {Q : am_QT} {l0 l1 l2 l3 l4 l5 : Option Value} {s1 : Int32} : wt am_S0 d mX6_value 161 [l0, l1, l2, l3, l4, l5] [.int s1, .ref 8] F L Q = wt am_S0 d mX6_value 162 [l0, l1, l2, l3, l4, l5] [.int 0, .int s1, .ref 8] F L Q := wt_iconst dX6_value_161 (v := 0) (by decide)
set_option maxHeartbeats 100000 in
theorem kX6_value_162 {d : Nat} {F : am_FT} {L : am_LT} {Q : am_QT} {l0 l1 l2 l3 l4 l5 : Option Value} {s1 s2 : Int32} : wt am_S0 (d + 1) mX6_value 162 [l0, l1, l2, l3, l4, l5] [.int s2, .int s1, .ref 8] F L Q = wc am_S0 d mX11_lay [.ref 8, .int s1, .int s2] F L (fun r G K => wt am_S0 (d + 1) mX6_value 165 [l0, l1, l2, l3, l4, l5] (r.toList ++ []) G K Q) := wt_callS dX6_value_162 rfl (as := [.ref 8, .int s1, .int s2]) (rest := []) rfl rfl (Nat.le_of_ble_eq_true rfl) (Nat.le_of_ble_eq_true rfl)
set_option maxHeartbeats 100000 in
theorem kX6_value_165 {d : Nat} {F : am_FT} {L : am_LT} {Q : am_QT} {l0 l1 l2 l3 l4 l5 : Option Value} : wt am_S0 d mX6_value 165 [l0, l1, l2, l3, l4, l5] [] F L Q = wt am_S0 d mX6_value 232 [l0, l1, l2, l3, l4, l5] [] F L Q := wt_goto dX6_value_165 (t := 232) rfl
set_option maxHeartbeats 100000 in
theorem kX6_value_168 {d : Nat} {F : am_FT} {L : am_LT} {Q : am_QT} {l0 l1 l2 l3 l5 : Option Value} {x4 : Int32} : wt am_S0 (d + 1) mX6_value 168 [l0, l1, l2, l3, some (.int x4), l5] [] F L Q = wc am_S0 d mX7_levelOf [.int x4] F L (fun r G K => wt am_S0 (d + 1) mX6_value 173 [l0, l1, l2, l3, some (.int x4), l5] (r.toList ++ []) G K Q) := (wt_iload dX6_value_168 rfl).trans (wt_callS dX6_value_170 rfl (as := [.int x4]) (rest := []) rfl rfl (Nat.le_of_ble_eq_true rfl) (Nat.le_of_ble_eq_true rfl))
set_option maxHeartbeats 100000 in
theorem kX6_value_173 {d : Nat} {F : am_FT} {L : am_LT} {Q : am_QT} {l0 l1 l2 l3 l4 l5 : Option Value} {s0 : Int32} : wt am_S0 d mX6_value 173 [l0, l1, l2, l3, l4, l5] [.int s0] F L Q = if s0 < 0 then wt am_S0 d mX6_value 215 [l0, l1, l2, l3, l4, l5] [] F L Q else wt am_S0 d mX6_value 176 [l0, l1, l2, l3, l4, l5] [] F L Q := wt_ifCond_lt dX6_value_173 (t := 215) rfl
set_option maxHeartbeats 100000 in
theorem kX6_value_176 {d : Nat} {F : am_FT} {L : am_LT} {Q : am_QT} {l2 l3 l5 : Option Value} {x1 x4 : Int32} : wt am_S0 (d + 1) mX6_value 176 [some (.ref 6), some (.int x1), l2, l3, some (.int x4), l5] [] F L Q = wc am_S0 d mX11_at [.ref 8, .int ((x1 + (-1)) - 1)] F L (fun r G K => wt am_S0 (d + 1) mX6_value 198 [some (.ref 6), some (.int (x1 + (-1))), l2, l3, some (.int x4), l5] (r.toList ++ [.int x4, .int ((x1 + (-1)) - 1), .ref 8]) G K Q) := (wt_iinc dX6_value_176 (v := (-1)) (lv1 := [some (.ref 6), some (.int (x1 + (-1))), l2, l3, some (.int x4), l5]) rfl (Nat.le_of_ble_eq_true rfl) (by decide) rfl).trans ((wt_aload_n dX6_value_179 rfl rfl).trans ((wt_getfield dX6_value_180 rfl rfl (v := .ref 8) rfl).trans ((wt_iload_n dX6_value_183 rfl).trans ((wt_iconst dX6_value_184 (v := 1) (by decide)).trans ((wt_isub dX6_value_185).trans ((wt_iload dX6_value_186 rfl).trans ((wt_aload_n dX6_value_188 rfl rfl).trans ((wt_getfield dX6_value_189 rfl rfl (v := .ref 8) rfl).trans ((wt_iload_n dX6_value_192 rfl).trans ((wt_iconst dX6_value_193 (v := 1) (by decide)).trans ((wt_isub dX6_value_194).trans (wt_callS dX6_value_195 rfl (as := [.ref 8, .int ((x1 + (-1)) - 1)]) (rest := [.int x4, .int ((x1 + (-1)) - 1), .ref 8]) rfl rfl (Nat.le_of_ble_eq_true rfl) (Nat.le_of_ble_eq_true rfl)))))))))))))
set_option maxHeartbeats 100000 in
theorem kX6_value_198 {d : Nat} {F : am_FT} {L : am_LT} {Q : am_QT} {l2 l3 l4 l5 : Option Value} {s1 s2 s3 x1 : Int32} : wt am_S0 (d + 1) mX6_value 198 [some (.ref 6), some (.int x1), l2, l3, l4, l5] [.int s3, .int s2, .int s1, .ref 8] F L Q = wc am_S0 d mX11_at [.ref 8, .int x1] F L (fun r G K => wt am_S0 (d + 1) mX6_value 206 [some (.ref 6), some (.int x1), l2, l3, l4, l5] (r.toList ++ [.int s3, .int s2, .int s1, .ref 8]) G K Q) := (wt_aload_n dX6_value_198 rfl rfl).trans ((wt_getfield dX6_value_199 rfl rfl (v := .ref 8) rfl).trans ((wt_iload_n dX6_value_202 rfl).trans (wt_callS dX6_value_203 rfl (as := [.ref 8, .int x1]) (rest := [.int s3, .int s2, .int s1, .ref 8]) rfl rfl (Nat.le_of_ble_eq_true rfl) (Nat.le_of_ble_eq_true rfl))))
set_option maxHeartbeats 100000 in
theorem kX6_value_206 {d : Nat} {F : am_FT} {L : am_LT} {Q : am_QT} {l0 l1 l2 l3 l4 l5 : Option Value} {s1 s2 s3 s4 : Int32} : wt am_S0 (d + 1) mX6_value 206 [l0, l1, l2, l3, l4, l5] [.int s4, .int s3, .int s2, .int s1, .ref 8] F L Q = wc am_S0 d mX6_ofTwo [.int s2, .int s3, .int s4] F L (fun r G K => wt am_S0 (d + 1) mX6_value 209 [l0, l1, l2, l3, l4, l5] (r.toList ++ [.int s1, .ref 8]) G K Q) := wt_callS dX6_value_206 rfl (as := [.int s2, .int s3, .int s4]) (rest := [.int s1, .ref 8]) rfl rfl (Nat.le_of_ble_eq_true rfl) (Nat.le_of_ble_eq_true rfl)
set_option maxHeartbeats 100000 in
theorem kX6_value_209 {d : Nat} {F : am_FT} {L : am_LT} {Q : am_QT} {l0 l1 l2 l3 l4 l5 : Option Value} {s1 s2 : Int32} : wt am_S0 (d + 1) mX6_value 209 [l0, l1, l2, l3, l4, l5] [.int s2, .int s1, .ref 8] F L Q = wc am_S0 d mX11_lay [.ref 8, .int s1, .int s2] F L (fun r G K => wt am_S0 (d + 1) mX6_value 212 [l0, l1, l2, l3, l4, l5] (r.toList ++ []) G K Q) := wt_callS dX6_value_209 rfl (as := [.ref 8, .int s1, .int s2]) (rest := []) rfl rfl (Nat.le_of_ble_eq_true rfl) (Nat.le_of_ble_eq_true rfl)
set_option maxHeartbeats 100000 in
theorem kX6_value_212 {d : Nat} {F : am_FT} {L : am_LT} {Q : am_QT} {l0 l1 l2 l3 l4 l5 : Option Value} : wt am_S0 d mX6_value 212 [l0, l1, l2, l3, l4, l5] [] F L Q = wt am_S0 d mX6_value 232 [l0, l1, l2, l3, l4, l5] [] F L Q := wt_goto dX6_value_212 (t := 232) rfl
set_option maxHeartbeats 100000 in
theorem kX6_value_215 {d : Nat} {F : am_FT} {L : am_LT} {Q : am_QT} {l2 l3 l5 : Option Value} {x1 x4 : Int32} : wt am_S0 (d + 1) mX6_value 215 [some (.ref 6), some (.int x1), l2, l3, some (.int x4), l5] [] F L Q = wc am_S0 d mX6_operand [.ref 6, .int x4] F L (fun r G K => wt am_S0 (d + 1) mX6_value 226 [some (.ref 6), some (.int x1), l2, l3, some (.int x4), l5] (r.toList ++ [.int x1, .ref 8]) G K Q) := (wt_aload_n dX6_value_215 rfl rfl).trans ((wt_getfield dX6_value_216 rfl rfl (v := .ref 8) rfl).trans ((wt_iload_n dX6_value_219 rfl).trans ((wt_aload_n dX6_value_220 rfl rfl).trans ((wt_iload dX6_value_221 rfl).trans (wt_callV dX6_value_223 rfl (as := [.int x4]) (rest := [.int x1, .ref 8]) rfl rfl (Nat.le_of_ble_eq_true rfl) rfl (Nat.le_of_ble_eq_true rfl))))))
set_option maxHeartbeats 100000 in
theorem kX6_value_226 {d : Nat} {F : am_FT} {L : am_LT} {Q : am_QT} {l0 l1 l2 l3 l4 l5 : Option Value} {s1 s2 : Int32} : wt am_S0 (d + 1) mX6_value 226 [l0, l1, l2, l3, l4, l5] [.int s2, .int s1, .ref 8] F L Q = wc am_S0 d mX11_lay [.ref 8, .int s1, .int s2] F L (fun r G K => wt am_S0 (d + 1) mX6_value 229 [l0, l1, l2, l3, l4, l5] (r.toList ++ []) G K Q) := wt_callS dX6_value_226 rfl (as := [.ref 8, .int s1, .int s2]) (rest := []) rfl rfl (Nat.le_of_ble_eq_true rfl) (Nat.le_of_ble_eq_true rfl)
set_option maxHeartbeats 100000 in
theorem kX6_value_229 {d : Nat} {F : am_FT} {L : am_LT} {Q : am_QT} {l2 l3 l4 l5 : Option Value} {x1 : Int32} : wt am_S0 d mX6_value 229 [some (.ref 6), some (.int x1), l2, l3, l4, l5] [] F L Q = wt am_S0 d mX6_value 232 [some (.ref 6), some (.int (x1 + 1)), l2, l3, l4, l5] [] F L Q := wt_iinc dX6_value_229 (v := 1) (lv1 := [some (.ref 6), some (.int (x1 + 1)), l2, l3, l4, l5]) rfl (Nat.le_of_ble_eq_true rfl) (by decide) rfl
set_option maxHeartbeats 100000 in
theorem kX6_value_232 {d : Nat} {F : am_FT} {L : am_LT} {Q : am_QT} {l0 l1 l4 l5 : Option Value} {x3 x2 : Int32} : wt am_S0 d mX6_value 232 [l0, l1, some (.int x2), some (.int x3), l4, l5] [] F L Q = wt am_S0 d mX6_value 18 [l0, l1, some (.int x2), some (.int (x3 + 1)), l4, l5] [] F L Q := (wt_iinc dX6_value_232 (v := 1) (lv1 := [l0, l1, some (.int x2), some (.int (x3 + 1)), l4, l5]) rfl (Nat.le_of_ble_eq_true rfl) (by decide) rfl).trans (wt_goto dX6_value_235 (t := 18) rfl)
set_option maxHeartbeats 100000 in
theorem kX6_value_238 {d : Nat} {F : am_FT} {L : am_LT} {Q : am_QT} {l0 l1 l2 l3 l4 l5 : Option Value} : wt am_S0 d mX6_value 238 [l0, l1, l2, l3, l4, l5] [] F L Q = Q (some (.int 0)) F L := (wt_iconst dX6_value_238 (v := 0) (by decide)).trans (wt_ireturn dX6_value_239 rfl rfl)
theorem dX6_ofTwo_0 : decode mX6_ofTwo.2.2.1 0 = .ok (.iload_n 0, 1) := by decide +kernel
theorem dX6_ofTwo_1 : decode mX6_ofTwo.2.2.1 1 = .ok (.lookupswitch 168 #[(38, 97), (42, 152), (43, 144), (45, 148), (47, 156), (60, 111), (61, 122), (62, 133), (124, 83)], 83) := by decide +kernel
theorem dX6_ofTwo_84 : decode mX6_ofTwo.2.2.1 84 = .ok (.iload_n 1, 1) := by decide +kernel
theorem dX6_ofTwo_85 : decode mX6_ofTwo.2.2.1 85 = .ok (.ifCond .ne 7, 3) := by decide +kernel
theorem dX6_ofTwo_88 : decode mX6_ofTwo.2.2.1 88 = .ok (.iload_n 2, 1) := by decide +kernel
theorem dX6_ofTwo_89 : decode mX6_ofTwo.2.2.1 89 = .ok (.ifCond .eq 7, 3) := by decide +kernel
theorem dX6_ofTwo_92 : decode mX6_ofTwo.2.2.1 92 = .ok (.iconst 1, 1) := by decide +kernel
theorem dX6_ofTwo_93 : decode mX6_ofTwo.2.2.1 93 = .ok (.goto 4, 3) := by decide +kernel
theorem dX6_ofTwo_96 : decode mX6_ofTwo.2.2.1 96 = .ok (.iconst 0, 1) := by decide +kernel
theorem dX6_ofTwo_97 : decode mX6_ofTwo.2.2.1 97 = .ok (.ireturn, 1) := by decide +kernel
theorem dX6_ofTwo_98 : decode mX6_ofTwo.2.2.1 98 = .ok (.iload_n 1, 1) := by decide +kernel
theorem dX6_ofTwo_99 : decode mX6_ofTwo.2.2.1 99 = .ok (.ifCond .eq 11, 3) := by decide +kernel
theorem dX6_ofTwo_102 : decode mX6_ofTwo.2.2.1 102 = .ok (.iload_n 2, 1) := by decide +kernel
theorem dX6_ofTwo_103 : decode mX6_ofTwo.2.2.1 103 = .ok (.ifCond .eq 7, 3) := by decide +kernel
theorem dX6_ofTwo_106 : decode mX6_ofTwo.2.2.1 106 = .ok (.iconst 1, 1) := by decide +kernel
theorem dX6_ofTwo_107 : decode mX6_ofTwo.2.2.1 107 = .ok (.goto 4, 3) := by decide +kernel
theorem dX6_ofTwo_110 : decode mX6_ofTwo.2.2.1 110 = .ok (.iconst 0, 1) := by decide +kernel
theorem dX6_ofTwo_111 : decode mX6_ofTwo.2.2.1 111 = .ok (.ireturn, 1) := by decide +kernel
theorem dX6_ofTwo_112 : decode mX6_ofTwo.2.2.1 112 = .ok (.iload_n 1, 1) := by decide +kernel
theorem dX6_ofTwo_113 : decode mX6_ofTwo.2.2.1 113 = .ok (.iload_n 2, 1) := by decide +kernel
theorem dX6_ofTwo_114 : decode mX6_ofTwo.2.2.1 114 = .ok (.if_icmp .ge 7, 3) := by decide +kernel
theorem dX6_ofTwo_117 : decode mX6_ofTwo.2.2.1 117 = .ok (.iconst 1, 1) := by decide +kernel
theorem dX6_ofTwo_118 : decode mX6_ofTwo.2.2.1 118 = .ok (.goto 4, 3) := by decide +kernel
theorem dX6_ofTwo_121 : decode mX6_ofTwo.2.2.1 121 = .ok (.iconst 0, 1) := by decide +kernel
theorem dX6_ofTwo_122 : decode mX6_ofTwo.2.2.1 122 = .ok (.ireturn, 1) := by decide +kernel
theorem dX6_ofTwo_123 : decode mX6_ofTwo.2.2.1 123 = .ok (.iload_n 1, 1) := by decide +kernel
theorem dX6_ofTwo_124 : decode mX6_ofTwo.2.2.1 124 = .ok (.iload_n 2, 1) := by decide +kernel
theorem dX6_ofTwo_125 : decode mX6_ofTwo.2.2.1 125 = .ok (.if_icmp .ne 7, 3) := by decide +kernel
theorem dX6_ofTwo_128 : decode mX6_ofTwo.2.2.1 128 = .ok (.iconst 1, 1) := by decide +kernel
theorem dX6_ofTwo_129 : decode mX6_ofTwo.2.2.1 129 = .ok (.goto 4, 3) := by decide +kernel
theorem dX6_ofTwo_132 : decode mX6_ofTwo.2.2.1 132 = .ok (.iconst 0, 1) := by decide +kernel
theorem dX6_ofTwo_133 : decode mX6_ofTwo.2.2.1 133 = .ok (.ireturn, 1) := by decide +kernel
theorem dX6_ofTwo_134 : decode mX6_ofTwo.2.2.1 134 = .ok (.iload_n 1, 1) := by decide +kernel
theorem dX6_ofTwo_135 : decode mX6_ofTwo.2.2.1 135 = .ok (.iload_n 2, 1) := by decide +kernel
theorem dX6_ofTwo_136 : decode mX6_ofTwo.2.2.1 136 = .ok (.if_icmp .le 7, 3) := by decide +kernel
theorem dX6_ofTwo_139 : decode mX6_ofTwo.2.2.1 139 = .ok (.iconst 1, 1) := by decide +kernel
theorem dX6_ofTwo_140 : decode mX6_ofTwo.2.2.1 140 = .ok (.goto 4, 3) := by decide +kernel
theorem dX6_ofTwo_143 : decode mX6_ofTwo.2.2.1 143 = .ok (.iconst 0, 1) := by decide +kernel
theorem dX6_ofTwo_144 : decode mX6_ofTwo.2.2.1 144 = .ok (.ireturn, 1) := by decide +kernel
theorem dX6_ofTwo_145 : decode mX6_ofTwo.2.2.1 145 = .ok (.iload_n 1, 1) := by decide +kernel
theorem dX6_ofTwo_146 : decode mX6_ofTwo.2.2.1 146 = .ok (.iload_n 2, 1) := by decide +kernel
theorem dX6_ofTwo_147 : decode mX6_ofTwo.2.2.1 147 = .ok (.iadd, 1) := by decide +kernel
theorem dX6_ofTwo_148 : decode mX6_ofTwo.2.2.1 148 = .ok (.ireturn, 1) := by decide +kernel
theorem dX6_ofTwo_149 : decode mX6_ofTwo.2.2.1 149 = .ok (.iload_n 1, 1) := by decide +kernel
theorem dX6_ofTwo_150 : decode mX6_ofTwo.2.2.1 150 = .ok (.iload_n 2, 1) := by decide +kernel
theorem dX6_ofTwo_151 : decode mX6_ofTwo.2.2.1 151 = .ok (.isub, 1) := by decide +kernel
theorem dX6_ofTwo_152 : decode mX6_ofTwo.2.2.1 152 = .ok (.ireturn, 1) := by decide +kernel
theorem dX6_ofTwo_153 : decode mX6_ofTwo.2.2.1 153 = .ok (.iload_n 1, 1) := by decide +kernel
theorem dX6_ofTwo_154 : decode mX6_ofTwo.2.2.1 154 = .ok (.iload_n 2, 1) := by decide +kernel
theorem dX6_ofTwo_155 : decode mX6_ofTwo.2.2.1 155 = .ok (.imul, 1) := by decide +kernel
theorem dX6_ofTwo_156 : decode mX6_ofTwo.2.2.1 156 = .ok (.ireturn, 1) := by decide +kernel
theorem dX6_ofTwo_157 : decode mX6_ofTwo.2.2.1 157 = .ok (.iload_n 2, 1) := by decide +kernel
theorem dX6_ofTwo_158 : decode mX6_ofTwo.2.2.1 158 = .ok (.ifCond .ne 7, 3) := by decide +kernel
theorem dX6_ofTwo_161 : decode mX6_ofTwo.2.2.1 161 = .ok (.iconst 0, 1) := by decide +kernel
theorem dX6_ofTwo_162 : decode mX6_ofTwo.2.2.1 162 = .ok (.goto 6, 3) := by decide +kernel
theorem dX6_ofTwo_165 : decode mX6_ofTwo.2.2.1 165 = .ok (.iload_n 1, 1) := by decide +kernel
theorem dX6_ofTwo_166 : decode mX6_ofTwo.2.2.1 166 = .ok (.iload_n 2, 1) := by decide +kernel
theorem dX6_ofTwo_167 : decode mX6_ofTwo.2.2.1 167 = .ok (.idiv, 1) := by decide +kernel
theorem dX6_ofTwo_168 : decode mX6_ofTwo.2.2.1 168 = .ok (.ireturn, 1) := by decide +kernel
theorem dX6_ofTwo_169 : decode mX6_ofTwo.2.2.1 169 = .ok (.iload_n 2, 1) := by decide +kernel
theorem dX6_ofTwo_170 : decode mX6_ofTwo.2.2.1 170 = .ok (.ifCond .ne 7, 3) := by decide +kernel
theorem dX6_ofTwo_173 : decode mX6_ofTwo.2.2.1 173 = .ok (.iconst 0, 1) := by decide +kernel
theorem dX6_ofTwo_174 : decode mX6_ofTwo.2.2.1 174 = .ok (.goto 6, 3) := by decide +kernel
theorem dX6_ofTwo_177 : decode mX6_ofTwo.2.2.1 177 = .ok (.iload_n 1, 1) := by decide +kernel
theorem dX6_ofTwo_178 : decode mX6_ofTwo.2.2.1 178 = .ok (.iload_n 2, 1) := by decide +kernel
theorem dX6_ofTwo_179 : decode mX6_ofTwo.2.2.1 179 = .ok (.irem, 1) := by decide +kernel
theorem dX6_ofTwo_180 : decode mX6_ofTwo.2.2.1 180 = .ok (.ireturn, 1) := by decide +kernel
set_option maxHeartbeats 100000 in
theorem kX6_ofTwo_0 {d : Nat} {F : am_FT} {L : am_LT} {Q : am_QT} {l1 l2 : Option Value} {x0 : Int32} : wt am_S0 d mX6_ofTwo 0 [some (.int x0), l1, l2] [] F L Q = if x0 = 38 then wt am_S0 d mX6_ofTwo 98 [some (.int x0), l1, l2] [] F L Q else if x0 = 42 then wt am_S0 d mX6_ofTwo 153 [some (.int x0), l1, l2] [] F L Q else if x0 = 43 then wt am_S0 d mX6_ofTwo 145 [some (.int x0), l1, l2] [] F L Q else if x0 = 45 then wt am_S0 d mX6_ofTwo 149 [some (.int x0), l1, l2] [] F L Q else if x0 = 47 then wt am_S0 d mX6_ofTwo 157 [some (.int x0), l1, l2] [] F L Q else if x0 = 60 then wt am_S0 d mX6_ofTwo 112 [some (.int x0), l1, l2] [] F L Q else if x0 = 61 then wt am_S0 d mX6_ofTwo 123 [some (.int x0), l1, l2] [] F L Q else if x0 = 62 then wt am_S0 d mX6_ofTwo 134 [some (.int x0), l1, l2] [] F L Q else if x0 = 124 then wt am_S0 d mX6_ofTwo 84 [some (.int x0), l1, l2] [] F L Q else wt am_S0 d mX6_ofTwo 169 [some (.int x0), l1, l2] [] F L Q := by
  rw [wt_iload_n dX6_ofTwo_0 rfl]
  by_cases g0 : x0 = 38
  · rw [if_pos g0, g0]
    exact wt_lookup dX6_ofTwo_1 (by decide) (t := 98) (by decide)
  rw [if_neg g0]
  by_cases g1 : x0 = 42
  · rw [if_pos g1, g1]
    exact wt_lookup dX6_ofTwo_1 (by decide) (t := 153) (by decide)
  rw [if_neg g1]
  by_cases g2 : x0 = 43
  · rw [if_pos g2, g2]
    exact wt_lookup dX6_ofTwo_1 (by decide) (t := 145) (by decide)
  rw [if_neg g2]
  by_cases g3 : x0 = 45
  · rw [if_pos g3, g3]
    exact wt_lookup dX6_ofTwo_1 (by decide) (t := 149) (by decide)
  rw [if_neg g3]
  by_cases g4 : x0 = 47
  · rw [if_pos g4, g4]
    exact wt_lookup dX6_ofTwo_1 (by decide) (t := 157) (by decide)
  rw [if_neg g4]
  by_cases g5 : x0 = 60
  · rw [if_pos g5, g5]
    exact wt_lookup dX6_ofTwo_1 (by decide) (t := 112) (by decide)
  rw [if_neg g5]
  by_cases g6 : x0 = 61
  · rw [if_pos g6, g6]
    exact wt_lookup dX6_ofTwo_1 (by decide) (t := 123) (by decide)
  rw [if_neg g6]
  by_cases g7 : x0 = 62
  · rw [if_pos g7, g7]
    exact wt_lookup dX6_ofTwo_1 (by decide) (t := 134) (by decide)
  rw [if_neg g7]
  by_cases g8 : x0 = 124
  · rw [if_pos g8, g8]
    exact wt_lookup dX6_ofTwo_1 (by decide) (t := 84) (by decide)
  rw [if_neg g8]
  have i0 : ¬ (38 : Int) = ((x0 : Int32)).toInt := fun z => g0 (Int32.toInt_inj.mp (z.symm.trans (by decide)))
  have i1 : ¬ (42 : Int) = ((x0 : Int32)).toInt := fun z => g1 (Int32.toInt_inj.mp (z.symm.trans (by decide)))
  have i2 : ¬ (43 : Int) = ((x0 : Int32)).toInt := fun z => g2 (Int32.toInt_inj.mp (z.symm.trans (by decide)))
  have i3 : ¬ (45 : Int) = ((x0 : Int32)).toInt := fun z => g3 (Int32.toInt_inj.mp (z.symm.trans (by decide)))
  have i4 : ¬ (47 : Int) = ((x0 : Int32)).toInt := fun z => g4 (Int32.toInt_inj.mp (z.symm.trans (by decide)))
  have i5 : ¬ (60 : Int) = ((x0 : Int32)).toInt := fun z => g5 (Int32.toInt_inj.mp (z.symm.trans (by decide)))
  have i6 : ¬ (61 : Int) = ((x0 : Int32)).toInt := fun z => g6 (Int32.toInt_inj.mp (z.symm.trans (by decide)))
  have i7 : ¬ (62 : Int) = ((x0 : Int32)).toInt := fun z => g7 (Int32.toInt_inj.mp (z.symm.trans (by decide)))
  have i8 : ¬ (124 : Int) = ((x0 : Int32)).toInt := fun z => g8 (Int32.toInt_inj.mp (z.symm.trans (by decide)))
  exact wt_lookup dX6_ofTwo_1 (by decide) (t := 169) (by simp [Op.lookupswitch.offset, i0, i1, i2, i3, i4, i5, i6, i7, i8, am_tg])
set_option maxHeartbeats 100000 in
theorem kX6_ofTwo_84 {d : Nat} {F : am_FT} {L : am_LT} {Q : am_QT} {l0 l2 : Option Value} {x1 : Int32} : wt am_S0 d mX6_ofTwo 84 [l0, some (.int x1), l2] [] F L Q = if ¬ x1 = 0 then wt am_S0 d mX6_ofTwo 92 [l0, some (.int x1), l2] [] F L Q else wt am_S0 d mX6_ofTwo 88 [l0, some (.int x1), l2] [] F L Q := (wt_iload_n dX6_ofTwo_84 rfl).trans (wt_ifCond_ne dX6_ofTwo_85 (t := 92) rfl)
set_option maxHeartbeats 100000 in
theorem kX6_ofTwo_88 {d : Nat} {F : am_FT} {L : am_LT} {Q : am_QT} {l0 l1 : Option Value} {x2 : Int32} : wt am_S0 d mX6_ofTwo 88 [l0, l1, some (.int x2)] [] F L Q = if x2 = 0 then wt am_S0 d mX6_ofTwo 96 [l0, l1, some (.int x2)] [] F L Q else wt am_S0 d mX6_ofTwo 92 [l0, l1, some (.int x2)] [] F L Q := (wt_iload_n dX6_ofTwo_88 rfl).trans (wt_ifCond_eq dX6_ofTwo_89 (t := 96) rfl)
set_option maxHeartbeats 100000 in
theorem kX6_ofTwo_92 {d : Nat} {F : am_FT} {L : am_LT} {Q : am_QT} {l0 l1 l2 : Option Value} : wt am_S0 d mX6_ofTwo 92 [l0, l1, l2] [] F L Q = wt am_S0 d mX6_ofTwo 97 [l0, l1, l2] [.int 1] F L Q := (wt_iconst dX6_ofTwo_92 (v := 1) (by decide)).trans (wt_goto dX6_ofTwo_93 (t := 97) rfl)
set_option maxHeartbeats 100000 in
theorem kX6_ofTwo_96 {d : Nat} {F : am_FT} {L : am_LT} {Q : am_QT} {l0 l1 l2 : Option Value} : wt am_S0 d mX6_ofTwo 96 [l0, l1, l2] [] F L Q = wt am_S0 d mX6_ofTwo 97 [l0, l1, l2] [.int 0] F L Q := wt_iconst dX6_ofTwo_96 (v := 0) (by decide)
set_option maxHeartbeats 100000 in
theorem kX6_ofTwo_97 {d : Nat} {F : am_FT} {L : am_LT} {Q : am_QT} {l0 l1 l2 : Option Value} {s0 : Int32} : wt am_S0 d mX6_ofTwo 97 [l0, l1, l2] [.int s0] F L Q = Q (some (.int s0)) F L := wt_ireturn dX6_ofTwo_97 rfl rfl
set_option maxHeartbeats 100000 in
theorem kX6_ofTwo_98 {d : Nat} {F : am_FT} {L : am_LT} {Q : am_QT} {l0 l2 : Option Value} {x1 : Int32} : wt am_S0 d mX6_ofTwo 98 [l0, some (.int x1), l2] [] F L Q = if x1 = 0 then wt am_S0 d mX6_ofTwo 110 [l0, some (.int x1), l2] [] F L Q else wt am_S0 d mX6_ofTwo 102 [l0, some (.int x1), l2] [] F L Q := (wt_iload_n dX6_ofTwo_98 rfl).trans (wt_ifCond_eq dX6_ofTwo_99 (t := 110) rfl)
set_option maxHeartbeats 100000 in
theorem kX6_ofTwo_102 {d : Nat} {F : am_FT} {L : am_LT} {Q : am_QT} {l0 l1 : Option Value} {x2 : Int32} : wt am_S0 d mX6_ofTwo 102 [l0, l1, some (.int x2)] [] F L Q = if x2 = 0 then wt am_S0 d mX6_ofTwo 110 [l0, l1, some (.int x2)] [] F L Q else wt am_S0 d mX6_ofTwo 106 [l0, l1, some (.int x2)] [] F L Q := (wt_iload_n dX6_ofTwo_102 rfl).trans (wt_ifCond_eq dX6_ofTwo_103 (t := 110) rfl)
set_option maxHeartbeats 100000 in
theorem kX6_ofTwo_106 {d : Nat} {F : am_FT} {L : am_LT} {Q : am_QT} {l0 l1 l2 : Option Value} : wt am_S0 d mX6_ofTwo 106 [l0, l1, l2] [] F L Q = wt am_S0 d mX6_ofTwo 111 [l0, l1, l2] [.int 1] F L Q := (wt_iconst dX6_ofTwo_106 (v := 1) (by decide)).trans (wt_goto dX6_ofTwo_107 (t := 111) rfl)
set_option maxHeartbeats 100000 in
theorem kX6_ofTwo_110 {d : Nat} {F : am_FT} {L : am_LT} {Q : am_QT} {l0 l1 l2 : Option Value} : wt am_S0 d mX6_ofTwo 110 [l0, l1, l2] [] F L Q = wt am_S0 d mX6_ofTwo 111 [l0, l1, l2] [.int 0] F L Q := wt_iconst dX6_ofTwo_110 (v := 0) (by decide)
set_option maxHeartbeats 100000 in
theorem kX6_ofTwo_111 {d : Nat} {F : am_FT} {L : am_LT} {Q : am_QT} {l0 l1 l2 : Option Value} {s0 : Int32} : wt am_S0 d mX6_ofTwo 111 [l0, l1, l2] [.int s0] F L Q = Q (some (.int s0)) F L := wt_ireturn dX6_ofTwo_111 rfl rfl
set_option maxHeartbeats 100000 in
theorem kX6_ofTwo_112 {d : Nat} {F : am_FT} {L : am_LT} {Q : am_QT} {l0 : Option Value} {x1 x2 : Int32} : wt am_S0 d mX6_ofTwo 112 [l0, some (.int x1), some (.int x2)] [] F L Q = if x2 ≤ x1 then wt am_S0 d mX6_ofTwo 121 [l0, some (.int x1), some (.int x2)] [] F L Q else wt am_S0 d mX6_ofTwo 117 [l0, some (.int x1), some (.int x2)] [] F L Q := (wt_iload_n dX6_ofTwo_112 rfl).trans ((wt_iload_n dX6_ofTwo_113 rfl).trans (wt_if_icmp_ge dX6_ofTwo_114 (t := 121) rfl))
set_option maxHeartbeats 100000 in
theorem kX6_ofTwo_117 {d : Nat} {F : am_FT} {L : am_LT} {Q : am_QT} {l0 l1 l2 : Option Value} : wt am_S0 d mX6_ofTwo 117 [l0, l1, l2] [] F L Q = wt am_S0 d mX6_ofTwo 122 [l0, l1, l2] [.int 1] F L Q := (wt_iconst dX6_ofTwo_117 (v := 1) (by decide)).trans (wt_goto dX6_ofTwo_118 (t := 122) rfl)
set_option maxHeartbeats 100000 in
theorem kX6_ofTwo_121 {d : Nat} {F : am_FT} {L : am_LT} {Q : am_QT} {l0 l1 l2 : Option Value} : wt am_S0 d mX6_ofTwo 121 [l0, l1, l2] [] F L Q = wt am_S0 d mX6_ofTwo 122 [l0, l1, l2] [.int 0] F L Q := wt_iconst dX6_ofTwo_121 (v := 0) (by decide)
set_option maxHeartbeats 100000 in
theorem kX6_ofTwo_122 {d : Nat} {F : am_FT} {L : am_LT} {Q : am_QT} {l0 l1 l2 : Option Value} {s0 : Int32} : wt am_S0 d mX6_ofTwo 122 [l0, l1, l2] [.int s0] F L Q = Q (some (.int s0)) F L := wt_ireturn dX6_ofTwo_122 rfl rfl
set_option maxHeartbeats 100000 in
theorem kX6_ofTwo_123 {d : Nat} {F : am_FT} {L : am_LT} {Q : am_QT} {l0 : Option Value} {x1 x2 : Int32} : wt am_S0 d mX6_ofTwo 123 [l0, some (.int x1), some (.int x2)] [] F L Q = if ¬ x1 = x2 then wt am_S0 d mX6_ofTwo 132 [l0, some (.int x1), some (.int x2)] [] F L Q else wt am_S0 d mX6_ofTwo 128 [l0, some (.int x1), some (.int x2)] [] F L Q := (wt_iload_n dX6_ofTwo_123 rfl).trans ((wt_iload_n dX6_ofTwo_124 rfl).trans (wt_if_icmp_ne dX6_ofTwo_125 (t := 132) rfl))
set_option maxHeartbeats 100000 in
theorem kX6_ofTwo_128 {d : Nat} {F : am_FT} {L : am_LT} {Q : am_QT} {l0 l1 l2 : Option Value} : wt am_S0 d mX6_ofTwo 128 [l0, l1, l2] [] F L Q = wt am_S0 d mX6_ofTwo 133 [l0, l1, l2] [.int 1] F L Q := (wt_iconst dX6_ofTwo_128 (v := 1) (by decide)).trans (wt_goto dX6_ofTwo_129 (t := 133) rfl)
set_option maxHeartbeats 100000 in
theorem kX6_ofTwo_132 {d : Nat} {F : am_FT} {L : am_LT} {Q : am_QT} {l0 l1 l2 : Option Value} : wt am_S0 d mX6_ofTwo 132 [l0, l1, l2] [] F L Q = wt am_S0 d mX6_ofTwo 133 [l0, l1, l2] [.int 0] F L Q := wt_iconst dX6_ofTwo_132 (v := 0) (by decide)
set_option maxHeartbeats 100000 in
theorem kX6_ofTwo_133 {d : Nat} {F : am_FT} {L : am_LT} {Q : am_QT} {l0 l1 l2 : Option Value} {s0 : Int32} : wt am_S0 d mX6_ofTwo 133 [l0, l1, l2] [.int s0] F L Q = Q (some (.int s0)) F L := wt_ireturn dX6_ofTwo_133 rfl rfl
set_option maxHeartbeats 100000 in
theorem kX6_ofTwo_134 {d : Nat} {F : am_FT} {L : am_LT} {Q : am_QT} {l0 : Option Value} {x1 x2 : Int32} : wt am_S0 d mX6_ofTwo 134 [l0, some (.int x1), some (.int x2)] [] F L Q = if x1 ≤ x2 then wt am_S0 d mX6_ofTwo 143 [l0, some (.int x1), some (.int x2)] [] F L Q else wt am_S0 d mX6_ofTwo 139 [l0, some (.int x1), some (.int x2)] [] F L Q := (wt_iload_n dX6_ofTwo_134 rfl).trans ((wt_iload_n dX6_ofTwo_135 rfl).trans (wt_if_icmp_le dX6_ofTwo_136 (t := 143) rfl))
set_option maxHeartbeats 100000 in
theorem kX6_ofTwo_139 {d : Nat} {F : am_FT} {L : am_LT} {Q : am_QT} {l0 l1 l2 : Option Value} : wt am_S0 d mX6_ofTwo 139 [l0, l1, l2] [] F L Q = wt am_S0 d mX6_ofTwo 144 [l0, l1, l2] [.int 1] F L Q := (wt_iconst dX6_ofTwo_139 (v := 1) (by decide)).trans (wt_goto dX6_ofTwo_140 (t := 144) rfl)
set_option maxHeartbeats 100000 in
theorem kX6_ofTwo_143 {d : Nat} {F : am_FT} {L : am_LT} {Q : am_QT} {l0 l1 l2 : Option Value} : wt am_S0 d mX6_ofTwo 143 [l0, l1, l2] [] F L Q = wt am_S0 d mX6_ofTwo 144 [l0, l1, l2] [.int 0] F L Q := wt_iconst dX6_ofTwo_143 (v := 0) (by decide)
set_option maxHeartbeats 100000 in
theorem kX6_ofTwo_144 {d : Nat} {F : am_FT} {L : am_LT} {Q : am_QT} {l0 l1 l2 : Option Value} {s0 : Int32} : wt am_S0 d mX6_ofTwo 144 [l0, l1, l2] [.int s0] F L Q = Q (some (.int s0)) F L := wt_ireturn dX6_ofTwo_144 rfl rfl
set_option maxHeartbeats 100000 in
theorem kX6_ofTwo_145 {d : Nat} {F : am_FT} {L : am_LT} {Q : am_QT} {l0 : Option Value} {x1 x2 : Int32} : wt am_S0 d mX6_ofTwo 145 [l0, some (.int x1), some (.int x2)] [] F L Q = Q (some (.int (x1 + x2))) F L := (wt_iload_n dX6_ofTwo_145 rfl).trans ((wt_iload_n dX6_ofTwo_146 rfl).trans ((wt_iadd dX6_ofTwo_147).trans (wt_ireturn dX6_ofTwo_148 rfl rfl)))
set_option maxHeartbeats 100000 in
theorem kX6_ofTwo_149 {d : Nat} {F : am_FT} {L : am_LT} {Q : am_QT} {l0 : Option Value} {x1 x2 : Int32} : wt am_S0 d mX6_ofTwo 149 [l0, some (.int x1), some (.int x2)] [] F L Q = Q (some (.int (x1 - x2))) F L := (wt_iload_n dX6_ofTwo_149 rfl).trans ((wt_iload_n dX6_ofTwo_150 rfl).trans ((wt_isub dX6_ofTwo_151).trans (wt_ireturn dX6_ofTwo_152 rfl rfl)))
set_option maxHeartbeats 100000 in
theorem kX6_ofTwo_153 {d : Nat} {F : am_FT} {L : am_LT} {Q : am_QT} {l0 : Option Value} {x1 x2 : Int32} : wt am_S0 d mX6_ofTwo 153 [l0, some (.int x1), some (.int x2)] [] F L Q = Q (some (.int (x1 * x2))) F L := (wt_iload_n dX6_ofTwo_153 rfl).trans ((wt_iload_n dX6_ofTwo_154 rfl).trans ((wt_imul dX6_ofTwo_155).trans (wt_ireturn dX6_ofTwo_156 rfl rfl)))
set_option maxHeartbeats 100000 in
theorem kX6_ofTwo_157 {d : Nat} {F : am_FT} {L : am_LT} {Q : am_QT} {l0 l1 : Option Value} {x2 : Int32} : wt am_S0 d mX6_ofTwo 157 [l0, l1, some (.int x2)] [] F L Q = if ¬ x2 = 0 then wt am_S0 d mX6_ofTwo 165 [l0, l1, some (.int x2)] [] F L Q else wt am_S0 d mX6_ofTwo 161 [l0, l1, some (.int x2)] [] F L Q := (wt_iload_n dX6_ofTwo_157 rfl).trans (wt_ifCond_ne dX6_ofTwo_158 (t := 165) rfl)
set_option maxHeartbeats 100000 in
theorem kX6_ofTwo_161 {d : Nat} {F : am_FT} {L : am_LT} {Q : am_QT} {l0 l1 l2 : Option Value} : wt am_S0 d mX6_ofTwo 161 [l0, l1, l2] [] F L Q = wt am_S0 d mX6_ofTwo 168 [l0, l1, l2] [.int 0] F L Q := (wt_iconst dX6_ofTwo_161 (v := 0) (by decide)).trans (wt_goto dX6_ofTwo_162 (t := 168) rfl)
set_option maxHeartbeats 100000 in
theorem kX6_ofTwo_165 {d : Nat} {F : am_FT} {L : am_LT} {Q : am_QT} {l0 : Option Value} {x1 x2 : Int32} (h1 : ¬ x2 = 0) : wt am_S0 d mX6_ofTwo 165 [l0, some (.int x1), some (.int x2)] [] F L Q = wt am_S0 d mX6_ofTwo 168 [l0, some (.int x1), some (.int x2)] [.int (x1 / x2)] F L Q := (wt_iload_n dX6_ofTwo_165 rfl).trans ((wt_iload_n dX6_ofTwo_166 rfl).trans (wt_idiv dX6_ofTwo_167 h1))
set_option maxHeartbeats 100000 in
theorem kX6_ofTwo_168 {d : Nat} {F : am_FT} {L : am_LT} {Q : am_QT} {l0 l1 l2 : Option Value} {s0 : Int32} : wt am_S0 d mX6_ofTwo 168 [l0, l1, l2] [.int s0] F L Q = Q (some (.int s0)) F L := wt_ireturn dX6_ofTwo_168 rfl rfl
set_option maxHeartbeats 100000 in
theorem kX6_ofTwo_169 {d : Nat} {F : am_FT} {L : am_LT} {Q : am_QT} {l0 l1 : Option Value} {x2 : Int32} : wt am_S0 d mX6_ofTwo 169 [l0, l1, some (.int x2)] [] F L Q = if ¬ x2 = 0 then wt am_S0 d mX6_ofTwo 177 [l0, l1, some (.int x2)] [] F L Q else wt am_S0 d mX6_ofTwo 173 [l0, l1, some (.int x2)] [] F L Q := (wt_iload_n dX6_ofTwo_169 rfl).trans (wt_ifCond_ne dX6_ofTwo_170 (t := 177) rfl)
set_option maxHeartbeats 100000 in
theorem kX6_ofTwo_173 {d : Nat} {F : am_FT} {L : am_LT} {Q : am_QT} {l0 l1 l2 : Option Value} : wt am_S0 d mX6_ofTwo 173 [l0, l1, l2] [] F L Q = wt am_S0 d mX6_ofTwo 180 [l0, l1, l2] [.int 0] F L Q := (wt_iconst dX6_ofTwo_173 (v := 0) (by decide)).trans (wt_goto dX6_ofTwo_174 (t := 180) rfl)
set_option maxHeartbeats 100000 in
theorem kX6_ofTwo_177 {d : Nat} {F : am_FT} {L : am_LT} {Q : am_QT} {l0 : Option Value} {x1 x2 : Int32} (h1 : ¬ x2 = 0) : wt am_S0 d mX6_ofTwo 177 [l0, some (.int x1), some (.int x2)] [] F L Q = wt am_S0 d mX6_ofTwo 180 [l0, some (.int x1), some (.int x2)] [.int (x1 - x1 / x2 * x2)] F L Q := (wt_iload_n dX6_ofTwo_177 rfl).trans ((wt_iload_n dX6_ofTwo_178 rfl).trans (wt_irem dX6_ofTwo_179 h1))
set_option maxHeartbeats 100000 in
theorem kX6_ofTwo_180 {d : Nat} {F : am_FT} {L : am_LT} {Q : am_QT} {l0 l1 l2 : Option Value} {s0 : Int32} : wt am_S0 d mX6_ofTwo 180 [l0, l1, l2] [.int s0] F L Q = Q (some (.int s0)) F L := wt_ireturn dX6_ofTwo_180 rfl rfl
theorem dX6_operand_0 : decode mX6_operand.2.2.1 0 = .ok (.iload_n 1, 1) := by decide +kernel
theorem dX6_operand_1 : decode mX6_operand.2.2.1 1 = .ok (.tableswitch 109 104 119 #[84, 109, 109, 109, 109, 89, 94, 109, 104, 109, 109, 109, 99, 109, 109, 79], 79) := by decide +kernel
theorem dX6_operand_80 : decode mX6_operand.2.2.1 80 = .ok (.aload_n 0, 1) := by decide +kernel
theorem dX6_operand_81 : decode mX6_operand.2.2.1 81 = .ok (.getfield 50, 3) := by decide +kernel
theorem dX6_operand_84 : decode mX6_operand.2.2.1 84 = .ok (.ireturn, 1) := by decide +kernel
theorem dX6_operand_85 : decode mX6_operand.2.2.1 85 = .ok (.aload_n 0, 1) := by decide +kernel
theorem dX6_operand_86 : decode mX6_operand.2.2.1 86 = .ok (.getfield 44, 3) := by decide +kernel
theorem dX6_operand_89 : decode mX6_operand.2.2.1 89 = .ok (.ireturn, 1) := by decide +kernel
theorem dX6_operand_90 : decode mX6_operand.2.2.1 90 = .ok (.aload_n 0, 1) := by decide +kernel
theorem dX6_operand_91 : decode mX6_operand.2.2.1 91 = .ok (.getfield 41, 3) := by decide +kernel
theorem dX6_operand_94 : decode mX6_operand.2.2.1 94 = .ok (.ireturn, 1) := by decide +kernel
theorem dX6_operand_95 : decode mX6_operand.2.2.1 95 = .ok (.aload_n 0, 1) := by decide +kernel
theorem dX6_operand_96 : decode mX6_operand.2.2.1 96 = .ok (.getfield 53, 3) := by decide +kernel
theorem dX6_operand_99 : decode mX6_operand.2.2.1 99 = .ok (.ireturn, 1) := by decide +kernel
theorem dX6_operand_100 : decode mX6_operand.2.2.1 100 = .ok (.aload_n 0, 1) := by decide +kernel
theorem dX6_operand_101 : decode mX6_operand.2.2.1 101 = .ok (.getfield 38, 3) := by decide +kernel
theorem dX6_operand_104 : decode mX6_operand.2.2.1 104 = .ok (.ireturn, 1) := by decide +kernel
theorem dX6_operand_105 : decode mX6_operand.2.2.1 105 = .ok (.aload_n 0, 1) := by decide +kernel
theorem dX6_operand_106 : decode mX6_operand.2.2.1 106 = .ok (.getfield 47, 3) := by decide +kernel
theorem dX6_operand_109 : decode mX6_operand.2.2.1 109 = .ok (.ireturn, 1) := by decide +kernel
theorem dX6_operand_110 : decode mX6_operand.2.2.1 110 = .ok (.iload_n 1, 1) := by decide +kernel
theorem dX6_operand_111 : decode mX6_operand.2.2.1 111 = .ok (.sipush 1000, 3) := by decide +kernel
theorem dX6_operand_114 : decode mX6_operand.2.2.1 114 = .ok (.isub, 1) := by decide +kernel
theorem dX6_operand_115 : decode mX6_operand.2.2.1 115 = .ok (.ireturn, 1) := by decide +kernel
set_option maxHeartbeats 100000 in
theorem kX6_operand_0 {d : Nat} {F : am_FT} {L : am_LT} {Q : am_QT} {l0 : Option Value} {x1 : Int32} : wt am_S0 d mX6_operand 0 [l0, some (.int x1)] [] F L Q = if x1 = 104 then wt am_S0 d mX6_operand 85 [l0, some (.int x1)] [] F L Q else if x1 = 105 then wt am_S0 d mX6_operand 110 [l0, some (.int x1)] [] F L Q else if x1 = 106 then wt am_S0 d mX6_operand 110 [l0, some (.int x1)] [] F L Q else if x1 = 107 then wt am_S0 d mX6_operand 110 [l0, some (.int x1)] [] F L Q else if x1 = 108 then wt am_S0 d mX6_operand 110 [l0, some (.int x1)] [] F L Q else if x1 = 109 then wt am_S0 d mX6_operand 90 [l0, some (.int x1)] [] F L Q else if x1 = 110 then wt am_S0 d mX6_operand 95 [l0, some (.int x1)] [] F L Q else if x1 = 111 then wt am_S0 d mX6_operand 110 [l0, some (.int x1)] [] F L Q else if x1 = 112 then wt am_S0 d mX6_operand 105 [l0, some (.int x1)] [] F L Q else if x1 = 113 then wt am_S0 d mX6_operand 110 [l0, some (.int x1)] [] F L Q else if x1 = 114 then wt am_S0 d mX6_operand 110 [l0, some (.int x1)] [] F L Q else if x1 = 115 then wt am_S0 d mX6_operand 110 [l0, some (.int x1)] [] F L Q else if x1 = 116 then wt am_S0 d mX6_operand 100 [l0, some (.int x1)] [] F L Q else if x1 = 117 then wt am_S0 d mX6_operand 110 [l0, some (.int x1)] [] F L Q else if x1 = 118 then wt am_S0 d mX6_operand 110 [l0, some (.int x1)] [] F L Q else if x1 = 119 then wt am_S0 d mX6_operand 80 [l0, some (.int x1)] [] F L Q else wt am_S0 d mX6_operand 110 [l0, some (.int x1)] [] F L Q := by
  rw [wt_iload_n dX6_operand_0 rfl]
  by_cases g0 : x1 = 104
  · rw [if_pos g0, g0]
    exact wt_tableI dX6_operand_1 (by decide) (off := 84) rfl (t := 85) rfl
  rw [if_neg g0]
  by_cases g1 : x1 = 105
  · rw [if_pos g1, g1]
    exact wt_tableI dX6_operand_1 (by decide) (off := 109) rfl (t := 110) rfl
  rw [if_neg g1]
  by_cases g2 : x1 = 106
  · rw [if_pos g2, g2]
    exact wt_tableI dX6_operand_1 (by decide) (off := 109) rfl (t := 110) rfl
  rw [if_neg g2]
  by_cases g3 : x1 = 107
  · rw [if_pos g3, g3]
    exact wt_tableI dX6_operand_1 (by decide) (off := 109) rfl (t := 110) rfl
  rw [if_neg g3]
  by_cases g4 : x1 = 108
  · rw [if_pos g4, g4]
    exact wt_tableI dX6_operand_1 (by decide) (off := 109) rfl (t := 110) rfl
  rw [if_neg g4]
  by_cases g5 : x1 = 109
  · rw [if_pos g5, g5]
    exact wt_tableI dX6_operand_1 (by decide) (off := 89) rfl (t := 90) rfl
  rw [if_neg g5]
  by_cases g6 : x1 = 110
  · rw [if_pos g6, g6]
    exact wt_tableI dX6_operand_1 (by decide) (off := 94) rfl (t := 95) rfl
  rw [if_neg g6]
  by_cases g7 : x1 = 111
  · rw [if_pos g7, g7]
    exact wt_tableI dX6_operand_1 (by decide) (off := 109) rfl (t := 110) rfl
  rw [if_neg g7]
  by_cases g8 : x1 = 112
  · rw [if_pos g8, g8]
    exact wt_tableI dX6_operand_1 (by decide) (off := 104) rfl (t := 105) rfl
  rw [if_neg g8]
  by_cases g9 : x1 = 113
  · rw [if_pos g9, g9]
    exact wt_tableI dX6_operand_1 (by decide) (off := 109) rfl (t := 110) rfl
  rw [if_neg g9]
  by_cases g10 : x1 = 114
  · rw [if_pos g10, g10]
    exact wt_tableI dX6_operand_1 (by decide) (off := 109) rfl (t := 110) rfl
  rw [if_neg g10]
  by_cases g11 : x1 = 115
  · rw [if_pos g11, g11]
    exact wt_tableI dX6_operand_1 (by decide) (off := 109) rfl (t := 110) rfl
  rw [if_neg g11]
  by_cases g12 : x1 = 116
  · rw [if_pos g12, g12]
    exact wt_tableI dX6_operand_1 (by decide) (off := 99) rfl (t := 100) rfl
  rw [if_neg g12]
  by_cases g13 : x1 = 117
  · rw [if_pos g13, g13]
    exact wt_tableI dX6_operand_1 (by decide) (off := 109) rfl (t := 110) rfl
  rw [if_neg g13]
  by_cases g14 : x1 = 118
  · rw [if_pos g14, g14]
    exact wt_tableI dX6_operand_1 (by decide) (off := 109) rfl (t := 110) rfl
  rw [if_neg g14]
  by_cases g15 : x1 = 119
  · rw [if_pos g15, g15]
    exact wt_tableI dX6_operand_1 (by decide) (off := 79) rfl (t := 80) rfl
  rw [if_neg g15]
  have i0 : ¬ ((x1 : Int32)).toInt = 104 := fun z => g0 (Int32.toInt_inj.mp (z.trans (by decide)))
  have i1 : ¬ ((x1 : Int32)).toInt = 105 := fun z => g1 (Int32.toInt_inj.mp (z.trans (by decide)))
  have i2 : ¬ ((x1 : Int32)).toInt = 106 := fun z => g2 (Int32.toInt_inj.mp (z.trans (by decide)))
  have i3 : ¬ ((x1 : Int32)).toInt = 107 := fun z => g3 (Int32.toInt_inj.mp (z.trans (by decide)))
  have i4 : ¬ ((x1 : Int32)).toInt = 108 := fun z => g4 (Int32.toInt_inj.mp (z.trans (by decide)))
  have i5 : ¬ ((x1 : Int32)).toInt = 109 := fun z => g5 (Int32.toInt_inj.mp (z.trans (by decide)))
  have i6 : ¬ ((x1 : Int32)).toInt = 110 := fun z => g6 (Int32.toInt_inj.mp (z.trans (by decide)))
  have i7 : ¬ ((x1 : Int32)).toInt = 111 := fun z => g7 (Int32.toInt_inj.mp (z.trans (by decide)))
  have i8 : ¬ ((x1 : Int32)).toInt = 112 := fun z => g8 (Int32.toInt_inj.mp (z.trans (by decide)))
  have i9 : ¬ ((x1 : Int32)).toInt = 113 := fun z => g9 (Int32.toInt_inj.mp (z.trans (by decide)))
  have i10 : ¬ ((x1 : Int32)).toInt = 114 := fun z => g10 (Int32.toInt_inj.mp (z.trans (by decide)))
  have i11 : ¬ ((x1 : Int32)).toInt = 115 := fun z => g11 (Int32.toInt_inj.mp (z.trans (by decide)))
  have i12 : ¬ ((x1 : Int32)).toInt = 116 := fun z => g12 (Int32.toInt_inj.mp (z.trans (by decide)))
  have i13 : ¬ ((x1 : Int32)).toInt = 117 := fun z => g13 (Int32.toInt_inj.mp (z.trans (by decide)))
  have i14 : ¬ ((x1 : Int32)).toInt = 118 := fun z => g14 (Int32.toInt_inj.mp (z.trans (by decide)))
  have i15 : ¬ ((x1 : Int32)).toInt = 119 := fun z => g15 (Int32.toInt_inj.mp (z.trans (by decide)))
  exact wt_tableO dX6_operand_1 (by omega) (t := 110) rfl
set_option maxHeartbeats 100000 in
theorem kX6_operand_80 {d : Nat} {F : am_FT} {L : am_LT} {Q : am_QT} {l1 : Option Value} : wt am_S0 d mX6_operand 80 [some (.ref 6), l1] [] F L Q = Q (some (.int (F 6 3))) F L := (wt_aload_n dX6_operand_80 rfl rfl).trans ((wt_getfield dX6_operand_81 rfl rfl (v := .int (F 6 3)) rfl).trans (wt_ireturn dX6_operand_84 rfl rfl))
set_option maxHeartbeats 100000 in
theorem kX6_operand_85 {d : Nat} {F : am_FT} {L : am_LT} {Q : am_QT} {l1 : Option Value} : wt am_S0 d mX6_operand 85 [some (.ref 6), l1] [] F L Q = Q (some (.int (F 6 4))) F L := (wt_aload_n dX6_operand_85 rfl rfl).trans ((wt_getfield dX6_operand_86 rfl rfl (v := .int (F 6 4)) rfl).trans (wt_ireturn dX6_operand_89 rfl rfl))
set_option maxHeartbeats 100000 in
theorem kX6_operand_90 {d : Nat} {F : am_FT} {L : am_LT} {Q : am_QT} {l1 : Option Value} : wt am_S0 d mX6_operand 90 [some (.ref 6), l1] [] F L Q = Q (some (.int (F 6 5))) F L := (wt_aload_n dX6_operand_90 rfl rfl).trans ((wt_getfield dX6_operand_91 rfl rfl (v := .int (F 6 5)) rfl).trans (wt_ireturn dX6_operand_94 rfl rfl))
set_option maxHeartbeats 100000 in
theorem kX6_operand_95 {d : Nat} {F : am_FT} {L : am_LT} {Q : am_QT} {l1 : Option Value} : wt am_S0 d mX6_operand 95 [some (.ref 6), l1] [] F L Q = Q (some (.int (F 6 6))) F L := (wt_aload_n dX6_operand_95 rfl rfl).trans ((wt_getfield dX6_operand_96 rfl rfl (v := .int (F 6 6)) rfl).trans (wt_ireturn dX6_operand_99 rfl rfl))
set_option maxHeartbeats 100000 in
theorem kX6_operand_100 {d : Nat} {F : am_FT} {L : am_LT} {Q : am_QT} {l1 : Option Value} : wt am_S0 d mX6_operand 100 [some (.ref 6), l1] [] F L Q = Q (some (.int (F 6 7))) F L := (wt_aload_n dX6_operand_100 rfl rfl).trans ((wt_getfield dX6_operand_101 rfl rfl (v := .int (F 6 7)) rfl).trans (wt_ireturn dX6_operand_104 rfl rfl))
set_option maxHeartbeats 100000 in
theorem kX6_operand_105 {d : Nat} {F : am_FT} {L : am_LT} {Q : am_QT} {l1 : Option Value} : wt am_S0 d mX6_operand 105 [some (.ref 6), l1] [] F L Q = Q (some (.int (F 6 8))) F L := (wt_aload_n dX6_operand_105 rfl rfl).trans ((wt_getfield dX6_operand_106 rfl rfl (v := .int (F 6 8)) rfl).trans (wt_ireturn dX6_operand_109 rfl rfl))
set_option maxHeartbeats 100000 in
theorem kX6_operand_110 {d : Nat} {F : am_FT} {L : am_LT} {Q : am_QT} {l0 : Option Value} {x1 : Int32} : wt am_S0 d mX6_operand 110 [l0, some (.int x1)] [] F L Q = Q (some (.int (x1 - 1000))) F L := (wt_iload_n dX6_operand_110 rfl).trans ((wt_sipush dX6_operand_111 (v := 1000) (by decide)).trans ((wt_isub dX6_operand_114).trans (wt_ireturn dX6_operand_115 rfl rfl)))
