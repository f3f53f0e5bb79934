theorem dJ6_bitCount_0f7a4_0 : decode mJ6_bitCount_0f7a4.2.2.1 0 = .ok (.iload_n 0, 1) := by decide +kernel
theorem dJ6_bitCount_0f7a4_1 : decode mJ6_bitCount_0f7a4.2.2.1 1 = .ok (.iload_n 0, 1) := by decide +kernel
theorem dJ6_bitCount_0f7a4_2 : decode mJ6_bitCount_0f7a4.2.2.1 2 = .ok (.iconst 1, 1) := by decide +kernel
theorem dJ6_bitCount_0f7a4_3 : decode mJ6_bitCount_0f7a4.2.2.1 3 = .ok (.iushr, 1) := by decide +kernel
theorem dJ6_bitCount_0f7a4_4 : decode mJ6_bitCount_0f7a4.2.2.1 4 = .ok (.ldc_w 265, 3) := by decide +kernel
theorem dJ6_bitCount_0f7a4_7 : decode mJ6_bitCount_0f7a4.2.2.1 7 = .ok (.iand, 1) := by decide +kernel
theorem dJ6_bitCount_0f7a4_8 : decode mJ6_bitCount_0f7a4.2.2.1 8 = .ok (.isub, 1) := by decide +kernel
theorem dJ6_bitCount_0f7a4_9 : decode mJ6_bitCount_0f7a4.2.2.1 9 = .ok (.istore_n 0, 1) := by decide +kernel
theorem dJ6_bitCount_0f7a4_10 : decode mJ6_bitCount_0f7a4.2.2.1 10 = .ok (.iload_n 0, 1) := by decide +kernel
theorem dJ6_bitCount_0f7a4_11 : decode mJ6_bitCount_0f7a4.2.2.1 11 = .ok (.ldc_w 266, 3) := by decide +kernel
theorem dJ6_bitCount_0f7a4_14 : decode mJ6_bitCount_0f7a4.2.2.1 14 = .ok (.iand, 1) := by decide +kernel
theorem dJ6_bitCount_0f7a4_15 : decode mJ6_bitCount_0f7a4.2.2.1 15 = .ok (.iload_n 0, 1) := by decide +kernel
theorem dJ6_bitCount_0f7a4_16 : decode mJ6_bitCount_0f7a4.2.2.1 16 = .ok (.iconst 2, 1) := by decide +kernel
theorem dJ6_bitCount_0f7a4_17 : decode mJ6_bitCount_0f7a4.2.2.1 17 = .ok (.iushr, 1) := by decide +kernel
theorem dJ6_bitCount_0f7a4_18 : decode mJ6_bitCount_0f7a4.2.2.1 18 = .ok (.ldc_w 266, 3) := by decide +kernel
theorem dJ6_bitCount_0f7a4_21 : decode mJ6_bitCount_0f7a4.2.2.1 21 = .ok (.iand, 1) := by decide +kernel
theorem dJ6_bitCount_0f7a4_22 : decode mJ6_bitCount_0f7a4.2.2.1 22 = .ok (.iadd, 1) := by decide +kernel
theorem dJ6_bitCount_0f7a4_23 : decode mJ6_bitCount_0f7a4.2.2.1 23 = .ok (.istore_n 0, 1) := by decide +kernel
theorem dJ6_bitCount_0f7a4_24 : decode mJ6_bitCount_0f7a4.2.2.1 24 = .ok (.iload_n 0, 1) := by decide +kernel
theorem dJ6_bitCount_0f7a4_25 : decode mJ6_bitCount_0f7a4.2.2.1 25 = .ok (.iload_n 0, 1) := by decide +kernel
theorem dJ6_bitCount_0f7a4_26 : decode mJ6_bitCount_0f7a4.2.2.1 26 = .ok (.iconst 4, 1) := by decide +kernel
theorem dJ6_bitCount_0f7a4_27 : decode mJ6_bitCount_0f7a4.2.2.1 27 = .ok (.iushr, 1) := by decide +kernel
theorem dJ6_bitCount_0f7a4_28 : decode mJ6_bitCount_0f7a4.2.2.1 28 = .ok (.iadd, 1) := by decide +kernel
theorem dJ6_bitCount_0f7a4_29 : decode mJ6_bitCount_0f7a4.2.2.1 29 = .ok (.ldc_w 267, 3) := by decide +kernel
theorem dJ6_bitCount_0f7a4_32 : decode mJ6_bitCount_0f7a4.2.2.1 32 = .ok (.iand, 1) := by decide +kernel
theorem dJ6_bitCount_0f7a4_33 : decode mJ6_bitCount_0f7a4.2.2.1 33 = .ok (.istore_n 0, 1) := by decide +kernel
theorem dJ6_bitCount_0f7a4_34 : decode mJ6_bitCount_0f7a4.2.2.1 34 = .ok (.iload_n 0, 1) := by decide +kernel
theorem dJ6_bitCount_0f7a4_35 : decode mJ6_bitCount_0f7a4.2.2.1 35 = .ok (.iload_n 0, 1) := by decide +kernel
theorem dJ6_bitCount_0f7a4_36 : decode mJ6_bitCount_0f7a4.2.2.1 36 = .ok (.bipush 8, 2) := by decide +kernel
theorem dJ6_bitCount_0f7a4_38 : decode mJ6_bitCount_0f7a4.2.2.1 38 = .ok (.iushr, 1) := by decide +kernel
theorem dJ6_bitCount_0f7a4_39 : decode mJ6_bitCount_0f7a4.2.2.1 39 = .ok (.iadd, 1) := by decide +kernel
theorem dJ6_bitCount_0f7a4_40 : decode mJ6_bitCount_0f7a4.2.2.1 40 = .ok (.istore_n 0, 1) := by decide +kernel
theorem dJ6_bitCount_0f7a4_41 : decode mJ6_bitCount_0f7a4.2.2.1 41 = .ok (.iload_n 0, 1) := by decide +kernel
theorem dJ6_bitCount_0f7a4_42 : decode mJ6_bitCount_0f7a4.2.2.1 42 = .ok (.iload_n 0, 1) := by decide +kernel
theorem dJ6_bitCount_0f7a4_43 : decode mJ6_bitCount_0f7a4.2.2.1 43 = .ok (.bipush 16, 2) := by decide +kernel
theorem dJ6_bitCount_0f7a4_45 : decode mJ6_bitCount_0f7a4.2.2.1 45 = .ok (.iushr, 1) := by decide +kernel
theorem dJ6_bitCount_0f7a4_46 : decode mJ6_bitCount_0f7a4.2.2.1 46 = .ok (.iadd, 1) := by decide +kernel
theorem dJ6_bitCount_0f7a4_47 : decode mJ6_bitCount_0f7a4.2.2.1 47 = .ok (.istore_n 0, 1) := by decide +kernel
theorem dJ6_bitCount_0f7a4_48 : decode mJ6_bitCount_0f7a4.2.2.1 48 = .ok (.iload_n 0, 1) := by decide +kernel
theorem dJ6_bitCount_0f7a4_49 : decode mJ6_bitCount_0f7a4.2.2.1 49 = .ok (.bipush 63, 2) := by decide +kernel
theorem dJ6_bitCount_0f7a4_51 : decode mJ6_bitCount_0f7a4.2.2.1 51 = .ok (.iand, 1) := by decide +kernel
theorem dJ6_bitCount_0f7a4_52 : decode mJ6_bitCount_0f7a4.2.2.1 52 = .ok (.ireturn, 1) := by decide +kernel
set_option maxHeartbeats 100000 in
theorem kJ6_bitCount_0f7a4_0 {d : Nat} {F : am_FT} {L : am_LT} {Q : am_QT} {x0 : Int32} : wt am_S0 d mJ6_bitCount_0f7a4 0 [some (.int x0)] [] F L Q = wt am_S0 d mJ6_bitCount_0f7a4 22 [some (.int (x0 - ((Int32.toUInt32 x0 >>> (Int32.toUInt32 1 &&& Int32.toUInt32 31)).toInt32 &&& 1431655765)))] [.int ((Int32.toUInt32 (x0 - ((Int32.toUInt32 x0 >>> (Int32.toUInt32 1 &&& Int32.toUInt32 31)).toInt32 &&& 1431655765)) >>> (Int32.toUInt32 2 &&& Int32.toUInt32 31)).toInt32 &&& 858993459), .int ((x0 - ((Int32.toUInt32 x0 >>> (Int32.toUInt32 1 &&& Int32.toUInt32 31)).toInt32 &&& 1431655765)) &&& 858993459)] F L Q := (wt_iload_n dJ6_bitCount_0f7a4_0 rfl).trans ((wt_iload_n dJ6_bitCount_0f7a4_1 rfl).trans ((wt_iconst dJ6_bitCount_0f7a4_2 (v := 1) (by decide)).trans ((wt_iushr dJ6_bitCount_0f7a4_3).trans ((wt_ldc_w dJ6_bitCount_0f7a4_4 (v := 1431655765) rfl).trans ((wt_iand dJ6_bitCount_0f7a4_7).trans ((wt_isub dJ6_bitCount_0f7a4_8).trans ((wt_istore_n dJ6_bitCount_0f7a4_9 (lv1 := [some (.int (x0 - ((Int32.toUInt32 x0 >>> (Int32.toUInt32 1 &&& Int32.toUInt32 31)).toInt32 &&& 1431655765)))]) (Nat.le_of_ble_eq_true rfl) rfl).trans ((wt_iload_n dJ6_bitCount_0f7a4_10 rfl).trans ((wt_ldc_w dJ6_bitCount_0f7a4_11 (v := 858993459) rfl).trans ((wt_iand dJ6_bitCount_0f7a4_14).trans ((wt_iload_n dJ6_bitCount_0f7a4_15 rfl).trans ((wt_iconst dJ6_bitCount_0f7a4_16 (v := 2) (by decide)).trans ((wt_iushr dJ6_bitCount_0f7a4_17).trans ((wt_ldc_w dJ6_bitCount_0f7a4_18 (v := 858993459) rfl).trans (wt_iand dJ6_bitCount_0f7a4_21)))))))))))))))
set_option maxHeartbeats 100000 in
theorem kJ6_bitCount_0f7a4_22 {d : Nat} {F : am_FT} {L : am_LT} {Q : am_QT} {l0 : Option Value} {s0 s1 : Int32} : wt am_S0 d mJ6_bitCount_0f7a4 22 [l0] [.int s1, .int s0] F L Q = wt am_S0 d mJ6_bitCount_0f7a4 41 [some (.int ((((s0 + s1) + (Int32.toUInt32 (s0 + s1) >>> (Int32.toUInt32 4 &&& Int32.toUInt32 31)).toInt32) &&& 252645135) + (Int32.toUInt32 (((s0 + s1) + (Int32.toUInt32 (s0 + s1) >>> (Int32.toUInt32 4 &&& Int32.toUInt32 31)).toInt32) &&& 252645135) >>> (Int32.toUInt32 8 &&& Int32.toUInt32 31)).toInt32))] [] F L Q := (wt_iadd dJ6_bitCount_0f7a4_22).trans ((wt_istore_n dJ6_bitCount_0f7a4_23 (lv1 := [some (.int (s0 + s1))]) (Nat.le_of_ble_eq_true rfl) rfl).trans ((wt_iload_n dJ6_bitCount_0f7a4_24 rfl).trans ((wt_iload_n dJ6_bitCount_0f7a4_25 rfl).trans ((wt_iconst dJ6_bitCount_0f7a4_26 (v := 4) (by decide)).trans ((wt_iushr dJ6_bitCount_0f7a4_27).trans ((wt_iadd dJ6_bitCount_0f7a4_28).trans ((wt_ldc_w dJ6_bitCount_0f7a4_29 (v := 252645135) rfl).trans ((wt_iand dJ6_bitCount_0f7a4_32).trans ((wt_istore_n dJ6_bitCount_0f7a4_33 (lv1 := [some (.int (((s0 + s1) + (Int32.toUInt32 (s0 + s1) >>> (Int32.toUInt32 4 &&& Int32.toUInt32 31)).toInt32) &&& 252645135))]) (Nat.le_of_ble_eq_true rfl) rfl).trans ((wt_iload_n dJ6_bitCount_0f7a4_34 rfl).trans ((wt_iload_n dJ6_bitCount_0f7a4_35 rfl).trans ((wt_bipush dJ6_bitCount_0f7a4_36 (v := 8) (by decide)).trans ((wt_iushr dJ6_bitCount_0f7a4_38).trans ((wt_iadd dJ6_bitCount_0f7a4_39).trans (wt_istore_n dJ6_bitCount_0f7a4_40 (lv1 := [some (.int ((((s0 + s1) + (Int32.toUInt32 (s0 + s1) >>> (Int32.toUInt32 4 &&& Int32.toUInt32 31)).toInt32) &&& 252645135) + (Int32.toUInt32 (((s0 + s1) + (Int32.toUInt32 (s0 + s1) >>> (Int32.toUInt32 4 &&& Int32.toUInt32 31)).toInt32) &&& 252645135) >>> (Int32.toUInt32 8 &&& Int32.toUInt32 31)).toInt32))]) (Nat.le_of_ble_eq_true rfl) rfl)))))))))))))))
set_option maxHeartbeats 100000 in
theorem kJ6_bitCount_0f7a4_41 {d : Nat} {F : am_FT} {L : am_LT} {Q : am_QT} {x0 : Int32} : wt am_S0 d mJ6_bitCount_0f7a4 41 [some (.int x0)] [] F L Q = Q (some (.int ((x0 + (Int32.toUInt32 x0 >>> (Int32.toUInt32 16 &&& Int32.toUInt32 31)).toInt32) &&& 63))) F L := (wt_iload_n dJ6_bitCount_0f7a4_41 rfl).trans ((wt_iload_n dJ6_bitCount_0f7a4_42 rfl).trans ((wt_bipush dJ6_bitCount_0f7a4_43 (v := 16) (by decide)).trans ((wt_iushr dJ6_bitCount_0f7a4_45).trans ((wt_iadd dJ6_bitCount_0f7a4_46).trans ((wt_istore_n dJ6_bitCount_0f7a4_47 (lv1 := [some (.int (x0 + (Int32.toUInt32 x0 >>> (Int32.toUInt32 16 &&& Int32.toUInt32 31)).toInt32))]) (Nat.le_of_ble_eq_true rfl) rfl).trans ((wt_iload_n dJ6_bitCount_0f7a4_48 rfl).trans ((wt_bipush dJ6_bitCount_0f7a4_49 (v := 63) (by decide)).trans ((wt_iand dJ6_bitCount_0f7a4_51).trans (wt_ireturn dJ6_bitCount_0f7a4_52 rfl rfl)))))))))
