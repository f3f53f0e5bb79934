theorem dX12_nameOf_0 : decode mX12_nameOf.2.2.1 0 = .ok (.iload_n 0, 1) := by decide +kernel
theorem dX12_nameOf_1 : decode mX12_nameOf.2.2.1 1 = .ok (.tableswitch 91 104 119 #[81, 91, 91, 91, 91, 83, 85, 91, 89, 91, 91, 91, 87, 91, 91, 79], 79) := by decide +kernel
theorem dX12_nameOf_80 : decode mX12_nameOf.2.2.1 80 = .ok (.iconst 0, 1) := by decide +kernel
theorem dX12_nameOf_81 : decode mX12_nameOf.2.2.1 81 = .ok (.ireturn, 1) := by decide +kernel
theorem dX12_nameOf_82 : decode mX12_nameOf.2.2.1 82 = .ok (.iconst 1, 1) := by decide +kernel
theorem dX12_nameOf_83 : decode mX12_nameOf.2.2.1 83 = .ok (.ireturn, 1) := by decide +kernel
theorem dX12_nameOf_84 : decode mX12_nameOf.2.2.1 84 = .ok (.iconst 2, 1) := by decide +kernel
theorem dX12_nameOf_85 : decode mX12_nameOf.2.2.1 85 = .ok (.ireturn, 1) := by decide +kernel
theorem dX12_nameOf_86 : decode mX12_nameOf.2.2.1 86 = .ok (.iconst 3, 1) := by decide +kernel
theorem dX12_nameOf_87 : decode mX12_nameOf.2.2.1 87 = .ok (.ireturn, 1) := by decide +kernel
theorem dX12_nameOf_88 : decode mX12_nameOf.2.2.1 88 = .ok (.iconst 4, 1) := by decide +kernel
theorem dX12_nameOf_89 : decode mX12_nameOf.2.2.1 89 = .ok (.ireturn, 1) := by decide +kernel
theorem dX12_nameOf_90 : decode mX12_nameOf.2.2.1 90 = .ok (.iconst 5, 1) := by decide +kernel
theorem dX12_nameOf_91 : decode mX12_nameOf.2.2.1 91 = .ok (.ireturn, 1) := by decide +kernel
theorem dX12_nameOf_92 : decode mX12_nameOf.2.2.1 92 = .ok (.iconst (-1), 1) := by decide +kernel
theorem dX12_nameOf_93 : decode mX12_nameOf.2.2.1 93 = .ok (.ireturn, 1) := by decide +kernel
set_option maxHeartbeats 100000 in
theorem kX12_nameOf_0 {d : Nat} {F : am_FT} {L : am_LT} {Q : am_QT} {x0 : Int32} : wt am_S0 d mX12_nameOf 0 [some (.int x0)] [] F L Q = if x0 = 104 then wt am_S0 d mX12_nameOf 82 [some (.int x0)] [] F L Q else if x0 = 105 then wt am_S0 d mX12_nameOf 92 [some (.int x0)] [] F L Q else if x0 = 106 then wt am_S0 d mX12_nameOf 92 [some (.int x0)] [] F L Q else if x0 = 107 then wt am_S0 d mX12_nameOf 92 [some (.int x0)] [] F L Q else if x0 = 108 then wt am_S0 d mX12_nameOf 92 [some (.int x0)] [] F L Q else if x0 = 109 then wt am_S0 d mX12_nameOf 84 [some (.int x0)] [] F L Q else if x0 = 110 then wt am_S0 d mX12_nameOf 86 [some (.int x0)] [] F L Q else if x0 = 111 then wt am_S0 d mX12_nameOf 92 [some (.int x0)] [] F L Q else if x0 = 112 then wt am_S0 d mX12_nameOf 90 [some (.int x0)] [] F L Q else if x0 = 113 then wt am_S0 d mX12_nameOf 92 [some (.int x0)] [] F L Q else if x0 = 114 then wt am_S0 d mX12_nameOf 92 [some (.int x0)] [] F L Q else if x0 = 115 then wt am_S0 d mX12_nameOf 92 [some (.int x0)] [] F L Q else if x0 = 116 then wt am_S0 d mX12_nameOf 88 [some (.int x0)] [] F L Q else if x0 = 117 then wt am_S0 d mX12_nameOf 92 [some (.int x0)] [] F L Q else if x0 = 118 then wt am_S0 d mX12_nameOf 92 [some (.int x0)] [] F L Q else if x0 = 119 then wt am_S0 d mX12_nameOf 80 [some (.int x0)] [] F L Q else wt am_S0 d mX12_nameOf 92 [some (.int x0)] [] F L Q := by
  rw [wt_iload_n dX12_nameOf_0 rfl]
  by_cases g0 : x0 = 104
  · rw [if_pos g0, g0]
    exact wt_tableI dX12_nameOf_1 (by decide) (off := 81) rfl (t := 82) rfl
  rw [if_neg g0]
  by_cases g1 : x0 = 105
  · rw [if_pos g1, g1]
    exact wt_tableI dX12_nameOf_1 (by decide) (off := 91) rfl (t := 92) rfl
  rw [if_neg g1]
  by_cases g2 : x0 = 106
  · rw [if_pos g2, g2]
    exact wt_tableI dX12_nameOf_1 (by decide) (off := 91) rfl (t := 92) rfl
  rw [if_neg g2]
  by_cases g3 : x0 = 107
  · rw [if_pos g3, g3]
    exact wt_tableI dX12_nameOf_1 (by decide) (off := 91) rfl (t := 92) rfl
  rw [if_neg g3]
  by_cases g4 : x0 = 108
  · rw [if_pos g4, g4]
    exact wt_tableI dX12_nameOf_1 (by decide) (off := 91) rfl (t := 92) rfl
  rw [if_neg g4]
  by_cases g5 : x0 = 109
  · rw [if_pos g5, g5]
    exact wt_tableI dX12_nameOf_1 (by decide) (off := 83) rfl (t := 84) rfl
  rw [if_neg g5]
  by_cases g6 : x0 = 110
  · rw [if_pos g6, g6]
    exact wt_tableI dX12_nameOf_1 (by decide) (off := 85) rfl (t := 86) rfl
  rw [if_neg g6]
  by_cases g7 : x0 = 111
  · rw [if_pos g7, g7]
    exact wt_tableI dX12_nameOf_1 (by decide) (off := 91) rfl (t := 92) rfl
  rw [if_neg g7]
  by_cases g8 : x0 = 112
  · rw [if_pos g8, g8]
    exact wt_tableI dX12_nameOf_1 (by decide) (off := 89) rfl (t := 90) rfl
  rw [if_neg g8]
  by_cases g9 : x0 = 113
  · rw [if_pos g9, g9]
    exact wt_tableI dX12_nameOf_1 (by decide) (off := 91) rfl (t := 92) rfl
  rw [if_neg g9]
  by_cases g10 : x0 = 114
  · rw [if_pos g10, g10]
    exact wt_tableI dX12_nameOf_1 (by decide) (off := 91) rfl (t := 92) rfl
  rw [if_neg g10]
  by_cases g11 : x0 = 115
  · rw [if_pos g11, g11]
    exact wt_tableI dX12_nameOf_1 (by decide) (off := 91) rfl (t := 92) rfl
  rw [if_neg g11]
  by_cases g12 : x0 = 116
  · rw [if_pos g12, g12]
    exact wt_tableI dX12_nameOf_1 (by decide) (off := 87) rfl (t := 88) rfl
  rw [if_neg g12]
  by_cases g13 : x0 = 117
  · rw [if_pos g13, g13]
    exact wt_tableI dX12_nameOf_1 (by decide) (off := 91) rfl (t := 92) rfl
  rw [if_neg g13]
  by_cases g14 : x0 = 118
  · rw [if_pos g14, g14]
    exact wt_tableI dX12_nameOf_1 (by decide) (off := 91) rfl (t := 92) rfl
  rw [if_neg g14]
  by_cases g15 : x0 = 119
  · rw [if_pos g15, g15]
    exact wt_tableI dX12_nameOf_1 (by decide) (off := 79) rfl (t := 80) rfl
  rw [if_neg g15]
  have i0 : ¬ ((x0 : Int32)).toInt = 104 := fun z => g0 (Int32.toInt_inj.mp (z.trans (by decide)))
  have i1 : ¬ ((x0 : Int32)).toInt = 105 := fun z => g1 (Int32.toInt_inj.mp (z.trans (by decide)))
  have i2 : ¬ ((x0 : Int32)).toInt = 106 := fun z => g2 (Int32.toInt_inj.mp (z.trans (by decide)))
  have i3 : ¬ ((x0 : Int32)).toInt = 107 := fun z => g3 (Int32.toInt_inj.mp (z.trans (by decide)))
  have i4 : ¬ ((x0 : Int32)).toInt = 108 := fun z => g4 (Int32.toInt_inj.mp (z.trans (by decide)))
  have i5 : ¬ ((x0 : Int32)).toInt = 109 := fun z => g5 (Int32.toInt_inj.mp (z.trans (by decide)))
  have i6 : ¬ ((x0 : Int32)).toInt = 110 := fun z => g6 (Int32.toInt_inj.mp (z.trans (by decide)))
  have i7 : ¬ ((x0 : Int32)).toInt = 111 := fun z => g7 (Int32.toInt_inj.mp (z.trans (by decide)))
  have i8 : ¬ ((x0 : Int32)).toInt = 112 := fun z => g8 (Int32.toInt_inj.mp (z.trans (by decide)))
  have i9 : ¬ ((x0 : Int32)).toInt = 113 := fun z => g9 (Int32.toInt_inj.mp (z.trans (by decide)))
  have i10 : ¬ ((x0 : Int32)).toInt = 114 := fun z => g10 (Int32.toInt_inj.mp (z.trans (by decide)))
  have i11 : ¬ ((x0 : Int32)).toInt = 115 := fun z => g11 (Int32.toInt_inj.mp (z.trans (by decide)))
  have i12 : ¬ ((x0 : Int32)).toInt = 116 := fun z => g12 (Int32.toInt_inj.mp (z.trans (by decide)))
  have i13 : ¬ ((x0 : Int32)).toInt = 117 := fun z => g13 (Int32.toInt_inj.mp (z.trans (by decide)))
  have i14 : ¬ ((x0 : Int32)).toInt = 118 := fun z => g14 (Int32.toInt_inj.mp (z.trans (by decide)))
  have i15 : ¬ ((x0 : Int32)).toInt = 119 := fun z => g15 (Int32.toInt_inj.mp (z.trans (by decide)))
  exact wt_tableO dX12_nameOf_1 (by omega) (t := 92) rfl
set_option maxHeartbeats 100000 in
theorem kX12_nameOf_80 {d : Nat} {F : am_FT} {L : am_LT} {Q : am_QT} {l0 : Option Value} : wt am_S0 d mX12_nameOf 80 [l0] [] F L Q = Q (some (.int 0)) F L := (wt_iconst dX12_nameOf_80 (v := 0) (by decide)).trans (wt_ireturn dX12_nameOf_81 rfl rfl)
set_option maxHeartbeats 100000 in
theorem kX12_nameOf_82 {d : Nat} {F : am_FT} {L : am_LT} {Q : am_QT} {l0 : Option Value} : wt am_S0 d mX12_nameOf 82 [l0] [] F L Q = Q (some (.int 1)) F L := (wt_iconst dX12_nameOf_82 (v := 1) (by decide)).trans (wt_ireturn dX12_nameOf_83 rfl rfl)
set_option maxHeartbeats 100000 in
theorem kX12_nameOf_84 {d : Nat} {F : am_FT} {L : am_LT} {Q : am_QT} {l0 : Option Value} : wt am_S0 d mX12_nameOf 84 [l0] [] F L Q = Q (some (.int 2)) F L := (wt_iconst dX12_nameOf_84 (v := 2) (by decide)).trans (wt_ireturn dX12_nameOf_85 rfl rfl)
set_option maxHeartbeats 100000 in
theorem kX12_nameOf_86 {d : Nat} {F : am_FT} {L : am_LT} {Q : am_QT} {l0 : Option Value} : wt am_S0 d mX12_nameOf 86 [l0] [] F L Q = Q (some (.int 3)) F L := (wt_iconst dX12_nameOf_86 (v := 3) (by decide)).trans (wt_ireturn dX12_nameOf_87 rfl rfl)
set_option maxHeartbeats 100000 in
theorem kX12_nameOf_88 {d : Nat} {F : am_FT} {L : am_LT} {Q : am_QT} {l0 : Option Value} : wt am_S0 d mX12_nameOf 88 [l0] [] F L Q = Q (some (.int 4)) F L := (wt_iconst dX12_nameOf_88 (v := 4) (by decide)).trans (wt_ireturn dX12_nameOf_89 rfl rfl)
set_option maxHeartbeats 100000 in
theorem kX12_nameOf_90 {d : Nat} {F : am_FT} {L : am_LT} {Q : am_QT} {l0 : Option Value} : wt am_S0 d mX12_nameOf 90 [l0] [] F L Q = Q (some (.int 5)) F L := (wt_iconst dX12_nameOf_90 (v := 5) (by decide)).trans (wt_ireturn dX12_nameOf_91 rfl rfl)
set_option maxHeartbeats 100000 in
theorem kX12_nameOf_92 {d : Nat} {F : am_FT} {L : am_LT} {Q : am_QT} {l0 : Option Value} : wt am_S0 d mX12_nameOf 92 [l0] [] F L Q = Q (some (.int (-1))) F L := (wt_iconst dX12_nameOf_92 (v := (-1)) (by decide)).trans (wt_ireturn dX12_nameOf_93 rfl rfl)
theorem dX12_shade_0 : decode mX12_shade.2.2.1 0 = .ok (.aload_n 0, 1) := by decide +kernel
theorem dX12_shade_1 : decode mX12_shade.2.2.1 1 = .ok (.iload_n 1, 1) := by decide +kernel
theorem dX12_shade_2 : decode mX12_shade.2.2.1 2 = .ok (.invokevirtual 212, 3) := by decide +kernel
theorem dX12_shade_5 : decode mX12_shade.2.2.1 5 = .ok (.ifCond .eq 18, 3) := by decide +kernel
theorem dX12_shade_8 : decode mX12_shade.2.2.1 8 = .ok (.aload_n 0, 1) := by decide +kernel
theorem dX12_shade_9 : decode mX12_shade.2.2.1 9 = .ok (.iload_n 1, 1) := by decide +kernel
theorem dX12_shade_10 : decode mX12_shade.2.2.1 10 = .ok (.bipush 100, 2) := by decide +kernel
theorem dX12_shade_12 : decode mX12_shade.2.2.1 12 = .ok (.idiv, 1) := by decide +kernel
theorem dX12_shade_13 : decode mX12_shade.2.2.1 13 = .ok (.iload_n 1, 1) := by decide +kernel
theorem dX12_shade_14 : decode mX12_shade.2.2.1 14 = .ok (.bipush 100, 2) := by decide +kernel
theorem dX12_shade_16 : decode mX12_shade.2.2.1 16 = .ok (.irem, 1) := by decide +kernel
theorem dX12_shade_17 : decode mX12_shade.2.2.1 17 = .ok (.invokevirtual 215, 3) := by decide +kernel
theorem dX12_shade_20 : decode mX12_shade.2.2.1 20 = .ok (.goto 4, 3) := by decide +kernel
theorem dX12_shade_23 : decode mX12_shade.2.2.1 23 = .ok (.iconst (-1), 1) := by decide +kernel
theorem dX12_shade_24 : decode mX12_shade.2.2.1 24 = .ok (.ireturn, 1) := by decide +kernel
set_option maxHeartbeats 100000 in
theorem kX12_shade_0 {d : Nat} {F : am_FT} {L : am_LT} {Q : am_QT} {x1 : Int32} : wt am_S0 (d + 1) mX12_shade 0 [some (.ref 45), some (.int x1)] [] F L Q = wc am_S0 d mX12_isTm [.ref 45, .int x1] F L (fun r G K => wt am_S0 (d + 1) mX12_shade 5 [some (.ref 45), some (.int x1)] (r.toList ++ []) G K Q) := (wt_aload_n dX12_shade_0 rfl rfl).trans ((wt_iload_n dX12_shade_1 rfl).trans (wt_callV dX12_shade_2 rfl (as := [.int x1]) (rest := []) rfl rfl (Nat.le_of_ble_eq_true rfl) rfl (Nat.le_of_ble_eq_true rfl)))
set_option maxHeartbeats 100000 in
theorem kX12_shade_5 {d : Nat} {F : am_FT} {L : am_LT} {Q : am_QT} {l0 l1 : Option Value} {s0 : Int32} : wt am_S0 d mX12_shade 5 [l0, l1] [.int s0] F L Q = if s0 = 0 then wt am_S0 d mX12_shade 23 [l0, l1] [] F L Q else wt am_S0 d mX12_shade 8 [l0, l1] [] F L Q := wt_ifCond_eq dX12_shade_5 (t := 23) rfl
set_option maxHeartbeats 100000 in
theorem kX12_shade_8 {d : Nat} {F : am_FT} {L : am_LT} {Q : am_QT} {x1 : Int32} : wt am_S0 (d + 1) mX12_shade 8 [some (.ref 45), some (.int x1)] [] F L Q = wc am_S0 d mX12_sittersNow [.ref 45, .int (x1 / 100), .int (x1 - x1 / 100 * 100)] F L (fun r G K => wt am_S0 (d + 1) mX12_shade 20 [some (.ref 45), some (.int x1)] (r.toList ++ []) G K Q) := (wt_aload_n dX12_shade_8 rfl rfl).trans ((wt_iload_n dX12_shade_9 rfl).trans ((wt_bipush dX12_shade_10 (v := 100) (by decide)).trans ((wt_idiv dX12_shade_12 (by decide)).trans ((wt_iload_n dX12_shade_13 rfl).trans ((wt_bipush dX12_shade_14 (v := 100) (by decide)).trans ((wt_irem dX12_shade_16 (by decide)).trans (wt_callV dX12_shade_17 rfl (as := [.int (x1 / 100), .int (x1 - x1 / 100 * 100)]) (rest := []) rfl rfl (Nat.le_of_ble_eq_true rfl) rfl (Nat.le_of_ble_eq_true rfl))))))))
set_option maxHeartbeats 100000 in
theorem kX12_shade_20 {d : Nat} {F : am_FT} {L : am_LT} {Q : am_QT} {l0 l1 : Option Value} {s0 : Int32} : wt am_S0 d mX12_shade 20 [l0, l1] [.int s0] F L Q = wt am_S0 d mX12_shade 24 [l0, l1] [.int s0] F L Q := wt_goto dX12_shade_20 (t := 24) rfl
set_option maxHeartbeats 100000 in
theorem kX12_shade_23 {d : Nat} {F : am_FT} {L : am_LT} {Q : am_QT} {l0 l1 : Option Value} : wt am_S0 d mX12_shade 23 [l0, l1] [] F L Q = wt am_S0 d mX12_shade 24 [l0, l1] [.int (-1)] F L Q := wt_iconst dX12_shade_23 (v := (-1)) (by decide)
set_option maxHeartbeats 100000 in
theorem kX12_shade_24 {d : Nat} {F : am_FT} {L : am_LT} {Q : am_QT} {l0 l1 : Option Value} {s0 : Int32} : wt am_S0 d mX12_shade 24 [l0, l1] [.int s0] F L Q = Q (some (.int s0)) F L := wt_ireturn dX12_shade_24 rfl rfl
theorem dX12_isTm_0 : decode mX12_isTm.2.2.1 0 = .ok (.iload_n 1, 1) := by decide +kernel
theorem dX12_isTm_1 : decode mX12_isTm.2.2.1 1 = .ok (.ifCond .lt 30, 3) := by decide +kernel
theorem dX12_isTm_4 : decode mX12_isTm.2.2.1 4 = .ok (.aload_n 0, 1) := by decide +kernel
theorem dX12_isTm_5 : decode mX12_isTm.2.2.1 5 = .ok (.iload_n 1, 1) := by decide +kernel
theorem dX12_isTm_6 : decode mX12_isTm.2.2.1 6 = .ok (.bipush 100, 2) := by decide +kernel
theorem dX12_isTm_8 : decode mX12_isTm.2.2.1 8 = .ok (.idiv, 1) := by decide +kernel
theorem dX12_isTm_9 : decode mX12_isTm.2.2.1 9 = .ok (.i2l, 1) := by decide +kernel
theorem dX12_isTm_10 : decode mX12_isTm.2.2.1 10 = .ok (.invokevirtual 86, 3) := by decide +kernel
theorem dX12_isTm_13 : decode mX12_isTm.2.2.1 13 = .ok (.ifCond .eq 18, 3) := by decide +kernel
theorem dX12_isTm_16 : decode mX12_isTm.2.2.1 16 = .ok (.iload_n 1, 1) := by decide +kernel
theorem dX12_isTm_17 : decode mX12_isTm.2.2.1 17 = .ok (.bipush 100, 2) := by decide +kernel
theorem dX12_isTm_19 : decode mX12_isTm.2.2.1 19 = .ok (.irem, 1) := by decide +kernel
theorem dX12_isTm_20 : decode mX12_isTm.2.2.1 20 = .ok (.i2l, 1) := by decide +kernel
theorem dX12_isTm_21 : decode mX12_isTm.2.2.1 21 = .ok (.invokestatic 90, 3) := by decide +kernel
theorem dX12_isTm_24 : decode mX12_isTm.2.2.1 24 = .ok (.ifCond .eq 7, 3) := by decide +kernel
theorem dX12_isTm_27 : decode mX12_isTm.2.2.1 27 = .ok (.iconst 1, 1) := by decide +kernel
theorem dX12_isTm_28 : decode mX12_isTm.2.2.1 28 = .ok (.goto 4, 3) := by decide +kernel
theorem dX12_isTm_31 : decode mX12_isTm.2.2.1 31 = .ok (.iconst 0, 1) := by decide +kernel
theorem dX12_isTm_32 : decode mX12_isTm.2.2.1 32 = .ok (.ireturn, 1) := by decide +kernel
set_option maxHeartbeats 100000 in
theorem kX12_isTm_0 {d : Nat} {F : am_FT} {L : am_LT} {Q : am_QT} {l0 : Option Value} {x1 : Int32} : wt am_S0 d mX12_isTm 0 [l0, some (.int x1)] [] F L Q = if x1 < 0 then wt am_S0 d mX12_isTm 31 [l0, some (.int x1)] [] F L Q else wt am_S0 d mX12_isTm 4 [l0, some (.int x1)] [] F L Q := (wt_iload_n dX12_isTm_0 rfl).trans (wt_ifCond_lt dX12_isTm_1 (t := 31) rfl)
set_option maxHeartbeats 100000 in
theorem kX12_isTm_4 {d : Nat} {F : am_FT} {L : am_LT} {Q : am_QT} {x1 : Int32} : wt am_S0 (d + 1) mX12_isTm 4 [some (.ref 45), some (.int x1)] [] F L Q = wc am_S0 d mX12_isTree [.ref 45, .long (Int32.toInt64 (x1 / 100))] F L (fun r G K => wt am_S0 (d + 1) mX12_isTm 13 [some (.ref 45), some (.int x1)] (r.toList ++ []) G K Q) := (wt_aload_n dX12_isTm_4 rfl rfl).trans ((wt_iload_n dX12_isTm_5 rfl).trans ((wt_bipush dX12_isTm_6 (v := 100) (by decide)).trans ((wt_idiv dX12_isTm_8 (by decide)).trans ((wt_i2l dX12_isTm_9).trans (wt_callV dX12_isTm_10 rfl (as := [.long (Int32.toInt64 (x1 / 100))]) (rest := []) rfl rfl (Nat.le_of_ble_eq_true rfl) rfl (Nat.le_of_ble_eq_true rfl))))))
set_option maxHeartbeats 100000 in
theorem kX12_isTm_13 {d : Nat} {F : am_FT} {L : am_LT} {Q : am_QT} {l0 l1 : Option Value} {s0 : Int32} : wt am_S0 d mX12_isTm 13 [l0, l1] [.int s0] F L Q = if s0 = 0 then wt am_S0 d mX12_isTm 31 [l0, l1] [] F L Q else wt am_S0 d mX12_isTm 16 [l0, l1] [] F L Q := wt_ifCond_eq dX12_isTm_13 (t := 31) rfl
set_option maxHeartbeats 100000 in
theorem kX12_isTm_16 {d : Nat} {F : am_FT} {L : am_LT} {Q : am_QT} {l0 : Option Value} {x1 : Int32} : wt am_S0 (d + 1) mX12_isTm 16 [l0, some (.int x1)] [] F L Q = wc am_S0 d mX12_isMonth [.long (Int32.toInt64 (x1 - x1 / 100 * 100))] F L (fun r G K => wt am_S0 (d + 1) mX12_isTm 24 [l0, some (.int x1)] (r.toList ++ []) G K Q) := (wt_iload_n dX12_isTm_16 rfl).trans ((wt_bipush dX12_isTm_17 (v := 100) (by decide)).trans ((wt_irem dX12_isTm_19 (by decide)).trans ((wt_i2l dX12_isTm_20).trans (wt_callS dX12_isTm_21 rfl (as := [.long (Int32.toInt64 (x1 - x1 / 100 * 100))]) (rest := []) rfl rfl (Nat.le_of_ble_eq_true rfl) (Nat.le_of_ble_eq_true rfl)))))
set_option maxHeartbeats 100000 in
theorem kX12_isTm_24 {d : Nat} {F : am_FT} {L : am_LT} {Q : am_QT} {l0 l1 : Option Value} {s0 : Int32} : wt am_S0 d mX12_isTm 24 [l0, l1] [.int s0] F L Q = if s0 = 0 then wt am_S0 d mX12_isTm 31 [l0, l1] [] F L Q else wt am_S0 d mX12_isTm 27 [l0, l1] [] F L Q := wt_ifCond_eq dX12_isTm_24 (t := 31) rfl
set_option maxHeartbeats 100000 in
theorem kX12_isTm_27 {d : Nat} {F : am_FT} {L : am_LT} {Q : am_QT} {l0 l1 : Option Value} : wt am_S0 d mX12_isTm 27 [l0, l1] [] F L Q = wt am_S0 d mX12_isTm 32 [l0, l1] [.int 1] F L Q := (wt_iconst dX12_isTm_27 (v := 1) (by decide)).trans (wt_goto dX12_isTm_28 (t := 32) rfl)
set_option maxHeartbeats 100000 in
theorem kX12_isTm_31 {d : Nat} {F : am_FT} {L : am_LT} {Q : am_QT} {l0 l1 : Option Value} : wt am_S0 d mX12_isTm 31 [l0, l1] [] F L Q = wt am_S0 d mX12_isTm 32 [l0, l1] [.int 0] F L Q := wt_iconst dX12_isTm_31 (v := 0) (by decide)
set_option maxHeartbeats 100000 in
theorem kX12_isTm_32 {d : Nat} {F : am_FT} {L : am_LT} {Q : am_QT} {l0 l1 : Option Value} {s0 : Int32} (h1 : narrow .boolean (.int s0) = .int s0) : wt am_S0 d mX12_isTm 32 [l0, l1] [.int s0] F L Q = Q (some (.int s0)) F L := wt_ireturn dX12_isTm_32 rfl h1
theorem dX12_sittersNow_0 : decode mX12_sittersNow.2.2.1 0 = .ok (.aload_n 0, 1) := by decide +kernel
theorem dX12_sittersNow_1 : decode mX12_sittersNow.2.2.1 1 = .ok (.getfield 98, 3) := by decide +kernel
theorem dX12_sittersNow_4 : decode mX12_sittersNow.2.2.1 4 = .ok (.iload_n 1, 1) := by decide +kernel
theorem dX12_sittersNow_5 : decode mX12_sittersNow.2.2.1 5 = .ok (.invokestatic 189, 3) := by decide +kernel
theorem dX12_sittersNow_8 : decode mX12_sittersNow.2.2.1 8 = .ok (.ifCond .eq 12, 3) := by decide +kernel
theorem dX12_sittersNow_11 : decode mX12_sittersNow.2.2.1 11 = .ok (.aload_n 0, 1) := by decide +kernel
theorem dX12_sittersNow_12 : decode mX12_sittersNow.2.2.1 12 = .ok (.iload_n 1, 1) := by decide +kernel
theorem dX12_sittersNow_13 : decode mX12_sittersNow.2.2.1 13 = .ok (.iload_n 2, 1) := by decide +kernel
theorem dX12_sittersNow_14 : decode mX12_sittersNow.2.2.1 14 = .ok (.invokevirtual 192, 3) := by decide +kernel
theorem dX12_sittersNow_17 : decode mX12_sittersNow.2.2.1 17 = .ok (.goto 4, 3) := by decide +kernel
theorem dX12_sittersNow_20 : decode mX12_sittersNow.2.2.1 20 = .ok (.iconst 0, 1) := by decide +kernel
theorem dX12_sittersNow_21 : decode mX12_sittersNow.2.2.1 21 = .ok (.ireturn, 1) := by decide +kernel
set_option maxHeartbeats 100000 in
theorem kX12_sittersNow_0 {d : Nat} {F : am_FT} {L : am_LT} {Q : am_QT} {l2 : Option Value} {x1 : Int32} : wt am_S0 (d + 1) mX12_sittersNow 0 [some (.ref 45), some (.int x1), l2] [] F L Q = wc am_S0 d mX12_isIn [.int (F 45 8), .int x1] F L (fun r G K => wt am_S0 (d + 1) mX12_sittersNow 8 [some (.ref 45), some (.int x1), l2] (r.toList ++ []) G K Q) := (wt_aload_n dX12_sittersNow_0 rfl rfl).trans ((wt_getfield dX12_sittersNow_1 rfl rfl (v := .int (F 45 8)) rfl).trans ((wt_iload_n dX12_sittersNow_4 rfl).trans (wt_callS dX12_sittersNow_5 rfl (as := [.int (F 45 8), .int x1]) (rest := []) rfl rfl (Nat.le_of_ble_eq_true rfl) (Nat.le_of_ble_eq_true rfl))))
set_option maxHeartbeats 100000 in
theorem kX12_sittersNow_8 {d : Nat} {F : am_FT} {L : am_LT} {Q : am_QT} {l0 l1 l2 : Option Value} {s0 : Int32} : wt am_S0 d mX12_sittersNow 8 [l0, l1, l2] [.int s0] F L Q = if s0 = 0 then wt am_S0 d mX12_sittersNow 20 [l0, l1, l2] [] F L Q else wt am_S0 d mX12_sittersNow 11 [l0, l1, l2] [] F L Q := wt_ifCond_eq dX12_sittersNow_8 (t := 20) rfl
set_option maxHeartbeats 100000 in
theorem kX12_sittersNow_11 {d : Nat} {F : am_FT} {L : am_LT} {Q : am_QT} {x1 x2 : Int32} : wt am_S0 (d + 1) mX12_sittersNow 11 [some (.ref 45), some (.int x1), some (.int x2)] [] F L Q = wc am_S0 d mX12_sittersIn [.ref 45, .int x1, .int x2] F L (fun r G K => wt am_S0 (d + 1) mX12_sittersNow 17 [some (.ref 45), some (.int x1), some (.int x2)] (r.toList ++ []) G K Q) := (wt_aload_n dX12_sittersNow_11 rfl rfl).trans ((wt_iload_n dX12_sittersNow_12 rfl).trans ((wt_iload_n dX12_sittersNow_13 rfl).trans (wt_callV dX12_sittersNow_14 rfl (as := [.int x1, .int x2]) (rest := []) rfl rfl (Nat.le_of_ble_eq_true rfl) rfl (Nat.le_of_ble_eq_true rfl))))
set_option maxHeartbeats 100000 in
theorem kX12_sittersNow_17 {d : Nat} {F : am_FT} {L : am_LT} {Q : am_QT} {l0 l1 l2 : Option Value} {s0 : Int32} : wt am_S0 d mX12_sittersNow 17 [l0, l1, l2] [.int s0] F L Q = wt am_S0 d mX12_sittersNow 21 [l0, l1, l2] [.int s0] F L Q := wt_goto dX12_sittersNow_17 (t := 21) rfl
set_option maxHeartbeats 100000 in
theorem kX12_sittersNow_20 {d : Nat} {F : am_FT} {L : am_LT} {Q : am_QT} {l0 l1 l2 : Option Value} : wt am_S0 d mX12_sittersNow 20 [l0, l1, l2] [] F L Q = wt am_S0 d mX12_sittersNow 21 [l0, l1, l2] [.int 0] F L Q := wt_iconst dX12_sittersNow_20 (v := 0) (by decide)
set_option maxHeartbeats 100000 in
theorem kX12_sittersNow_21 {d : Nat} {F : am_FT} {L : am_LT} {Q : am_QT} {l0 l1 l2 : Option Value} {s0 : Int32} : wt am_S0 d mX12_sittersNow 21 [l0, l1, l2] [.int s0] F L Q = Q (some (.int s0)) F L := wt_ireturn dX12_sittersNow_21 rfl rfl
theorem dX12_isIn_0 : decode mX12_isIn.2.2.1 0 = .ok (.iload_n 0, 1) := by decide +kernel
theorem dX12_isIn_1 : decode mX12_isIn.2.2.1 1 = .ok (.iload_n 1, 1) := by decide +kernel
theorem dX12_isIn_2 : decode mX12_isIn.2.2.1 2 = .ok (.ishr, 1) := by decide +kernel
theorem dX12_isIn_3 : decode mX12_isIn.2.2.1 3 = .ok (.iconst 1, 1) := by decide +kernel
theorem dX12_isIn_4 : decode mX12_isIn.2.2.1 4 = .ok (.iand, 1) := by decide +kernel
theorem dX12_isIn_5 : decode mX12_isIn.2.2.1 5 = .ok (.iconst 1, 1) := by decide +kernel
theorem dX12_isIn_6 : decode mX12_isIn.2.2.1 6 = .ok (.if_icmp .ne 7, 3) := by decide +kernel
theorem dX12_isIn_9 : decode mX12_isIn.2.2.1 9 = .ok (.iconst 1, 1) := by decide +kernel
theorem dX12_isIn_10 : decode mX12_isIn.2.2.1 10 = .ok (.goto 4, 3) := by decide +kernel
theorem dX12_isIn_13 : decode mX12_isIn.2.2.1 13 = .ok (.iconst 0, 1) := by decide +kernel
theorem dX12_isIn_14 : decode mX12_isIn.2.2.1 14 = .ok (.ireturn, 1) := by decide +kernel
set_option maxHeartbeats 100000 in
theorem kX12_isIn_0 {d : Nat} {F : am_FT} {L : am_LT} {Q : am_QT} {x0 x1 : Int32} : wt am_S0 d mX12_isIn 0 [some (.int x0), some (.int x1)] [] F L Q = if ¬ ((x0 >>> (x1 &&& 31)) &&& 1) = 1 then wt am_S0 d mX12_isIn 13 [some (.int x0), some (.int x1)] [] F L Q else wt am_S0 d mX12_isIn 9 [some (.int x0), some (.int x1)] [] F L Q := (wt_iload_n dX12_isIn_0 rfl).trans ((wt_iload_n dX12_isIn_1 rfl).trans ((wt_ishr dX12_isIn_2).trans ((wt_iconst dX12_isIn_3 (v := 1) (by decide)).trans ((wt_iand dX12_isIn_4).trans ((wt_iconst dX12_isIn_5 (v := 1) (by decide)).trans (wt_if_icmp_ne dX12_isIn_6 (t := 13) rfl))))))
set_option maxHeartbeats 100000 in
theorem kX12_isIn_9 {d : Nat} {F : am_FT} {L : am_LT} {Q : am_QT} {l0 l1 : Option Value} : wt am_S0 d mX12_isIn 9 [l0, l1] [] F L Q = wt am_S0 d mX12_isIn 14 [l0, l1] [.int 1] F L Q := (wt_iconst dX12_isIn_9 (v := 1) (by decide)).trans (wt_goto dX12_isIn_10 (t := 14) rfl)
set_option maxHeartbeats 100000 in
theorem kX12_isIn_13 {d : Nat} {F : am_FT} {L : am_LT} {Q : am_QT} {l0 l1 : Option Value} : wt am_S0 d mX12_isIn 13 [l0, l1] [] F L Q = wt am_S0 d mX12_isIn 14 [l0, l1] [.int 0] F L Q := wt_iconst dX12_isIn_13 (v := 0) (by decide)
set_option maxHeartbeats 100000 in
theorem kX12_isIn_14 {d : Nat} {F : am_FT} {L : am_LT} {Q : am_QT} {l0 l1 : Option Value} {s0 : Int32} (h1 : narrow .boolean (.int s0) = .int s0) : wt am_S0 d mX12_isIn 14 [l0, l1] [.int s0] F L Q = Q (some (.int s0)) F L := wt_ireturn dX12_isIn_14 rfl h1
theorem dX12_sittersIn_0 : decode mX12_sittersIn.2.2.1 0 = .ok (.iconst 0, 1) := by decide +kernel
theorem dX12_sittersIn_1 : decode mX12_sittersIn.2.2.1 1 = .ok (.istore_n 3, 1) := by decide +kernel
theorem dX12_sittersIn_2 : decode mX12_sittersIn.2.2.1 2 = .ok (.iconst 0, 1) := by decide +kernel
theorem dX12_sittersIn_3 : decode mX12_sittersIn.2.2.1 3 = .ok (.istore 4, 2) := by decide +kernel
theorem dX12_sittersIn_5 : decode mX12_sittersIn.2.2.1 5 = .ok (.iload 4, 2) := by decide +kernel
theorem dX12_sittersIn_7 : decode mX12_sittersIn.2.2.1 7 = .ok (.aload_n 0, 1) := by decide +kernel
theorem dX12_sittersIn_8 : decode mX12_sittersIn.2.2.1 8 = .ok (.getfield 79, 3) := by decide +kernel
theorem dX12_sittersIn_11 : decode mX12_sittersIn.2.2.1 11 = .ok (.if_icmp .ge 39, 3) := by decide +kernel
theorem dX12_sittersIn_14 : decode mX12_sittersIn.2.2.1 14 = .ok (.iload_n 3, 1) := by decide +kernel
theorem dX12_sittersIn_15 : decode mX12_sittersIn.2.2.1 15 = .ok (.aload_n 0, 1) := by decide +kernel
theorem dX12_sittersIn_16 : decode mX12_sittersIn.2.2.1 16 = .ok (.iload_n 1, 1) := by decide +kernel
theorem dX12_sittersIn_17 : decode mX12_sittersIn.2.2.1 17 = .ok (.iload_n 2, 1) := by decide +kernel
theorem dX12_sittersIn_18 : decode mX12_sittersIn.2.2.1 18 = .ok (.aload_n 0, 1) := by decide +kernel
theorem dX12_sittersIn_19 : decode mX12_sittersIn.2.2.1 19 = .ok (.getfield 9, 3) := by decide +kernel
theorem dX12_sittersIn_22 : decode mX12_sittersIn.2.2.1 22 = .ok (.bipush 30, 2) := by decide +kernel
theorem dX12_sittersIn_24 : decode mX12_sittersIn.2.2.1 24 = .ok (.iload 4, 2) := by decide +kernel
theorem dX12_sittersIn_26 : decode mX12_sittersIn.2.2.1 26 = .ok (.iadd, 1) := by decide +kernel
theorem dX12_sittersIn_27 : decode mX12_sittersIn.2.2.1 27 = .ok (.iaload, 1) := by decide +kernel
theorem dX12_sittersIn_28 : decode mX12_sittersIn.2.2.1 28 = .ok (.invokevirtual 185, 3) := by decide +kernel
theorem dX12_sittersIn_31 : decode mX12_sittersIn.2.2.1 31 = .ok (.ifCond .eq 10, 3) := by decide +kernel
theorem dX12_sittersIn_34 : decode mX12_sittersIn.2.2.1 34 = .ok (.iconst 1, 1) := by decide +kernel
theorem dX12_sittersIn_35 : decode mX12_sittersIn.2.2.1 35 = .ok (.iload 4, 2) := by decide +kernel
theorem dX12_sittersIn_37 : decode mX12_sittersIn.2.2.1 37 = .ok (.ishl, 1) := by decide +kernel
theorem dX12_sittersIn_38 : decode mX12_sittersIn.2.2.1 38 = .ok (.goto 4, 3) := by decide +kernel
theorem dX12_sittersIn_41 : decode mX12_sittersIn.2.2.1 41 = .ok (.iconst 0, 1) := by decide +kernel
theorem dX12_sittersIn_42 : decode mX12_sittersIn.2.2.1 42 = .ok (.ior, 1) := by decide +kernel
theorem dX12_sittersIn_43 : decode mX12_sittersIn.2.2.1 43 = .ok (.istore_n 3, 1) := by decide +kernel
theorem dX12_sittersIn_44 : decode mX12_sittersIn.2.2.1 44 = .ok (.iinc 4 1, 3) := by decide +kernel
theorem dX12_sittersIn_47 : decode mX12_sittersIn.2.2.1 47 = .ok (.goto (-42), 3) := by decide +kernel
theorem dX12_sittersIn_50 : decode mX12_sittersIn.2.2.1 50 = .ok (.iload_n 3, 1) := by decide +kernel
theorem dX12_sittersIn_51 : decode mX12_sittersIn.2.2.1 51 = .ok (.ireturn, 1) := by decide +kernel
set_option maxHeartbeats 100000 in
theorem kX12_sittersIn_0 {d : Nat} {F : am_FT} {L : am_LT} {Q : am_QT} {l0 l1 l3 l4 : Option Value} {x2 : Int32} : wt am_S0 d mX12_sittersIn 0 [l0, l1, some (.int x2), l3, l4] [] F L Q = wt am_S0 d mX12_sittersIn 5 [l0, l1, some (.int x2), some (.int 0), some (.int 0)] [] F L Q := (wt_iconst dX12_sittersIn_0 (v := 0) (by decide)).trans ((wt_istore_n dX12_sittersIn_1 (lv1 := [l0, l1, some (.int x2), some (.int 0), l4]) (Nat.le_of_ble_eq_true rfl) rfl).trans ((wt_iconst dX12_sittersIn_2 (v := 0) (by decide)).trans (wt_istore dX12_sittersIn_3 (lv1 := [l0, l1, some (.int x2), some (.int 0), some (.int 0)]) (Nat.le_of_ble_eq_true rfl) rfl)))
set_option maxHeartbeats 100000 in
theorem kX12_sittersIn_5 {d : Nat} {F : am_FT} {L : am_LT} {Q : am_QT} {l1 l2 l3 : Option Value} {x4 : Int32} : wt am_S0 d mX12_sittersIn 5 [some (.ref 45), l1, l2, l3, some (.int x4)] [] F L Q = if (F 45 7) ≤ x4 then wt am_S0 d mX12_sittersIn 50 [some (.ref 45), l1, l2, l3, some (.int x4)] [] F L Q else wt am_S0 d mX12_sittersIn 14 [some (.ref 45), l1, l2, l3, some (.int x4)] [] F L Q := (wt_iload dX12_sittersIn_5 rfl).trans ((wt_aload_n dX12_sittersIn_7 rfl rfl).trans ((wt_getfield dX12_sittersIn_8 rfl rfl (v := .int (F 45 7)) rfl).trans (wt_if_icmp_ge dX12_sittersIn_11 (t := 50) rfl)))
set_option maxHeartbeats 100000 in
theorem kX12_sittersIn_14 {d : Nat} {F : am_FT} {L : am_LT} {Q : am_QT} {x3 x1 x2 x4 : Int32} (h1 : am_oob (30 + x4) 60 = false) : wt am_S0 (d + 1) mX12_sittersIn 14 [some (.ref 45), some (.int x1), some (.int x2), some (.int x3), some (.int x4)] [] F L Q = wc am_S0 d mX12_isShaded [.ref 45, .int x1, .int x2, .int (F 46 (Int32.toNatClampNeg (30 + x4)))] F L (fun r G K => wt am_S0 (d + 1) mX12_sittersIn 31 [some (.ref 45), some (.int x1), some (.int x2), some (.int x3), some (.int x4)] (r.toList ++ [.int x3]) G K Q) := (wt_iload_n dX12_sittersIn_14 rfl).trans ((wt_aload_n dX12_sittersIn_15 rfl rfl).trans ((wt_iload_n dX12_sittersIn_16 rfl).trans ((wt_iload_n dX12_sittersIn_17 rfl).trans ((wt_aload_n dX12_sittersIn_18 rfl rfl).trans ((wt_getfield dX12_sittersIn_19 rfl rfl (v := .ref 46) rfl).trans ((wt_bipush dX12_sittersIn_22 (v := 30) (by decide)).trans ((wt_iload dX12_sittersIn_24 rfl).trans ((wt_iadd dX12_sittersIn_26).trans ((wt_iaload dX12_sittersIn_27 rfl (by decide) h1).trans (wt_callV dX12_sittersIn_28 rfl (as := [.int x1, .int x2, .int (F 46 (Int32.toNatClampNeg (30 + x4)))]) (rest := [.int x3]) rfl rfl (Nat.le_of_ble_eq_true rfl) rfl (Nat.le_of_ble_eq_true rfl)))))))))))
set_option maxHeartbeats 100000 in
theorem kX12_sittersIn_31 {d : Nat} {F : am_FT} {L : am_LT} {Q : am_QT} {l0 l1 l2 l3 l4 : Option Value} {s0 s1 : Int32} : wt am_S0 d mX12_sittersIn 31 [l0, l1, l2, l3, l4] [.int s1, .int s0] F L Q = if s1 = 0 then wt am_S0 d mX12_sittersIn 41 [l0, l1, l2, l3, l4] [.int s0] F L Q else wt am_S0 d mX12_sittersIn 34 [l0, l1, l2, l3, l4] [.int s0] F L Q := wt_ifCond_eq dX12_sittersIn_31 (t := 41) rfl
set_option maxHeartbeats 100000 in
theorem kX12_sittersIn_34 {d : Nat} {F : am_FT} {L : am_LT} {Q : am_QT} {l0 l1 l2 l3 : Option Value} {s0 x4 : Int32} : wt am_S0 d mX12_sittersIn 34 [l0, l1, l2, l3, some (.int x4)] [.int s0] F L Q = wt am_S0 d mX12_sittersIn 42 [l0, l1, l2, l3, some (.int x4)] [.int ((1 : Int32) <<< (x4 &&& 31)), .int s0] F L Q := (wt_iconst dX12_sittersIn_34 (v := 1) (by decide)).trans ((wt_iload dX12_sittersIn_35 rfl).trans ((wt_ishl dX12_sittersIn_37).trans (wt_goto dX12_sittersIn_38 (t := 42) rfl)))
set_option maxHeartbeats 100000 in
theorem kX12_sittersIn_41 {d : Nat} {F : am_FT} {L : am_LT} {Q : am_QT} {l0 l1 l2 l3 l4 : Option Value} {s0 : Int32} : wt am_S0 d mX12_sittersIn 41 [l0, l1, l2, l3, l4] [.int s0] F L Q = wt am_S0 d mX12_sittersIn 42 [l0, l1, l2, l3, l4] [.int 0, .int s0] F L Q := wt_iconst dX12_sittersIn_41 (v := 0) (by decide)
set_option maxHeartbeats 100000 in
theorem kX12_sittersIn_42 {d : Nat} {F : am_FT} {L : am_LT} {Q : am_QT} {l0 l1 l3 : Option Value} {s0 s1 x2 x4 : Int32} : wt am_S0 d mX12_sittersIn 42 [l0, l1, some (.int x2), l3, some (.int x4)] [.int s1, .int s0] F L Q = wt am_S0 d mX12_sittersIn 5 [l0, l1, some (.int x2), some (.int (s0 ||| s1)), some (.int (x4 + 1))] [] F L Q := (wt_ior dX12_sittersIn_42).trans ((wt_istore_n dX12_sittersIn_43 (lv1 := [l0, l1, some (.int x2), some (.int (s0 ||| s1)), some (.int x4)]) (Nat.le_of_ble_eq_true rfl) rfl).trans ((wt_iinc dX12_sittersIn_44 (v := 1) (lv1 := [l0, l1, some (.int x2), some (.int (s0 ||| s1)), some (.int (x4 + 1))]) rfl (Nat.le_of_ble_eq_true rfl) (by decide) rfl).trans (wt_goto dX12_sittersIn_47 (t := 5) rfl)))
set_option maxHeartbeats 100000 in
theorem kX12_sittersIn_50 {d : Nat} {F : am_FT} {L : am_LT} {Q : am_QT} {l0 l1 l2 l4 : Option Value} {x3 : Int32} : wt am_S0 d mX12_sittersIn 50 [l0, l1, l2, some (.int x3), l4] [] F L Q = Q (some (.int x3)) F L := (wt_iload_n dX12_sittersIn_50 rfl).trans (wt_ireturn dX12_sittersIn_51 rfl rfl)
theorem dX12_isShaded_0 : decode mX12_isShaded.2.2.1 0 = .ok (.aload_n 0, 1) := by decide +kernel
theorem dX12_isShaded_1 : decode mX12_isShaded.2.2.1 1 = .ok (.getfield 9, 3) := by decide +kernel
theorem dX12_isShaded_4 : decode mX12_isShaded.2.2.1 4 = .ok (.iload_n 1, 1) := by decide +kernel
theorem dX12_isShaded_5 : decode mX12_isShaded.2.2.1 5 = .ok (.iaload, 1) := by decide +kernel
theorem dX12_isShaded_6 : decode mX12_isShaded.2.2.1 6 = .ok (.bipush 16, 2) := by decide +kernel
theorem dX12_isShaded_8 : decode mX12_isShaded.2.2.1 8 = .ok (.idiv, 1) := by decide +kernel
theorem dX12_isShaded_9 : decode mX12_isShaded.2.2.1 9 = .ok (.iload_n 3, 1) := by decide +kernel
theorem dX12_isShaded_10 : decode mX12_isShaded.2.2.1 10 = .ok (.bipush 16, 2) := by decide +kernel
theorem dX12_isShaded_12 : decode mX12_isShaded.2.2.1 12 = .ok (.idiv, 1) := by decide +kernel
theorem dX12_isShaded_13 : decode mX12_isShaded.2.2.1 13 = .ok (.isub, 1) := by decide +kernel
theorem dX12_isShaded_14 : decode mX12_isShaded.2.2.1 14 = .ok (.istore 4, 2) := by decide +kernel
theorem dX12_isShaded_16 : decode mX12_isShaded.2.2.1 16 = .ok (.aload_n 0, 1) := by decide +kernel
theorem dX12_isShaded_17 : decode mX12_isShaded.2.2.1 17 = .ok (.getfield 9, 3) := by decide +kernel
theorem dX12_isShaded_20 : decode mX12_isShaded.2.2.1 20 = .ok (.iload_n 1, 1) := by decide +kernel
theorem dX12_isShaded_21 : decode mX12_isShaded.2.2.1 21 = .ok (.iaload, 1) := by decide +kernel
theorem dX12_isShaded_22 : decode mX12_isShaded.2.2.1 22 = .ok (.bipush 16, 2) := by decide +kernel
theorem dX12_isShaded_24 : decode mX12_isShaded.2.2.1 24 = .ok (.irem, 1) := by decide +kernel
theorem dX12_isShaded_25 : decode mX12_isShaded.2.2.1 25 = .ok (.iload_n 3, 1) := by decide +kernel
theorem dX12_isShaded_26 : decode mX12_isShaded.2.2.1 26 = .ok (.bipush 16, 2) := by decide +kernel
theorem dX12_isShaded_28 : decode mX12_isShaded.2.2.1 28 = .ok (.irem, 1) := by decide +kernel
theorem dX12_isShaded_29 : decode mX12_isShaded.2.2.1 29 = .ok (.isub, 1) := by decide +kernel
theorem dX12_isShaded_30 : decode mX12_isShaded.2.2.1 30 = .ok (.istore 5, 2) := by decide +kernel
theorem dX12_isShaded_32 : decode mX12_isShaded.2.2.1 32 = .ok (.iload 4, 2) := by decide +kernel
theorem dX12_isShaded_34 : decode mX12_isShaded.2.2.1 34 = .ok (.i2l, 1) := by decide +kernel
theorem dX12_isShaded_35 : decode mX12_isShaded.2.2.1 35 = .ok (.lconst 1, 1) := by decide +kernel
theorem dX12_isShaded_36 : decode mX12_isShaded.2.2.1 36 = .ok (.aload_n 0, 1) := by decide +kernel
theorem dX12_isShaded_37 : decode mX12_isShaded.2.2.1 37 = .ok (.iload_n 1, 1) := by decide +kernel
theorem dX12_isShaded_38 : decode mX12_isShaded.2.2.1 38 = .ok (.iload_n 2, 1) := by decide +kernel
theorem dX12_isShaded_39 : decode mX12_isShaded.2.2.1 39 = .ok (.invokevirtual 182, 3) := by decide +kernel
theorem dX12_isShaded_42 : decode mX12_isShaded.2.2.1 42 = .ok (.i2l, 1) := by decide +kernel
theorem dX12_isShaded_43 : decode mX12_isShaded.2.2.1 43 = .ok (.invokestatic 75, 3) := by decide +kernel
theorem dX12_isShaded_46 : decode mX12_isShaded.2.2.1 46 = .ok (.ifCond .eq 37, 3) := by decide +kernel
theorem dX12_isShaded_49 : decode mX12_isShaded.2.2.1 49 = .ok (.iload 5, 2) := by decide +kernel
theorem dX12_isShaded_51 : decode mX12_isShaded.2.2.1 51 = .ok (.i2l, 1) := by decide +kernel
theorem dX12_isShaded_52 : decode mX12_isShaded.2.2.1 52 = .ok (.aload_n 0, 1) := by decide +kernel
theorem dX12_isShaded_53 : decode mX12_isShaded.2.2.1 53 = .ok (.getfield 9, 3) := by decide +kernel
theorem dX12_isShaded_56 : decode mX12_isShaded.2.2.1 56 = .ok (.bipush 12, 2) := by decide +kernel
theorem dX12_isShaded_58 : decode mX12_isShaded.2.2.1 58 = .ok (.iload_n 1, 1) := by decide +kernel
theorem dX12_isShaded_59 : decode mX12_isShaded.2.2.1 59 = .ok (.iadd, 1) := by decide +kernel
theorem dX12_isShaded_60 : decode mX12_isShaded.2.2.1 60 = .ok (.iaload, 1) := by decide +kernel
theorem dX12_isShaded_61 : decode mX12_isShaded.2.2.1 61 = .ok (.ineg, 1) := by decide +kernel
theorem dX12_isShaded_62 : decode mX12_isShaded.2.2.1 62 = .ok (.i2l, 1) := by decide +kernel
theorem dX12_isShaded_63 : decode mX12_isShaded.2.2.1 63 = .ok (.aload_n 0, 1) := by decide +kernel
theorem dX12_isShaded_64 : decode mX12_isShaded.2.2.1 64 = .ok (.getfield 9, 3) := by decide +kernel
theorem dX12_isShaded_67 : decode mX12_isShaded.2.2.1 67 = .ok (.bipush 12, 2) := by decide +kernel
theorem dX12_isShaded_69 : decode mX12_isShaded.2.2.1 69 = .ok (.iload_n 1, 1) := by decide +kernel
theorem dX12_isShaded_70 : decode mX12_isShaded.2.2.1 70 = .ok (.iadd, 1) := by decide +kernel
theorem dX12_isShaded_71 : decode mX12_isShaded.2.2.1 71 = .ok (.iaload, 1) := by decide +kernel
theorem dX12_isShaded_72 : decode mX12_isShaded.2.2.1 72 = .ok (.i2l, 1) := by decide +kernel
theorem dX12_isShaded_73 : decode mX12_isShaded.2.2.1 73 = .ok (.invokestatic 75, 3) := by decide +kernel
theorem dX12_isShaded_76 : decode mX12_isShaded.2.2.1 76 = .ok (.ifCond .eq 7, 3) := by decide +kernel
theorem dX12_isShaded_79 : decode mX12_isShaded.2.2.1 79 = .ok (.iconst 1, 1) := by decide +kernel
theorem dX12_isShaded_80 : decode mX12_isShaded.2.2.1 80 = .ok (.goto 4, 3) := by decide +kernel
theorem dX12_isShaded_83 : decode mX12_isShaded.2.2.1 83 = .ok (.iconst 0, 1) := by decide +kernel
theorem dX12_isShaded_84 : decode mX12_isShaded.2.2.1 84 = .ok (.ireturn, 1) := by decide +kernel
set_option maxHeartbeats 100000 in
theorem kX12_isShaded_0 {d : Nat} {F : am_FT} {L : am_LT} {Q : am_QT} {l2 l4 l5 : Option Value} {x1 x3 : Int32} (h1 : am_oob x1 60 = false) : wt am_S0 d mX12_isShaded 0 [some (.ref 45), some (.int x1), l2, some (.int x3), l4, l5] [] F L Q = wt am_S0 d mX12_isShaded 24 [some (.ref 45), some (.int x1), l2, some (.int x3), some (.int (((F 46 (Int32.toNatClampNeg x1)) / 16) - (x3 / 16))), l5] [.int 16, .int (F 46 (Int32.toNatClampNeg x1))] F L Q := (wt_aload_n dX12_isShaded_0 rfl rfl).trans ((wt_getfield dX12_isShaded_1 rfl rfl (v := .ref 46) rfl).trans ((wt_iload_n dX12_isShaded_4 rfl).trans ((wt_iaload dX12_isShaded_5 rfl (by decide) h1).trans ((wt_bipush dX12_isShaded_6 (v := 16) (by decide)).trans ((wt_idiv dX12_isShaded_8 (by decide)).trans ((wt_iload_n dX12_isShaded_9 rfl).trans ((wt_bipush dX12_isShaded_10 (v := 16) (by decide)).trans ((wt_idiv dX12_isShaded_12 (by decide)).trans ((wt_isub dX12_isShaded_13).trans ((wt_istore dX12_isShaded_14 (lv1 := [some (.ref 45), some (.int x1), l2, some (.int x3), some (.int (((F 46 (Int32.toNatClampNeg x1)) / 16) - (x3 / 16))), l5]) (Nat.le_of_ble_eq_true rfl) rfl).trans ((wt_aload_n dX12_isShaded_16 rfl rfl).trans ((wt_getfield dX12_isShaded_17 rfl rfl (v := .ref 46) rfl).trans ((wt_iload_n dX12_isShaded_20 rfl).trans ((wt_iaload dX12_isShaded_21 rfl (by decide) h1).trans (wt_bipush dX12_isShaded_22 (v := 16) (by decide))))))))))))))))
set_option maxHeartbeats 100000 in
theorem kX12_isShaded_24 {d : Nat} {F : am_FT} {L : am_LT} {Q : am_QT} {l5 : Option Value} {s0 s1 x3 x4 x1 x2 : Int32} (h1 : ¬ s1 = 0) : wt am_S0 (d + 1) mX12_isShaded 24 [some (.ref 45), some (.int x1), some (.int x2), some (.int x3), some (.int x4), l5] [.int s1, .int s0] F L Q = wc am_S0 d mX12_rowsOf [.ref 45, .int x1, .int x2] F L (fun r G K => wt am_S0 (d + 1) mX12_isShaded 42 [some (.ref 45), some (.int x1), some (.int x2), some (.int x3), some (.int x4), some (.int ((s0 - s0 / s1 * s1) - (x3 - x3 / 16 * 16)))] (r.toList ++ [.long 1, .long (Int32.toInt64 x4)]) G K Q) := (wt_irem dX12_isShaded_24 h1).trans ((wt_iload_n dX12_isShaded_25 rfl).trans ((wt_bipush dX12_isShaded_26 (v := 16) (by decide)).trans ((wt_irem dX12_isShaded_28 (by decide)).trans ((wt_isub dX12_isShaded_29).trans ((wt_istore dX12_isShaded_30 (lv1 := [some (.ref 45), some (.int x1), some (.int x2), some (.int x3), some (.int x4), some (.int ((s0 - s0 / s1 * s1) - (x3 - x3 / 16 * 16)))]) (Nat.le_of_ble_eq_true rfl) rfl).trans ((wt_iload dX12_isShaded_32 rfl).trans ((wt_i2l dX12_isShaded_34).trans ((wt_lconst dX12_isShaded_35 (v := 1) (by decide)).trans ((wt_aload_n dX12_isShaded_36 rfl rfl).trans ((wt_iload_n dX12_isShaded_37 rfl).trans ((wt_iload_n dX12_isShaded_38 rfl).trans (wt_callV dX12_isShaded_39 rfl (as := [.int x1, .int x2]) (rest := [.long 1, .long (Int32.toInt64 x4)]) rfl rfl (Nat.le_of_ble_eq_true rfl) rfl (Nat.le_of_ble_eq_true rfl)))))))))))))
set_option maxHeartbeats 100000 in
theorem kX12_isShaded_42 {d : Nat} {F : am_FT} {L : am_LT} {Q : am_QT} {l0 l1 l2 l3 l4 l5 : Option Value} {s0 s1 : Int64} {s2 : Int32} : wt am_S0 (d + 1) mX12_isShaded 42 [l0, l1, l2, l3, l4, l5] [.int s2, .long s1, .long s0] F L Q = wc am_S0 d mX12_within [.long s0, .long s1, .long (Int32.toInt64 s2)] F L (fun r G K => wt am_S0 (d + 1) mX12_isShaded 46 [l0, l1, l2, l3, l4, l5] (r.toList ++ []) G K Q) := (wt_i2l dX12_isShaded_42).trans (wt_callS dX12_isShaded_43 rfl (as := [.long s0, .long s1, .long (Int32.toInt64 s2)]) (rest := []) rfl rfl (Nat.le_of_ble_eq_true rfl) (Nat.le_of_ble_eq_true rfl))
set_option maxHeartbeats 100000 in
theorem kX12_isShaded_46 {d : Nat} {F : am_FT} {L : am_LT} {Q : am_QT} {l0 l1 l2 l3 l4 l5 : Option Value} {s0 : Int32} : wt am_S0 d mX12_isShaded 46 [l0, l1, l2, l3, l4, l5] [.int s0] F L Q = if s0 = 0 then wt am_S0 d mX12_isShaded 83 [l0, l1, l2, l3, l4, l5] [] F L Q else wt am_S0 d mX12_isShaded 49 [l0, l1, l2, l3, l4, l5] [] F L Q := wt_ifCond_eq dX12_isShaded_46 (t := 83) rfl
set_option maxHeartbeats 100000 in
theorem kX12_isShaded_49 {d : Nat} {F : am_FT} {L : am_LT} {Q : am_QT} {l2 l3 l4 : Option Value} {x5 x1 : Int32} (h1 : am_oob (12 + x1) 60 = false) : wt am_S0 d mX12_isShaded 49 [some (.ref 45), some (.int x1), l2, l3, l4, some (.int x5)] [] F L Q = wt am_S0 d mX12_isShaded 72 [some (.ref 45), some (.int x1), l2, l3, l4, some (.int x5)] [.int (F 46 (Int32.toNatClampNeg (12 + x1))), .long (Int32.toInt64 (-(F 46 (Int32.toNatClampNeg (12 + x1))))), .long (Int32.toInt64 x5)] F L Q := (wt_iload dX12_isShaded_49 rfl).trans ((wt_i2l dX12_isShaded_51).trans ((wt_aload_n dX12_isShaded_52 rfl rfl).trans ((wt_getfield dX12_isShaded_53 rfl rfl (v := .ref 46) rfl).trans ((wt_bipush dX12_isShaded_56 (v := 12) (by decide)).trans ((wt_iload_n dX12_isShaded_58 rfl).trans ((wt_iadd dX12_isShaded_59).trans ((wt_iaload dX12_isShaded_60 rfl (by decide) h1).trans ((wt_ineg dX12_isShaded_61).trans ((wt_i2l dX12_isShaded_62).trans ((wt_aload_n dX12_isShaded_63 rfl rfl).trans ((wt_getfield dX12_isShaded_64 rfl rfl (v := .ref 46) rfl).trans ((wt_bipush dX12_isShaded_67 (v := 12) (by decide)).trans ((wt_iload_n dX12_isShaded_69 rfl).trans ((wt_iadd dX12_isShaded_70).trans (wt_iaload dX12_isShaded_71 rfl (by decide) h1)))))))))))))))
set_option maxHeartbeats 100000 in
theorem kX12_isShaded_72 {d : Nat} {F : am_FT} {L : am_LT} {Q : am_QT} {l0 l1 l2 l3 l4 l5 : Option Value} {s0 s1 : Int64} {s2 : Int32} : wt am_S0 (d + 1) mX12_isShaded 72 [l0, l1, l2, l3, l4, l5] [.int s2, .long s1, .long s0] F L Q = wc am_S0 d mX12_within [.long s0, .long s1, .long (Int32.toInt64 s2)] F L (fun r G K => wt am_S0 (d + 1) mX12_isShaded 76 [l0, l1, l2, l3, l4, l5] (r.toList ++ []) G K Q) := (wt_i2l dX12_isShaded_72).trans (wt_callS dX12_isShaded_73 rfl (as := [.long s0, .long s1, .long (Int32.toInt64 s2)]) (rest := []) rfl rfl (Nat.le_of_ble_eq_true rfl) (Nat.le_of_ble_eq_true rfl))
set_option maxHeartbeats 100000 in
theorem kX12_isShaded_76 {d : Nat} {F : am_FT} {L : am_LT} {Q : am_QT} {l0 l1 l2 l3 l4 l5 : Option Value} {s0 : Int32} : wt am_S0 d mX12_isShaded 76 [l0, l1, l2, l3, l4, l5] [.int s0] F L Q = if s0 = 0 then wt am_S0 d mX12_isShaded 83 [l0, l1, l2, l3, l4, l5] [] F L Q else wt am_S0 d mX12_isShaded 79 [l0, l1, l2, l3, l4, l5] [] F L Q := wt_ifCond_eq dX12_isShaded_76 (t := 83) rfl
set_option maxHeartbeats 100000 in
theorem kX12_isShaded_79 {d : Nat} {F : am_FT} {L : am_LT} {Q : am_QT} {l0 l1 l2 l3 l4 l5 : Option Value} : wt am_S0 d mX12_isShaded 79 [l0, l1, l2, l3, l4, l5] [] F L Q = wt am_S0 d mX12_isShaded 84 [l0, l1, l2, l3, l4, l5] [.int 1] F L Q := (wt_iconst dX12_isShaded_79 (v := 1) (by decide)).trans (wt_goto dX12_isShaded_80 (t := 84) rfl)
set_option maxHeartbeats 100000 in
theorem kX12_isShaded_83 {d : Nat} {F : am_FT} {L : am_LT} {Q : am_QT} {l0 l1 l2 l3 l4 l5 : Option Value} : wt am_S0 d mX12_isShaded 83 [l0, l1, l2, l3, l4, l5] [] F L Q = wt am_S0 d mX12_isShaded 84 [l0, l1, l2, l3, l4, l5] [.int 0] F L Q := wt_iconst dX12_isShaded_83 (v := 0) (by decide)
set_option maxHeartbeats 100000 in
theorem kX12_isShaded_84 {d : Nat} {F : am_FT} {L : am_LT} {Q : am_QT} {l0 l1 l2 l3 l4 l5 : Option Value} {s0 : Int32} (h1 : narrow .boolean (.int s0) = .int s0) : wt am_S0 d mX12_isShaded 84 [l0, l1, l2, l3, l4, l5] [.int s0] F L Q = Q (some (.int s0)) F L := wt_ireturn dX12_isShaded_84 rfl h1
theorem dX12_rowsOf_0 : decode mX12_rowsOf.2.2.1 0 = .ok (.aload_n 0, 1) := by decide +kernel
theorem dX12_rowsOf_1 : decode mX12_rowsOf.2.2.1 1 = .ok (.getfield 9, 3) := by decide +kernel
theorem dX12_rowsOf_4 : decode mX12_rowsOf.2.2.1 4 = .ok (.bipush 6, 2) := by decide +kernel
theorem dX12_rowsOf_6 : decode mX12_rowsOf.2.2.1 6 = .ok (.iload_n 1, 1) := by decide +kernel
theorem dX12_rowsOf_7 : decode mX12_rowsOf.2.2.1 7 = .ok (.iadd, 1) := by decide +kernel
theorem dX12_rowsOf_8 : decode mX12_rowsOf.2.2.1 8 = .ok (.iaload, 1) := by decide +kernel
theorem dX12_rowsOf_9 : decode mX12_rowsOf.2.2.1 9 = .ok (.aload_n 0, 1) := by decide +kernel
theorem dX12_rowsOf_10 : decode mX12_rowsOf.2.2.1 10 = .ok (.getfield 9, 3) := by decide +kernel
theorem dX12_rowsOf_13 : decode mX12_rowsOf.2.2.1 13 = .ok (.bipush 18, 2) := by decide +kernel
theorem dX12_rowsOf_15 : decode mX12_rowsOf.2.2.1 15 = .ok (.iload_n 2, 1) := by decide +kernel
theorem dX12_rowsOf_16 : decode mX12_rowsOf.2.2.1 16 = .ok (.iadd, 1) := by decide +kernel
theorem dX12_rowsOf_17 : decode mX12_rowsOf.2.2.1 17 = .ok (.iaload, 1) := by decide +kernel
theorem dX12_rowsOf_18 : decode mX12_rowsOf.2.2.1 18 = .ok (.imul, 1) := by decide +kernel
theorem dX12_rowsOf_19 : decode mX12_rowsOf.2.2.1 19 = .ok (.iconst 3, 1) := by decide +kernel
theorem dX12_rowsOf_20 : decode mX12_rowsOf.2.2.1 20 = .ok (.idiv, 1) := by decide +kernel
theorem dX12_rowsOf_21 : decode mX12_rowsOf.2.2.1 21 = .ok (.ireturn, 1) := by decide +kernel
set_option maxHeartbeats 100000 in
theorem kX12_rowsOf_0 {d : Nat} {F : am_FT} {L : am_LT} {Q : am_QT} {x1 x2 : Int32} (h1 : am_oob (6 + x1) 60 = false) (h2 : am_oob (18 + x2) 60 = false) : wt am_S0 d mX12_rowsOf 0 [some (.ref 45), some (.int x1), some (.int x2)] [] F L Q = Q (some (.int (((F 46 (Int32.toNatClampNeg (6 + x1))) * (F 46 (Int32.toNatClampNeg (18 + x2)))) / 3))) F L := (wt_aload_n dX12_rowsOf_0 rfl rfl).trans ((wt_getfield dX12_rowsOf_1 rfl rfl (v := .ref 46) rfl).trans ((wt_bipush dX12_rowsOf_4 (v := 6) (by decide)).trans ((wt_iload_n dX12_rowsOf_6 rfl).trans ((wt_iadd dX12_rowsOf_7).trans ((wt_iaload dX12_rowsOf_8 rfl (by decide) h1).trans ((wt_aload_n dX12_rowsOf_9 rfl rfl).trans ((wt_getfield dX12_rowsOf_10 rfl rfl (v := .ref 46) rfl).trans ((wt_bipush dX12_rowsOf_13 (v := 18) (by decide)).trans ((wt_iload_n dX12_rowsOf_15 rfl).trans ((wt_iadd dX12_rowsOf_16).trans ((wt_iaload dX12_rowsOf_17 rfl (by decide) h2).trans ((wt_imul dX12_rowsOf_18).trans ((wt_iconst dX12_rowsOf_19 (v := 3) (by decide)).trans ((wt_idiv dX12_rowsOf_20 (by decide)).trans (wt_ireturn dX12_rowsOf_21 rfl rfl)))))))))))))))
theorem dX12_votes_0 : decode mX12_votes.2.2.1 0 = .ok (.aload_n 0, 1) := by decide +kernel
theorem dX12_votes_1 : decode mX12_votes.2.2.1 1 = .ok (.iload_n 1, 1) := by decide +kernel
theorem dX12_votes_2 : decode mX12_votes.2.2.1 2 = .ok (.invokevirtual 212, 3) := by decide +kernel
theorem dX12_votes_5 : decode mX12_votes.2.2.1 5 = .ok (.ifCond .eq 15, 3) := by decide +kernel
theorem dX12_votes_8 : decode mX12_votes.2.2.1 8 = .ok (.iload_n 2, 1) := by decide +kernel
theorem dX12_votes_9 : decode mX12_votes.2.2.1 9 = .ok (.i2l, 1) := by decide +kernel
theorem dX12_votes_10 : decode mX12_votes.2.2.1 10 = .ok (.lconst 0, 1) := by decide +kernel
theorem dX12_votes_11 : decode mX12_votes.2.2.1 11 = .ok (.ldc2_w 113, 3) := by decide +kernel
theorem dX12_votes_14 : decode mX12_votes.2.2.1 14 = .ok (.invokestatic 75, 3) := by decide +kernel
theorem dX12_votes_17 : decode mX12_votes.2.2.1 17 = .ok (.ifCond .ne 5, 3) := by decide +kernel
theorem dX12_votes_20 : decode mX12_votes.2.2.1 20 = .ok (.iconst (-1), 1) := by decide +kernel
theorem dX12_votes_21 : decode mX12_votes.2.2.1 21 = .ok (.ireturn, 1) := by decide +kernel
theorem dX12_votes_22 : decode mX12_votes.2.2.1 22 = .ok (.iload_n 1, 1) := by decide +kernel
theorem dX12_votes_23 : decode mX12_votes.2.2.1 23 = .ok (.bipush 100, 2) := by decide +kernel
theorem dX12_votes_25 : decode mX12_votes.2.2.1 25 = .ok (.idiv, 1) := by decide +kernel
theorem dX12_votes_26 : decode mX12_votes.2.2.1 26 = .ok (.istore_n 3, 1) := by decide +kernel
theorem dX12_votes_27 : decode mX12_votes.2.2.1 27 = .ok (.iload_n 1, 1) := by decide +kernel
theorem dX12_votes_28 : decode mX12_votes.2.2.1 28 = .ok (.bipush 100, 2) := by decide +kernel
theorem dX12_votes_30 : decode mX12_votes.2.2.1 30 = .ok (.irem, 1) := by decide +kernel
theorem dX12_votes_31 : decode mX12_votes.2.2.1 31 = .ok (.istore 4, 2) := by decide +kernel
theorem dX12_votes_33 : decode mX12_votes.2.2.1 33 = .ok (.aload_n 0, 1) := by decide +kernel
theorem dX12_votes_34 : decode mX12_votes.2.2.1 34 = .ok (.iload_n 3, 1) := by decide +kernel
theorem dX12_votes_35 : decode mX12_votes.2.2.1 35 = .ok (.iload 4, 2) := by decide +kernel
theorem dX12_votes_37 : decode mX12_votes.2.2.1 37 = .ok (.invokevirtual 215, 3) := by decide +kernel
theorem dX12_votes_40 : decode mX12_votes.2.2.1 40 = .ok (.istore 5, 2) := by decide +kernel
theorem dX12_votes_42 : decode mX12_votes.2.2.1 42 = .ok (.iload_n 2, 1) := by decide +kernel
theorem dX12_votes_43 : decode mX12_votes.2.2.1 43 = .ok (.iconst 2, 1) := by decide +kernel
theorem dX12_votes_44 : decode mX12_votes.2.2.1 44 = .ok (.if_icmp .ge 27, 3) := by decide +kernel
theorem dX12_votes_47 : decode mX12_votes.2.2.1 47 = .ok (.aload_n 0, 1) := by decide +kernel
theorem dX12_votes_48 : decode mX12_votes.2.2.1 48 = .ok (.iload_n 3, 1) := by decide +kernel
theorem dX12_votes_49 : decode mX12_votes.2.2.1 49 = .ok (.iload 4, 2) := by decide +kernel
theorem dX12_votes_51 : decode mX12_votes.2.2.1 51 = .ok (.iload 5, 2) := by decide +kernel
theorem dX12_votes_53 : decode mX12_votes.2.2.1 53 = .ok (.iload_n 2, 1) := by decide +kernel
theorem dX12_votes_54 : decode mX12_votes.2.2.1 54 = .ok (.ifCond .ne 11, 3) := by decide +kernel
theorem dX12_votes_57 : decode mX12_votes.2.2.1 57 = .ok (.aload_n 0, 1) := by decide +kernel
theorem dX12_votes_58 : decode mX12_votes.2.2.1 58 = .ok (.iload_n 3, 1) := by decide +kernel
theorem dX12_votes_59 : decode mX12_votes.2.2.1 59 = .ok (.invokevirtual 205, 3) := by decide +kernel
theorem dX12_votes_62 : decode mX12_votes.2.2.1 62 = .ok (.goto 5, 3) := by decide +kernel
theorem dX12_votes_65 : decode mX12_votes.2.2.1 65 = .ok (.iload 5, 2) := by decide +kernel
theorem dX12_votes_67 : decode mX12_votes.2.2.1 67 = .ok (.invokevirtual 202, 3) := by decide +kernel
theorem dX12_votes_70 : decode mX12_votes.2.2.1 70 = .ok (.ireturn, 1) := by decide +kernel
theorem dX12_votes_71 : decode mX12_votes.2.2.1 71 = .ok (.iload_n 2, 1) := by decide +kernel
theorem dX12_votes_72 : decode mX12_votes.2.2.1 72 = .ok (.iconst 2, 1) := by decide +kernel
theorem dX12_votes_73 : decode mX12_votes.2.2.1 73 = .ok (.if_icmp .ne 19, 3) := by decide +kernel
theorem dX12_votes_76 : decode mX12_votes.2.2.1 76 = .ok (.aload_n 0, 1) := by decide +kernel
theorem dX12_votes_77 : decode mX12_votes.2.2.1 77 = .ok (.iload_n 3, 1) := by decide +kernel
theorem dX12_votes_78 : decode mX12_votes.2.2.1 78 = .ok (.iload 4, 2) := by decide +kernel
theorem dX12_votes_80 : decode mX12_votes.2.2.1 80 = .ok (.invokevirtual 218, 3) := by decide +kernel
theorem dX12_votes_83 : decode mX12_votes.2.2.1 83 = .ok (.ifCond .eq 7, 3) := by decide +kernel
theorem dX12_votes_86 : decode mX12_votes.2.2.1 86 = .ok (.iconst 1, 1) := by decide +kernel
theorem dX12_votes_87 : decode mX12_votes.2.2.1 87 = .ok (.goto 4, 3) := by decide +kernel
theorem dX12_votes_90 : decode mX12_votes.2.2.1 90 = .ok (.iconst 0, 1) := by decide +kernel
theorem dX12_votes_91 : decode mX12_votes.2.2.1 91 = .ok (.ireturn, 1) := by decide +kernel
theorem dX12_votes_92 : decode mX12_votes.2.2.1 92 = .ok (.iconst 0, 1) := by decide +kernel
theorem dX12_votes_93 : decode mX12_votes.2.2.1 93 = .ok (.istore 6, 2) := by decide +kernel
theorem dX12_votes_95 : decode mX12_votes.2.2.1 95 = .ok (.iconst 0, 1) := by decide +kernel
theorem dX12_votes_96 : decode mX12_votes.2.2.1 96 = .ok (.istore 7, 2) := by decide +kernel
theorem dX12_votes_98 : decode mX12_votes.2.2.1 98 = .ok (.iload 7, 2) := by decide +kernel
theorem dX12_votes_100 : decode mX12_votes.2.2.1 100 = .ok (.sipush 256, 3) := by decide +kernel
theorem dX12_votes_103 : decode mX12_votes.2.2.1 103 = .ok (.if_icmp .ge 31, 3) := by decide +kernel
theorem dX12_votes_106 : decode mX12_votes.2.2.1 106 = .ok (.iload 6, 2) := by decide +kernel
theorem dX12_votes_108 : decode mX12_votes.2.2.1 108 = .ok (.aload_n 0, 1) := by decide +kernel
theorem dX12_votes_109 : decode mX12_votes.2.2.1 109 = .ok (.iload_n 3, 1) := by decide +kernel
theorem dX12_votes_110 : decode mX12_votes.2.2.1 110 = .ok (.iload 4, 2) := by decide +kernel
theorem dX12_votes_112 : decode mX12_votes.2.2.1 112 = .ok (.iload 7, 2) := by decide +kernel
theorem dX12_votes_114 : decode mX12_votes.2.2.1 114 = .ok (.invokevirtual 221, 3) := by decide +kernel
theorem dX12_votes_117 : decode mX12_votes.2.2.1 117 = .ok (.ifCond .eq 7, 3) := by decide +kernel
theorem dX12_votes_120 : decode mX12_votes.2.2.1 120 = .ok (.iconst 1, 1) := by decide +kernel
theorem dX12_votes_121 : decode mX12_votes.2.2.1 121 = .ok (.goto 4, 3) := by decide +kernel
theorem dX12_votes_124 : decode mX12_votes.2.2.1 124 = .ok (.iconst 0, 1) := by decide +kernel
theorem dX12_votes_125 : decode mX12_votes.2.2.1 125 = .ok (.iadd, 1) := by decide +kernel
theorem dX12_votes_126 : decode mX12_votes.2.2.1 126 = .ok (.istore 6, 2) := by decide +kernel
theorem dX12_votes_128 : decode mX12_votes.2.2.1 128 = .ok (.iinc 7 1, 3) := by decide +kernel
theorem dX12_votes_131 : decode mX12_votes.2.2.1 131 = .ok (.goto (-33), 3) := by decide +kernel
theorem dX12_votes_134 : decode mX12_votes.2.2.1 134 = .ok (.iload 6, 2) := by decide +kernel
theorem dX12_votes_136 : decode mX12_votes.2.2.1 136 = .ok (.ireturn, 1) := by decide +kernel
set_option maxHeartbeats 100000 in
theorem kX12_votes_0 {d : Nat} {F : am_FT} {L : am_LT} {Q : am_QT} {l2 l3 l4 l5 l6 l7 : Option Value} {x1 : Int32} : wt am_S0 (d + 1) mX12_votes 0 [some (.ref 45), some (.int x1), l2, l3, l4, l5, l6, l7] [] F L Q = wc am_S0 d mX12_isTm [.ref 45, .int x1] F L (fun r G K => wt am_S0 (d + 1) mX12_votes 5 [some (.ref 45), some (.int x1), l2, l3, l4, l5, l6, l7] (r.toList ++ []) G K Q) := (wt_aload_n dX12_votes_0 rfl rfl).trans ((wt_iload_n dX12_votes_1 rfl).trans (wt_callV dX12_votes_2 rfl (as := [.int x1]) (rest := []) rfl rfl (Nat.le_of_ble_eq_true rfl) rfl (Nat.le_of_ble_eq_true rfl)))
set_option maxHeartbeats 100000 in
theorem kX12_votes_5 {d : Nat} {F : am_FT} {L : am_LT} {Q : am_QT} {l0 l1 l2 l3 l4 l5 l6 l7 : Option Value} {s0 : Int32} : wt am_S0 d mX12_votes 5 [l0, l1, l2, l3, l4, l5, l6, l7] [.int s0] F L Q = if s0 = 0 then wt am_S0 d mX12_votes 20 [l0, l1, l2, l3, l4, l5, l6, l7] [] F L Q else wt am_S0 d mX12_votes 8 [l0, l1, l2, l3, l4, l5, l6, l7] [] F L Q := wt_ifCond_eq dX12_votes_5 (t := 20) rfl
set_option maxHeartbeats 100000 in
theorem kX12_votes_8 {d : Nat} {F : am_FT} {L : am_LT} {Q : am_QT} {l0 l1 l3 l4 l5 l6 l7 : Option Value} {x2 : Int32} : wt am_S0 (d + 1) mX12_votes 8 [l0, l1, some (.int x2), l3, l4, l5, l6, l7] [] F L Q = wc am_S0 d mX12_within [.long (Int32.toInt64 x2), .long 0, .long 3] F L (fun r G K => wt am_S0 (d + 1) mX12_votes 17 [l0, l1, some (.int x2), l3, l4, l5, l6, l7] (r.toList ++ []) G K Q) := (wt_iload_n dX12_votes_8 rfl).trans ((wt_i2l dX12_votes_9).trans ((wt_lconst dX12_votes_10 (v := 0) (by decide)).trans ((wt_ldc2_w dX12_votes_11 (v := 3) rfl).trans (wt_callS dX12_votes_14 rfl (as := [.long (Int32.toInt64 x2), .long 0, .long 3]) (rest := []) rfl rfl (Nat.le_of_ble_eq_true rfl) (Nat.le_of_ble_eq_true rfl)))))
set_option maxHeartbeats 100000 in
theorem kX12_votes_17 {d : Nat} {F : am_FT} {L : am_LT} {Q : am_QT} {l0 l1 l2 l3 l4 l5 l6 l7 : Option Value} {s0 : Int32} : wt am_S0 d mX12_votes 17 [l0, l1, l2, l3, l4, l5, l6, l7] [.int s0] F L Q = if ¬ s0 = 0 then wt am_S0 d mX12_votes 22 [l0, l1, l2, l3, l4, l5, l6, l7] [] F L Q else wt am_S0 d mX12_votes 20 [l0, l1, l2, l3, l4, l5, l6, l7] [] F L Q := wt_ifCond_ne dX12_votes_17 (t := 22) rfl
set_option maxHeartbeats 100000 in
theorem kX12_votes_20 {d : Nat} {F : am_FT} {L : am_LT} {Q : am_QT} {l0 l1 l2 l3 l4 l5 l6 l7 : Option Value} : wt am_S0 d mX12_votes 20 [l0, l1, l2, l3, l4, l5, l6, l7] [] F L Q = Q (some (.int (-1))) F L := (wt_iconst dX12_votes_20 (v := (-1)) (by decide)).trans (wt_ireturn dX12_votes_21 rfl rfl)
set_option maxHeartbeats 100000 in
theorem kX12_votes_22 {d : Nat} {F : am_FT} {L : am_LT} {Q : am_QT} {l3 l4 l5 l6 l7 : Option Value} {x1 x2 : Int32} : wt am_S0 (d + 1) mX12_votes 22 [some (.ref 45), some (.int x1), some (.int x2), l3, l4, l5, l6, l7] [] F L Q = wc am_S0 d mX12_sittersNow [.ref 45, .int (x1 / 100), .int (x1 - x1 / 100 * 100)] F L (fun r G K => wt am_S0 (d + 1) mX12_votes 40 [some (.ref 45), some (.int x1), some (.int x2), some (.int (x1 / 100)), some (.int (x1 - x1 / 100 * 100)), l5, l6, l7] (r.toList ++ []) G K Q) := (wt_iload_n dX12_votes_22 rfl).trans ((wt_bipush dX12_votes_23 (v := 100) (by decide)).trans ((wt_idiv dX12_votes_25 (by decide)).trans ((wt_istore_n dX12_votes_26 (lv1 := [some (.ref 45), some (.int x1), some (.int x2), some (.int (x1 / 100)), l4, l5, l6, l7]) (Nat.le_of_ble_eq_true rfl) rfl).trans ((wt_iload_n dX12_votes_27 rfl).trans ((wt_bipush dX12_votes_28 (v := 100) (by decide)).trans ((wt_irem dX12_votes_30 (by decide)).trans ((wt_istore dX12_votes_31 (lv1 := [some (.ref 45), some (.int x1), some (.int x2), some (.int (x1 / 100)), some (.int (x1 - x1 / 100 * 100)), l5, l6, l7]) (Nat.le_of_ble_eq_true rfl) rfl).trans ((wt_aload_n dX12_votes_33 rfl rfl).trans ((wt_iload_n dX12_votes_34 rfl).trans ((wt_iload dX12_votes_35 rfl).trans (wt_callV dX12_votes_37 rfl (as := [.int (x1 / 100), .int (x1 - x1 / 100 * 100)]) (rest := []) rfl rfl (Nat.le_of_ble_eq_true rfl) rfl (Nat.le_of_ble_eq_true rfl))))))))))))
set_option maxHeartbeats 100000 in
theorem kX12_votes_40 {d : Nat} {F : am_FT} {L : am_LT} {Q : am_QT} {l0 l1 l3 l5 l6 l7 : Option Value} {s0 x4 x2 : Int32} : wt am_S0 d mX12_votes 40 [l0, l1, some (.int x2), l3, some (.int x4), l5, l6, l7] [.int s0] F L Q = if 2 ≤ x2 then wt am_S0 d mX12_votes 71 [l0, l1, some (.int x2), l3, some (.int x4), some (.int s0), l6, l7] [] F L Q else wt am_S0 d mX12_votes 47 [l0, l1, some (.int x2), l3, some (.int x4), some (.int s0), l6, l7] [] F L Q := (wt_istore dX12_votes_40 (lv1 := [l0, l1, some (.int x2), l3, some (.int x4), some (.int s0), l6, l7]) (Nat.le_of_ble_eq_true rfl) rfl).trans ((wt_iload_n dX12_votes_42 rfl).trans ((wt_iconst dX12_votes_43 (v := 2) (by decide)).trans (wt_if_icmp_ge dX12_votes_44 (t := 71) rfl)))
set_option maxHeartbeats 100000 in
theorem kX12_votes_47 {d : Nat} {F : am_FT} {L : am_LT} {Q : am_QT} {l1 l6 l7 : Option Value} {x3 x4 x5 x2 : Int32} : wt am_S0 d mX12_votes 47 [some (.ref 45), l1, some (.int x2), some (.int x3), some (.int x4), some (.int x5), l6, l7] [] F L Q = if ¬ x2 = 0 then wt am_S0 d mX12_votes 65 [some (.ref 45), l1, some (.int x2), some (.int x3), some (.int x4), some (.int x5), l6, l7] [.int x5, .int x4, .int x3, .ref 45] F L Q else wt am_S0 d mX12_votes 57 [some (.ref 45), l1, some (.int x2), some (.int x3), some (.int x4), some (.int x5), l6, l7] [.int x5, .int x4, .int x3, .ref 45] F L Q := (wt_aload_n dX12_votes_47 rfl rfl).trans ((wt_iload_n dX12_votes_48 rfl).trans ((wt_iload dX12_votes_49 rfl).trans ((wt_iload dX12_votes_51 rfl).trans ((wt_iload_n dX12_votes_53 rfl).trans (wt_ifCond_ne dX12_votes_54 (t := 65) rfl)))))
set_option maxHeartbeats 100000 in
theorem kX12_votes_57 {d : Nat} {F : am_FT} {L : am_LT} {Q : am_QT} {l1 l2 l4 l5 l6 l7 : Option Value} {s1 s2 s3 x3 : Int32} : wt am_S0 (d + 1) mX12_votes 57 [some (.ref 45), l1, l2, some (.int x3), l4, l5, l6, l7] [.int s3, .int s2, .int s1, .ref 45] F L Q = wc am_S0 d mX12_wishers [.ref 45, .int x3] F L (fun r G K => wt am_S0 (d + 1) mX12_votes 62 [some (.ref 45), l1, l2, some (.int x3), l4, l5, l6, l7] (r.toList ++ [.int s3, .int s2, .int s1, .ref 45]) G K Q) := (wt_aload_n dX12_votes_57 rfl rfl).trans ((wt_iload_n dX12_votes_58 rfl).trans (wt_callV dX12_votes_59 rfl (as := [.int x3]) (rest := [.int s3, .int s2, .int s1, .ref 45]) rfl rfl (Nat.le_of_ble_eq_true rfl) rfl (Nat.le_of_ble_eq_true rfl)))
set_option maxHeartbeats 100000 in
theorem kX12_votes_62 {d : Nat} {F : am_FT} {L : am_LT} {Q : am_QT} {l0 l1 l2 l3 l4 l5 l6 l7 : Option Value} {s1 s2 s3 s4 : Int32} : wt am_S0 d mX12_votes 62 [l0, l1, l2, l3, l4, l5, l6, l7] [.int s4, .int s3, .int s2, .int s1, .ref 45] F L Q = wt am_S0 d mX12_votes 67 [l0, l1, l2, l3, l4, l5, l6, l7] [.int s4, .int s3, .int s2, .int s1, .ref 45] F L Q := wt_goto dX12_votes_62 (t := 67) rfl
set_option maxHeartbeats 100000 in
theorem kX12_votes_65 {d : Nat} {F : am_FT} {L : am_LT} {Q : am_QT} {l0 l1 l2 l3 l4 l6 l7 : Option Value} {s1 s2 s3 x5 : Int32} : wt am_S0 d mX12_votes 65 [l0, l1, l2, l3, l4, some (.int x5), l6, l7] [.int s3, .int s2, .int s1, .ref 45] F L Q = wt am_S0 d mX12_votes 67 [l0, l1, l2, l3, l4, some (.int x5), l6, l7] [.int x5, .int s3, .int s2, .int s1, .ref 45] F L Q := wt_iload dX12_votes_65 rfl
set_option maxHeartbeats 100000 in
theorem kX12_votes_67 {d : Nat} {F : am_FT} {L : am_LT} {Q : am_QT} {l0 l1 l2 l3 l4 l5 l6 l7 : Option Value} {s1 s2 s3 s4 : Int32} : wt am_S0 (d + 1) mX12_votes 67 [l0, l1, l2, l3, l4, l5, l6, l7] [.int s4, .int s3, .int s2, .int s1, .ref 45] F L Q = wc am_S0 d mX12_sumOf [.ref 45, .int s1, .int s2, .int s3, .int s4] F L (fun r G K => wt am_S0 (d + 1) mX12_votes 70 [l0, l1, l2, l3, l4, l5, l6, l7] (r.toList ++ []) G K Q) := wt_callV dX12_votes_67 rfl (as := [.int s1, .int s2, .int s3, .int s4]) (rest := []) rfl rfl (Nat.le_of_ble_eq_true rfl) rfl (Nat.le_of_ble_eq_true rfl)
set_option maxHeartbeats 100000 in
theorem kX12_votes_70 {d : Nat} {F : am_FT} {L : am_LT} {Q : am_QT} {l0 l1 l2 l3 l4 l5 l6 l7 : Option Value} {s0 : Int32} : wt am_S0 d mX12_votes 70 [l0, l1, l2, l3, l4, l5, l6, l7] [.int s0] F L Q = Q (some (.int s0)) F L := wt_ireturn dX12_votes_70 rfl rfl
set_option maxHeartbeats 100000 in
theorem kX12_votes_71 {d : Nat} {F : am_FT} {L : am_LT} {Q : am_QT} {l0 l1 l3 l4 l5 l6 l7 : Option Value} {x2 : Int32} : wt am_S0 d mX12_votes 71 [l0, l1, some (.int x2), l3, l4, l5, l6, l7] [] F L Q = if ¬ x2 = 2 then wt am_S0 d mX12_votes 92 [l0, l1, some (.int x2), l3, l4, l5, l6, l7] [] F L Q else wt am_S0 d mX12_votes 76 [l0, l1, some (.int x2), l3, l4, l5, l6, l7] [] F L Q := (wt_iload_n dX12_votes_71 rfl).trans ((wt_iconst dX12_votes_72 (v := 2) (by decide)).trans (wt_if_icmp_ne dX12_votes_73 (t := 92) rfl))
set_option maxHeartbeats 100000 in
theorem kX12_votes_76 {d : Nat} {F : am_FT} {L : am_LT} {Q : am_QT} {l1 l2 l5 l6 l7 : Option Value} {x3 x4 : Int32} : wt am_S0 (d + 1) mX12_votes 76 [some (.ref 45), l1, l2, some (.int x3), some (.int x4), l5, l6, l7] [] F L Q = wc am_S0 d mX12_fallsNow [.ref 45, .int x3, .int x4] F L (fun r G K => wt am_S0 (d + 1) mX12_votes 83 [some (.ref 45), l1, l2, some (.int x3), some (.int x4), l5, l6, l7] (r.toList ++ []) G K Q) := (wt_aload_n dX12_votes_76 rfl rfl).trans ((wt_iload_n dX12_votes_77 rfl).trans ((wt_iload dX12_votes_78 rfl).trans (wt_callV dX12_votes_80 rfl (as := [.int x3, .int x4]) (rest := []) rfl rfl (Nat.le_of_ble_eq_true rfl) rfl (Nat.le_of_ble_eq_true rfl))))
set_option maxHeartbeats 100000 in
theorem kX12_votes_83 {d : Nat} {F : am_FT} {L : am_LT} {Q : am_QT} {l0 l1 l2 l3 l4 l5 l6 l7 : Option Value} {s0 : Int32} : wt am_S0 d mX12_votes 83 [l0, l1, l2, l3, l4, l5, l6, l7] [.int s0] F L Q = if s0 = 0 then wt am_S0 d mX12_votes 90 [l0, l1, l2, l3, l4, l5, l6, l7] [] F L Q else wt am_S0 d mX12_votes 86 [l0, l1, l2, l3, l4, l5, l6, l7] [] F L Q := wt_ifCond_eq dX12_votes_83 (t := 90) rfl
set_option maxHeartbeats 100000 in
theorem kX12_votes_86 {d : Nat} {F : am_FT} {L : am_LT} {Q : am_QT} {l0 l1 l2 l3 l4 l5 l6 l7 : Option Value} : wt am_S0 d mX12_votes 86 [l0, l1, l2, l3, l4, l5, l6, l7] [] F L Q = wt am_S0 d mX12_votes 91 [l0, l1, l2, l3, l4, l5, l6, l7] [.int 1] F L Q := (wt_iconst dX12_votes_86 (v := 1) (by decide)).trans (wt_goto dX12_votes_87 (t := 91) rfl)
set_option maxHeartbeats 100000 in
theorem kX12_votes_90 {d : Nat} {F : am_FT} {L : am_LT} {Q : am_QT} {l0 l1 l2 l3 l4 l5 l6 l7 : Option Value} : wt am_S0 d mX12_votes 90 [l0, l1, l2, l3, l4, l5, l6, l7] [] F L Q = wt am_S0 d mX12_votes 91 [l0, l1, l2, l3, l4, l5, l6, l7] [.int 0] F L Q := wt_iconst dX12_votes_90 (v := 0) (by decide)
set_option maxHeartbeats 100000 in
theorem kX12_votes_91 {d : Nat} {F : am_FT} {L : am_LT} {Q : am_QT} {l0 l1 l2 l3 l4 l5 l6 l7 : Option Value} {s0 : Int32} : wt am_S0 d mX12_votes 91 [l0, l1, l2, l3, l4, l5, l6, l7] [.int s0] F L Q = Q (some (.int s0)) F L := wt_ireturn dX12_votes_91 rfl rfl
set_option maxHeartbeats 100000 in
theorem kX12_votes_92 {d : Nat} {F : am_FT} {L : am_LT} {Q : am_QT} {l0 l1 l2 l3 l4 l6 l7 : Option Value} {x5 : Int32} : wt am_S0 d mX12_votes 92 [l0, l1, l2, l3, l4, some (.int x5), l6, l7] [] F L Q = wt am_S0 d mX12_votes 98 [l0, l1, l2, l3, l4, some (.int x5), some (.int 0), some (.int 0)] [] F L Q := (wt_iconst dX12_votes_92 (v := 0) (by decide)).trans ((wt_istore dX12_votes_93 (lv1 := [l0, l1, l2, l3, l4, some (.int x5), some (.int 0), l7]) (Nat.le_of_ble_eq_true rfl) rfl).trans ((wt_iconst dX12_votes_95 (v := 0) (by decide)).trans (wt_istore dX12_votes_96 (lv1 := [l0, l1, l2, l3, l4, some (.int x5), some (.int 0), some (.int 0)]) (Nat.le_of_ble_eq_true rfl) rfl)))
set_option maxHeartbeats 100000 in
theorem kX12_votes_98 {d : Nat} {F : am_FT} {L : am_LT} {Q : am_QT} {l0 l1 l2 l3 l4 l5 l6 : Option Value} {x7 : Int32} : wt am_S0 d mX12_votes 98 [l0, l1, l2, l3, l4, l5, l6, some (.int x7)] [] F L Q = if 256 ≤ x7 then wt am_S0 d mX12_votes 134 [l0, l1, l2, l3, l4, l5, l6, some (.int x7)] [] F L Q else wt am_S0 d mX12_votes 106 [l0, l1, l2, l3, l4, l5, l6, some (.int x7)] [] F L Q := (wt_iload dX12_votes_98 rfl).trans ((wt_sipush dX12_votes_100 (v := 256) (by decide)).trans (wt_if_icmp_ge dX12_votes_103 (t := 134) rfl))
set_option maxHeartbeats 100000 in
theorem kX12_votes_106 {d : Nat} {F : am_FT} {L : am_LT} {Q : am_QT} {l1 l2 l5 : Option Value} {x6 x3 x4 x7 : Int32} : wt am_S0 (d + 1) mX12_votes 106 [some (.ref 45), l1, l2, some (.int x3), some (.int x4), l5, some (.int x6), some (.int x7)] [] F L Q = wc am_S0 d mX12_isShadedNow [.ref 45, .int x3, .int x4, .int x7] F L (fun r G K => wt am_S0 (d + 1) mX12_votes 117 [some (.ref 45), l1, l2, some (.int x3), some (.int x4), l5, some (.int x6), some (.int x7)] (r.toList ++ [.int x6]) G K Q) := (wt_iload dX12_votes_106 rfl).trans ((wt_aload_n dX12_votes_108 rfl rfl).trans ((wt_iload_n dX12_votes_109 rfl).trans ((wt_iload dX12_votes_110 rfl).trans ((wt_iload dX12_votes_112 rfl).trans (wt_callV dX12_votes_114 rfl (as := [.int x3, .int x4, .int x7]) (rest := [.int x6]) rfl rfl (Nat.le_of_ble_eq_true rfl) rfl (Nat.le_of_ble_eq_true rfl))))))
set_option maxHeartbeats 100000 in
theorem kX12_votes_117 {d : Nat} {F : am_FT} {L : am_LT} {Q : am_QT} {l0 l1 l2 l3 l4 l5 l6 l7 : Option Value} {s0 s1 : Int32} : wt am_S0 d mX12_votes 117 [l0, l1, l2, l3, l4, l5, l6, l7] [.int s1, .int s0] F L Q = if s1 = 0 then wt am_S0 d mX12_votes 124 [l0, l1, l2, l3, l4, l5, l6, l7] [.int s0] F L Q else wt am_S0 d mX12_votes 120 [l0, l1, l2, l3, l4, l5, l6, l7] [.int s0] F L Q := wt_ifCond_eq dX12_votes_117 (t := 124) rfl
set_option maxHeartbeats 100000 in
theorem kX12_votes_120 {d : Nat} {F : am_FT} {L : am_LT} {Q : am_QT} {l0 l1 l2 l3 l4 l5 l6 l7 : Option Value} {s0 : Int32} : wt am_S0 d mX12_votes 120 [l0, l1, l2, l3, l4, l5, l6, l7] [.int s0] F L Q = wt am_S0 d mX12_votes 125 [l0, l1, l2, l3, l4, l5, l6, l7] [.int 1, .int s0] F L Q := (wt_iconst dX12_votes_120 (v := 1) (by decide)).trans (wt_goto dX12_votes_121 (t := 125) rfl)
set_option maxHeartbeats 100000 in
theorem kX12_votes_124 {d : Nat} {F : am_FT} {L : am_LT} {Q : am_QT} {l0 l1 l2 l3 l4 l5 l6 l7 : Option Value} {s0 : Int32} : wt am_S0 d mX12_votes 124 [l0, l1, l2, l3, l4, l5, l6, l7] [.int s0] F L Q = wt am_S0 d mX12_votes 125 [l0, l1, l2, l3, l4, l5, l6, l7] [.int 0, .int s0] F L Q := wt_iconst dX12_votes_124 (v := 0) (by decide)
set_option maxHeartbeats 100000 in
theorem kX12_votes_125 {d : Nat} {F : am_FT} {L : am_LT} {Q : am_QT} {l0 l1 l2 l3 l4 l6 : Option Value} {s0 s1 x5 x7 : Int32} : wt am_S0 d mX12_votes 125 [l0, l1, l2, l3, l4, some (.int x5), l6, some (.int x7)] [.int s1, .int s0] F L Q = wt am_S0 d mX12_votes 98 [l0, l1, l2, l3, l4, some (.int x5), some (.int (s0 + s1)), some (.int (x7 + 1))] [] F L Q := (wt_iadd dX12_votes_125).trans ((wt_istore dX12_votes_126 (lv1 := [l0, l1, l2, l3, l4, some (.int x5), some (.int (s0 + s1)), some (.int x7)]) (Nat.le_of_ble_eq_true rfl) rfl).trans ((wt_iinc dX12_votes_128 (v := 1) (lv1 := [l0, l1, l2, l3, l4, some (.int x5), some (.int (s0 + s1)), some (.int (x7 + 1))]) rfl (Nat.le_of_ble_eq_true rfl) (by decide) rfl).trans (wt_goto dX12_votes_131 (t := 98) rfl)))
set_option maxHeartbeats 100000 in
theorem kX12_votes_134 {d : Nat} {F : am_FT} {L : am_LT} {Q : am_QT} {l0 l1 l2 l3 l4 l5 l7 : Option Value} {x6 : Int32} : wt am_S0 d mX12_votes 134 [l0, l1, l2, l3, l4, l5, some (.int x6), l7] [] F L Q = Q (some (.int x6)) F L := (wt_iload dX12_votes_134 rfl).trans (wt_ireturn dX12_votes_136 rfl rfl)
theorem dX12_wishers_0 : decode mX12_wishers.2.2.1 0 = .ok (.iconst 0, 1) := by decide +kernel
theorem dX12_wishers_1 : decode mX12_wishers.2.2.1 1 = .ok (.istore_n 2, 1) := by decide +kernel
theorem dX12_wishers_2 : decode mX12_wishers.2.2.1 2 = .ok (.iconst 0, 1) := by decide +kernel
theorem dX12_wishers_3 : decode mX12_wishers.2.2.1 3 = .ok (.istore_n 3, 1) := by decide +kernel
theorem dX12_wishers_4 : decode mX12_wishers.2.2.1 4 = .ok (.iload_n 3, 1) := by decide +kernel
theorem dX12_wishers_5 : decode mX12_wishers.2.2.1 5 = .ok (.aload_n 0, 1) := by decide +kernel
theorem dX12_wishers_6 : decode mX12_wishers.2.2.1 6 = .ok (.getfield 79, 3) := by decide +kernel
theorem dX12_wishers_9 : decode mX12_wishers.2.2.1 9 = .ok (.if_icmp .ge 35, 3) := by decide +kernel
theorem dX12_wishers_12 : decode mX12_wishers.2.2.1 12 = .ok (.iload_n 2, 1) := by decide +kernel
theorem dX12_wishers_13 : decode mX12_wishers.2.2.1 13 = .ok (.aload_n 0, 1) := by decide +kernel
theorem dX12_wishers_14 : decode mX12_wishers.2.2.1 14 = .ok (.getfield 9, 3) := by decide +kernel
theorem dX12_wishers_17 : decode mX12_wishers.2.2.1 17 = .ok (.bipush 40, 2) := by decide +kernel
theorem dX12_wishers_19 : decode mX12_wishers.2.2.1 19 = .ok (.iload_n 3, 1) := by decide +kernel
theorem dX12_wishers_20 : decode mX12_wishers.2.2.1 20 = .ok (.iadd, 1) := by decide +kernel
theorem dX12_wishers_21 : decode mX12_wishers.2.2.1 21 = .ok (.iaload, 1) := by decide +kernel
theorem dX12_wishers_22 : decode mX12_wishers.2.2.1 22 = .ok (.iload_n 1, 1) := by decide +kernel
theorem dX12_wishers_23 : decode mX12_wishers.2.2.1 23 = .ok (.invokestatic 189, 3) := by decide +kernel
theorem dX12_wishers_26 : decode mX12_wishers.2.2.1 26 = .ok (.ifCond .eq 9, 3) := by decide +kernel
theorem dX12_wishers_29 : decode mX12_wishers.2.2.1 29 = .ok (.iconst 1, 1) := by decide +kernel
theorem dX12_wishers_30 : decode mX12_wishers.2.2.1 30 = .ok (.iload_n 3, 1) := by decide +kernel
theorem dX12_wishers_31 : decode mX12_wishers.2.2.1 31 = .ok (.ishl, 1) := by decide +kernel
theorem dX12_wishers_32 : decode mX12_wishers.2.2.1 32 = .ok (.goto 4, 3) := by decide +kernel
theorem dX12_wishers_35 : decode mX12_wishers.2.2.1 35 = .ok (.iconst 0, 1) := by decide +kernel
theorem dX12_wishers_36 : decode mX12_wishers.2.2.1 36 = .ok (.ior, 1) := by decide +kernel
theorem dX12_wishers_37 : decode mX12_wishers.2.2.1 37 = .ok (.istore_n 2, 1) := by decide +kernel
theorem dX12_wishers_38 : decode mX12_wishers.2.2.1 38 = .ok (.iinc 3 1, 3) := by decide +kernel
theorem dX12_wishers_41 : decode mX12_wishers.2.2.1 41 = .ok (.goto (-37), 3) := by decide +kernel
theorem dX12_wishers_44 : decode mX12_wishers.2.2.1 44 = .ok (.iload_n 2, 1) := by decide +kernel
theorem dX12_wishers_45 : decode mX12_wishers.2.2.1 45 = .ok (.ireturn, 1) := by decide +kernel
set_option maxHeartbeats 100000 in
theorem kX12_wishers_0 {d : Nat} {F : am_FT} {L : am_LT} {Q : am_QT} {l0 l2 l3 : Option Value} {x1 : Int32} : wt am_S0 d mX12_wishers 0 [l0, some (.int x1), l2, l3] [] F L Q = wt am_S0 d mX12_wishers 4 [l0, some (.int x1), some (.int 0), some (.int 0)] [] F L Q := (wt_iconst dX12_wishers_0 (v := 0) (by decide)).trans ((wt_istore_n dX12_wishers_1 (lv1 := [l0, some (.int x1), some (.int 0), l3]) (Nat.le_of_ble_eq_true rfl) rfl).trans ((wt_iconst dX12_wishers_2 (v := 0) (by decide)).trans (wt_istore_n dX12_wishers_3 (lv1 := [l0, some (.int x1), some (.int 0), some (.int 0)]) (Nat.le_of_ble_eq_true rfl) rfl)))
set_option maxHeartbeats 100000 in
theorem kX12_wishers_4 {d : Nat} {F : am_FT} {L : am_LT} {Q : am_QT} {l1 l2 : Option Value} {x3 : Int32} : wt am_S0 d mX12_wishers 4 [some (.ref 45), l1, l2, some (.int x3)] [] F L Q = if (F 45 7) ≤ x3 then wt am_S0 d mX12_wishers 44 [some (.ref 45), l1, l2, some (.int x3)] [] F L Q else wt am_S0 d mX12_wishers 12 [some (.ref 45), l1, l2, some (.int x3)] [] F L Q := (wt_iload_n dX12_wishers_4 rfl).trans ((wt_aload_n dX12_wishers_5 rfl rfl).trans ((wt_getfield dX12_wishers_6 rfl rfl (v := .int (F 45 7)) rfl).trans (wt_if_icmp_ge dX12_wishers_9 (t := 44) rfl)))
set_option maxHeartbeats 100000 in
theorem kX12_wishers_12 {d : Nat} {F : am_FT} {L : am_LT} {Q : am_QT} {x2 x3 x1 : Int32} (h1 : am_oob (40 + x3) 60 = false) : wt am_S0 (d + 1) mX12_wishers 12 [some (.ref 45), some (.int x1), some (.int x2), some (.int x3)] [] F L Q = wc am_S0 d mX12_isIn [.int (F 46 (Int32.toNatClampNeg (40 + x3))), .int x1] F L (fun r G K => wt am_S0 (d + 1) mX12_wishers 26 [some (.ref 45), some (.int x1), some (.int x2), some (.int x3)] (r.toList ++ [.int x2]) G K Q) := (wt_iload_n dX12_wishers_12 rfl).trans ((wt_aload_n dX12_wishers_13 rfl rfl).trans ((wt_getfield dX12_wishers_14 rfl rfl (v := .ref 46) rfl).trans ((wt_bipush dX12_wishers_17 (v := 40) (by decide)).trans ((wt_iload_n dX12_wishers_19 rfl).trans ((wt_iadd dX12_wishers_20).trans ((wt_iaload dX12_wishers_21 rfl (by decide) h1).trans ((wt_iload_n dX12_wishers_22 rfl).trans (wt_callS dX12_wishers_23 rfl (as := [.int (F 46 (Int32.toNatClampNeg (40 + x3))), .int x1]) (rest := [.int x2]) rfl rfl (Nat.le_of_ble_eq_true rfl) (Nat.le_of_ble_eq_true rfl)))))))))
set_option maxHeartbeats 100000 in
theorem kX12_wishers_26 {d : Nat} {F : am_FT} {L : am_LT} {Q : am_QT} {l0 l1 l2 l3 : Option Value} {s0 s1 : Int32} : wt am_S0 d mX12_wishers 26 [l0, l1, l2, l3] [.int s1, .int s0] F L Q = if s1 = 0 then wt am_S0 d mX12_wishers 35 [l0, l1, l2, l3] [.int s0] F L Q else wt am_S0 d mX12_wishers 29 [l0, l1, l2, l3] [.int s0] F L Q := wt_ifCond_eq dX12_wishers_26 (t := 35) rfl
set_option maxHeartbeats 100000 in
theorem kX12_wishers_29 {d : Nat} {F : am_FT} {L : am_LT} {Q : am_QT} {l0 l1 l2 : Option Value} {s0 x3 : Int32} : wt am_S0 d mX12_wishers 29 [l0, l1, l2, some (.int x3)] [.int s0] F L Q = wt am_S0 d mX12_wishers 36 [l0, l1, l2, some (.int x3)] [.int ((1 : Int32) <<< (x3 &&& 31)), .int s0] F L Q := (wt_iconst dX12_wishers_29 (v := 1) (by decide)).trans ((wt_iload_n dX12_wishers_30 rfl).trans ((wt_ishl dX12_wishers_31).trans (wt_goto dX12_wishers_32 (t := 36) rfl)))
set_option maxHeartbeats 100000 in
theorem kX12_wishers_35 {d : Nat} {F : am_FT} {L : am_LT} {Q : am_QT} {l0 l1 l2 l3 : Option Value} {s0 : Int32} : wt am_S0 d mX12_wishers 35 [l0, l1, l2, l3] [.int s0] F L Q = wt am_S0 d mX12_wishers 36 [l0, l1, l2, l3] [.int 0, .int s0] F L Q := wt_iconst dX12_wishers_35 (v := 0) (by decide)
set_option maxHeartbeats 100000 in
theorem kX12_wishers_36 {d : Nat} {F : am_FT} {L : am_LT} {Q : am_QT} {l0 l2 : Option Value} {s0 s1 x1 x3 : Int32} : wt am_S0 d mX12_wishers 36 [l0, some (.int x1), l2, some (.int x3)] [.int s1, .int s0] F L Q = wt am_S0 d mX12_wishers 4 [l0, some (.int x1), some (.int (s0 ||| s1)), some (.int (x3 + 1))] [] F L Q := (wt_ior dX12_wishers_36).trans ((wt_istore_n dX12_wishers_37 (lv1 := [l0, some (.int x1), some (.int (s0 ||| s1)), some (.int x3)]) (Nat.le_of_ble_eq_true rfl) rfl).trans ((wt_iinc dX12_wishers_38 (v := 1) (lv1 := [l0, some (.int x1), some (.int (s0 ||| s1)), some (.int (x3 + 1))]) rfl (Nat.le_of_ble_eq_true rfl) (by decide) rfl).trans (wt_goto dX12_wishers_41 (t := 4) rfl)))
set_option maxHeartbeats 100000 in
theorem kX12_wishers_44 {d : Nat} {F : am_FT} {L : am_LT} {Q : am_QT} {l0 l1 l3 : Option Value} {x2 : Int32} : wt am_S0 d mX12_wishers 44 [l0, l1, some (.int x2), l3] [] F L Q = Q (some (.int x2)) F L := (wt_iload_n dX12_wishers_44 rfl).trans (wt_ireturn dX12_wishers_45 rfl rfl)
theorem dX12_sumOf_0 : decode mX12_sumOf.2.2.1 0 = .ok (.iconst 0, 1) := by decide +kernel
theorem dX12_sumOf_1 : decode mX12_sumOf.2.2.1 1 = .ok (.istore 5, 2) := by decide +kernel
theorem dX12_sumOf_3 : decode mX12_sumOf.2.2.1 3 = .ok (.iconst 0, 1) := by decide +kernel
theorem dX12_sumOf_4 : decode mX12_sumOf.2.2.1 4 = .ok (.istore 6, 2) := by decide +kernel
theorem dX12_sumOf_6 : decode mX12_sumOf.2.2.1 6 = .ok (.iload 6, 2) := by decide +kernel
theorem dX12_sumOf_8 : decode mX12_sumOf.2.2.1 8 = .ok (.aload_n 0, 1) := by decide +kernel
theorem dX12_sumOf_9 : decode mX12_sumOf.2.2.1 9 = .ok (.getfield 79, 3) := by decide +kernel
theorem dX12_sumOf_12 : decode mX12_sumOf.2.2.1 12 = .ok (.if_icmp .ge 42, 3) := by decide +kernel
theorem dX12_sumOf_15 : decode mX12_sumOf.2.2.1 15 = .ok (.iload 5, 2) := by decide +kernel
theorem dX12_sumOf_17 : decode mX12_sumOf.2.2.1 17 = .ok (.iload_n 3, 1) := by decide +kernel
theorem dX12_sumOf_18 : decode mX12_sumOf.2.2.1 18 = .ok (.iload 4, 2) := by decide +kernel
theorem dX12_sumOf_20 : decode mX12_sumOf.2.2.1 20 = .ok (.iand, 1) := by decide +kernel
theorem dX12_sumOf_21 : decode mX12_sumOf.2.2.1 21 = .ok (.iload 6, 2) := by decide +kernel
theorem dX12_sumOf_23 : decode mX12_sumOf.2.2.1 23 = .ok (.invokestatic 189, 3) := by decide +kernel
theorem dX12_sumOf_26 : decode mX12_sumOf.2.2.1 26 = .ok (.ifCond .eq 18, 3) := by decide +kernel
theorem dX12_sumOf_29 : decode mX12_sumOf.2.2.1 29 = .ok (.aload_n 0, 1) := by decide +kernel
theorem dX12_sumOf_30 : decode mX12_sumOf.2.2.1 30 = .ok (.iload_n 1, 1) := by decide +kernel
theorem dX12_sumOf_31 : decode mX12_sumOf.2.2.1 31 = .ok (.iload_n 2, 1) := by decide +kernel
theorem dX12_sumOf_32 : decode mX12_sumOf.2.2.1 32 = .ok (.iload 6, 2) := by decide +kernel
theorem dX12_sumOf_34 : decode mX12_sumOf.2.2.1 34 = .ok (.iload_n 3, 1) := by decide +kernel
theorem dX12_sumOf_35 : decode mX12_sumOf.2.2.1 35 = .ok (.invokestatic 195, 3) := by decide +kernel
theorem dX12_sumOf_38 : decode mX12_sumOf.2.2.1 38 = .ok (.invokevirtual 198, 3) := by decide +kernel
theorem dX12_sumOf_41 : decode mX12_sumOf.2.2.1 41 = .ok (.goto 4, 3) := by decide +kernel
theorem dX12_sumOf_44 : decode mX12_sumOf.2.2.1 44 = .ok (.iconst 0, 1) := by decide +kernel
theorem dX12_sumOf_45 : decode mX12_sumOf.2.2.1 45 = .ok (.iadd, 1) := by decide +kernel
theorem dX12_sumOf_46 : decode mX12_sumOf.2.2.1 46 = .ok (.istore 5, 2) := by decide +kernel
theorem dX12_sumOf_48 : decode mX12_sumOf.2.2.1 48 = .ok (.iinc 6 1, 3) := by decide +kernel
theorem dX12_sumOf_51 : decode mX12_sumOf.2.2.1 51 = .ok (.goto (-45), 3) := by decide +kernel
theorem dX12_sumOf_54 : decode mX12_sumOf.2.2.1 54 = .ok (.iload 5, 2) := by decide +kernel
theorem dX12_sumOf_56 : decode mX12_sumOf.2.2.1 56 = .ok (.ireturn, 1) := by decide +kernel
set_option maxHeartbeats 100000 in
theorem kX12_sumOf_0 {d : Nat} {F : am_FT} {L : am_LT} {Q : am_QT} {l0 l1 l2 l3 l5 l6 : Option Value} {x4 : Int32} : wt am_S0 d mX12_sumOf 0 [l0, l1, l2, l3, some (.int x4), l5, l6] [] F L Q = wt am_S0 d mX12_sumOf 6 [l0, l1, l2, l3, some (.int x4), some (.int 0), some (.int 0)] [] F L Q := (wt_iconst dX12_sumOf_0 (v := 0) (by decide)).trans ((wt_istore dX12_sumOf_1 (lv1 := [l0, l1, l2, l3, some (.int x4), some (.int 0), l6]) (Nat.le_of_ble_eq_true rfl) rfl).trans ((wt_iconst dX12_sumOf_3 (v := 0) (by decide)).trans (wt_istore dX12_sumOf_4 (lv1 := [l0, l1, l2, l3, some (.int x4), some (.int 0), some (.int 0)]) (Nat.le_of_ble_eq_true rfl) rfl)))
set_option maxHeartbeats 100000 in
theorem kX12_sumOf_6 {d : Nat} {F : am_FT} {L : am_LT} {Q : am_QT} {l1 l2 l3 l4 l5 : Option Value} {x6 : Int32} : wt am_S0 d mX12_sumOf 6 [some (.ref 45), l1, l2, l3, l4, l5, some (.int x6)] [] F L Q = if (F 45 7) ≤ x6 then wt am_S0 d mX12_sumOf 54 [some (.ref 45), l1, l2, l3, l4, l5, some (.int x6)] [] F L Q else wt am_S0 d mX12_sumOf 15 [some (.ref 45), l1, l2, l3, l4, l5, some (.int x6)] [] F L Q := (wt_iload dX12_sumOf_6 rfl).trans ((wt_aload_n dX12_sumOf_8 rfl rfl).trans ((wt_getfield dX12_sumOf_9 rfl rfl (v := .int (F 45 7)) rfl).trans (wt_if_icmp_ge dX12_sumOf_12 (t := 54) rfl)))
set_option maxHeartbeats 100000 in
theorem kX12_sumOf_15 {d : Nat} {F : am_FT} {L : am_LT} {Q : am_QT} {l0 l1 l2 : Option Value} {x5 x3 x4 x6 : Int32} : wt am_S0 (d + 1) mX12_sumOf 15 [l0, l1, l2, some (.int x3), some (.int x4), some (.int x5), some (.int x6)] [] F L Q = wc am_S0 d mX12_isIn [.int (x3 &&& x4), .int x6] F L (fun r G K => wt am_S0 (d + 1) mX12_sumOf 26 [l0, l1, l2, some (.int x3), some (.int x4), some (.int x5), some (.int x6)] (r.toList ++ [.int x5]) G K Q) := (wt_iload dX12_sumOf_15 rfl).trans ((wt_iload_n dX12_sumOf_17 rfl).trans ((wt_iload dX12_sumOf_18 rfl).trans ((wt_iand dX12_sumOf_20).trans ((wt_iload dX12_sumOf_21 rfl).trans (wt_callS dX12_sumOf_23 rfl (as := [.int (x3 &&& x4), .int x6]) (rest := [.int x5]) rfl rfl (Nat.le_of_ble_eq_true rfl) (Nat.le_of_ble_eq_true rfl))))))
set_option maxHeartbeats 100000 in
theorem kX12_sumOf_26 {d : Nat} {F : am_FT} {L : am_LT} {Q : am_QT} {l0 l1 l2 l3 l4 l5 l6 : Option Value} {s0 s1 : Int32} : wt am_S0 d mX12_sumOf 26 [l0, l1, l2, l3, l4, l5, l6] [.int s1, .int s0] F L Q = if s1 = 0 then wt am_S0 d mX12_sumOf 44 [l0, l1, l2, l3, l4, l5, l6] [.int s0] F L Q else wt am_S0 d mX12_sumOf 29 [l0, l1, l2, l3, l4, l5, l6] [.int s0] F L Q := wt_ifCond_eq dX12_sumOf_26 (t := 44) rfl
set_option maxHeartbeats 100000 in
theorem kX12_sumOf_29 {d : Nat} {F : am_FT} {L : am_LT} {Q : am_QT} {l4 l5 : Option Value} {s0 x1 x2 x6 x3 : Int32} : wt am_S0 (d + 1) mX12_sumOf 29 [some (.ref 45), some (.int x1), some (.int x2), some (.int x3), l4, l5, some (.int x6)] [.int s0] F L Q = wc am_S0 d mX12_bitsOf [.int x3] F L (fun r G K => wt am_S0 (d + 1) mX12_sumOf 38 [some (.ref 45), some (.int x1), some (.int x2), some (.int x3), l4, l5, some (.int x6)] (r.toList ++ [.int x6, .int x2, .int x1, .ref 45, .int s0]) G K Q) := (wt_aload_n dX12_sumOf_29 rfl rfl).trans ((wt_iload_n dX12_sumOf_30 rfl).trans ((wt_iload_n dX12_sumOf_31 rfl).trans ((wt_iload dX12_sumOf_32 rfl).trans ((wt_iload_n dX12_sumOf_34 rfl).trans (wt_callS dX12_sumOf_35 rfl (as := [.int x3]) (rest := [.int x6, .int x2, .int x1, .ref 45, .int s0]) rfl rfl (Nat.le_of_ble_eq_true rfl) (Nat.le_of_ble_eq_true rfl))))))
set_option maxHeartbeats 100000 in
theorem kX12_sumOf_38 {d : Nat} {F : am_FT} {L : am_LT} {Q : am_QT} {l0 l1 l2 l3 l4 l5 l6 : Option Value} {s0 s2 s3 s4 s5 : Int32} : wt am_S0 (d + 1) mX12_sumOf 38 [l0, l1, l2, l3, l4, l5, l6] [.int s5, .int s4, .int s3, .int s2, .ref 45, .int s0] F L Q = wc am_S0 d mX12_countsOf [.ref 45, .int s2, .int s3, .int s4, .int s5] F L (fun r G K => wt am_S0 (d + 1) mX12_sumOf 41 [l0, l1, l2, l3, l4, l5, l6] (r.toList ++ [.int s0]) G K Q) := wt_callV dX12_sumOf_38 rfl (as := [.int s2, .int s3, .int s4, .int s5]) (rest := [.int s0]) rfl rfl (Nat.le_of_ble_eq_true rfl) rfl (Nat.le_of_ble_eq_true rfl)
set_option maxHeartbeats 100000 in
theorem kX12_sumOf_41 {d : Nat} {F : am_FT} {L : am_LT} {Q : am_QT} {l0 l1 l2 l3 l4 l5 l6 : Option Value} {s0 s1 : Int32} : wt am_S0 d mX12_sumOf 41 [l0, l1, l2, l3, l4, l5, l6] [.int s1, .int s0] F L Q = wt am_S0 d mX12_sumOf 45 [l0, l1, l2, l3, l4, l5, l6] [.int s1, .int s0] F L Q := wt_goto dX12_sumOf_41 (t := 45) rfl
set_option maxHeartbeats 100000 in
theorem kX12_sumOf_44 {d : Nat} {F : am_FT} {L : am_LT} {Q : am_QT} {l0 l1 l2 l3 l4 l5 l6 : Option Value} {s0 : Int32} : wt am_S0 d mX12_sumOf 44 [l0, l1, l2, l3, l4, l5, l6] [.int s0] F L Q = wt am_S0 d mX12_sumOf 45 [l0, l1, l2, l3, l4, l5, l6] [.int 0, .int s0] F L Q := wt_iconst dX12_sumOf_44 (v := 0) (by decide)
set_option maxHeartbeats 100000 in
theorem kX12_sumOf_45 {d : Nat} {F : am_FT} {L : am_LT} {Q : am_QT} {l0 l1 l2 l3 l5 : Option Value} {s0 s1 x4 x6 : Int32} : wt am_S0 d mX12_sumOf 45 [l0, l1, l2, l3, some (.int x4), l5, some (.int x6)] [.int s1, .int s0] F L Q = wt am_S0 d mX12_sumOf 6 [l0, l1, l2, l3, some (.int x4), some (.int (s0 + s1)), some (.int (x6 + 1))] [] F L Q := (wt_iadd dX12_sumOf_45).trans ((wt_istore dX12_sumOf_46 (lv1 := [l0, l1, l2, l3, some (.int x4), some (.int (s0 + s1)), some (.int x6)]) (Nat.le_of_ble_eq_true rfl) rfl).trans ((wt_iinc dX12_sumOf_48 (v := 1) (lv1 := [l0, l1, l2, l3, some (.int x4), some (.int (s0 + s1)), some (.int (x6 + 1))]) rfl (Nat.le_of_ble_eq_true rfl) (by decide) rfl).trans (wt_goto dX12_sumOf_51 (t := 6) rfl)))
set_option maxHeartbeats 100000 in
theorem kX12_sumOf_54 {d : Nat} {F : am_FT} {L : am_LT} {Q : am_QT} {l0 l1 l2 l3 l4 l6 : Option Value} {x5 : Int32} : wt am_S0 d mX12_sumOf 54 [l0, l1, l2, l3, l4, some (.int x5), l6] [] F L Q = Q (some (.int x5)) F L := (wt_iload dX12_sumOf_54 rfl).trans (wt_ireturn dX12_sumOf_56 rfl rfl)
theorem dX12_bitsOf_0 : decode mX12_bitsOf.2.2.1 0 = .ok (.iconst 0, 1) := by decide +kernel
theorem dX12_bitsOf_1 : decode mX12_bitsOf.2.2.1 1 = .ok (.istore_n 1, 1) := by decide +kernel
theorem dX12_bitsOf_2 : decode mX12_bitsOf.2.2.1 2 = .ok (.iconst 0, 1) := by decide +kernel
theorem dX12_bitsOf_3 : decode mX12_bitsOf.2.2.1 3 = .ok (.istore_n 2, 1) := by decide +kernel
theorem dX12_bitsOf_4 : decode mX12_bitsOf.2.2.1 4 = .ok (.iload_n 2, 1) := by decide +kernel
theorem dX12_bitsOf_5 : decode mX12_bitsOf.2.2.1 5 = .ok (.bipush 10, 2) := by decide +kernel
theorem dX12_bitsOf_7 : decode mX12_bitsOf.2.2.1 7 = .ok (.if_icmp .ge 17, 3) := by decide +kernel
theorem dX12_bitsOf_10 : decode mX12_bitsOf.2.2.1 10 = .ok (.iload_n 1, 1) := by decide +kernel
theorem dX12_bitsOf_11 : decode mX12_bitsOf.2.2.1 11 = .ok (.iload_n 0, 1) := by decide +kernel
theorem dX12_bitsOf_12 : decode mX12_bitsOf.2.2.1 12 = .ok (.iload_n 2, 1) := by decide +kernel
theorem dX12_bitsOf_13 : decode mX12_bitsOf.2.2.1 13 = .ok (.ishr, 1) := by decide +kernel
theorem dX12_bitsOf_14 : decode mX12_bitsOf.2.2.1 14 = .ok (.iconst 1, 1) := by decide +kernel
theorem dX12_bitsOf_15 : decode mX12_bitsOf.2.2.1 15 = .ok (.iand, 1) := by decide +kernel
theorem dX12_bitsOf_16 : decode mX12_bitsOf.2.2.1 16 = .ok (.iadd, 1) := by decide +kernel
theorem dX12_bitsOf_17 : decode mX12_bitsOf.2.2.1 17 = .ok (.istore_n 1, 1) := by decide +kernel
theorem dX12_bitsOf_18 : decode mX12_bitsOf.2.2.1 18 = .ok (.iinc 2 1, 3) := by decide +kernel
theorem dX12_bitsOf_21 : decode mX12_bitsOf.2.2.1 21 = .ok (.goto (-17), 3) := by decide +kernel
theorem dX12_bitsOf_24 : decode mX12_bitsOf.2.2.1 24 = .ok (.iload_n 1, 1) := by decide +kernel
theorem dX12_bitsOf_25 : decode mX12_bitsOf.2.2.1 25 = .ok (.ireturn, 1) := by decide +kernel
set_option maxHeartbeats 100000 in
theorem kX12_bitsOf_0 {d : Nat} {F : am_FT} {L : am_LT} {Q : am_QT} {l1 l2 : Option Value} {x0 : Int32} : wt am_S0 d mX12_bitsOf 0 [some (.int x0), l1, l2] [] F L Q = wt am_S0 d mX12_bitsOf 4 [some (.int x0), some (.int 0), some (.int 0)] [] F L Q := (wt_iconst dX12_bitsOf_0 (v := 0) (by decide)).trans ((wt_istore_n dX12_bitsOf_1 (lv1 := [some (.int x0), some (.int 0), l2]) (Nat.le_of_ble_eq_true rfl) rfl).trans ((wt_iconst dX12_bitsOf_2 (v := 0) (by decide)).trans (wt_istore_n dX12_bitsOf_3 (lv1 := [some (.int x0), some (.int 0), some (.int 0)]) (Nat.le_of_ble_eq_true rfl) rfl)))
set_option maxHeartbeats 100000 in
theorem kX12_bitsOf_4 {d : Nat} {F : am_FT} {L : am_LT} {Q : am_QT} {l0 l1 : Option Value} {x2 : Int32} : wt am_S0 d mX12_bitsOf 4 [l0, l1, some (.int x2)] [] F L Q = if 10 ≤ x2 then wt am_S0 d mX12_bitsOf 24 [l0, l1, some (.int x2)] [] F L Q else wt am_S0 d mX12_bitsOf 10 [l0, l1, some (.int x2)] [] F L Q := (wt_iload_n dX12_bitsOf_4 rfl).trans ((wt_bipush dX12_bitsOf_5 (v := 10) (by decide)).trans (wt_if_icmp_ge dX12_bitsOf_7 (t := 24) rfl))
set_option maxHeartbeats 100000 in
theorem kX12_bitsOf_10 {d : Nat} {F : am_FT} {L : am_LT} {Q : am_QT} {x1 x0 x2 : Int32} : wt am_S0 d mX12_bitsOf 10 [some (.int x0), some (.int x1), some (.int x2)] [] F L Q = wt am_S0 d mX12_bitsOf 4 [some (.int x0), some (.int (x1 + ((x0 >>> (x2 &&& 31)) &&& 1))), some (.int (x2 + 1))] [] F L Q := (wt_iload_n dX12_bitsOf_10 rfl).trans ((wt_iload_n dX12_bitsOf_11 rfl).trans ((wt_iload_n dX12_bitsOf_12 rfl).trans ((wt_ishr dX12_bitsOf_13).trans ((wt_iconst dX12_bitsOf_14 (v := 1) (by decide)).trans ((wt_iand dX12_bitsOf_15).trans ((wt_iadd dX12_bitsOf_16).trans ((wt_istore_n dX12_bitsOf_17 (lv1 := [some (.int x0), some (.int (x1 + ((x0 >>> (x2 &&& 31)) &&& 1))), some (.int x2)]) (Nat.le_of_ble_eq_true rfl) rfl).trans ((wt_iinc dX12_bitsOf_18 (v := 1) (lv1 := [some (.int x0), some (.int (x1 + ((x0 >>> (x2 &&& 31)) &&& 1))), some (.int (x2 + 1))]) rfl (Nat.le_of_ble_eq_true rfl) (by decide) rfl).trans (wt_goto dX12_bitsOf_21 (t := 4) rfl)))))))))
set_option maxHeartbeats 100000 in
theorem kX12_bitsOf_24 {d : Nat} {F : am_FT} {L : am_LT} {Q : am_QT} {l0 l2 : Option Value} {x1 : Int32} : wt am_S0 d mX12_bitsOf 24 [l0, some (.int x1), l2] [] F L Q = Q (some (.int x1)) F L := (wt_iload_n dX12_bitsOf_24 rfl).trans (wt_ireturn dX12_bitsOf_25 rfl rfl)
theorem dX12_countsOf_0 : decode mX12_countsOf.2.2.1 0 = .ok (.aload_n 0, 1) := by decide +kernel
theorem dX12_countsOf_1 : decode mX12_countsOf.2.2.1 1 = .ok (.getfield 9, 3) := by decide +kernel
theorem dX12_countsOf_4 : decode mX12_countsOf.2.2.1 4 = .ok (.bipush 50, 2) := by decide +kernel
theorem dX12_countsOf_6 : decode mX12_countsOf.2.2.1 6 = .ok (.iload_n 3, 1) := by decide +kernel
theorem dX12_countsOf_7 : decode mX12_countsOf.2.2.1 7 = .ok (.iadd, 1) := by decide +kernel
theorem dX12_countsOf_8 : decode mX12_countsOf.2.2.1 8 = .ok (.iaload, 1) := by decide +kernel
theorem dX12_countsOf_9 : decode mX12_countsOf.2.2.1 9 = .ok (.istore 5, 2) := by decide +kernel
theorem dX12_countsOf_11 : decode mX12_countsOf.2.2.1 11 = .ok (.aload_n 0, 1) := by decide +kernel
theorem dX12_countsOf_12 : decode mX12_countsOf.2.2.1 12 = .ok (.getfield 62, 3) := by decide +kernel
theorem dX12_countsOf_15 : decode mX12_countsOf.2.2.1 15 = .ok (.ifCond .lt 73, 3) := by decide +kernel
theorem dX12_countsOf_18 : decode mX12_countsOf.2.2.1 18 = .ok (.aload_n 0, 1) := by decide +kernel
theorem dX12_countsOf_19 : decode mX12_countsOf.2.2.1 19 = .ok (.getfield 28, 3) := by decide +kernel
theorem dX12_countsOf_22 : decode mX12_countsOf.2.2.1 22 = .ok (.iconst 0, 1) := by decide +kernel
theorem dX12_countsOf_23 : decode mX12_countsOf.2.2.1 23 = .ok (.aload_n 0, 1) := by decide +kernel
theorem dX12_countsOf_24 : decode mX12_countsOf.2.2.1 24 = .ok (.getfield 9, 3) := by decide +kernel
theorem dX12_countsOf_27 : decode mX12_countsOf.2.2.1 27 = .ok (.bipush 50, 2) := by decide +kernel
theorem dX12_countsOf_29 : decode mX12_countsOf.2.2.1 29 = .ok (.iload_n 3, 1) := by decide +kernel
theorem dX12_countsOf_30 : decode mX12_countsOf.2.2.1 30 = .ok (.iadd, 1) := by decide +kernel
theorem dX12_countsOf_31 : decode mX12_countsOf.2.2.1 31 = .ok (.iaload, 1) := by decide +kernel
theorem dX12_countsOf_32 : decode mX12_countsOf.2.2.1 32 = .ok (.iastore, 1) := by decide +kernel
theorem dX12_countsOf_33 : decode mX12_countsOf.2.2.1 33 = .ok (.aload_n 0, 1) := by decide +kernel
theorem dX12_countsOf_34 : decode mX12_countsOf.2.2.1 34 = .ok (.getfield 28, 3) := by decide +kernel
theorem dX12_countsOf_37 : decode mX12_countsOf.2.2.1 37 = .ok (.iconst 1, 1) := by decide +kernel
theorem dX12_countsOf_38 : decode mX12_countsOf.2.2.1 38 = .ok (.aload_n 0, 1) := by decide +kernel
theorem dX12_countsOf_39 : decode mX12_countsOf.2.2.1 39 = .ok (.getfield 9, 3) := by decide +kernel
theorem dX12_countsOf_42 : decode mX12_countsOf.2.2.1 42 = .ok (.bipush 6, 2) := by decide +kernel
theorem dX12_countsOf_44 : decode mX12_countsOf.2.2.1 44 = .ok (.iload_n 1, 1) := by decide +kernel
theorem dX12_countsOf_45 : decode mX12_countsOf.2.2.1 45 = .ok (.iadd, 1) := by decide +kernel
theorem dX12_countsOf_46 : decode mX12_countsOf.2.2.1 46 = .ok (.iaload, 1) := by decide +kernel
theorem dX12_countsOf_47 : decode mX12_countsOf.2.2.1 47 = .ok (.iastore, 1) := by decide +kernel
theorem dX12_countsOf_48 : decode mX12_countsOf.2.2.1 48 = .ok (.aload_n 0, 1) := by decide +kernel
theorem dX12_countsOf_49 : decode mX12_countsOf.2.2.1 49 = .ok (.getfield 28, 3) := by decide +kernel
theorem dX12_countsOf_52 : decode mX12_countsOf.2.2.1 52 = .ok (.iconst 2, 1) := by decide +kernel
theorem dX12_countsOf_53 : decode mX12_countsOf.2.2.1 53 = .ok (.iload_n 2, 1) := by decide +kernel
theorem dX12_countsOf_54 : decode mX12_countsOf.2.2.1 54 = .ok (.iastore, 1) := by decide +kernel
theorem dX12_countsOf_55 : decode mX12_countsOf.2.2.1 55 = .ok (.aload_n 0, 1) := by decide +kernel
theorem dX12_countsOf_56 : decode mX12_countsOf.2.2.1 56 = .ok (.getfield 28, 3) := by decide +kernel
theorem dX12_countsOf_59 : decode mX12_countsOf.2.2.1 59 = .ok (.iconst 3, 1) := by decide +kernel
theorem dX12_countsOf_60 : decode mX12_countsOf.2.2.1 60 = .ok (.iload 4, 2) := by decide +kernel
theorem dX12_countsOf_62 : decode mX12_countsOf.2.2.1 62 = .ok (.iastore, 1) := by decide +kernel
theorem dX12_countsOf_63 : decode mX12_countsOf.2.2.1 63 = .ok (.aload_n 0, 1) := by decide +kernel
theorem dX12_countsOf_64 : decode mX12_countsOf.2.2.1 64 = .ok (.getfield 28, 3) := by decide +kernel
theorem dX12_countsOf_67 : decode mX12_countsOf.2.2.1 67 = .ok (.iconst 4, 1) := by decide +kernel
theorem dX12_countsOf_68 : decode mX12_countsOf.2.2.1 68 = .ok (.iload_n 1, 1) := by decide +kernel
theorem dX12_countsOf_69 : decode mX12_countsOf.2.2.1 69 = .ok (.iastore, 1) := by decide +kernel
theorem dX12_countsOf_70 : decode mX12_countsOf.2.2.1 70 = .ok (.aload_n 0, 1) := by decide +kernel
theorem dX12_countsOf_71 : decode mX12_countsOf.2.2.1 71 = .ok (.getfield 28, 3) := by decide +kernel
theorem dX12_countsOf_74 : decode mX12_countsOf.2.2.1 74 = .ok (.iconst 5, 1) := by decide +kernel
theorem dX12_countsOf_75 : decode mX12_countsOf.2.2.1 75 = .ok (.iload_n 3, 1) := by decide +kernel
theorem dX12_countsOf_76 : decode mX12_countsOf.2.2.1 76 = .ok (.iastore, 1) := by decide +kernel
theorem dX12_countsOf_77 : decode mX12_countsOf.2.2.1 77 = .ok (.aload_n 0, 1) := by decide +kernel
theorem dX12_countsOf_78 : decode mX12_countsOf.2.2.1 78 = .ok (.iconst 0, 1) := by decide +kernel
theorem dX12_countsOf_79 : decode mX12_countsOf.2.2.1 79 = .ok (.aload_n 0, 1) := by decide +kernel
theorem dX12_countsOf_80 : decode mX12_countsOf.2.2.1 80 = .ok (.getfield 62, 3) := by decide +kernel
theorem dX12_countsOf_83 : decode mX12_countsOf.2.2.1 83 = .ok (.invokevirtual 179, 3) := by decide +kernel
theorem dX12_countsOf_86 : decode mX12_countsOf.2.2.1 86 = .ok (.istore 5, 2) := by decide +kernel
theorem dX12_countsOf_88 : decode mX12_countsOf.2.2.1 88 = .ok (.iload 5, 2) := by decide +kernel
theorem dX12_countsOf_90 : decode mX12_countsOf.2.2.1 90 = .ok (.ifCond .ge 7, 3) := by decide +kernel
theorem dX12_countsOf_93 : decode mX12_countsOf.2.2.1 93 = .ok (.iconst 0, 1) := by decide +kernel
theorem dX12_countsOf_94 : decode mX12_countsOf.2.2.1 94 = .ok (.goto 17, 3) := by decide +kernel
theorem dX12_countsOf_97 : decode mX12_countsOf.2.2.1 97 = .ok (.iload 5, 2) := by decide +kernel
theorem dX12_countsOf_99 : decode mX12_countsOf.2.2.1 99 = .ok (.bipush 9, 2) := by decide +kernel
theorem dX12_countsOf_101 : decode mX12_countsOf.2.2.1 101 = .ok (.if_icmp .le 8, 3) := by decide +kernel
theorem dX12_countsOf_104 : decode mX12_countsOf.2.2.1 104 = .ok (.bipush 9, 2) := by decide +kernel
theorem dX12_countsOf_106 : decode mX12_countsOf.2.2.1 106 = .ok (.goto 5, 3) := by decide +kernel
theorem dX12_countsOf_109 : decode mX12_countsOf.2.2.1 109 = .ok (.iload 5, 2) := by decide +kernel
theorem dX12_countsOf_111 : decode mX12_countsOf.2.2.1 111 = .ok (.ireturn, 1) := by decide +kernel
set_option maxHeartbeats 100000 in
theorem kX12_countsOf_0 {d : Nat} {F : am_FT} {L : am_LT} {Q : am_QT} {l1 l2 l5 : Option Value} {x3 x4 : Int32} (h1 : am_oob (50 + x3) 60 = false) : wt am_S0 d mX12_countsOf 0 [some (.ref 45), l1, l2, some (.int x3), some (.int x4), l5] [] F L Q = if (F 45 12) < 0 then wt am_S0 d mX12_countsOf 88 [some (.ref 45), l1, l2, some (.int x3), some (.int x4), some (.int (F 46 (Int32.toNatClampNeg (50 + x3))))] [] F L Q else wt am_S0 d mX12_countsOf 18 [some (.ref 45), l1, l2, some (.int x3), some (.int x4), some (.int (F 46 (Int32.toNatClampNeg (50 + x3))))] [] F L Q := (wt_aload_n dX12_countsOf_0 rfl rfl).trans ((wt_getfield dX12_countsOf_1 rfl rfl (v := .ref 46) rfl).trans ((wt_bipush dX12_countsOf_4 (v := 50) (by decide)).trans ((wt_iload_n dX12_countsOf_6 rfl).trans ((wt_iadd dX12_countsOf_7).trans ((wt_iaload dX12_countsOf_8 rfl (by decide) h1).trans ((wt_istore dX12_countsOf_9 (lv1 := [some (.ref 45), l1, l2, some (.int x3), some (.int x4), some (.int (F 46 (Int32.toNatClampNeg (50 + x3))))]) (Nat.le_of_ble_eq_true rfl) rfl).trans ((wt_aload_n dX12_countsOf_11 rfl rfl).trans ((wt_getfield dX12_countsOf_12 rfl rfl (v := .int (F 45 12)) rfl).trans (wt_ifCond_lt dX12_countsOf_15 (t := 88) rfl)))))))))
set_option maxHeartbeats 100000 in
theorem kX12_countsOf_18 {d : Nat} {F : am_FT} {L : am_LT} {Q : am_QT} {l1 l2 l4 l5 : Option Value} {x3 : Int32} (h1 : am_oob (50 + x3) 60 = false) (h2 : am_oob 0 6 = false) : wt am_S0 d mX12_countsOf 18 [some (.ref 45), l1, l2, some (.int x3), l4, l5] [] F L Q = wt am_S0 d mX12_countsOf 44 [some (.ref 45), l1, l2, some (.int x3), l4, l5] [.int 6, .ref 46, .int 1, .ref 52] (am_upF F 52 (Int32.toNatClampNeg 0) (F 46 (Int32.toNatClampNeg (50 + x3)))) L Q := (wt_aload_n dX12_countsOf_18 rfl rfl).trans ((wt_getfield dX12_countsOf_19 rfl rfl (v := .ref 52) rfl).trans ((wt_iconst dX12_countsOf_22 (v := 0) (by decide)).trans ((wt_aload_n dX12_countsOf_23 rfl rfl).trans ((wt_getfield dX12_countsOf_24 rfl rfl (v := .ref 46) rfl).trans ((wt_bipush dX12_countsOf_27 (v := 50) (by decide)).trans ((wt_iload_n dX12_countsOf_29 rfl).trans ((wt_iadd dX12_countsOf_30).trans ((wt_iaload dX12_countsOf_31 rfl (by decide) h1).trans ((wt_iastore dX12_countsOf_32 rfl h2).trans ((wt_aload_n dX12_countsOf_33 rfl rfl).trans ((wt_getfield dX12_countsOf_34 rfl rfl (v := .ref 52) rfl).trans ((wt_iconst dX12_countsOf_37 (v := 1) (by decide)).trans ((wt_aload_n dX12_countsOf_38 rfl rfl).trans ((wt_getfield dX12_countsOf_39 rfl rfl (v := .ref 46) rfl).trans (wt_bipush dX12_countsOf_42 (v := 6) (by decide))))))))))))))))
set_option maxHeartbeats 100000 in
theorem kX12_countsOf_44 {d : Nat} {F : am_FT} {L : am_LT} {Q : am_QT} {l3 l5 : Option Value} {s1 s3 x1 x2 x4 : Int32} (h1 : am_oob (s3 + x1) 60 = false) (h2 : am_oob s1 6 = false) (h3 : am_oob 2 6 = false) (h4 : am_oob 3 6 = false) : wt am_S0 d mX12_countsOf 44 [some (.ref 45), some (.int x1), some (.int x2), l3, some (.int x4), l5] [.int s3, .ref 46, .int s1, .ref 52] F L Q = wt am_S0 d mX12_countsOf 67 [some (.ref 45), some (.int x1), some (.int x2), l3, some (.int x4), l5] [.ref 52] (am_upF (am_upF (am_upF F 52 (Int32.toNatClampNeg s1) (F 46 (Int32.toNatClampNeg (s3 + x1)))) 52 (Int32.toNatClampNeg 2) x2) 52 (Int32.toNatClampNeg 3) x4) L Q := (wt_iload_n dX12_countsOf_44 rfl).trans ((wt_iadd dX12_countsOf_45).trans ((wt_iaload dX12_countsOf_46 rfl (by decide) h1).trans ((wt_iastore dX12_countsOf_47 rfl h2).trans ((wt_aload_n dX12_countsOf_48 rfl rfl).trans ((wt_getfield dX12_countsOf_49 rfl rfl (v := .ref 52) rfl).trans ((wt_iconst dX12_countsOf_52 (v := 2) (by decide)).trans ((wt_iload_n dX12_countsOf_53 rfl).trans ((wt_iastore dX12_countsOf_54 rfl h3).trans ((wt_aload_n dX12_countsOf_55 rfl rfl).trans ((wt_getfield dX12_countsOf_56 rfl rfl (v := .ref 52) rfl).trans ((wt_iconst dX12_countsOf_59 (v := 3) (by decide)).trans ((wt_iload dX12_countsOf_60 rfl).trans ((wt_iastore dX12_countsOf_62 rfl h4).trans ((wt_aload_n dX12_countsOf_63 rfl rfl).trans (wt_getfield dX12_countsOf_64 rfl rfl (v := .ref 52) rfl)))))))))))))))
set_option maxHeartbeats 100000 in
theorem kX12_countsOf_67 {d : Nat} {F : am_FT} {L : am_LT} {Q : am_QT} {l2 l4 l5 : Option Value} {x1 x3 : Int32} (h1 : am_oob 4 6 = false) (h2 : am_oob 5 6 = false) : wt am_S0 (d + 1) mX12_countsOf 67 [some (.ref 45), some (.int x1), l2, some (.int x3), l4, l5] [.ref 52] F L Q = wc am_S0 d mX12_workOut [.ref 45, .int 0, .int (F 45 12)] (am_upF (am_upF F 52 (Int32.toNatClampNeg 4) x1) 52 (Int32.toNatClampNeg 5) x3) L (fun r G K => wt am_S0 (d + 1) mX12_countsOf 86 [some (.ref 45), some (.int x1), l2, some (.int x3), l4, l5] (r.toList ++ []) G K Q) := (wt_iconst dX12_countsOf_67 (v := 4) (by decide)).trans ((wt_iload_n dX12_countsOf_68 rfl).trans ((wt_iastore dX12_countsOf_69 rfl h1).trans ((wt_aload_n dX12_countsOf_70 rfl rfl).trans ((wt_getfield dX12_countsOf_71 rfl rfl (v := .ref 52) rfl).trans ((wt_iconst dX12_countsOf_74 (v := 5) (by decide)).trans ((wt_iload_n dX12_countsOf_75 rfl).trans ((wt_iastore dX12_countsOf_76 rfl h2).trans ((wt_aload_n dX12_countsOf_77 rfl rfl).trans ((wt_iconst dX12_countsOf_78 (v := 0) (by decide)).trans ((wt_aload_n dX12_countsOf_79 rfl rfl).trans ((wt_getfield dX12_countsOf_80 rfl rfl (v := .int (F 45 12)) (F := am_upF (am_upF F 52 (Int32.toNatClampNeg 4) x1) 52 (Int32.toNatClampNeg 5) x3) (p := 45) rfl).trans (wt_callV dX12_countsOf_83 rfl (as := [.int 0, .int (F 45 12)]) (rest := []) rfl rfl (Nat.le_of_ble_eq_true rfl) rfl (Nat.le_of_ble_eq_true rfl)))))))))))))
set_option maxHeartbeats 100000 in
theorem kX12_countsOf_86 {d : Nat} {F : am_FT} {L : am_LT} {Q : am_QT} {l0 l1 l2 l3 l5 : Option Value} {s0 x4 : Int32} : wt am_S0 d mX12_countsOf 86 [l0, l1, l2, l3, some (.int x4), l5] [.int s0] F L Q = wt am_S0 d mX12_countsOf 88 [l0, l1, l2, l3, some (.int x4), some (.int s0)] [] F L Q := wt_istore dX12_countsOf_86 (lv1 := [l0, l1, l2, l3, some (.int x4), some (.int s0)]) (Nat.le_of_ble_eq_true rfl) rfl
set_option maxHeartbeats 100000 in
theorem kX12_countsOf_88 {d : Nat} {F : am_FT} {L : am_LT} {Q : am_QT} {l0 l1 l2 l3 l4 : Option Value} {x5 : Int32} : wt am_S0 d mX12_countsOf 88 [l0, l1, l2, l3, l4, some (.int x5)] [] F L Q = if 0 ≤ x5 then wt am_S0 d mX12_countsOf 97 [l0, l1, l2, l3, l4, some (.int x5)] [] F L Q else wt am_S0 d mX12_countsOf 93 [l0, l1, l2, l3, l4, some (.int x5)] [] F L Q := (wt_iload dX12_countsOf_88 rfl).trans (wt_ifCond_ge dX12_countsOf_90 (t := 97) rfl)
set_option maxHeartbeats 100000 in
theorem kX12_countsOf_93 {d : Nat} {F : am_FT} {L : am_LT} {Q : am_QT} {l0 l1 l2 l3 l4 l5 : Option Value} : wt am_S0 d mX12_countsOf 93 [l0, l1, l2, l3, l4, l5] [] F L Q = wt am_S0 d mX12_countsOf 111 [l0, l1, l2, l3, l4, l5] [.int 0] F L Q := (wt_iconst dX12_countsOf_93 (v := 0) (by decide)).trans (wt_goto dX12_countsOf_94 (t := 111) rfl)
set_option maxHeartbeats 100000 in
theorem kX12_countsOf_97 {d : Nat} {F : am_FT} {L : am_LT} {Q : am_QT} {l0 l1 l2 l3 l4 : Option Value} {x5 : Int32} : wt am_S0 d mX12_countsOf 97 [l0, l1, l2, l3, l4, some (.int x5)] [] F L Q = if x5 ≤ 9 then wt am_S0 d mX12_countsOf 109 [l0, l1, l2, l3, l4, some (.int x5)] [] F L Q else wt am_S0 d mX12_countsOf 104 [l0, l1, l2, l3, l4, some (.int x5)] [] F L Q := (wt_iload dX12_countsOf_97 rfl).trans ((wt_bipush dX12_countsOf_99 (v := 9) (by decide)).trans (wt_if_icmp_le dX12_countsOf_101 (t := 109) rfl))
set_option maxHeartbeats 100000 in
theorem kX12_countsOf_104 {d : Nat} {F : am_FT} {L : am_LT} {Q : am_QT} {l0 l1 l2 l3 l4 l5 : Option Value} : wt am_S0 d mX12_countsOf 104 [l0, l1, l2, l3, l4, l5] [] F L Q = wt am_S0 d mX12_countsOf 111 [l0, l1, l2, l3, l4, l5] [.int 9] F L Q := (wt_bipush dX12_countsOf_104 (v := 9) (by decide)).trans (wt_goto dX12_countsOf_106 (t := 111) rfl)
set_option maxHeartbeats 100000 in
theorem kX12_countsOf_109 {d : Nat} {F : am_FT} {L : am_LT} {Q : am_QT} {l0 l1 l2 l3 l4 : Option Value} {x5 : Int32} : wt am_S0 d mX12_countsOf 109 [l0, l1, l2, l3, l4, some (.int x5)] [] F L Q = wt am_S0 d mX12_countsOf 111 [l0, l1, l2, l3, l4, some (.int x5)] [.int x5] F L Q := wt_iload dX12_countsOf_109 rfl
set_option maxHeartbeats 100000 in
theorem kX12_countsOf_111 {d : Nat} {F : am_FT} {L : am_LT} {Q : am_QT} {l0 l1 l2 l3 l4 l5 : Option Value} {s0 : Int32} : wt am_S0 d mX12_countsOf 111 [l0, l1, l2, l3, l4, l5] [.int s0] F L Q = Q (some (.int s0)) F L := wt_ireturn dX12_countsOf_111 rfl rfl
theorem dX12_fallsNow_0 : decode mX12_fallsNow.2.2.1 0 = .ok (.aload_n 0, 1) := by decide +kernel
theorem dX12_fallsNow_1 : decode mX12_fallsNow.2.2.1 1 = .ok (.getfield 98, 3) := by decide +kernel
theorem dX12_fallsNow_4 : decode mX12_fallsNow.2.2.1 4 = .ok (.iload_n 1, 1) := by decide +kernel
theorem dX12_fallsNow_5 : decode mX12_fallsNow.2.2.1 5 = .ok (.invokestatic 189, 3) := by decide +kernel
theorem dX12_fallsNow_8 : decode mX12_fallsNow.2.2.1 8 = .ok (.ifCond .eq 27, 3) := by decide +kernel
theorem dX12_fallsNow_11 : decode mX12_fallsNow.2.2.1 11 = .ok (.aload_n 0, 1) := by decide +kernel
theorem dX12_fallsNow_12 : decode mX12_fallsNow.2.2.1 12 = .ok (.iload_n 1, 1) := by decide +kernel
theorem dX12_fallsNow_13 : decode mX12_fallsNow.2.2.1 13 = .ok (.iload_n 2, 1) := by decide +kernel
theorem dX12_fallsNow_14 : decode mX12_fallsNow.2.2.1 14 = .ok (.aload_n 0, 1) := by decide +kernel
theorem dX12_fallsNow_15 : decode mX12_fallsNow.2.2.1 15 = .ok (.iload_n 1, 1) := by decide +kernel
theorem dX12_fallsNow_16 : decode mX12_fallsNow.2.2.1 16 = .ok (.iload_n 2, 1) := by decide +kernel
theorem dX12_fallsNow_17 : decode mX12_fallsNow.2.2.1 17 = .ok (.invokevirtual 192, 3) := by decide +kernel
theorem dX12_fallsNow_20 : decode mX12_fallsNow.2.2.1 20 = .ok (.aload_n 0, 1) := by decide +kernel
theorem dX12_fallsNow_21 : decode mX12_fallsNow.2.2.1 21 = .ok (.iload_n 1, 1) := by decide +kernel
theorem dX12_fallsNow_22 : decode mX12_fallsNow.2.2.1 22 = .ok (.invokevirtual 205, 3) := by decide +kernel
theorem dX12_fallsNow_25 : decode mX12_fallsNow.2.2.1 25 = .ok (.invokevirtual 208, 3) := by decide +kernel
theorem dX12_fallsNow_28 : decode mX12_fallsNow.2.2.1 28 = .ok (.ifCond .eq 7, 3) := by decide +kernel
theorem dX12_fallsNow_31 : decode mX12_fallsNow.2.2.1 31 = .ok (.iconst 1, 1) := by decide +kernel
theorem dX12_fallsNow_32 : decode mX12_fallsNow.2.2.1 32 = .ok (.goto 4, 3) := by decide +kernel
theorem dX12_fallsNow_35 : decode mX12_fallsNow.2.2.1 35 = .ok (.iconst 0, 1) := by decide +kernel
theorem dX12_fallsNow_36 : decode mX12_fallsNow.2.2.1 36 = .ok (.ireturn, 1) := by decide +kernel
set_option maxHeartbeats 100000 in
theorem kX12_fallsNow_0 {d : Nat} {F : am_FT} {L : am_LT} {Q : am_QT} {l2 : Option Value} {x1 : Int32} : wt am_S0 (d + 1) mX12_fallsNow 0 [some (.ref 45), some (.int x1), l2] [] F L Q = wc am_S0 d mX12_isIn [.int (F 45 8), .int x1] F L (fun r G K => wt am_S0 (d + 1) mX12_fallsNow 8 [some (.ref 45), some (.int x1), l2] (r.toList ++ []) G K Q) := (wt_aload_n dX12_fallsNow_0 rfl rfl).trans ((wt_getfield dX12_fallsNow_1 rfl rfl (v := .int (F 45 8)) rfl).trans ((wt_iload_n dX12_fallsNow_4 rfl).trans (wt_callS dX12_fallsNow_5 rfl (as := [.int (F 45 8), .int x1]) (rest := []) rfl rfl (Nat.le_of_ble_eq_true rfl) (Nat.le_of_ble_eq_true rfl))))
set_option maxHeartbeats 100000 in
theorem kX12_fallsNow_8 {d : Nat} {F : am_FT} {L : am_LT} {Q : am_QT} {l0 l1 l2 : Option Value} {s0 : Int32} : wt am_S0 d mX12_fallsNow 8 [l0, l1, l2] [.int s0] F L Q = if s0 = 0 then wt am_S0 d mX12_fallsNow 35 [l0, l1, l2] [] F L Q else wt am_S0 d mX12_fallsNow 11 [l0, l1, l2] [] F L Q := wt_ifCond_eq dX12_fallsNow_8 (t := 35) rfl
set_option maxHeartbeats 100000 in
theorem kX12_fallsNow_11 {d : Nat} {F : am_FT} {L : am_LT} {Q : am_QT} {x1 x2 : Int32} : wt am_S0 (d + 1) mX12_fallsNow 11 [some (.ref 45), some (.int x1), some (.int x2)] [] F L Q = wc am_S0 d mX12_sittersIn [.ref 45, .int x1, .int x2] F L (fun r G K => wt am_S0 (d + 1) mX12_fallsNow 20 [some (.ref 45), some (.int x1), some (.int x2)] (r.toList ++ [.int x2, .int x1, .ref 45]) G K Q) := (wt_aload_n dX12_fallsNow_11 rfl rfl).trans ((wt_iload_n dX12_fallsNow_12 rfl).trans ((wt_iload_n dX12_fallsNow_13 rfl).trans ((wt_aload_n dX12_fallsNow_14 rfl rfl).trans ((wt_iload_n dX12_fallsNow_15 rfl).trans ((wt_iload_n dX12_fallsNow_16 rfl).trans (wt_callV dX12_fallsNow_17 rfl (as := [.int x1, .int x2]) (rest := [.int x2, .int x1, .ref 45]) rfl rfl (Nat.le_of_ble_eq_true rfl) rfl (Nat.le_of_ble_eq_true rfl)))))))
set_option maxHeartbeats 100000 in
theorem kX12_fallsNow_20 {d : Nat} {F : am_FT} {L : am_LT} {Q : am_QT} {l2 : Option Value} {s1 s2 s3 x1 : Int32} : wt am_S0 (d + 1) mX12_fallsNow 20 [some (.ref 45), some (.int x1), l2] [.int s3, .int s2, .int s1, .ref 45] F L Q = wc am_S0 d mX12_wishers [.ref 45, .int x1] F L (fun r G K => wt am_S0 (d + 1) mX12_fallsNow 25 [some (.ref 45), some (.int x1), l2] (r.toList ++ [.int s3, .int s2, .int s1, .ref 45]) G K Q) := (wt_aload_n dX12_fallsNow_20 rfl rfl).trans ((wt_iload_n dX12_fallsNow_21 rfl).trans (wt_callV dX12_fallsNow_22 rfl (as := [.int x1]) (rest := [.int s3, .int s2, .int s1, .ref 45]) rfl rfl (Nat.le_of_ble_eq_true rfl) rfl (Nat.le_of_ble_eq_true rfl)))
set_option maxHeartbeats 100000 in
theorem kX12_fallsNow_25 {d : Nat} {F : am_FT} {L : am_LT} {Q : am_QT} {l0 l1 l2 : Option Value} {s1 s2 s3 s4 : Int32} : wt am_S0 (d + 1) mX12_fallsNow 25 [l0, l1, l2] [.int s4, .int s3, .int s2, .int s1, .ref 45] F L Q = wc am_S0 d mX12_doesFall [.ref 45, .int s1, .int s2, .int s3, .int s4] F L (fun r G K => wt am_S0 (d + 1) mX12_fallsNow 28 [l0, l1, l2] (r.toList ++ []) G K Q) := wt_callV dX12_fallsNow_25 rfl (as := [.int s1, .int s2, .int s3, .int s4]) (rest := []) rfl rfl (Nat.le_of_ble_eq_true rfl) rfl (Nat.le_of_ble_eq_true rfl)
set_option maxHeartbeats 100000 in
theorem kX12_fallsNow_28 {d : Nat} {F : am_FT} {L : am_LT} {Q : am_QT} {l0 l1 l2 : Option Value} {s0 : Int32} : wt am_S0 d mX12_fallsNow 28 [l0, l1, l2] [.int s0] F L Q = if s0 = 0 then wt am_S0 d mX12_fallsNow 35 [l0, l1, l2] [] F L Q else wt am_S0 d mX12_fallsNow 31 [l0, l1, l2] [] F L Q := wt_ifCond_eq dX12_fallsNow_28 (t := 35) rfl
set_option maxHeartbeats 100000 in
theorem kX12_fallsNow_31 {d : Nat} {F : am_FT} {L : am_LT} {Q : am_QT} {l0 l1 l2 : Option Value} : wt am_S0 d mX12_fallsNow 31 [l0, l1, l2] [] F L Q = wt am_S0 d mX12_fallsNow 36 [l0, l1, l2] [.int 1] F L Q := (wt_iconst dX12_fallsNow_31 (v := 1) (by decide)).trans (wt_goto dX12_fallsNow_32 (t := 36) rfl)
set_option maxHeartbeats 100000 in
theorem kX12_fallsNow_35 {d : Nat} {F : am_FT} {L : am_LT} {Q : am_QT} {l0 l1 l2 : Option Value} : wt am_S0 d mX12_fallsNow 35 [l0, l1, l2] [] F L Q = wt am_S0 d mX12_fallsNow 36 [l0, l1, l2] [.int 0] F L Q := wt_iconst dX12_fallsNow_35 (v := 0) (by decide)
set_option maxHeartbeats 100000 in
theorem kX12_fallsNow_36 {d : Nat} {F : am_FT} {L : am_LT} {Q : am_QT} {l0 l1 l2 : Option Value} {s0 : Int32} (h1 : narrow .boolean (.int s0) = .int s0) : wt am_S0 d mX12_fallsNow 36 [l0, l1, l2] [.int s0] F L Q = Q (some (.int s0)) F L := wt_ireturn dX12_fallsNow_36 rfl h1
theorem dX12_doesFall_0 : decode mX12_doesFall.2.2.1 0 = .ok (.iconst 2, 1) := by decide +kernel
theorem dX12_doesFall_1 : decode mX12_doesFall.2.2.1 1 = .ok (.aload_n 0, 1) := by decide +kernel
theorem dX12_doesFall_2 : decode mX12_doesFall.2.2.1 2 = .ok (.iload_n 1, 1) := by decide +kernel
theorem dX12_doesFall_3 : decode mX12_doesFall.2.2.1 3 = .ok (.iload_n 2, 1) := by decide +kernel
theorem dX12_doesFall_4 : decode mX12_doesFall.2.2.1 4 = .ok (.iload_n 3, 1) := by decide +kernel
theorem dX12_doesFall_5 : decode mX12_doesFall.2.2.1 5 = .ok (.iload 4, 2) := by decide +kernel
theorem dX12_doesFall_7 : decode mX12_doesFall.2.2.1 7 = .ok (.invokevirtual 202, 3) := by decide +kernel
theorem dX12_doesFall_10 : decode mX12_doesFall.2.2.1 10 = .ok (.imul, 1) := by decide +kernel
theorem dX12_doesFall_11 : decode mX12_doesFall.2.2.1 11 = .ok (.aload_n 0, 1) := by decide +kernel
theorem dX12_doesFall_12 : decode mX12_doesFall.2.2.1 12 = .ok (.iload_n 1, 1) := by decide +kernel
theorem dX12_doesFall_13 : decode mX12_doesFall.2.2.1 13 = .ok (.iload_n 2, 1) := by decide +kernel
theorem dX12_doesFall_14 : decode mX12_doesFall.2.2.1 14 = .ok (.iload_n 3, 1) := by decide +kernel
theorem dX12_doesFall_15 : decode mX12_doesFall.2.2.1 15 = .ok (.iload_n 3, 1) := by decide +kernel
theorem dX12_doesFall_16 : decode mX12_doesFall.2.2.1 16 = .ok (.invokevirtual 202, 3) := by decide +kernel
theorem dX12_doesFall_19 : decode mX12_doesFall.2.2.1 19 = .ok (.if_icmp .le 7, 3) := by decide +kernel
theorem dX12_doesFall_22 : decode mX12_doesFall.2.2.1 22 = .ok (.iconst 1, 1) := by decide +kernel
theorem dX12_doesFall_23 : decode mX12_doesFall.2.2.1 23 = .ok (.goto 4, 3) := by decide +kernel
theorem dX12_doesFall_26 : decode mX12_doesFall.2.2.1 26 = .ok (.iconst 0, 1) := by decide +kernel
theorem dX12_doesFall_27 : decode mX12_doesFall.2.2.1 27 = .ok (.ireturn, 1) := by decide +kernel
set_option maxHeartbeats 100000 in
theorem kX12_doesFall_0 {d : Nat} {F : am_FT} {L : am_LT} {Q : am_QT} {x1 x2 x3 x4 : Int32} : wt am_S0 (d + 1) mX12_doesFall 0 [some (.ref 45), some (.int x1), some (.int x2), some (.int x3), some (.int x4)] [] F L Q = wc am_S0 d mX12_sumOf [.ref 45, .int x1, .int x2, .int x3, .int x4] F L (fun r G K => wt am_S0 (d + 1) mX12_doesFall 10 [some (.ref 45), some (.int x1), some (.int x2), some (.int x3), some (.int x4)] (r.toList ++ [.int 2]) G K Q) := (wt_iconst dX12_doesFall_0 (v := 2) (by decide)).trans ((wt_aload_n dX12_doesFall_1 rfl rfl).trans ((wt_iload_n dX12_doesFall_2 rfl).trans ((wt_iload_n dX12_doesFall_3 rfl).trans ((wt_iload_n dX12_doesFall_4 rfl).trans ((wt_iload dX12_doesFall_5 rfl).trans (wt_callV dX12_doesFall_7 rfl (as := [.int x1, .int x2, .int x3, .int x4]) (rest := [.int 2]) rfl rfl (Nat.le_of_ble_eq_true rfl) rfl (Nat.le_of_ble_eq_true rfl)))))))
set_option maxHeartbeats 100000 in
theorem kX12_doesFall_10 {d : Nat} {F : am_FT} {L : am_LT} {Q : am_QT} {l4 : Option Value} {s0 s1 x1 x2 x3 : Int32} : wt am_S0 (d + 1) mX12_doesFall 10 [some (.ref 45), some (.int x1), some (.int x2), some (.int x3), l4] [.int s1, .int s0] F L Q = wc am_S0 d mX12_sumOf [.ref 45, .int x1, .int x2, .int x3, .int x3] F L (fun r G K => wt am_S0 (d + 1) mX12_doesFall 19 [some (.ref 45), some (.int x1), some (.int x2), some (.int x3), l4] (r.toList ++ [.int (s0 * s1)]) G K Q) := (wt_imul dX12_doesFall_10).trans ((wt_aload_n dX12_doesFall_11 rfl rfl).trans ((wt_iload_n dX12_doesFall_12 rfl).trans ((wt_iload_n dX12_doesFall_13 rfl).trans ((wt_iload_n dX12_doesFall_14 rfl).trans ((wt_iload_n dX12_doesFall_15 rfl).trans (wt_callV dX12_doesFall_16 rfl (as := [.int x1, .int x2, .int x3, .int x3]) (rest := [.int (s0 * s1)]) rfl rfl (Nat.le_of_ble_eq_true rfl) rfl (Nat.le_of_ble_eq_true rfl)))))))
set_option maxHeartbeats 100000 in
theorem kX12_doesFall_19 {d : Nat} {F : am_FT} {L : am_LT} {Q : am_QT} {l0 l1 l2 l3 l4 : Option Value} {s0 s1 : Int32} : wt am_S0 d mX12_doesFall 19 [l0, l1, l2, l3, l4] [.int s1, .int s0] F L Q = if s0 ≤ s1 then wt am_S0 d mX12_doesFall 26 [l0, l1, l2, l3, l4] [] F L Q else wt am_S0 d mX12_doesFall 22 [l0, l1, l2, l3, l4] [] F L Q := wt_if_icmp_le dX12_doesFall_19 (t := 26) rfl
set_option maxHeartbeats 100000 in
theorem kX12_doesFall_22 {d : Nat} {F : am_FT} {L : am_LT} {Q : am_QT} {l0 l1 l2 l3 l4 : Option Value} : wt am_S0 d mX12_doesFall 22 [l0, l1, l2, l3, l4] [] F L Q = wt am_S0 d mX12_doesFall 27 [l0, l1, l2, l3, l4] [.int 1] F L Q := (wt_iconst dX12_doesFall_22 (v := 1) (by decide)).trans (wt_goto dX12_doesFall_23 (t := 27) rfl)
set_option maxHeartbeats 100000 in
theorem kX12_doesFall_26 {d : Nat} {F : am_FT} {L : am_LT} {Q : am_QT} {l0 l1 l2 l3 l4 : Option Value} : wt am_S0 d mX12_doesFall 26 [l0, l1, l2, l3, l4] [] F L Q = wt am_S0 d mX12_doesFall 27 [l0, l1, l2, l3, l4] [.int 0] F L Q := wt_iconst dX12_doesFall_26 (v := 0) (by decide)
set_option maxHeartbeats 100000 in
theorem kX12_doesFall_27 {d : Nat} {F : am_FT} {L : am_LT} {Q : am_QT} {l0 l1 l2 l3 l4 : Option Value} {s0 : Int32} (h1 : narrow .boolean (.int s0) = .int s0) : wt am_S0 d mX12_doesFall 27 [l0, l1, l2, l3, l4] [.int s0] F L Q = Q (some (.int s0)) F L := wt_ireturn dX12_doesFall_27 rfl h1
theorem dX12_isShadedNow_0 : decode mX12_isShadedNow.2.2.1 0 = .ok (.aload_n 0, 1) := by decide +kernel
theorem dX12_isShadedNow_1 : decode mX12_isShadedNow.2.2.1 1 = .ok (.getfield 98, 3) := by decide +kernel
theorem dX12_isShadedNow_4 : decode mX12_isShadedNow.2.2.1 4 = .ok (.iload_n 1, 1) := by decide +kernel
theorem dX12_isShadedNow_5 : decode mX12_isShadedNow.2.2.1 5 = .ok (.invokestatic 189, 3) := by decide +kernel
theorem dX12_isShadedNow_8 : decode mX12_isShadedNow.2.2.1 8 = .ok (.ifCond .eq 17, 3) := by decide +kernel
theorem dX12_isShadedNow_11 : decode mX12_isShadedNow.2.2.1 11 = .ok (.aload_n 0, 1) := by decide +kernel
theorem dX12_isShadedNow_12 : decode mX12_isShadedNow.2.2.1 12 = .ok (.iload_n 1, 1) := by decide +kernel
theorem dX12_isShadedNow_13 : decode mX12_isShadedNow.2.2.1 13 = .ok (.iload_n 2, 1) := by decide +kernel
theorem dX12_isShadedNow_14 : decode mX12_isShadedNow.2.2.1 14 = .ok (.iload_n 3, 1) := by decide +kernel
theorem dX12_isShadedNow_15 : decode mX12_isShadedNow.2.2.1 15 = .ok (.invokevirtual 185, 3) := by decide +kernel
theorem dX12_isShadedNow_18 : decode mX12_isShadedNow.2.2.1 18 = .ok (.ifCond .eq 7, 3) := by decide +kernel
theorem dX12_isShadedNow_21 : decode mX12_isShadedNow.2.2.1 21 = .ok (.iconst 1, 1) := by decide +kernel
theorem dX12_isShadedNow_22 : decode mX12_isShadedNow.2.2.1 22 = .ok (.goto 4, 3) := by decide +kernel
theorem dX12_isShadedNow_25 : decode mX12_isShadedNow.2.2.1 25 = .ok (.iconst 0, 1) := by decide +kernel
theorem dX12_isShadedNow_26 : decode mX12_isShadedNow.2.2.1 26 = .ok (.ireturn, 1) := by decide +kernel
set_option maxHeartbeats 100000 in
theorem kX12_isShadedNow_0 {d : Nat} {F : am_FT} {L : am_LT} {Q : am_QT} {l2 l3 : Option Value} {x1 : Int32} : wt am_S0 (d + 1) mX12_isShadedNow 0 [some (.ref 45), some (.int x1), l2, l3] [] F L Q = wc am_S0 d mX12_isIn [.int (F 45 8), .int x1] F L (fun r G K => wt am_S0 (d + 1) mX12_isShadedNow 8 [some (.ref 45), some (.int x1), l2, l3] (r.toList ++ []) G K Q) := (wt_aload_n dX12_isShadedNow_0 rfl rfl).trans ((wt_getfield dX12_isShadedNow_1 rfl rfl (v := .int (F 45 8)) rfl).trans ((wt_iload_n dX12_isShadedNow_4 rfl).trans (wt_callS dX12_isShadedNow_5 rfl (as := [.int (F 45 8), .int x1]) (rest := []) rfl rfl (Nat.le_of_ble_eq_true rfl) (Nat.le_of_ble_eq_true rfl))))
set_option maxHeartbeats 100000 in
theorem kX12_isShadedNow_8 {d : Nat} {F : am_FT} {L : am_LT} {Q : am_QT} {l0 l1 l2 l3 : Option Value} {s0 : Int32} : wt am_S0 d mX12_isShadedNow 8 [l0, l1, l2, l3] [.int s0] F L Q = if s0 = 0 then wt am_S0 d mX12_isShadedNow 25 [l0, l1, l2, l3] [] F L Q else wt am_S0 d mX12_isShadedNow 11 [l0, l1, l2, l3] [] F L Q := wt_ifCond_eq dX12_isShadedNow_8 (t := 25) rfl
set_option maxHeartbeats 100000 in
theorem kX12_isShadedNow_11 {d : Nat} {F : am_FT} {L : am_LT} {Q : am_QT} {x1 x2 x3 : Int32} : wt am_S0 (d + 1) mX12_isShadedNow 11 [some (.ref 45), some (.int x1), some (.int x2), some (.int x3)] [] F L Q = wc am_S0 d mX12_isShaded [.ref 45, .int x1, .int x2, .int x3] F L (fun r G K => wt am_S0 (d + 1) mX12_isShadedNow 18 [some (.ref 45), some (.int x1), some (.int x2), some (.int x3)] (r.toList ++ []) G K Q) := (wt_aload_n dX12_isShadedNow_11 rfl rfl).trans ((wt_iload_n dX12_isShadedNow_12 rfl).trans ((wt_iload_n dX12_isShadedNow_13 rfl).trans ((wt_iload_n dX12_isShadedNow_14 rfl).trans (wt_callV dX12_isShadedNow_15 rfl (as := [.int x1, .int x2, .int x3]) (rest := []) rfl rfl (Nat.le_of_ble_eq_true rfl) rfl (Nat.le_of_ble_eq_true rfl)))))
set_option maxHeartbeats 100000 in
theorem kX12_isShadedNow_18 {d : Nat} {F : am_FT} {L : am_LT} {Q : am_QT} {l0 l1 l2 l3 : Option Value} {s0 : Int32} : wt am_S0 d mX12_isShadedNow 18 [l0, l1, l2, l3] [.int s0] F L Q = if s0 = 0 then wt am_S0 d mX12_isShadedNow 25 [l0, l1, l2, l3] [] F L Q else wt am_S0 d mX12_isShadedNow 21 [l0, l1, l2, l3] [] F L Q := wt_ifCond_eq dX12_isShadedNow_18 (t := 25) rfl
set_option maxHeartbeats 100000 in
theorem kX12_isShadedNow_21 {d : Nat} {F : am_FT} {L : am_LT} {Q : am_QT} {l0 l1 l2 l3 : Option Value} : wt am_S0 d mX12_isShadedNow 21 [l0, l1, l2, l3] [] F L Q = wt am_S0 d mX12_isShadedNow 26 [l0, l1, l2, l3] [.int 1] F L Q := (wt_iconst dX12_isShadedNow_21 (v := 1) (by decide)).trans (wt_goto dX12_isShadedNow_22 (t := 26) rfl)
set_option maxHeartbeats 100000 in
theorem kX12_isShadedNow_25 {d : Nat} {F : am_FT} {L : am_LT} {Q : am_QT} {l0 l1 l2 l3 : Option Value} : wt am_S0 d mX12_isShadedNow 25 [l0, l1, l2, l3] [] F L Q = wt am_S0 d mX12_isShadedNow 26 [l0, l1, l2, l3] [.int 0] F L Q := wt_iconst dX12_isShadedNow_25 (v := 0) (by decide)
set_option maxHeartbeats 100000 in
theorem kX12_isShadedNow_26 {d : Nat} {F : am_FT} {L : am_LT} {Q : am_QT} {l0 l1 l2 l3 : Option Value} {s0 : Int32} (h1 : narrow .boolean (.int s0) = .int s0) : wt am_S0 d mX12_isShadedNow 26 [l0, l1, l2, l3] [.int s0] F L Q = Q (some (.int s0)) F L := wt_ireturn dX12_isShadedNow_26 rfl h1
theorem dX12_falls_0 : decode mX12_falls.2.2.1 0 = .ok (.iload_n 1, 1) := by decide +kernel
theorem dX12_falls_1 : decode mX12_falls.2.2.1 1 = .ok (.i2l, 1) := by decide +kernel
theorem dX12_falls_2 : decode mX12_falls.2.2.1 2 = .ok (.lconst 0, 1) := by decide +kernel
theorem dX12_falls_3 : decode mX12_falls.2.2.1 3 = .ok (.ldc2_w 224, 3) := by decide +kernel
theorem dX12_falls_6 : decode mX12_falls.2.2.1 6 = .ok (.invokestatic 75, 3) := by decide +kernel
theorem dX12_falls_9 : decode mX12_falls.2.2.1 9 = .ok (.ifCond .ne 5, 3) := by decide +kernel
theorem dX12_falls_12 : decode mX12_falls.2.2.1 12 = .ok (.iconst (-1), 1) := by decide +kernel
theorem dX12_falls_13 : decode mX12_falls.2.2.1 13 = .ok (.ireturn, 1) := by decide +kernel
theorem dX12_falls_14 : decode mX12_falls.2.2.1 14 = .ok (.iload_n 1, 1) := by decide +kernel
theorem dX12_falls_15 : decode mX12_falls.2.2.1 15 = .ok (.bipush 12, 2) := by decide +kernel
theorem dX12_falls_17 : decode mX12_falls.2.2.1 17 = .ok (.if_icmp .ge 9, 3) := by decide +kernel
theorem dX12_falls_20 : decode mX12_falls.2.2.1 20 = .ok (.aload_n 0, 1) := by decide +kernel
theorem dX12_falls_21 : decode mX12_falls.2.2.1 21 = .ok (.iload_n 1, 1) := by decide +kernel
theorem dX12_falls_22 : decode mX12_falls.2.2.1 22 = .ok (.invokevirtual 226, 3) := by decide +kernel
theorem dX12_falls_25 : decode mX12_falls.2.2.1 25 = .ok (.ireturn, 1) := by decide +kernel
theorem dX12_falls_26 : decode mX12_falls.2.2.1 26 = .ok (.iconst 1, 1) := by decide +kernel
theorem dX12_falls_27 : decode mX12_falls.2.2.1 27 = .ok (.aload_n 0, 1) := by decide +kernel
theorem dX12_falls_28 : decode mX12_falls.2.2.1 28 = .ok (.getfield 72, 3) := by decide +kernel
theorem dX12_falls_31 : decode mX12_falls.2.2.1 31 = .ok (.ishl, 1) := by decide +kernel
theorem dX12_falls_32 : decode mX12_falls.2.2.1 32 = .ok (.iconst 1, 1) := by decide +kernel
theorem dX12_falls_33 : decode mX12_falls.2.2.1 33 = .ok (.isub, 1) := by decide +kernel
theorem dX12_falls_34 : decode mX12_falls.2.2.1 34 = .ok (.istore_n 2, 1) := by decide +kernel
theorem dX12_falls_35 : decode mX12_falls.2.2.1 35 = .ok (.iconst 0, 1) := by decide +kernel
theorem dX12_falls_36 : decode mX12_falls.2.2.1 36 = .ok (.istore_n 3, 1) := by decide +kernel
theorem dX12_falls_37 : decode mX12_falls.2.2.1 37 = .ok (.iload_n 3, 1) := by decide +kernel
theorem dX12_falls_38 : decode mX12_falls.2.2.1 38 = .ok (.bipush 12, 2) := by decide +kernel
theorem dX12_falls_40 : decode mX12_falls.2.2.1 40 = .ok (.if_icmp .ge 19, 3) := by decide +kernel
theorem dX12_falls_43 : decode mX12_falls.2.2.1 43 = .ok (.iload_n 2, 1) := by decide +kernel
theorem dX12_falls_44 : decode mX12_falls.2.2.1 44 = .ok (.aload_n 0, 1) := by decide +kernel
theorem dX12_falls_45 : decode mX12_falls.2.2.1 45 = .ok (.iload_n 3, 1) := by decide +kernel
theorem dX12_falls_46 : decode mX12_falls.2.2.1 46 = .ok (.invokevirtual 226, 3) := by decide +kernel
theorem dX12_falls_49 : decode mX12_falls.2.2.1 49 = .ok (.iconst (-1), 1) := by decide +kernel
theorem dX12_falls_50 : decode mX12_falls.2.2.1 50 = .ok (.ixor, 1) := by decide +kernel
theorem dX12_falls_51 : decode mX12_falls.2.2.1 51 = .ok (.iand, 1) := by decide +kernel
theorem dX12_falls_52 : decode mX12_falls.2.2.1 52 = .ok (.istore_n 2, 1) := by decide +kernel
theorem dX12_falls_53 : decode mX12_falls.2.2.1 53 = .ok (.iinc 3 1, 3) := by decide +kernel
theorem dX12_falls_56 : decode mX12_falls.2.2.1 56 = .ok (.goto (-19), 3) := by decide +kernel
theorem dX12_falls_59 : decode mX12_falls.2.2.1 59 = .ok (.iload_n 2, 1) := by decide +kernel
theorem dX12_falls_60 : decode mX12_falls.2.2.1 60 = .ok (.ireturn, 1) := by decide +kernel
set_option maxHeartbeats 100000 in
theorem kX12_falls_0 {d : Nat} {F : am_FT} {L : am_LT} {Q : am_QT} {l0 l2 l3 : Option Value} {x1 : Int32} : wt am_S0 (d + 1) mX12_falls 0 [l0, some (.int x1), l2, l3] [] F L Q = wc am_S0 d mX12_within [.long (Int32.toInt64 x1), .long 0, .long 12] F L (fun r G K => wt am_S0 (d + 1) mX12_falls 9 [l0, some (.int x1), l2, l3] (r.toList ++ []) G K Q) := (wt_iload_n dX12_falls_0 rfl).trans ((wt_i2l dX12_falls_1).trans ((wt_lconst dX12_falls_2 (v := 0) (by decide)).trans ((wt_ldc2_w dX12_falls_3 (v := 12) rfl).trans (wt_callS dX12_falls_6 rfl (as := [.long (Int32.toInt64 x1), .long 0, .long 12]) (rest := []) rfl rfl (Nat.le_of_ble_eq_true rfl) (Nat.le_of_ble_eq_true rfl)))))
set_option maxHeartbeats 100000 in
theorem kX12_falls_9 {d : Nat} {F : am_FT} {L : am_LT} {Q : am_QT} {l0 l1 l2 l3 : Option Value} {s0 : Int32} : wt am_S0 d mX12_falls 9 [l0, l1, l2, l3] [.int s0] F L Q = if ¬ s0 = 0 then wt am_S0 d mX12_falls 14 [l0, l1, l2, l3] [] F L Q else wt am_S0 d mX12_falls 12 [l0, l1, l2, l3] [] F L Q := wt_ifCond_ne dX12_falls_9 (t := 14) rfl
set_option maxHeartbeats 100000 in
theorem kX12_falls_12 {d : Nat} {F : am_FT} {L : am_LT} {Q : am_QT} {l0 l1 l2 l3 : Option Value} : wt am_S0 d mX12_falls 12 [l0, l1, l2, l3] [] F L Q = Q (some (.int (-1))) F L := (wt_iconst dX12_falls_12 (v := (-1)) (by decide)).trans (wt_ireturn dX12_falls_13 rfl rfl)
set_option maxHeartbeats 100000 in
theorem kX12_falls_14 {d : Nat} {F : am_FT} {L : am_LT} {Q : am_QT} {l0 l2 l3 : Option Value} {x1 : Int32} : wt am_S0 d mX12_falls 14 [l0, some (.int x1), l2, l3] [] F L Q = if 12 ≤ x1 then wt am_S0 d mX12_falls 26 [l0, some (.int x1), l2, l3] [] F L Q else wt am_S0 d mX12_falls 20 [l0, some (.int x1), l2, l3] [] F L Q := (wt_iload_n dX12_falls_14 rfl).trans ((wt_bipush dX12_falls_15 (v := 12) (by decide)).trans (wt_if_icmp_ge dX12_falls_17 (t := 26) rfl))
set_option maxHeartbeats 100000 in
theorem kX12_falls_20 {d : Nat} {F : am_FT} {L : am_LT} {Q : am_QT} {l2 l3 : Option Value} {x1 : Int32} : wt am_S0 (d + 1) mX12_falls 20 [some (.ref 45), some (.int x1), l2, l3] [] F L Q = wc am_S0 d mX12_fallIn [.ref 45, .int x1] F L (fun r G K => wt am_S0 (d + 1) mX12_falls 25 [some (.ref 45), some (.int x1), l2, l3] (r.toList ++ []) G K Q) := (wt_aload_n dX12_falls_20 rfl rfl).trans ((wt_iload_n dX12_falls_21 rfl).trans (wt_callV dX12_falls_22 rfl (as := [.int x1]) (rest := []) rfl rfl (Nat.le_of_ble_eq_true rfl) rfl (Nat.le_of_ble_eq_true rfl)))
set_option maxHeartbeats 100000 in
theorem kX12_falls_25 {d : Nat} {F : am_FT} {L : am_LT} {Q : am_QT} {l0 l1 l2 l3 : Option Value} {s0 : Int32} : wt am_S0 d mX12_falls 25 [l0, l1, l2, l3] [.int s0] F L Q = Q (some (.int s0)) F L := wt_ireturn dX12_falls_25 rfl rfl
set_option maxHeartbeats 100000 in
theorem kX12_falls_26 {d : Nat} {F : am_FT} {L : am_LT} {Q : am_QT} {l2 l3 : Option Value} {x1 : Int32} : wt am_S0 d mX12_falls 26 [some (.ref 45), some (.int x1), l2, l3] [] F L Q = wt am_S0 d mX12_falls 37 [some (.ref 45), some (.int x1), some (.int (((1 : Int32) <<< ((F 45 6) &&& 31)) - 1)), some (.int 0)] [] F L Q := (wt_iconst dX12_falls_26 (v := 1) (by decide)).trans ((wt_aload_n dX12_falls_27 rfl rfl).trans ((wt_getfield dX12_falls_28 rfl rfl (v := .int (F 45 6)) rfl).trans ((wt_ishl dX12_falls_31).trans ((wt_iconst dX12_falls_32 (v := 1) (by decide)).trans ((wt_isub dX12_falls_33).trans ((wt_istore_n dX12_falls_34 (lv1 := [some (.ref 45), some (.int x1), some (.int (((1 : Int32) <<< ((F 45 6) &&& 31)) - 1)), l3]) (Nat.le_of_ble_eq_true rfl) rfl).trans ((wt_iconst dX12_falls_35 (v := 0) (by decide)).trans (wt_istore_n dX12_falls_36 (lv1 := [some (.ref 45), some (.int x1), some (.int (((1 : Int32) <<< ((F 45 6) &&& 31)) - 1)), some (.int 0)]) (Nat.le_of_ble_eq_true rfl) rfl))))))))
set_option maxHeartbeats 100000 in
theorem kX12_falls_37 {d : Nat} {F : am_FT} {L : am_LT} {Q : am_QT} {l0 l1 l2 : Option Value} {x3 : Int32} : wt am_S0 d mX12_falls 37 [l0, l1, l2, some (.int x3)] [] F L Q = if 12 ≤ x3 then wt am_S0 d mX12_falls 59 [l0, l1, l2, some (.int x3)] [] F L Q else wt am_S0 d mX12_falls 43 [l0, l1, l2, some (.int x3)] [] F L Q := (wt_iload_n dX12_falls_37 rfl).trans ((wt_bipush dX12_falls_38 (v := 12) (by decide)).trans (wt_if_icmp_ge dX12_falls_40 (t := 59) rfl))
set_option maxHeartbeats 100000 in
theorem kX12_falls_43 {d : Nat} {F : am_FT} {L : am_LT} {Q : am_QT} {l1 : Option Value} {x2 x3 : Int32} : wt am_S0 (d + 1) mX12_falls 43 [some (.ref 45), l1, some (.int x2), some (.int x3)] [] F L Q = wc am_S0 d mX12_fallIn [.ref 45, .int x3] F L (fun r G K => wt am_S0 (d + 1) mX12_falls 49 [some (.ref 45), l1, some (.int x2), some (.int x3)] (r.toList ++ [.int x2]) G K Q) := (wt_iload_n dX12_falls_43 rfl).trans ((wt_aload_n dX12_falls_44 rfl rfl).trans ((wt_iload_n dX12_falls_45 rfl).trans (wt_callV dX12_falls_46 rfl (as := [.int x3]) (rest := [.int x2]) rfl rfl (Nat.le_of_ble_eq_true rfl) rfl (Nat.le_of_ble_eq_true rfl))))
set_option maxHeartbeats 100000 in
theorem kX12_falls_49 {d : Nat} {F : am_FT} {L : am_LT} {Q : am_QT} {l0 l2 : Option Value} {s0 s1 x1 x3 : Int32} : wt am_S0 d mX12_falls 49 [l0, some (.int x1), l2, some (.int x3)] [.int s1, .int s0] F L Q = wt am_S0 d mX12_falls 37 [l0, some (.int x1), some (.int (s0 &&& (s1 ^^^ (-1)))), some (.int (x3 + 1))] [] F L Q := (wt_iconst dX12_falls_49 (v := (-1)) (by decide)).trans ((wt_ixor dX12_falls_50).trans ((wt_iand dX12_falls_51).trans ((wt_istore_n dX12_falls_52 (lv1 := [l0, some (.int x1), some (.int (s0 &&& (s1 ^^^ (-1)))), some (.int x3)]) (Nat.le_of_ble_eq_true rfl) rfl).trans ((wt_iinc dX12_falls_53 (v := 1) (lv1 := [l0, some (.int x1), some (.int (s0 &&& (s1 ^^^ (-1)))), some (.int (x3 + 1))]) rfl (Nat.le_of_ble_eq_true rfl) (by decide) rfl).trans (wt_goto dX12_falls_56 (t := 37) rfl)))))
set_option maxHeartbeats 100000 in
theorem kX12_falls_59 {d : Nat} {F : am_FT} {L : am_LT} {Q : am_QT} {l0 l1 l3 : Option Value} {x2 : Int32} : wt am_S0 d mX12_falls 59 [l0, l1, some (.int x2), l3] [] F L Q = Q (some (.int x2)) F L := (wt_iload_n dX12_falls_59 rfl).trans (wt_ireturn dX12_falls_60 rfl rfl)
theorem dX12_fallIn_0 : decode mX12_fallIn.2.2.1 0 = .ok (.iconst 0, 1) := by decide +kernel
theorem dX12_fallIn_1 : decode mX12_fallIn.2.2.1 1 = .ok (.istore_n 2, 1) := by decide +kernel
theorem dX12_fallIn_2 : decode mX12_fallIn.2.2.1 2 = .ok (.iconst 0, 1) := by decide +kernel
theorem dX12_fallIn_3 : decode mX12_fallIn.2.2.1 3 = .ok (.istore_n 3, 1) := by decide +kernel
theorem dX12_fallIn_4 : decode mX12_fallIn.2.2.1 4 = .ok (.iload_n 3, 1) := by decide +kernel
theorem dX12_fallIn_5 : decode mX12_fallIn.2.2.1 5 = .ok (.aload_n 0, 1) := by decide +kernel
theorem dX12_fallIn_6 : decode mX12_fallIn.2.2.1 6 = .ok (.getfield 72, 3) := by decide +kernel
theorem dX12_fallIn_9 : decode mX12_fallIn.2.2.1 9 = .ok (.if_icmp .ge 28, 3) := by decide +kernel
theorem dX12_fallIn_12 : decode mX12_fallIn.2.2.1 12 = .ok (.iload_n 2, 1) := by decide +kernel
theorem dX12_fallIn_13 : decode mX12_fallIn.2.2.1 13 = .ok (.aload_n 0, 1) := by decide +kernel
theorem dX12_fallIn_14 : decode mX12_fallIn.2.2.1 14 = .ok (.iload_n 3, 1) := by decide +kernel
theorem dX12_fallIn_15 : decode mX12_fallIn.2.2.1 15 = .ok (.iload_n 1, 1) := by decide +kernel
theorem dX12_fallIn_16 : decode mX12_fallIn.2.2.1 16 = .ok (.invokevirtual 218, 3) := by decide +kernel
theorem dX12_fallIn_19 : decode mX12_fallIn.2.2.1 19 = .ok (.ifCond .eq 9, 3) := by decide +kernel
theorem dX12_fallIn_22 : decode mX12_fallIn.2.2.1 22 = .ok (.iconst 1, 1) := by decide +kernel
theorem dX12_fallIn_23 : decode mX12_fallIn.2.2.1 23 = .ok (.iload_n 3, 1) := by decide +kernel
theorem dX12_fallIn_24 : decode mX12_fallIn.2.2.1 24 = .ok (.ishl, 1) := by decide +kernel
theorem dX12_fallIn_25 : decode mX12_fallIn.2.2.1 25 = .ok (.goto 4, 3) := by decide +kernel
theorem dX12_fallIn_28 : decode mX12_fallIn.2.2.1 28 = .ok (.iconst 0, 1) := by decide +kernel
theorem dX12_fallIn_29 : decode mX12_fallIn.2.2.1 29 = .ok (.ior, 1) := by decide +kernel
theorem dX12_fallIn_30 : decode mX12_fallIn.2.2.1 30 = .ok (.istore_n 2, 1) := by decide +kernel
theorem dX12_fallIn_31 : decode mX12_fallIn.2.2.1 31 = .ok (.iinc 3 1, 3) := by decide +kernel
theorem dX12_fallIn_34 : decode mX12_fallIn.2.2.1 34 = .ok (.goto (-30), 3) := by decide +kernel
theorem dX12_fallIn_37 : decode mX12_fallIn.2.2.1 37 = .ok (.iload_n 2, 1) := by decide +kernel
theorem dX12_fallIn_38 : decode mX12_fallIn.2.2.1 38 = .ok (.ireturn, 1) := by decide +kernel
set_option maxHeartbeats 100000 in
theorem kX12_fallIn_0 {d : Nat} {F : am_FT} {L : am_LT} {Q : am_QT} {l0 l2 l3 : Option Value} {x1 : Int32} : wt am_S0 d mX12_fallIn 0 [l0, some (.int x1), l2, l3] [] F L Q = wt am_S0 d mX12_fallIn 4 [l0, some (.int x1), some (.int 0), some (.int 0)] [] F L Q := (wt_iconst dX12_fallIn_0 (v := 0) (by decide)).trans ((wt_istore_n dX12_fallIn_1 (lv1 := [l0, some (.int x1), some (.int 0), l3]) (Nat.le_of_ble_eq_true rfl) rfl).trans ((wt_iconst dX12_fallIn_2 (v := 0) (by decide)).trans (wt_istore_n dX12_fallIn_3 (lv1 := [l0, some (.int x1), some (.int 0), some (.int 0)]) (Nat.le_of_ble_eq_true rfl) rfl)))
set_option maxHeartbeats 100000 in
theorem kX12_fallIn_4 {d : Nat} {F : am_FT} {L : am_LT} {Q : am_QT} {l1 l2 : Option Value} {x3 : Int32} : wt am_S0 d mX12_fallIn 4 [some (.ref 45), l1, l2, some (.int x3)] [] F L Q = if (F 45 6) ≤ x3 then wt am_S0 d mX12_fallIn 37 [some (.ref 45), l1, l2, some (.int x3)] [] F L Q else wt am_S0 d mX12_fallIn 12 [some (.ref 45), l1, l2, some (.int x3)] [] F L Q := (wt_iload_n dX12_fallIn_4 rfl).trans ((wt_aload_n dX12_fallIn_5 rfl rfl).trans ((wt_getfield dX12_fallIn_6 rfl rfl (v := .int (F 45 6)) rfl).trans (wt_if_icmp_ge dX12_fallIn_9 (t := 37) rfl)))
set_option maxHeartbeats 100000 in
theorem kX12_fallIn_12 {d : Nat} {F : am_FT} {L : am_LT} {Q : am_QT} {x2 x3 x1 : Int32} : wt am_S0 (d + 1) mX12_fallIn 12 [some (.ref 45), some (.int x1), some (.int x2), some (.int x3)] [] F L Q = wc am_S0 d mX12_fallsNow [.ref 45, .int x3, .int x1] F L (fun r G K => wt am_S0 (d + 1) mX12_fallIn 19 [some (.ref 45), some (.int x1), some (.int x2), some (.int x3)] (r.toList ++ [.int x2]) G K Q) := (wt_iload_n dX12_fallIn_12 rfl).trans ((wt_aload_n dX12_fallIn_13 rfl rfl).trans ((wt_iload_n dX12_fallIn_14 rfl).trans ((wt_iload_n dX12_fallIn_15 rfl).trans (wt_callV dX12_fallIn_16 rfl (as := [.int x3, .int x1]) (rest := [.int x2]) rfl rfl (Nat.le_of_ble_eq_true rfl) rfl (Nat.le_of_ble_eq_true rfl)))))
set_option maxHeartbeats 100000 in
theorem kX12_fallIn_19 {d : Nat} {F : am_FT} {L : am_LT} {Q : am_QT} {l0 l1 l2 l3 : Option Value} {s0 s1 : Int32} : wt am_S0 d mX12_fallIn 19 [l0, l1, l2, l3] [.int s1, .int s0] F L Q = if s1 = 0 then wt am_S0 d mX12_fallIn 28 [l0, l1, l2, l3] [.int s0] F L Q else wt am_S0 d mX12_fallIn 22 [l0, l1, l2, l3] [.int s0] F L Q := wt_ifCond_eq dX12_fallIn_19 (t := 28) rfl
set_option maxHeartbeats 100000 in
theorem kX12_fallIn_22 {d : Nat} {F : am_FT} {L : am_LT} {Q : am_QT} {l0 l1 l2 : Option Value} {s0 x3 : Int32} : wt am_S0 d mX12_fallIn 22 [l0, l1, l2, some (.int x3)] [.int s0] F L Q = wt am_S0 d mX12_fallIn 29 [l0, l1, l2, some (.int x3)] [.int ((1 : Int32) <<< (x3 &&& 31)), .int s0] F L Q := (wt_iconst dX12_fallIn_22 (v := 1) (by decide)).trans ((wt_iload_n dX12_fallIn_23 rfl).trans ((wt_ishl dX12_fallIn_24).trans (wt_goto dX12_fallIn_25 (t := 29) rfl)))
set_option maxHeartbeats 100000 in
theorem kX12_fallIn_28 {d : Nat} {F : am_FT} {L : am_LT} {Q : am_QT} {l0 l1 l2 l3 : Option Value} {s0 : Int32} : wt am_S0 d mX12_fallIn 28 [l0, l1, l2, l3] [.int s0] F L Q = wt am_S0 d mX12_fallIn 29 [l0, l1, l2, l3] [.int 0, .int s0] F L Q := wt_iconst dX12_fallIn_28 (v := 0) (by decide)
set_option maxHeartbeats 100000 in
theorem kX12_fallIn_29 {d : Nat} {F : am_FT} {L : am_LT} {Q : am_QT} {l0 l2 : Option Value} {s0 s1 x1 x3 : Int32} : wt am_S0 d mX12_fallIn 29 [l0, some (.int x1), l2, some (.int x3)] [.int s1, .int s0] F L Q = wt am_S0 d mX12_fallIn 4 [l0, some (.int x1), some (.int (s0 ||| s1)), some (.int (x3 + 1))] [] F L Q := (wt_ior dX12_fallIn_29).trans ((wt_istore_n dX12_fallIn_30 (lv1 := [l0, some (.int x1), some (.int (s0 ||| s1)), some (.int x3)]) (Nat.le_of_ble_eq_true rfl) rfl).trans ((wt_iinc dX12_fallIn_31 (v := 1) (lv1 := [l0, some (.int x1), some (.int (s0 ||| s1)), some (.int (x3 + 1))]) rfl (Nat.le_of_ble_eq_true rfl) (by decide) rfl).trans (wt_goto dX12_fallIn_34 (t := 4) rfl)))
set_option maxHeartbeats 100000 in
theorem kX12_fallIn_37 {d : Nat} {F : am_FT} {L : am_LT} {Q : am_QT} {l0 l1 l3 : Option Value} {x2 : Int32} : wt am_S0 d mX12_fallIn 37 [l0, l1, some (.int x2), l3] [] F L Q = Q (some (.int x2)) F L := (wt_iload_n dX12_fallIn_37 rfl).trans (wt_ireturn dX12_fallIn_38 rfl rfl)
theorem dX12_first_0 : decode mX12_first.2.2.1 0 = .ok (.aload_n 0, 1) := by decide +kernel
theorem dX12_first_1 : decode mX12_first.2.2.1 1 = .ok (.iload_n 1, 1) := by decide +kernel
theorem dX12_first_2 : decode mX12_first.2.2.1 2 = .ok (.invokevirtual 212, 3) := by decide +kernel
theorem dX12_first_5 : decode mX12_first.2.2.1 5 = .ok (.ifCond .ne 5, 3) := by decide +kernel
theorem dX12_first_8 : decode mX12_first.2.2.1 8 = .ok (.iconst (-1), 1) := by decide +kernel
theorem dX12_first_9 : decode mX12_first.2.2.1 9 = .ok (.ireturn, 1) := by decide +kernel
theorem dX12_first_10 : decode mX12_first.2.2.1 10 = .ok (.iconst 0, 1) := by decide +kernel
theorem dX12_first_11 : decode mX12_first.2.2.1 11 = .ok (.istore_n 2, 1) := by decide +kernel
theorem dX12_first_12 : decode mX12_first.2.2.1 12 = .ok (.iload_n 2, 1) := by decide +kernel
theorem dX12_first_13 : decode mX12_first.2.2.1 13 = .ok (.bipush 12, 2) := by decide +kernel
theorem dX12_first_15 : decode mX12_first.2.2.1 15 = .ok (.if_icmp .ge 39, 3) := by decide +kernel
theorem dX12_first_18 : decode mX12_first.2.2.1 18 = .ok (.aload_n 0, 1) := by decide +kernel
theorem dX12_first_19 : decode mX12_first.2.2.1 19 = .ok (.iload_n 1, 1) := by decide +kernel
theorem dX12_first_20 : decode mX12_first.2.2.1 20 = .ok (.bipush 100, 2) := by decide +kernel
theorem dX12_first_22 : decode mX12_first.2.2.1 22 = .ok (.idiv, 1) := by decide +kernel
theorem dX12_first_23 : decode mX12_first.2.2.1 23 = .ok (.iload_n 1, 1) := by decide +kernel
theorem dX12_first_24 : decode mX12_first.2.2.1 24 = .ok (.bipush 100, 2) := by decide +kernel
theorem dX12_first_26 : decode mX12_first.2.2.1 26 = .ok (.irem, 1) := by decide +kernel
theorem dX12_first_27 : decode mX12_first.2.2.1 27 = .ok (.iload_n 2, 1) := by decide +kernel
theorem dX12_first_28 : decode mX12_first.2.2.1 28 = .ok (.iadd, 1) := by decide +kernel
theorem dX12_first_29 : decode mX12_first.2.2.1 29 = .ok (.bipush 12, 2) := by decide +kernel
theorem dX12_first_31 : decode mX12_first.2.2.1 31 = .ok (.irem, 1) := by decide +kernel
theorem dX12_first_32 : decode mX12_first.2.2.1 32 = .ok (.invokevirtual 218, 3) := by decide +kernel
theorem dX12_first_35 : decode mX12_first.2.2.1 35 = .ok (.ifCond .eq 13, 3) := by decide +kernel
theorem dX12_first_38 : decode mX12_first.2.2.1 38 = .ok (.iload_n 1, 1) := by decide +kernel
theorem dX12_first_39 : decode mX12_first.2.2.1 39 = .ok (.bipush 100, 2) := by decide +kernel
theorem dX12_first_41 : decode mX12_first.2.2.1 41 = .ok (.irem, 1) := by decide +kernel
theorem dX12_first_42 : decode mX12_first.2.2.1 42 = .ok (.iload_n 2, 1) := by decide +kernel
theorem dX12_first_43 : decode mX12_first.2.2.1 43 = .ok (.iadd, 1) := by decide +kernel
theorem dX12_first_44 : decode mX12_first.2.2.1 44 = .ok (.bipush 12, 2) := by decide +kernel
theorem dX12_first_46 : decode mX12_first.2.2.1 46 = .ok (.irem, 1) := by decide +kernel
theorem dX12_first_47 : decode mX12_first.2.2.1 47 = .ok (.ireturn, 1) := by decide +kernel
theorem dX12_first_48 : decode mX12_first.2.2.1 48 = .ok (.iinc 2 1, 3) := by decide +kernel
theorem dX12_first_51 : decode mX12_first.2.2.1 51 = .ok (.goto (-39), 3) := by decide +kernel
theorem dX12_first_54 : decode mX12_first.2.2.1 54 = .ok (.bipush (-2), 2) := by decide +kernel
theorem dX12_first_56 : decode mX12_first.2.2.1 56 = .ok (.ireturn, 1) := by decide +kernel
set_option maxHeartbeats 100000 in
theorem kX12_first_0 {d : Nat} {F : am_FT} {L : am_LT} {Q : am_QT} {l2 : Option Value} {x1 : Int32} : wt am_S0 (d + 1) mX12_first 0 [some (.ref 45), some (.int x1), l2] [] F L Q = wc am_S0 d mX12_isTm [.ref 45, .int x1] F L (fun r G K => wt am_S0 (d + 1) mX12_first 5 [some (.ref 45), some (.int x1), l2] (r.toList ++ []) G K Q) := (wt_aload_n dX12_first_0 rfl rfl).trans ((wt_iload_n dX12_first_1 rfl).trans (wt_callV dX12_first_2 rfl (as := [.int x1]) (rest := []) rfl rfl (Nat.le_of_ble_eq_true rfl) rfl (Nat.le_of_ble_eq_true rfl)))
set_option maxHeartbeats 100000 in
theorem kX12_first_5 {d : Nat} {F : am_FT} {L : am_LT} {Q : am_QT} {l0 l1 l2 : Option Value} {s0 : Int32} : wt am_S0 d mX12_first 5 [l0, l1, l2] [.int s0] F L Q = if ¬ s0 = 0 then wt am_S0 d mX12_first 10 [l0, l1, l2] [] F L Q else wt am_S0 d mX12_first 8 [l0, l1, l2] [] F L Q := wt_ifCond_ne dX12_first_5 (t := 10) rfl
set_option maxHeartbeats 100000 in
theorem kX12_first_8 {d : Nat} {F : am_FT} {L : am_LT} {Q : am_QT} {l0 l1 l2 : Option Value} : wt am_S0 d mX12_first 8 [l0, l1, l2] [] F L Q = Q (some (.int (-1))) F L := (wt_iconst dX12_first_8 (v := (-1)) (by decide)).trans (wt_ireturn dX12_first_9 rfl rfl)
set_option maxHeartbeats 100000 in
theorem kX12_first_10 {d : Nat} {F : am_FT} {L : am_LT} {Q : am_QT} {l0 l2 : Option Value} {x1 : Int32} : wt am_S0 d mX12_first 10 [l0, some (.int x1), l2] [] F L Q = wt am_S0 d mX12_first 12 [l0, some (.int x1), some (.int 0)] [] F L Q := (wt_iconst dX12_first_10 (v := 0) (by decide)).trans (wt_istore_n dX12_first_11 (lv1 := [l0, some (.int x1), some (.int 0)]) (Nat.le_of_ble_eq_true rfl) rfl)
set_option maxHeartbeats 100000 in
theorem kX12_first_12 {d : Nat} {F : am_FT} {L : am_LT} {Q : am_QT} {l0 l1 : Option Value} {x2 : Int32} : wt am_S0 d mX12_first 12 [l0, l1, some (.int x2)] [] F L Q = if 12 ≤ x2 then wt am_S0 d mX12_first 54 [l0, l1, some (.int x2)] [] F L Q else wt am_S0 d mX12_first 18 [l0, l1, some (.int x2)] [] F L Q := (wt_iload_n dX12_first_12 rfl).trans ((wt_bipush dX12_first_13 (v := 12) (by decide)).trans (wt_if_icmp_ge dX12_first_15 (t := 54) rfl))
set_option maxHeartbeats 100000 in
theorem kX12_first_18 {d : Nat} {F : am_FT} {L : am_LT} {Q : am_QT} {x1 x2 : Int32} : wt am_S0 (d + 1) mX12_first 18 [some (.ref 45), some (.int x1), some (.int x2)] [] F L Q = wc am_S0 d mX12_fallsNow [.ref 45, .int (x1 / 100), .int (((x1 - x1 / 100 * 100) + x2) - ((x1 - x1 / 100 * 100) + x2) / 12 * 12)] F L (fun r G K => wt am_S0 (d + 1) mX12_first 35 [some (.ref 45), some (.int x1), some (.int x2)] (r.toList ++ []) G K Q) := (wt_aload_n dX12_first_18 rfl rfl).trans ((wt_iload_n dX12_first_19 rfl).trans ((wt_bipush dX12_first_20 (v := 100) (by decide)).trans ((wt_idiv dX12_first_22 (by decide)).trans ((wt_iload_n dX12_first_23 rfl).trans ((wt_bipush dX12_first_24 (v := 100) (by decide)).trans ((wt_irem dX12_first_26 (by decide)).trans ((wt_iload_n dX12_first_27 rfl).trans ((wt_iadd dX12_first_28).trans ((wt_bipush dX12_first_29 (v := 12) (by decide)).trans ((wt_irem dX12_first_31 (by decide)).trans (wt_callV dX12_first_32 rfl (as := [.int (x1 / 100), .int (((x1 - x1 / 100 * 100) + x2) - ((x1 - x1 / 100 * 100) + x2) / 12 * 12)]) (rest := []) rfl rfl (Nat.le_of_ble_eq_true rfl) rfl (Nat.le_of_ble_eq_true rfl))))))))))))
set_option maxHeartbeats 100000 in
theorem kX12_first_35 {d : Nat} {F : am_FT} {L : am_LT} {Q : am_QT} {l0 l1 l2 : Option Value} {s0 : Int32} : wt am_S0 d mX12_first 35 [l0, l1, l2] [.int s0] F L Q = if s0 = 0 then wt am_S0 d mX12_first 48 [l0, l1, l2] [] F L Q else wt am_S0 d mX12_first 38 [l0, l1, l2] [] F L Q := wt_ifCond_eq dX12_first_35 (t := 48) rfl
set_option maxHeartbeats 100000 in
theorem kX12_first_38 {d : Nat} {F : am_FT} {L : am_LT} {Q : am_QT} {l0 : Option Value} {x1 x2 : Int32} : wt am_S0 d mX12_first 38 [l0, some (.int x1), some (.int x2)] [] F L Q = Q (some (.int (((x1 - x1 / 100 * 100) + x2) - ((x1 - x1 / 100 * 100) + x2) / 12 * 12))) F L := (wt_iload_n dX12_first_38 rfl).trans ((wt_bipush dX12_first_39 (v := 100) (by decide)).trans ((wt_irem dX12_first_41 (by decide)).trans ((wt_iload_n dX12_first_42 rfl).trans ((wt_iadd dX12_first_43).trans ((wt_bipush dX12_first_44 (v := 12) (by decide)).trans ((wt_irem dX12_first_46 (by decide)).trans (wt_ireturn dX12_first_47 rfl rfl)))))))
set_option maxHeartbeats 100000 in
theorem kX12_first_48 {d : Nat} {F : am_FT} {L : am_LT} {Q : am_QT} {l0 : Option Value} {x2 x1 : Int32} : wt am_S0 d mX12_first 48 [l0, some (.int x1), some (.int x2)] [] F L Q = wt am_S0 d mX12_first 12 [l0, some (.int x1), some (.int (x2 + 1))] [] F L Q := (wt_iinc dX12_first_48 (v := 1) (lv1 := [l0, some (.int x1), some (.int (x2 + 1))]) rfl (Nat.le_of_ble_eq_true rfl) (by decide) rfl).trans (wt_goto dX12_first_51 (t := 12) rfl)
set_option maxHeartbeats 100000 in
theorem kX12_first_54 {d : Nat} {F : am_FT} {L : am_LT} {Q : am_QT} {l0 l1 l2 : Option Value} : wt am_S0 d mX12_first 54 [l0, l1, l2] [] F L Q = Q (some (.int (-2))) F L := (wt_bipush dX12_first_54 (v := (-2)) (by decide)).trans (wt_ireturn dX12_first_56 rfl rfl)
