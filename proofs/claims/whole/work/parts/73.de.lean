/-! ===== deeds ===== -/
theorem s_tell {d : Nat} {F : am_FT} {L : am_LT} {Q : am_QT} {x : Int32} : wc am_S0 (d + 1) mX3_tell [.ref 18, .int x] F L Q = Q (some (.int (rdA F 19 5 x))) F L := by
  rw [eX3_tell, kX3_tell_0, s_at (p := 19) (n := 5) rfl (by decide)]
  simp only [Option.toList_some, Option.toList_none, List.cons_append, List.nil_append]
  rw [kX3_tell_8]
theorem s_countOn {d w : Nat} {F : am_FT} {L : am_LT} {Q : am_QT} {x : Int32} (hw : w < 5) : wc am_S0 (d + 1) mX3_countOn [.ref 18, .int (nI w), .int x] F L Q = Q none (am_upF F 19 w (F 19 w + x)) L := by
  rw [eX3_countOn, kX3_countOn_0, s_at (p := 19) (n := 5) rfl (by decide), rdA_n hw (by decide)]
  simp only [Option.toList_some, Option.toList_none, List.cons_append, List.nil_append]
  rw [kX3_countOn_13, s_lay (p := 19) (n := 5) rfl (by decide), wrA_n hw (by decide)]
  simp only [Option.toList_some, Option.toList_none, List.cons_append, List.nil_append]
  rw [kX3_countOn_18]
theorem c_seat {d p c : Nat} {F : am_FT} {L : am_LT} {Q : am_QT} {v : am_V} (h : RLand (F 1) (F 2) v) (hv : wV v) (hp : p < vP v) : wc am_S0 (d + 2) mX3_seat [.ref 18, .int (nI p), .int (nI c)] F L Q = Q (some (.int (nI (vN v 4 p)))) (am_upF (am_upF F 2 (12 * 4 + p) (nI c)) 19 2 (F 19 2 + 1)) L := by
  have hP := hv.2.1
  rw [eX3_seat, kX3_seat_0, s_read, ld4 h hv hp]
  simp only [Option.toList_some, Option.toList_none, List.cons_append, List.nil_append]
  rw [kX3_seat_9, show (4 : Int32) = nI 4 from rfl, s_write_n (by omega) (by decide)]
  simp only [Option.toList_some, Option.toList_none, List.cons_append, List.nil_append]
  rw [kX3_seat_20, show (2 : Int32) = nI 2 from rfl, s_countOn (by decide)]
  simp only [Option.toList_some, Option.toList_none, List.cons_append, List.nil_append]
  rw [kX3_seat_26, up_o (q := 19) (by decide)]
theorem c_lopOne {d t : Nat} {F : am_FT} {L : am_LT} {Q : am_QT} {v : am_V} (h : RLand (F 1) (F 2) v) (hv : wV v) (ht : t < vT v) : wc am_S0 (d + 2) mX3_lopOne [.ref 18, .int (nI t)] F L Q = if (decide (1 < vN v 1 t) && vS v t) = true then Q (some (.int (nI (vN v 1 t - 1)))) (am_upF (am_upF F 2 (12 * 1 + t) (nI (vN v 1 t - 1))) 19 3 (F 19 3 + 1)) L else Q (some (.int (-5))) F L := by
  have hT := hv.1
  have b1 := lb1 hv ht
  have b1p := lb1p hv ht
  rw [eX3_lopOne, kX3_lopOne_0, s_read, ld1 h hv ht]
  simp only [Option.toList_some, Option.toList_none, List.cons_append, List.nil_append]
  rw [kX3_lopOne_9, show (nI (vN v 1 t) - 1 : Int32) = nI (vN v 1 t - 1) by
    simp (disch := omega) only [iI_n, iI_l, iI_neg, iI_add, iI_sub, iI_mul, iI_div, iI_lt, iI_le, iI_eq]
    congr 1
    omega]
  by_cases h1 : 1 < vN v 1 t
  · rw [if_neg (show ¬ nI (vN v 1 t - 1) < (1 : Int32) from nI_nlt (b := 1) (by omega) (by omega)), kX3_lopOne_17, s_stands, ld7 h hv ht, show (if bI (vS v t) = 1 then (1 : Int32) else 0) = bI (vS v t) by cases vS v t <;> decide, decide_eq_true h1, Bool.true_and]
    simp only [Option.toList_some, Option.toList_none, List.cons_append, List.nil_append]
    rw [kX3_lopOne_25]
    cases hs : vS v t
    · rw [if_neg (by decide), kX3_lopOne_28, if_neg (by decide)]
    · rw [if_pos bIt, kX3_lopOne_31, show (1 : Int32) = nI 1 from rfl, s_write_n (by omega) (by decide)]
      simp only [Option.toList_some, Option.toList_none, List.cons_append, List.nil_append]
      rw [kX3_lopOne_41, show (3 : Int32) = nI 3 from rfl, s_countOn (by decide)]
      simp only [Option.toList_some, Option.toList_none, List.cons_append, List.nil_append]
      rw [kX3_lopOne_47, up_o (q := 19) (by decide), if_pos trivial]
      rfl
  · rw [if_pos (show nI (vN v 1 t - 1) < (1 : Int32) from nI_lt (b := 1) (by omega) (by decide)), kX3_lopOne_28, decide_eq_false h1, Bool.false_and, if_neg (by decide)]
