/-! ===== cellsOf, and what is led ===== -/
def cel (v : am_V) (t m : Nat) : Nat := if vS v t = true then celN (vN v 0 t) (vN v 1 t * vN v 3 m / 3) (vN v 2 t) else 0
theorem c_cellsOf {d : Nat} {F : am_FT} {L : am_LT} {Q : am_QT} {v : am_V} (h : RLand (F 1) (F 2) v) (hv : wV v) {t m : Nat} (ht : t < vT v) (hm : m < 12) : wc am_S0 (d + 2) mX5_cellsOf [.ref 1, .int (nI t), .int (nI m)] F L Q = Q (some (.int (nI (cel v t m)))) F L := by
  have b1 := lb1 hv ht
  have b3 := lb3 hv hm
  have b0 := lb0 hv ht
  have b2 := lb2 hv ht
  have hp : vN v 1 t * vN v 3 m ≤ 9 * 9 := Nat.mul_le_mul b1 b3
  rw [eX5_cellsOf, kX5_cellsOf_0, s_stands, ld7 h hv ht, show (if bI (vS v t) = 1 then (1 : Int32) else 0) = bI (vS v t) by cases vS v t <;> decide]
  simp only [Option.toList_some, Option.toList_none, List.cons_append, List.nil_append]
  rw [kX5_cellsOf_5]
  unfold cel
  cases hs : vS v t
  · rw [if_neg (by decide), kX5_cellsOf_8]; rfl
  · rw [if_pos bIt, kX5_cellsOf_10, s_read, ld0 h hv ht]
    simp only [Option.toList_some, Option.toList_none, List.cons_append, List.nil_append]
    rw [kX5_cellsOf_16, s_read, ld2 h hv ht]
    simp only [Option.toList_some, Option.toList_none, List.cons_append, List.nil_append]
    rw [kX5_cellsOf_23, s_read, ld1 h hv ht]
    simp only [Option.toList_some, Option.toList_none, List.cons_append, List.nil_append]
    rw [kX5_cellsOf_31, s_read, ld3 h hv hm]
    simp only [Option.toList_some, Option.toList_none, List.cons_append, List.nil_append]
    rw [kX5_cellsOf_37, kX5_cellsOf_62]
    have e1 : (nI (vN v 1 t) * nI (vN v 3 m) / 3 : Int32) = nI (vN v 1 t * vN v 3 m / 3) := by
      rw [iI_n, iI_n, iI_mul, iI_l, iI_div (by omega) (by omega) (by omega) (by omega), iI_n]
      congr 1
    have e2 : (nI (vN v 0 t) / 16 : Int32) = nI (vN v 0 t / 16) := by
      simp (disch := omega) only [iI_n, iI_l, iI_neg, iI_add, iI_sub, iI_mul, iI_div, iI_lt, iI_le, iI_eq]
      congr 1
    have e3 : (nI (vN v 0 t) - nI (vN v 0 t / 16) * 16 : Int32) = nI (vN v 0 t % 16) := by
      simp (disch := omega) only [iI_n, iI_l, iI_neg, iI_add, iI_sub, iI_mul, iI_div, iI_lt, iI_le, iI_eq]
      congr 1
      omega
    rw [e1, e2, e3]
    have hr : vN v 1 t * vN v 3 m / 3 ≤ 27 := by omega
    generalize vN v 1 t * vN v 3 m / 3 = r at *
    generalize vN v 0 t = f at *
    generalize vN v 2 t = b at *
    have e4 : (if nI (f / 16) < nI r then nI (f / 16) else nI r) = nI (min r (f / 16)) := by
      by_cases hh : f / 16 < r
      · rw [if_pos (nI_lt hh (by omega))]
        rw [Nat.min_eq_right (by omega)]
      · rw [if_neg (nI_nlt (by omega) (by omega)), Nat.min_eq_left (by omega)]
    have hx : f % 16 < 16 := Nat.mod_lt _ (by decide)
    generalize hX : f % 16 = x at *
    have e5 : (if (15 : Int32) < nI x + nI b then (15 : Int32) else nI x + nI b) = nI (min (x + b) 15) := by
      rw [nI_add]
      by_cases hh : 15 < x + b
      · rw [if_pos (show (15 : Int32) < nI (x + b) from nI_lt (a := 15) hh (by omega)), Nat.min_eq_right (by omega)]; rfl
      · rw [if_neg (show ¬ (15 : Int32) < nI (x + b) from nI_nlt (a := 15) (by omega) (by decide)), Nat.min_eq_left (by omega)]
    have e6 : (if nI x - nI b < 0 then (0 : Int32) else nI x - nI b) = nI (x - b) := by
      by_cases hh : x < b
      · rw [if_pos, show x - b = 0 by omega]
        · rfl
        · simp (disch := omega) only [iI_n, iI_l, iI_neg, iI_add, iI_sub, iI_mul, iI_div, iI_lt, iI_le, iI_eq]
          omega
      · rw [if_neg]
        · rw [iI_n, iI_n, iI_n, iI_sub]; congr 1; omega
        · simp (disch := omega) only [iI_n, iI_l, iI_neg, iI_add, iI_sub, iI_mul, iI_div, iI_lt, iI_le, iI_eq]
          omega
    rw [e4, e5, e6]
    have e7 : (nI (min (x + b) 15) - nI (x - b) + 1 : Int32) = nI (min (x + b) 15 + 1 - (x - b)) := by
      rw [iI_n, iI_n, iI_n, iI_sub, iI_l, iI_add]; congr 1; omega
    have e8 : (nI (min r (f / 16)) * nI (min (x + b) 15 + 1 - (x - b)) : Int32) = nI (min r (f / 16) * (min (x + b) 15 + 1 - (x - b))) := by
      rw [iI_n, iI_n, iI_n, iI_mul]; rfl
    rw [e7, e8, if_pos trivial, ← hX]
    rfl
