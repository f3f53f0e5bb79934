/-! ===== shelves of the class: sort, length, voter; elements ===== -/
/-- place p is a shelf, e its row of longs -/
def shP (p e : Nat) : Prop := am_S0[p]? = some (8, 4, [some e, none, none, none]) ∧ am_S0[e]? = some (101, 60, [])
theorem shP_j {j : Nat} (hj : j < 6) : shP (33 + 2 * j) (34 + 2 * j) := by
  rcases (by omega : j = 0 ∨ j = 1 ∨ j = 2 ∨ j = 3 ∨ j = 4 ∨ j = 5) with rfl | rfl | rfl | rfl | rfl | rfl <;> exact ⟨rfl, rfl⟩
theorem s_size {d p e : Nat} {F : am_FT} {L : am_LT} {Q : am_QT} (h : shP p e) : wc am_S0 d mX8_size [.ref p] F L Q = Q (some (.int (F p 2))) F L := by rw [eX8_size, kX8_size_0 h.1]
theorem s_valueAt {d p e i : Nat} {F : am_FT} {L : am_LT} {Q : am_QT} (h : shP p e) (hi : i < 60) : wc am_S0 d mX8_valueAt [.ref p, .int (nI i)] F L Q = Q (some (.long (L e i))) F L := by
  rw [eX8_valueAt, kX8_valueAt_0, if_neg (nI_pos (by omega)), kX8_valueAt_4 h.1 h.2, if_neg (show ¬ (60 : Int32) ≤ nI i from nI_ge (b := 60) hi (by decide)), kX8_valueAt_13 h.1 h.2 (decide_eq_false (vp_in_nI hi (by decide))), nI_clamp (by omega), kX8_valueAt_23]
theorem s_isRow {d p e : Nat} {F : am_FT} {L : am_LT} {Q : am_QT} (h : shP p e) : wc am_S0 d mX8_isRow [.ref p] F L Q = Q (some (.int (bI (!decide (F p 1 = -1))))) F L := by
  rw [eX8_isRow, kX8_isRow_0 h.1]
  by_cases hs : F p 1 = -1
  · rw [if_pos hs, kX8_isRow_12, kX8_isRow_13 rfl, decide_eq_true hs]; rfl
  · rw [if_neg hs, kX8_isRow_8, kX8_isRow_13 rfl, decide_eq_false hs]; rfl
theorem s_isRowOf {d p e : Nat} {F : am_FT} {L : am_LT} {Q : am_QT} {w : Int32} (h : shP p e) : wc am_S0 (d + 1) mX8_isRowOf [.ref p, .int w] F L Q = Q (some (.int (bI (!decide (F p 1 = -1) && decide (F p 1 = w))))) F L := by
  rw [eX8_isRowOf, kX8_isRowOf_0 h.1, s_isRow h]
  simp only [Option.toList_some, Option.toList_none, List.cons_append, List.nil_append]
  rw [kX8_isRowOf_4]
  cases h1 : (!decide (F p 1 = -1))
  · rw [if_pos bIf, kX8_isRowOf_19, kX8_isRowOf_20 rfl]; rfl
  · rw [if_neg bIt, kX8_isRowOf_7 h.1]
    by_cases h2 : F p 1 = w
    · rw [if_neg (fun hh => hh h2), kX8_isRowOf_15, kX8_isRowOf_20 rfl, decide_eq_true h2]; rfl
    · rw [if_pos h2, kX8_isRowOf_19, kX8_isRowOf_20 rfl, decide_eq_false h2]; rfl
theorem s_isEmpty {d p e : Nat} {F : am_FT} {L : am_LT} {Q : am_QT} (h : shP p e) : wc am_S0 (d + 1) mX8_isEmpty [.ref p] F L Q = Q (some (.int (bI (decide (F p 1 = -1) && decide (F p 3 = -1))))) F L := by
  rw [eX8_isEmpty, kX8_isEmpty_0 h.1, s_isRow h]
  simp only [Option.toList_some, Option.toList_none, List.cons_append, List.nil_append]
  rw [kX8_isEmpty_4]
  by_cases h1 : F p 1 = -1
  · rw [decide_eq_true h1, if_neg (by decide), kX8_isEmpty_7 h.1]
    by_cases h2 : F p 3 = -1
    · rw [if_neg (fun hh => hh h2), kX8_isEmpty_15, kX8_isEmpty_20 rfl, decide_eq_true h2]; rfl
    · rw [if_pos h2, kX8_isEmpty_19, kX8_isEmpty_20 rfl, decide_eq_false h2]; rfl
  · rw [decide_eq_false h1, if_pos (by decide), kX8_isEmpty_19, kX8_isEmpty_20 rfl]; rfl
def nrw (s : Int32) (x : Int64) : Int64 := if s = 0 then x.toInt32.toInt8.toInt32.toInt64 else if s = 1 then x.toInt32.toInt16.toInt32.toInt64 else if s = 2 then x.toInt32.toInt64 else if s = 3 then x else if s = 4 then (if lg_cmp x 0 = 0 then 0 else 1) else x
theorem s_narrowed {d p e : Nat} {F : am_FT} {L : am_LT} {Q : am_QT} {x : Int64} (h : shP p e) : wc am_S0 d mX8_narrowed [.ref p, .long x] F L Q = Q (some (.long (nrw (F p 1) x))) F L := by
  unfold nrw
  rw [eX8_narrowed, kX8_narrowed_0 h.1]
  by_cases h0 : F p 1 = 0
  · rw [if_pos h0, if_pos h0, kX8_narrowed_40]
  · rw [if_neg h0, if_neg h0]
    by_cases h1 : F p 1 = 1
    · rw [if_pos h1, if_pos h1, kX8_narrowed_45]
    · rw [if_neg h1, if_neg h1]
      by_cases h2 : F p 1 = 2
      · rw [if_pos h2, if_pos h2, kX8_narrowed_50]
      · rw [if_neg h2, if_neg h2]
        by_cases h3 : F p 1 = 3
        · rw [if_pos h3, if_pos h3, kX8_narrowed_66]
        · rw [if_neg h3, if_neg h3]
          by_cases h4 : F p 1 = 4
          · rw [if_pos h4, if_pos h4, kX8_narrowed_54]
            by_cases h5 : lg_cmp x 0 = 0
            · rw [if_pos h5, if_pos h5, kX8_narrowed_64, kX8_narrowed_65]
            · rw [if_neg h5, if_neg h5, kX8_narrowed_60, kX8_narrowed_65]
          · rw [if_neg h4, if_neg h4, kX8_narrowed_66]
theorem s_writeS {d p e i : Nat} {F : am_FT} {L : am_LT} {Q : am_QT} {x : Int64} (h : shP p e) (hi : i < 60) : wc am_S0 (d + 1) mX8_write [.ref p, .int (nI i), .long x] F L Q = Q none F (am_upL L e i (nrw (F p 1) x)) := by
  rw [eX8_write, kX8_write_0, if_neg (nI_pos (by omega)), kX8_write_4 h.1 h.2, if_neg (show ¬ (60 : Int32) ≤ nI i from nI_ge (b := 60) hi (by decide)), kX8_write_13 h.1, s_narrowed h]
  simp only [Option.toList_some, Option.toList_none, List.cons_append, List.nil_append]
  rw [kX8_write_23 h.2 (decide_eq_false (vp_in_nI hi (by decide))), kX8_write_24, nI_clamp (by omega)]
theorem s_holdVoter {d p e : Nat} {F : am_FT} {L : am_LT} {Q : am_QT} {b : Int32} (h : shP p e) : wc am_S0 d mX8_holdVoter [.ref p, .int b] F L Q = Q none (am_upF (am_upF (am_upF F p 1 (-1)) p 2 0) p 3 b) L := by rw [eX8_holdVoter, kX8_holdVoter_0 h.1]
theorem c_holdRow_loop {d p e : Nat} {F : am_FT} {Q : am_QT} {l1 : Option Value} {x2 : Int32} (h : shP p e) : ∀ (j k : Nat) (L : am_LT), k + j = 60 → (∀ i, i < k → L e i = 0) → (∀ M : am_LT, (∀ q, q ≠ e → M q = L q) → (∀ i, i < 60 → M e i = 0) → Q none F M) → wt am_S0 d mX8_holdRow 25 [some (.ref p), l1, some (.int x2), some (.int (nI k))] [] F L Q := by
  intro j
  induction j with
  | zero =>
    intro k L hk hz hq
    have : k = 60 := by omega
    subst this
    rw [kX8_holdRow_25 h.1 h.2, if_pos (by decide), kX8_holdRow_47]
    exact hq L (fun _ _ => rfl) hz
  | succ j ih =>
    intro k L hk hz hq
    rw [kX8_holdRow_25 h.1 h.2, if_neg (show ¬ (60 : Int32) ≤ nI k from nI_ge (b := 60) (by omega) (by decide)), kX8_holdRow_34 h.1 h.2 (decide_eq_false (vp_in_nI (by omega) (by decide))), nI_clamp (by omega), nI_1]
    refine ih (k + 1) _ (by omega) ?_ ?_
    · intro i hi
      by_cases hik : i = k
      · subst hik; simp [am_upL, vp_updL]
      · simp only [am_upL, vp_updL, if_true, if_neg hik]; exact hz i (by omega)
    · intro M m1 m2
      exact hq M (fun q hq => (m1 q hq).trans (by simp [am_upL, hq])) m2
