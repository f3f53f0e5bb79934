/-! ===== changes undone and done again ===== -/
theorem nI_m1 {k : Nat} (h : 0 < k) : nI k - 1 = nI (k - 1) := by
  rw [iI_l, iI_n, iI_n, iI_sub]
  congr 1
  omega
theorem nI0' {k : Nat} (h : k < 2 ^ 31) : (nI k = 0) = (k = 0) := nI_inj (b := 0) h (by decide)
theorem c_takeBack {d : Nat} {F : am_FT} {L : am_LT} {Q : am_QT} {v : am_V} {c : am_C} (h : RC F c) (hl : RLand (F 1) (F 2) v) (hv : wV v) (hw : ∀ i, i < c.1 + c.2.1 → (c.2.2 i).2.1 < 7 ∧ (c.2.2 i).1 < vO v (c.2.2 i).2.1) (hq0 : c.1 = 0 → Q (some (.int 0)) F L) (hq : c.1 ≠ 0 → ∀ G : am_FT, (∀ p, p ≠ 2 → p ≠ 24 → G p = F p) → RC G (c.1 - 1, c.2.1 + 1, c.2.2) → RLand (G 1) (G 2) (vset v (c.2.2 (c.1 - 1)).2.1 (c.2.2 (c.1 - 1)).1 (c.2.2 (c.1 - 1)).2.2.1) → Q (some (.int 1)) G L) : wc am_S0 (d + 2) mX2_takeBack [.ref 24] F L Q := by
  obtain ⟨r1, r2, r3, o, ho, r4, r5⟩ := h
  rw [eX2_takeBack, kX2_takeBack_0, r1]
  by_cases h0 : c.1 = 0
  · rw [if_neg (fun hh => hh (by rw [h0]; rfl)), kX2_takeBack_7]
    exact hq0 h0
  · have hm : (o + (c.1 - 1)) % 40 < 40 := Nat.mod_lt _ (by decide)
    have r := r5 (c.1 - 1) (by omega)
    have w := hw (c.1 - 1) (by omega)
    have w12 := Nat.lt_of_lt_of_le w.2 (vO_le hv _)
    rw [if_pos (by rw [nI0' (by omega)]; exact h0), kX2_takeBack_9, r1, nI_m1 (by omega), r2, nI_1, s_placeOf (o := o) (by rw [up_n (by decide), up_n (by decide)]; exact r4) ho (by omega)]
    simp only [Option.toList_some, Option.toList_none, List.cons_append, List.nil_append]
    rw [kX2_takeBack_37, s_at (p := 25) (n := 40) rfl (by decide), rdA_n hm (by decide), up_o (by decide), up_o (by decide), r.1]
    simp only [Option.toList_some, Option.toList_none, List.cons_append, List.nil_append]
    rw [kX2_takeBack_50, s_at (p := 26) (n := 40) rfl (by decide), rdA_n hm (by decide), up_o (by decide), up_o (by decide), r.2.1]
    simp only [Option.toList_some, Option.toList_none, List.cons_append, List.nil_append]
    rw [kX2_takeBack_58, s_at (p := 27) (n := 40) rfl (by decide), rdA_n hm (by decide), up_o (by decide), up_o (by decide), r.2.2.1]
    simp only [Option.toList_some, Option.toList_none, List.cons_append, List.nil_append]
    rw [kX2_takeBack_66, s_write_n (by omega) (by omega)]
    simp only [Option.toList_some, Option.toList_none, List.cons_append, List.nil_append]
    rw [kX2_takeBack_69]
    apply hq h0
    · intro p p2 p24
      rw [up_o p2, up_o p24, up_o p24]
    · refine ⟨?_, ?_, by show c.1 - 1 + (c.2.1 + 1) ≤ 40; omega, o, ho, ?_, ?_⟩
      · rw [up_o (by decide), up_n (by decide), up_s]
      · rw [up_o (by decide), up_s]
      · rw [up_o (by decide), up_n (by decide), up_n (by decide)]; exact r4
      · intro i hi
        have hi' : i < c.1 - 1 + (c.2.1 + 1) := hi
        have q := r5 i (by omega)
        refine ⟨?_, ?_, ?_, ?_⟩ <;> rw [up_o (by decide), up_o (by decide), up_o (by decide)]
        · exact q.1
        · exact q.2.1
        · exact q.2.2.1
        · exact q.2.2.2
    · exact RL_set (F := am_upF (am_upF F 24 6 (nI (c.1 - 1))) 24 7 (nI (c.2.1 + 1))) (by rw [up_o (by decide), up_o (by decide), up_o (by decide), up_o (by decide)]; exact hl) hv w.1 w.2
theorem c_doAgain {d : Nat} {F : am_FT} {L : am_LT} {Q : am_QT} {v : am_V} {c : am_C} (h : RC F c) (hl : RLand (F 1) (F 2) v) (hv : wV v) (hw : ∀ i, i < c.1 + c.2.1 → (c.2.2 i).2.1 < 7 ∧ (c.2.2 i).1 < vO v (c.2.2 i).2.1) (hq0 : c.2.1 = 0 → Q (some (.int 0)) F L) (hq : c.2.1 ≠ 0 → ∀ G : am_FT, (∀ p, p ≠ 2 → p ≠ 24 → G p = F p) → RC G (c.1 + 1, c.2.1 - 1, c.2.2) → RLand (G 1) (G 2) (vset v (c.2.2 c.1).2.1 (c.2.2 c.1).1 (c.2.2 c.1).2.2.2) → Q (some (.int 1)) G L) : wc am_S0 (d + 2) mX2_doAgain [.ref 24] F L Q := by
  obtain ⟨r1, r2, r3, o, ho, r4, r5⟩ := h
  rw [eX2_doAgain, kX2_doAgain_0, r2]
  by_cases h0 : c.2.1 = 0
  · rw [if_neg (fun hh => hh (by rw [h0]; rfl)), kX2_doAgain_7]
    exact hq0 h0
  · have hm : (o + c.1) % 40 < 40 := Nat.mod_lt _ (by decide)
    have r := r5 c.1 (by omega)
    have w := hw c.1 (by omega)
    have w12 := Nat.lt_of_lt_of_le w.2 (vO_le hv _)
    rw [if_pos (by rw [nI0' (by omega)]; exact h0), kX2_doAgain_9, r1, s_placeOf (o := o) r4 ho (by omega)]
    simp only [Option.toList_some, Option.toList_none, List.cons_append, List.nil_append]
    rw [kX2_doAgain_17, r1, nI_1, r2, nI_m1 (by omega), kX2_doAgain_43, s_at (p := 25) (n := 40) rfl (by decide), rdA_n hm (by decide), up_o (by decide), up_o (by decide), r.1]
    simp only [Option.toList_some, Option.toList_none, List.cons_append, List.nil_append]
    rw [kX2_doAgain_50, s_at (p := 26) (n := 40) rfl (by decide), rdA_n hm (by decide), up_o (by decide), up_o (by decide), r.2.1]
    simp only [Option.toList_some, Option.toList_none, List.cons_append, List.nil_append]
    rw [kX2_doAgain_58, s_at (p := 28) (n := 40) rfl (by decide), rdA_n hm (by decide), up_o (by decide), up_o (by decide), r.2.2.2]
    simp only [Option.toList_some, Option.toList_none, List.cons_append, List.nil_append]
    rw [kX2_doAgain_66, s_write_n (by omega) (by omega)]
    simp only [Option.toList_some, Option.toList_none, List.cons_append, List.nil_append]
    rw [kX2_doAgain_69]
    apply hq h0
    · intro p p2 p24
      rw [up_o p2, up_o p24, up_o p24]
    · refine ⟨?_, ?_, by show c.1 + 1 + (c.2.1 - 1) ≤ 40; omega, o, ho, ?_, ?_⟩
      · rw [up_o (by decide), up_n (by decide), up_s]
      · rw [up_o (by decide), up_s]
      · rw [up_o (by decide), up_n (by decide), up_n (by decide)]; exact r4
      · intro i hi
        have hi' : i < c.1 + 1 + (c.2.1 - 1) := hi
        have q := r5 i (by omega)
        refine ⟨?_, ?_, ?_, ?_⟩ <;> rw [up_o (by decide), up_o (by decide), up_o (by decide)]
        · exact q.1
        · exact q.2.1
        · exact q.2.2.1
        · exact q.2.2.2
    · exact RL_set (F := am_upF (am_upF F 24 6 (nI (c.1 + 1))) 24 7 (nI (c.2.1 - 1))) (by rw [up_o (by decide), up_o (by decide), up_o (by decide), up_o (by decide)]; exact hl) hv w.1 w.2
