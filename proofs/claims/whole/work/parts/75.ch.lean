/-! ===== changes: a ring ===== -/
/-- how many done, how many undone, what each changed: number, what, before, after -/
abbrev am_C : Type := Nat × Nat × (Nat → Nat × Nat × Nat × Nat)
def RChg (f24 f25 f26 f27 f28 : Nat → Int32) (c : am_C) : Prop := f24 6 = nI c.1 ∧ f24 7 = nI c.2.1 ∧ c.1 + c.2.1 ≤ 40 ∧ ∃ o, o < 40 ∧ f24 5 = nI o ∧ ∀ i, i < c.1 + c.2.1 → f25 ((o + i) % 40) = nI (c.2.2 i).1 ∧ f26 ((o + i) % 40) = nI (c.2.2 i).2.1 ∧ f27 ((o + i) % 40) = nI (c.2.2 i).2.2.1 ∧ f28 ((o + i) % 40) = nI (c.2.2 i).2.2.2
def RC (F : am_FT) (c : am_C) : Prop := RChg (F 24) (F 25) (F 26) (F 27) (F 28) c
/-- one more change: those undone are gone, of 40 the oldest goes -/
def cadd (c : am_C) (x : Nat × Nat × Nat × Nat) : am_C := if c.1 = 40 then (40, 0, fun i => if i = 39 then x else c.2.2 (i + 1)) else (c.1 + 1, 0, fun i => if i = c.1 then x else c.2.2 i)
theorem s_placeOf {d o k : Nat} {F : am_FT} {L : am_LT} {Q : am_QT} (ho : F 24 5 = nI o) (h1 : o < 40) (h2 : k < 100) : wc am_S0 d mX2_placeOf [.ref 24, .int (nI k)] F L Q = Q (some (.int (nI ((o + k) % 40)))) F L := by
  rw [eX2_placeOf, kX2_placeOf_0, ho, show ((nI o + nI k) - (nI o + nI k) / 40 * 40 : Int32) = nI ((o + k) % 40) by
    simp (disch := omega) only [iI_n, iI_l, iI_neg, iI_add, iI_sub, iI_mul, iI_div, iI_lt, iI_le, iI_eq]
    congr 1
    omega]
theorem md40 {o i j : Nat} (h : (o + i) % 40 = (o + j) % 40) (hi : i < 40) (hj : j < 40) : i = j := by omega
theorem c_chg_put {d o k : Nat} {F : am_FT} {L : am_LT} {Q : am_QT} {a b x y : Nat} {l5 : Option Value} (ho : F 24 5 = nI o) (h1 : o < 40) (hk : F 24 6 = nI k) (h2 : k < 40) : wt am_S0 (d + 2) mX2_add 33 [some (.ref 24), some (.int (nI a)), some (.int (nI b)), some (.int (nI x)), some (.int (nI y)), l5] [] F L Q = Q none (am_upF (am_upF (am_upF (am_upF (am_upF F 25 ((o + k) % 40) (nI a)) 26 ((o + k) % 40) (nI b)) 27 ((o + k) % 40) (nI x)) 28 ((o + k) % 40) (nI y)) 24 6 (nI (k + 1))) L := by
  have hm : (o + k) % 40 < 40 := Nat.mod_lt _ (by decide)
  rw [kX2_add_33, hk, s_placeOf ho h1 (by omega)]
  simp only [Option.toList_some, Option.toList_none, List.cons_append, List.nil_append]
  rw [kX2_add_41, s_lay (p := 25) (n := 40) rfl (by decide), wrA_n hm (by decide)]
  simp only [Option.toList_some, Option.toList_none, List.cons_append, List.nil_append]
  rw [kX2_add_53, s_lay (p := 26) (n := 40) rfl (by decide), wrA_n hm (by decide)]
  simp only [Option.toList_some, Option.toList_none, List.cons_append, List.nil_append]
  rw [kX2_add_63, s_lay (p := 27) (n := 40) rfl (by decide), wrA_n hm (by decide)]
  simp only [Option.toList_some, Option.toList_none, List.cons_append, List.nil_append]
  rw [kX2_add_73, s_lay (p := 28) (n := 40) rfl (by decide), wrA_n hm (by decide)]
  simp only [Option.toList_some, Option.toList_none, List.cons_append, List.nil_append]
  rw [kX2_add_84, up_o (q := 24) (p := 28) (by decide), up_o (q := 24) (p := 27) (by decide), up_o (q := 24) (p := 26) (by decide), up_o (q := 24) (p := 25) (by decide), hk, nI_1]
theorem c_chg_add {d : Nat} {F : am_FT} {L : am_LT} {Q : am_QT} {c : am_C} (h : RC F c) {a b x y : Nat} (hq : ∀ G : am_FT, (∀ p, (p < 24 ∨ 28 < p) → G p = F p) → RC G (cadd c (a, b, x, y)) → Q none G L) : wc am_S0 (d + 2) mX2_add [.ref 24, .int (nI a), .int (nI b), .int (nI x), .int (nI y)] F L Q := by
  obtain ⟨r1, r2, r3, o, ho, r4, r5⟩ := h
  rw [eX2_add, kX2_add_0, r1]
  by_cases h40 : c.1 = 40
  · rw [if_neg (fun hh => hh (by rw [h40]; rfl)), kX2_add_14, show (1 : Int32) = nI 1 from rfl, s_placeOf (o := o) (by rw [up_n (by decide)]; exact r4) ho (by decide)]
    simp only [Option.toList_some, Option.toList_none, List.cons_append, List.nil_append]
    rw [kX2_add_20, show (am_upF F 24 7 0 24 6 - 1 : Int32) = nI 39 by rw [up_n (by decide), r1, h40]; rfl]
    have hm : (o + 1) % 40 < 40 := Nat.mod_lt _ (by decide)
    rw [c_chg_put (o := (o + 1) % 40) (k := 39) (by rw [up_n (by decide), up_s]) hm (by rw [up_s]) (by decide)]
    apply hq
    · intro p hp
      rw [up_o (by omega), up_o (by omega), up_o (by omega), up_o (by omega), up_o (by omega), up_o (by omega), up_o (by omega), up_o (by omega)]
    · unfold RC cadd
      rw [if_pos h40]
      refine ⟨?_, ?_, (show 40 + 0 ≤ 40 by decide), (o + 1) % 40, hm, ?_, ?_⟩
      · rw [up_s]
      · rw [up_n (by decide), up_o (by decide), up_o (by decide), up_o (by decide), up_o (by decide), up_n (by decide), up_n (by decide), up_s]; rfl
      · rw [up_n (by decide), up_o (by decide), up_o (by decide), up_o (by decide), up_o (by decide), up_n (by decide), up_s]
      · intro i hi
        have hi' : i < 40 := hi
        by_cases hi39 : i = 39
        · subst hi39
          refine ⟨?_, ?_, ?_, ?_⟩
          · rw [up_o (by decide), up_o (by decide), up_o (by decide), up_o (by decide), up_s]; rfl
          · rw [up_o (by decide), up_o (by decide), up_o (by decide), up_s]; rfl
          · rw [up_o (by decide), up_o (by decide), up_s]; rfl
          · rw [up_o (by decide), up_s]; rfl
        · have hne : ((o + 1) % 40 + i) % 40 ≠ ((o + 1) % 40 + 39) % 40 := fun e => hi39 (md40 e hi' (by decide))
          have r := r5 (i + 1) (by omega)
          have e : ((o + 1) % 40 + i) % 40 = (o + (i + 1)) % 40 := by omega
          show _ = nI ((if i = 39 then (a, b, x, y) else c.2.2 (i + 1)).1) ∧ _ = nI ((if i = 39 then (a, b, x, y) else c.2.2 (i + 1)).2.1) ∧ _ = nI ((if i = 39 then (a, b, x, y) else c.2.2 (i + 1)).2.2.1) ∧ _ = nI ((if i = 39 then (a, b, x, y) else c.2.2 (i + 1)).2.2.2)
          rw [if_neg hi39]
          refine ⟨?_, ?_, ?_, ?_⟩
          · rw [up_o (by decide), up_o (by decide), up_o (by decide), up_o (by decide), up_n hne, up_o (by decide), up_o (by decide), up_o (by decide), e]; exact r.1
          · rw [up_o (by decide), up_o (by decide), up_o (by decide), up_n hne, up_o (by decide), up_o (by decide), up_o (by decide), up_o (by decide), e]; exact r.2.1
          · rw [up_o (by decide), up_o (by decide), up_n hne, up_o (by decide), up_o (by decide), up_o (by decide), up_o (by decide), up_o (by decide), e]; exact r.2.2.1
          · rw [up_o (by decide), up_n hne, up_o (by decide), up_o (by decide), up_o (by decide), up_o (by decide), up_o (by decide), up_o (by decide), e]; exact r.2.2.2
  · rw [if_pos (show ¬ nI c.1 = (40 : Int32) from fun hh => h40 ((nI_inj (by omega) (by decide)).mp (show nI c.1 = nI 40 from hh))), c_chg_put (o := o) (k := c.1) (by rw [up_n (by decide)]; exact r4) ho (by rw [up_n (by decide)]; exact r1) (by omega)]
    apply hq
    · intro p hp
      rw [up_o (by omega), up_o (by omega), up_o (by omega), up_o (by omega), up_o (by omega), up_o (by omega)]
    · unfold RC cadd
      rw [if_neg h40]
      refine ⟨?_, ?_, by show c.1 + 1 + 0 ≤ 40; omega, o, ho, ?_, ?_⟩
      · rw [up_s]
      · rw [up_n (by decide), up_o (by decide), up_o (by decide), up_o (by decide), up_o (by decide), up_s]; rfl
      · rw [up_n (by decide), up_o (by decide), up_o (by decide), up_o (by decide), up_o (by decide), up_n (by decide)]; exact r4
      · intro i hi
        have hi' : i < c.1 + 1 := hi
        by_cases hic : i = c.1
        · subst hic
          show _ = nI ((if c.1 = c.1 then (a, b, x, y) else c.2.2 c.1).1) ∧ _ = nI ((if c.1 = c.1 then (a, b, x, y) else c.2.2 c.1).2.1) ∧ _ = nI ((if c.1 = c.1 then (a, b, x, y) else c.2.2 c.1).2.2.1) ∧ _ = nI ((if c.1 = c.1 then (a, b, x, y) else c.2.2 c.1).2.2.2)
          rw [if_pos rfl]
          refine ⟨?_, ?_, ?_, ?_⟩
          · rw [up_o (by decide), up_o (by decide), up_o (by decide), up_o (by decide), up_s]
          · rw [up_o (by decide), up_o (by decide), up_o (by decide), up_s]
          · rw [up_o (by decide), up_o (by decide), up_s]
          · rw [up_o (by decide), up_s]
        · have hne : (o + i) % 40 ≠ (o + c.1) % 40 := fun e => hic (md40 e (by omega) (by omega))
          have r := r5 i (by omega)
          show _ = nI ((if i = c.1 then (a, b, x, y) else c.2.2 i).1) ∧ _ = nI ((if i = c.1 then (a, b, x, y) else c.2.2 i).2.1) ∧ _ = nI ((if i = c.1 then (a, b, x, y) else c.2.2 i).2.2.1) ∧ _ = nI ((if i = c.1 then (a, b, x, y) else c.2.2 i).2.2.2)
          rw [if_neg hic]
          refine ⟨?_, ?_, ?_, ?_⟩
          · rw [up_o (by decide), up_o (by decide), up_o (by decide), up_o (by decide), up_n hne, up_o (by decide)]; exact r.1
          · rw [up_o (by decide), up_o (by decide), up_o (by decide), up_n hne, up_o (by decide), up_o (by decide)]; exact r.2.1
          · rw [up_o (by decide), up_o (by decide), up_n hne, up_o (by decide), up_o (by decide), up_o (by decide)]; exact r.2.2.1
          · rw [up_o (by decide), up_n hne, up_o (by decide), up_o (by decide), up_o (by decide), up_o (by decide)]; exact r.2.2.2
