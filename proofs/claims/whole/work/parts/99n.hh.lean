/-! ===== the face's shelves 2 ===== -/
theorem shK_eq {k l : Nat} (hk : k ≤ 55) (hl : l ≤ 55) (h : 50 < l) : (!decide (shK k = -1) && decide (shK k = shK l)) = decide (k = l) := by
  have : ∀ l, l < 56 → 50 < l → ∀ k, k < 56 → (!decide (shK k = -1) && decide (shK k = shK l)) = decide (k = l) := by decide +kernel
  exact this l (by omega) h k (by omega)
theorem cc_shift (g : am_G) (hg : wG g) (x i y j n : Int32) : CC mX11_shift [.ref 0, .int x, .int i, .int y, .int j, .int n] g (.int (gShift g x i y j n).1) (gShift g x i y j n).2 := by
  intro F L Q hm hq
  have hS := hg.2.2.2.2.2.2
  have hr := hm.2.2.2.2.2.2
  unfold gShift at hq
  by_cases h0 : shiR (gS g) x i y j n = 0
  · rw [if_pos h0] at hq
    obtain ⟨a, p, b, q, m, a1, b1, rfl, rfl, rfl, rfl, rfl, k5, ke, m1, m2⟩ := shiR_ex hS h0
    have ha := hS a a1
    have hb := hS b b1
    rw [nI_clamp (by omega), nI_clamp (by omega), nI_clamp (by omega), nI_clamp (by omega), nI_clamp (by omega)] at hq
    have c1 : ¬ nI (sM (gS g) a) - nI m < nI p := by
      simp (disch := omega) only [iI_n, iI_l, iI_neg, iI_add, iI_sub, iI_mul, iI_div, iI_lt, iI_le, iI_eq]
      omega
    have c2 : nI q ≤ nI (sM (gS g) b) - nI m := by
      simp (disch := omega) only [iI_n, iI_l, iI_neg, iI_add, iI_sub, iI_mul, iI_div, iI_lt, iI_le, iI_eq]
      omega
    rw [eX11_shift, kX11_shift_0, c_shelf a1]
    simp only [Option.toList_some, Option.toList_none, List.cons_append, List.nil_append]
    rw [kX11_shift_5, c_shelf b1]
    simp only [Option.toList_some, Option.toList_none, List.cons_append, List.nil_append]
    rw [kX11_shift_12, kX11_shift_19, kX11_shift_26 (shP_j a1).1, c_isEmpty hr hS a1, decide_eq_false (show ¬ sK (gS g) a = 0 by omega)]
    simp only [Option.toList_some, Option.toList_none, List.cons_append, List.nil_append]
    rw [kX11_shift_31, if_neg (by decide), kX11_shift_34 (shP_j b1).1, c_isEmpty hr hS b1, decide_eq_false (show ¬ sK (gS g) b = 0 by omega)]
    simp only [Option.toList_some, Option.toList_none, List.cons_append, List.nil_append]
    rw [kX11_shift_39, if_pos bIf, kX11_shift_45 (shP_j a1).1, c_isRow hr hS a1, decide_eq_false (show ¬ sK (gS g) a ≤ 50 by omega)]
    simp only [Option.toList_some, Option.toList_none, List.cons_append, List.nil_append]
    rw [kX11_shift_50, if_neg (by decide), kX11_shift_53 (shP_j a1).1 (shP_j b1).1, s_isRowOf (shP_j b1), (hr a a1).1, (hr b b1).1, shK_eq hb.1 ha.1 k5, decide_eq_true ke.symm]
    simp only [Option.toList_some, Option.toList_none, List.cons_append, List.nil_append]
    rw [kX11_shift_63, if_pos bIt, kX11_shift_69 (shP_j b1).1, eX8_takeFrom, kX8_takeFrom_0, if_neg (nI_pos (by omega)), kX8_takeFrom_4, if_neg (nI_pos (by omega)), kX8_takeFrom_8, if_neg (nI_pos (by omega)), kX8_takeFrom_13 (shP_j a1).1, (hr a a1).2.1, if_neg c1, kX8_takeFrom_24 (shP_j b1).1, (hr b b1).2.1, if_pos c2, kX8_takeFrom_37 (shP_j a1).1 (shP_j b1).1 (shP_j a1).2 (shP_j b1).2 (by rw [nI_clamp (by omega), nI_clamp (by omega), nI_clamp (by omega)]; exact ⟨nI_pos (by omega), nI_pos (by omega), nI_pos (by omega), by omega, by omega⟩), nI_clamp (by omega), nI_clamp (by omega), nI_clamp (by omega)]
    simp only [Option.toList_some, Option.toList_none, List.cons_append, List.nil_append]
    rw [kX11_shift_81, if_neg (by decide), kX11_shift_84, kX11_shift_91]
    apply hq F _ (fun _ _ => rfl)
    · intro r hp
      show (if r = 34 + 2 * b then va_cpy (L (34 + 2 * a)) (L (34 + 2 * b)) p q m else L r) = L r
      rw [if_neg (by omega)]
    · apply Cls_sh hm b1 (fun _ _ => rfl) (hr b b1).1 (hr b b1).2.1 (hr b b1).2.2.1
      · intro r hp
        exact if_neg hp
      · intro c hc
        show (if 34 + 2 * b = 34 + 2 * b then va_cpy (L (34 + 2 * a)) (L (34 + 2 * b)) p q m else L (34 + 2 * b)) c = (if q ≤ c ∧ c < q + m then sE (gS g) a (p + (c - q)) else sE (gS g) b c)
        rw [if_pos rfl]
        show (if q ≤ c ∧ c < q + m then L (34 + 2 * a) (p + (c - q)) else L (34 + 2 * b) c) = _
        by_cases hh : q ≤ c ∧ c < q + m
        · rw [if_pos hh, if_pos hh]; exact (hr a a1).2.2.2 _ (by omega)
        · rw [if_neg hh, if_neg hh]; exact (hr b b1).2.2.2 c hc
  · rw [if_neg h0] at hq
    have hq' := hq F L (fun _ _ => rfl) (fun _ _ => rfl) hm
    clear hq
    unfold shiR at hq' h0
    rw [eX11_shift, kX11_shift_0]
    cases hx : inR x 6
    · rw [hx, Bool.false_and, if_neg (by decide)] at hq'
      rw [c_shelfN hx]
      simp only [Option.toList_some, Option.toList_none, List.cons_append, List.nil_append]
      rw [kX11_shift_5N]
      cases hy : inR y 6
      · rw [c_shelfN hy]
        simp only [Option.toList_some, Option.toList_none, List.cons_append, List.nil_append]
        rw [kX11_shift_12N, kX11_shift_24]; exact hq'
      · obtain ⟨b, b1, rfl⟩ := inR_ex hy (by decide)
        rw [c_shelf b1]
        simp only [Option.toList_some, Option.toList_none, List.cons_append, List.nil_append]
        rw [kX11_shift_12R, kX11_shift_24]; exact hq'
    obtain ⟨a, a1, rfl⟩ := inR_ex hx (by decide)
    rw [c_shelf a1]
    simp only [Option.toList_some, Option.toList_none, List.cons_append, List.nil_append]
    rw [kX11_shift_5]
    cases hy : inR y 6
    · rw [hx, hy, if_neg (by decide)] at hq'
      rw [c_shelfN hy]
      simp only [Option.toList_some, Option.toList_none, List.cons_append, List.nil_append]
      rw [kX11_shift_12S, kX11_shift_19N, kX11_shift_24]; exact hq'
    rw [hx, hy, if_pos (by decide)] at hq' h0
    obtain ⟨b, b1, rfl⟩ := inR_ex hy (by decide)
    rw [nI_clamp (by omega), nI_clamp (by omega)] at hq' h0
    have ha := hS a a1
    have hb := hS b b1
    rw [c_shelf b1]
    simp only [Option.toList_some, Option.toList_none, List.cons_append, List.nil_append]
    rw [kX11_shift_12, kX11_shift_19, kX11_shift_26 (shP_j a1).1, c_isEmpty hr hS a1]
    simp only [Option.toList_some, Option.toList_none, List.cons_append, List.nil_append]
    rw [kX11_shift_31]
    by_cases ka : sK (gS g) a = 0
    · rw [if_pos (Or.inl ka)] at hq'
      rw [decide_eq_true ka, if_pos bIt, kX11_shift_42]; exact hq'
    rw [decide_eq_false ka, if_neg (by decide), kX11_shift_34 (shP_j b1).1, c_isEmpty hr hS b1]
    simp only [Option.toList_some, Option.toList_none, List.cons_append, List.nil_append]
    rw [kX11_shift_39]
    by_cases kb : sK (gS g) b = 0
    · rw [if_pos (Or.inr kb)] at hq'
      rw [decide_eq_true kb, if_neg bIt, kX11_shift_42]; exact hq'
    rw [if_neg (show ¬ (sK (gS g) a = 0 ∨ sK (gS g) b = 0) from fun h => h.elim ka kb)] at hq' h0
    rw [decide_eq_false kb, if_pos bIf, kX11_shift_45 (shP_j a1).1, c_isRow hr hS a1]
    simp only [Option.toList_some, Option.toList_none, List.cons_append, List.nil_append]
    rw [kX11_shift_50]
    by_cases k5 : sK (gS g) a ≤ 50
    · rw [if_pos (Or.inl k5)] at hq'
      rw [decide_eq_true k5, if_pos (show bI (!true) = 0 from rfl), kX11_shift_66]; exact hq'
    rw [decide_eq_false k5, if_neg (by decide), kX11_shift_53 (shP_j a1).1 (shP_j b1).1, s_isRowOf (shP_j b1), (hr a a1).1, (hr b b1).1, shK_eq hb.1 ha.1 (by omega)]
    simp only [Option.toList_some, Option.toList_none, List.cons_append, List.nil_append]
    rw [kX11_shift_63]
    by_cases kk : sK (gS g) a = sK (gS g) b
    · rw [if_neg (show ¬ (sK (gS g) a ≤ 50 ∨ sK (gS g) a ≠ sK (gS g) b) from fun h => h.elim k5 (fun hh => hh kk))] at hq' h0
      rw [decide_eq_true kk.symm, if_pos bIt, kX11_shift_69 (shP_j b1).1, eX8_takeFrom, kX8_takeFrom_0]
      have bad : Q (some (.int (-13))) F L → (fun r G K => wt am_S0 (2046 + 1) mX11_shift 81 [some (.ref 0), some (.int (nI a)), some (.int i), some (.int (nI b)), some (.int j), some (.int n), some (.ref (33 + 2 * a)), some (.ref (33 + 2 * b))] ((r : Option Value).toList ++ []) G K Q) (some (.int 0)) F L := by
        intro hh
        simp only [Option.toList_some, Option.toList_none, List.cons_append, List.nil_append]
        rw [kX11_shift_81, if_pos rfl, kX11_shift_89, kX11_shift_91]
        exact hh
      by_cases h4 : i < 0
      · have e : Q (some (.int (-13))) F L := by
          by_cases h3 : n < 0
          · rw [if_pos h3] at hq'; exact hq'
          · rw [if_neg h3, if_pos h4] at hq'; exact hq'
        rw [if_pos h4, kX8_takeFrom_35]
        exact bad e
      by_cases h5 : j < 0
      · have e : Q (some (.int (-13))) F L := by
          by_cases h3 : n < 0
          · rw [if_pos h3] at hq'; exact hq'
          · rw [if_neg h3, if_neg h4, if_pos h5] at hq'; exact hq'
        rw [if_neg h4, kX8_takeFrom_4, if_pos h5, kX8_takeFrom_35]
        exact bad e
      rw [if_neg h4, kX8_takeFrom_4, if_neg h5, kX8_takeFrom_8]
      by_cases h3 : n < 0
      · rw [if_pos h3] at hq'
        rw [if_pos h3, kX8_takeFrom_35]
        exact bad hq'
      rw [if_neg h3, if_neg h4, if_neg h5] at hq' h0
      rw [if_neg h3, kX8_takeFrom_13 (shP_j a1).1, (hr a a1).2.1]
      by_cases h6 : nI (sM (gS g) a) - n < i
      · rw [if_pos h6] at hq'
        rw [if_pos h6, kX8_takeFrom_35]
        exact bad hq'
      rw [if_neg h6] at hq' h0
      rw [if_neg h6, kX8_takeFrom_24 (shP_j b1).1, (hr b b1).2.1]
      by_cases h7 : j ≤ nI (sM (gS g) b) - n
      · rw [if_pos h7] at h0
        exact absurd rfl h0
      · rw [if_neg h7] at hq'
        rw [if_neg h7, kX8_takeFrom_35]
        exact bad hq'
    · rw [if_pos (Or.inr kk)] at hq'
      rw [decide_eq_false (fun e => kk e.symm), if_neg (by decide), kX11_shift_66]; exact hq'
/-! take -/
theorem ab_Z : ∀ k, k < 8 → k ≠ 0 → rdZ 3 (nI k) = nI (abv k) := by decide +kernel
theorem c_und_loop {d k : Nat} {F : am_FT} {L : am_LT} {Q : am_QT} {l0 l1 : Option Value} (hk : k < 8) : ∀ (f u i : Nat), u < 8 → rkN u ≤ f → f + i ≤ 6 → wt am_S0 (d + 1) mX10_isUnder 5 [l0, l1, some (.int (nI k)), some (.int (nI u)), some (.int (nI i))] [] F L Q = Q (some (.int (bI (decide (undN k f u = k))))) F L := by
  intro f
  induction f with
  | zero =>
    intro u i hu hr hi
    have h0 : u = 0 := by
      apply Classical.byContradiction
      intro h
      have := rk_abv u hu h
      omega
    subst h0
    rw [kX10_isUnder_5, if_neg (show ¬ (8 : Int32) ≤ nI i from nI_ge (b := 8) (by omega) (by decide)), kX10_isUnder_12, if_neg (by decide), kX10_isUnder_17]
    by_cases h : k = 0
    · subst h; rw [if_neg (fun hh => hh rfl), kX10_isUnder_22]; rfl
    · rw [if_pos (show ¬ nI 0 = nI k from nI_ne (by decide) (by omega) (fun e => h e.symm)), kX10_isUnder_24, show (1003 : Nat) = 1000 + 3 from rfl, s_atZ (by decide), show rdZ 3 (nI 0) = -1 from rfl]
      simp only [Option.toList_some, Option.toList_none, List.cons_append, List.nil_append]
      rw [kX10_isUnder_31, nI_1, kX10_isUnder_5, if_neg (show ¬ (8 : Int32) ≤ nI (i + 1) from nI_ge (b := 8) (by omega) (by decide)), kX10_isUnder_12, if_pos rfl, kX10_isUnder_38, decide_eq_false (show ¬ undN k 0 0 = k from fun e => h e.symm)]; rfl
  | succ f ih =>
    intro u i hu hr hi
    have e : undN k (f + 1) u = if u = k ∨ u = 0 then u else undN k f (abv u) := rfl
    have n1 : ¬ nI u = (-1 : Int32) := by
      have e1 : (-1 : Int32) = iI (-1) := rfl
      rw [e1, iI_n, iI_eq (by omega) (by omega) (by omega) (by omega)]
      omega
    rw [kX10_isUnder_5, if_neg (show ¬ (8 : Int32) ≤ nI i from nI_ge (b := 8) (by omega) (by decide)), kX10_isUnder_12, if_neg n1, kX10_isUnder_17]
    by_cases h : u = k
    · rw [e, if_pos (Or.inl h), decide_eq_true h, if_neg (fun hh => hh (by rw [h])), kX10_isUnder_22]; rfl
    · rw [if_pos (show ¬ nI u = nI k from nI_ne (by omega) (by omega) h), kX10_isUnder_24, show (1003 : Nat) = 1000 + 3 from rfl, s_atZ (by decide)]
      by_cases h0 : u = 0
      · rw [e, if_pos (Or.inr h0), decide_eq_false h, h0, show rdZ 3 (nI 0) = -1 from rfl]
        simp only [Option.toList_some, Option.toList_none, List.cons_append, List.nil_append]
        rw [kX10_isUnder_31, nI_1, kX10_isUnder_5, if_neg (show ¬ (8 : Int32) ≤ nI (i + 1) from nI_ge (b := 8) (by omega) (by decide)), kX10_isUnder_12, if_pos rfl, kX10_isUnder_38]; rfl
      · have hh := rk_abv u hu h0
        rw [e, if_neg (show ¬ (u = k ∨ u = 0) from fun x => x.elim h h0), ab_Z u hu h0]
        simp only [Option.toList_some, Option.toList_none, List.cons_append, List.nil_append]
        rw [kX10_isUnder_31, nI_1]
        exact ih (abv u) (i + 1) hh.2 (by omega) (by omega)
theorem cc_taken (g : am_G) (hg : wG g) (x k : Int32) : CC mX11_taken [.ref 0, .int x, .int k] g (.int (qTaken g x k)) g := CC_q fun F L Q hm hq => by
  have hS := hg.2.2.2.2.2.2
  have hr := hm.2.2.2.2.2.2
  have hB := hg.2.2.2.2.1
  have hB1 := hB.1
  have h5' := hm.2.2.2.2.1
  have hq' := hq F (SQ_rf F)
  clear hq
  unfold qTaken at hq'
  rw [eX11_taken, kX11_taken_0]
  cases hx : inR x 6
  · rw [hx, Bool.false_and, if_neg (by decide)] at hq'
    rw [c_shelfN hx]
    simp only [Option.toList_some, Option.toList_none, List.cons_append, List.nil_append]
    rw [kX11_taken_5N, kX11_taken_20]
    exact hq'
  obtain ⟨a, a1, rfl⟩ := inR_ex hx (by decide)
  rw [c_shelf a1]
  simp only [Option.toList_some, Option.toList_none, List.cons_append, List.nil_append]
  rw [kX11_taken_5, kX11_taken_10, show (7 : Int32) = nI 7 from rfl, c_w (by decide)]
  simp only [Option.toList_some, Option.toList_none, List.cons_append, List.nil_append]
  rw [kX11_taken_17]
  cases hk : inR k (7 + 1)
  · rw [hx, show inR k 8 = false from hk, if_neg (by decide)] at hq'
    rw [if_neg (by decide), kX11_taken_20]
    exact hq'
  rw [hx, show inR k 8 = true from hk, if_pos (by decide)] at hq'
  obtain ⟨c, c1, rfl⟩ := inR_ex hk (by decide)
  rw [nI_clamp (by omega), nI_clamp (by omega)] at hq'
  have ha := hS a a1
  rw [if_pos bIt, kX11_taken_22 (shP_j a1).1, c_isEmpty hr hS a1]
  simp only [Option.toList_some, Option.toList_none, List.cons_append, List.nil_append]
  rw [kX11_taken_26]
  by_cases ka : sK (gS g) a = 0
  · rw [if_pos ka] at hq'
    rw [decide_eq_true ka, if_neg bIt, kX11_taken_29]; exact hq'
  rw [if_neg ka] at hq'
  rw [decide_eq_false ka, if_pos bIf, kX11_taken_32 (shP_j a1).1, (hr a a1).2.2.1]
  by_cases k5 : 50 < sK (gS g) a
  · rw [if_pos k5] at hq'
    rw [eX10_kindOf, kX10_kindOf_0, s_at (p := 30) (n := 50) rfl (by decide)]
    simp only [Option.toList_some, Option.toList_none, List.cons_append, List.nil_append]
    rw [kX10_kindOf_8]
    simp only [Option.toList_some, Option.toList_none, List.cons_append, List.nil_append]
    rw [kX11_taken_43 (shP_j a1).1, c_isRow hr hS a1, decide_eq_false (show ¬ sK (gS g) a ≤ 50 by omega)]
    simp only [Option.toList_some, Option.toList_none, List.cons_append, List.nil_append]
    rw [kX11_taken_49, if_pos (by decide), kX11_taken_70, kX11_taken_72]; exact hq'
  · rw [if_neg k5] at hq'
    obtain ⟨s, hs⟩ : ∃ s, sK (gS g) a = s + 1 := ⟨sK (gS g) a - 1, by omega⟩
    rw [hs, Nat.add_sub_cancel] at hq'
    have hsn : s < (gB g).1 := by have := ha.2.2.2 (by omega) (by omega); omega
    have hu := hB.2 s hsn
    have e30 := h5'.2 s hsn
    have e3 : shV (sK (gS g) a) = nI s := by
      unfold shV
      rw [if_neg (by omega), if_pos (by omega), hs, Nat.add_sub_cancel]
    rw [e3, s_kindOf (by omega) e30]
    simp only [Option.toList_some, Option.toList_none, List.cons_append, List.nil_append]
    rw [kX11_taken_43 (shP_j a1).1, c_isRow hr hS a1, decide_eq_true (show sK (gS g) a ≤ 50 by omega)]
    simp only [Option.toList_some, Option.toList_none, List.cons_append, List.nil_append]
    rw [kX11_taken_49, if_neg (by decide), kX11_taken_52, eX10_isUnder, kX10_isUnder_0, show (some (.int 0) : Option Value) = some (.int (nI 0)) from rfl, c_und_loop c1 3 _ 0 hu (rk_3 _ hu) (by decide)]
    simp only [Option.toList_some, Option.toList_none, List.cons_append, List.nil_append]
    rw [kX11_taken_62]
    by_cases hh : undN c 3 ((gB g).2 s) = c
    · rw [if_pos hh] at hq'
      rw [decide_eq_true hh, if_neg bIt, kX11_taken_65, kX11_taken_72]; exact hq'
    · rw [if_neg hh] at hq'
      rw [decide_eq_false hh, if_pos bIf, kX11_taken_70, kX11_taken_72]; exact hq'
