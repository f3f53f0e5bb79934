/-! ===== the face's shelves ===== -/
theorem kX11_shift_12R {d : Nat} {F : am_FT} {L : am_LT} {Q : am_QT} {l0 l1 l2 l3 l4 l5 l7 : Option Value} {q0 : Nat} : wt am_S0 d mX11_shift 12 [l0, l1, l2, l3, l4, l5, some .null, l7] [.ref q0] F L Q = wt am_S0 d mX11_shift 24 [l0, l1, l2, l3, l4, l5, some .null, some (.ref q0)] [] F L Q := (wt_astore dX11_shift_12 (lv1 := [l0, l1, l2, l3, l4, l5, some .null, some (.ref q0)]) rfl (Nat.le_of_ble_eq_true rfl) rfl).trans ((wt_aload dX11_shift_14 rfl rfl).trans (wt_ifnullN dX11_shift_16 (t := 24) rfl))
theorem kX11_shift_12S {d : Nat} {F : am_FT} {L : am_LT} {Q : am_QT} {l0 l1 l2 l3 l4 l5 l7 : Option Value} {p6 : Nat} : wt am_S0 d mX11_shift 12 [l0, l1, l2, l3, l4, l5, some (.ref p6), l7] [.null] F L Q = wt am_S0 d mX11_shift 19 [l0, l1, l2, l3, l4, l5, some (.ref p6), some .null] [] F L Q := (wt_astore dX11_shift_12 (lv1 := [l0, l1, l2, l3, l4, l5, some (.ref p6), some .null]) rfl (Nat.le_of_ble_eq_true rfl) rfl).trans ((wt_aload dX11_shift_14 rfl rfl).trans (wt_ifnull dX11_shift_16))
theorem keep_r {y : Int32} {n : Nat} (hn : n < 1000) : decide (¬ y < -1 ∧ ¬ nI n - 1 < y) = (decide (y = -1) || inR y n) := by
  obtain ⟨z, z1, z2, rfl⟩ := iI_ex y
  have e1 : (-1 : Int32) = iI (-1) := rfl
  unfold inR
  rw [← Bool.decide_or]
  congr 1
  rw [e1]
  simp (disch := omega) only [iI_n, iI_l, iI_neg, iI_add, iI_sub, iI_mul, iI_div, iI_lt, iI_le, iI_eq]
  apply propext
  constructor
  · rintro ⟨a, b⟩; omega
  · intro h; omega
theorem cc_keep (g : am_G) (hg : wG g) (x y : Int32) : CC mX11_keep [.ref 0, .int x, .int y] g (.int (gKeep g x y).1) (gKeep g x y).2 := by
  intro F L Q hm hq
  have hB1 := hg.2.2.2.2.1.1
  have e29 : F 29 2 = nI (gB g).1 := hm.2.2.2.2.1.1
  unfold gKeep at hq
  rw [eX11_keep, kX11_keep_0]
  cases hx : inR x 6
  · rw [hx, if_neg (by decide)] at hq
    rw [c_shelfN hx]
    simp only [Option.toList_some, Option.toList_none, List.cons_append, List.nil_append]
    rw [kX11_keep_5N, kX11_keep_27]
    exact hq F L (fun _ _ => rfl) (fun _ _ => rfl) hm
  · rw [hx, if_pos rfl] at hq
    obtain ⟨k, k1, rfl⟩ := inR_ex hx (by decide)
    rw [nI_clamp (by omega)] at hq
    rw [c_shelf k1]
    simp only [Option.toList_some, Option.toList_none, List.cons_append, List.nil_append]
    rw [kX11_keep_5, kX11_keep_10, e29, s_within, wi_b, keep_r (by omega)]
    simp only [Option.toList_some, Option.toList_none, List.cons_append, List.nil_append]
    rw [kX11_keep_24]
    have fin : ∀ (z : Int32) (s : Nat), s ≤ 50 → z = shV s → (∀ (G : am_FT) (K : am_LT), (∀ p, 45 ≤ p → G p = F p) → (∀ p, 45 ≤ p → K p = L p) → Cls G K (sS g (shS (gS g) k (s, 0, sE (gS g) k))) → Q (some (.int 1)) G K) → wt am_S0 2047 mX11_keep 29 [some (.ref 0), some (.int (nI k)), some (.int z), some (.ref (33 + 2 * k))] [] F L Q := by
      intro z s hs hz h
      rw [kX11_keep_29 (shP_j k1).1, s_holdVoter (shP_j k1)]
      simp only [Option.toList_some, Option.toList_none, List.cons_append, List.nil_append]
      rw [kX11_keep_34]
      apply h
      · intro p hp; rw [up_o (by omega), up_o (by omega), up_o (by omega)]
      · intro p _; rfl
      · apply Cls_sh hm k1
        · intro p a; rw [up_o a, up_o a, up_o a]
        · rw [up_n (by decide), up_n (by decide), up_s]; exact (if_pos hs).symm
        · rw [up_n (by decide), up_s]; rfl
        · rw [up_s]; exact hz
        · intro p _; rfl
        · exact (hm.2.2.2.2.2.2 k k1).2.2.2
    by_cases h1 : y = -1
    · rw [if_pos h1] at hq
      rw [decide_eq_true h1, Bool.true_or, if_pos bIt]
      exact fin y 0 (by decide) h1 hq
    · rw [if_neg h1] at hq
      rw [decide_eq_false h1, Bool.false_or]
      cases hy : inR y (gB g).1
      · rw [hy, if_neg (by decide)] at hq
        rw [if_neg (by decide), kX11_keep_27]
        exact hq F L (fun _ _ => rfl) (fun _ _ => rfl) hm
      · rw [hy, if_pos rfl] at hq
        obtain ⟨b, b1, rfl⟩ := inR_ex hy (by omega)
        rw [nI_clamp (by omega)] at hq
        rw [if_pos bIt]
        apply fin (nI b) (b + 1) (by omega) _ hq
        unfold shV
        rw [if_neg (by omega), if_pos (by omega), Nat.add_sub_cancel]
theorem cc_row (g : am_G) (x s n : Int32) : CC mX11_row [.ref 0, .int x, .int s, .int n] g (.int (gRow g x s n).1) (gRow g x s n).2 := by
  intro F L Q hm hq
  unfold gRow at hq
  rw [eX11_row, kX11_row_0]
  cases hx : inR x 6
  · rw [hx, Bool.false_and, if_neg (by decide)] at hq
    rw [c_shelfN hx]
    simp only [Option.toList_some, Option.toList_none, List.cons_append, List.nil_append]
    rw [kX11_row_5N, kX11_row_27]
    exact hq F L (fun _ _ => rfl) (fun _ _ => rfl) hm
  · rw [hx, Bool.true_and] at hq
    obtain ⟨k, k1, rfl⟩ := inR_ex hx (by decide)
    rw [nI_clamp (by omega)] at hq
    rw [c_shelf k1]
    simp only [Option.toList_some, Option.toList_none, List.cons_append, List.nil_append]
    rw [kX11_row_5, kX11_row_12, show (4 : Int32) = nI 4 from rfl, c_w (by decide)]
    simp only [Option.toList_some, Option.toList_none, List.cons_append, List.nil_append]
    rw [kX11_row_18]
    cases hs : inR s (4 + 1)
    · rw [show inR s 5 = false from hs, Bool.false_and, if_neg (by decide)] at hq
      rw [if_pos bIf, kX11_row_27]
      exact hq F L (fun _ _ => rfl) (fun _ _ => rfl) hm
    · rw [show inR s 5 = true from hs, Bool.true_and] at hq
      rw [if_neg bIt, kX11_row_21]
      by_cases hn : n ≤ 60
      · rw [decide_eq_true hn, if_pos rfl] at hq
        rw [if_pos hn, kX11_row_29]
        by_cases h0 : 0 ≤ n
        · rw [if_pos h0] at hq
          obtain ⟨t, t1, rfl⟩ := inR_ex hs (by decide)
          obtain ⟨m, m1, rfl⟩ := nI_of (show ¬ n < 0 from by
            obtain ⟨z, z1, z2, rfl⟩ := iI_ex n
            revert h0
            simp (disch := omega) only [iI_n, iI_l, iI_neg, iI_add, iI_sub, iI_mul, iI_div, iI_lt, iI_le, iI_eq]
            intro h0
            omega)
          have m60 : m ≤ 60 := by
            apply Nat.le_of_not_lt
            intro hh
            exact nI_ge (a := 60) hh m1 hn
          rw [nI_clamp (by omega), nI_clamp m1] at hq
          rw [if_pos h0, kX11_row_36 (shP_j k1).1]
          apply c_holdRow (shP_j k1) m60
          intro M m1' m2
          simp only [Option.toList_some, Option.toList_none, List.cons_append, List.nil_append]
          rw [kX11_row_43]
          apply hq
          · intro p hp; rw [up_o (by omega), up_o (by omega), up_o (by omega)]
          · intro p hp; exact m1' p (by omega)
          · apply Cls_sh hm k1
            · intro p a; rw [up_o a, up_o a, up_o a]
            · rw [up_n (by decide), up_s]; unfold shK; rw [if_neg (by omega), Nat.add_sub_cancel_left]
            · rw [up_s]
            · rw [up_n (by decide), up_n (by decide), up_s]; unfold shV; rw [if_neg (by omega), if_neg (by omega)]
            · exact m1'
            · exact m2
        · rw [if_neg h0] at hq
          rw [if_neg h0, kX11_row_33]
          exact hq F L (fun _ _ => rfl) (fun _ _ => rfl) hm
      · rw [decide_eq_false hn, if_neg (by decide)] at hq
        rw [if_neg hn, kX11_row_27]
        exact hq F L (fun _ _ => rfl) (fun _ _ => rfl) hm
theorem refI_x {sh : am_Sh} {x y : Int32} (h : inR x 6 = false) : refI sh x y = -1 := by unfold refI; rw [if_neg (by rw [h]; decide)]
theorem refI_j {sh : am_Sh} {j : Nat} {y : Int32} (hj : j < 6) : refI sh (nI j) y = if sK sh j = 0 then -11 else if sK sh j ≤ 50 then -12 else if inR y (sM sh j) = true then 0 else -13 := by
  unfold refI
  rw [if_pos (inR_n hj (by decide)), nI_clamp (by omega)]
  by_cases h1 : sK sh j = 0
  · rw [if_pos h1, if_pos h1]
  · rw [if_neg h1, if_neg h1]
    by_cases h2 : sK sh j ≤ 50
    · rw [if_pos h2, if_pos h2]
    · rw [if_neg h2, if_neg h2]
      by_cases h3 : y < 0
      · rw [if_pos h3, if_neg (show ¬ inR y (sM sh j) = true from fun h => (of_decide_eq_true h).1 h3)]
      · rw [if_neg h3]
        by_cases h4 : nI (sM sh j) ≤ y
        · rw [if_pos h4, if_neg (show ¬ inR y (sM sh j) = true from fun h => (of_decide_eq_true h).2 h4)]
        · rw [if_neg h4, if_pos (show inR y (sM sh j) = true from decide_eq_true ⟨h3, h4⟩)]
theorem cc_put (g : am_G) (hg : wG g) (x y : Int32) (z : Int64) : CC mX11_put [.ref 0, .int x, .int y, .long z] g (.int (gPut g x y z).1) (gPut g x y z).2 := by
  intro F L Q hm hq
  have hS := hg.2.2.2.2.2.2
  have hr := hm.2.2.2.2.2.2
  unfold gPut at hq
  rw [eX11_put, kX11_put_0]
  cases hx : inR x 6
  · rw [refI_x hx, if_neg (by decide)] at hq
    rw [c_shelfN hx]
    simp only [Option.toList_some, Option.toList_none, List.cons_append, List.nil_append]
    rw [kX11_put_5N, kX11_put_12]
    exact hq F L (fun _ _ => rfl) (fun _ _ => rfl) hm
  · obtain ⟨k, k1, rfl⟩ := inR_ex hx (by decide)
    have hk := hS k k1
    rw [nI_clamp (by omega), refI_j k1] at hq
    rw [c_shelf k1]
    simp only [Option.toList_some, Option.toList_none, List.cons_append, List.nil_append]
    rw [kX11_put_5, kX11_put_14 (shP_j k1).1, c_isRow hr hS k1]
    simp only [Option.toList_some, Option.toList_none, List.cons_append, List.nil_append]
    rw [kX11_put_19]
    by_cases h5 : sK (gS g) k ≤ 50
    · rw [decide_eq_true h5, if_neg (by decide), kX11_put_22, c_refOf hr hS k1]
      simp only [Option.toList_some, Option.toList_none, List.cons_append, List.nil_append]
      rw [kX11_put_27]
      by_cases h0 : sK (gS g) k = 0
      · rw [if_pos h0, if_neg (show ¬ (-11 : Int32) = 0 by decide)] at hq
        rw [if_pos h0]
        exact hq F L (fun _ _ => rfl) (fun _ _ => rfl) hm
      · rw [if_neg h0, if_pos h5, if_neg (show ¬ (-12 : Int32) = 0 by decide)] at hq
        rw [if_neg h0]
        exact hq F L (fun _ _ => rfl) (fun _ _ => rfl) hm
    · rw [if_neg (show ¬ sK (gS g) k = 0 by omega), if_neg h5] at hq
      rw [decide_eq_false h5, if_pos (by decide), kX11_put_28 (shP_j k1).1, s_size (shP_j k1), (hr k k1).2.1]
      simp only [Option.toList_some, Option.toList_none, List.cons_append, List.nil_append]
      rw [kX11_put_35, s_within, wi_b, inR_m (by omega)]
      simp only [Option.toList_some, Option.toList_none, List.cons_append, List.nil_append]
      rw [kX11_put_40]
      cases hy : inR y (sM (gS g) k)
      · rw [hy, if_neg (show ¬ false = true by decide), if_neg (show ¬ (-13 : Int32) = 0 by decide)] at hq
        rw [if_neg (by decide), kX11_put_43]
        exact hq F L (fun _ _ => rfl) (fun _ _ => rfl) hm
      · rw [hy, if_pos (show true = true from rfl), if_pos (show (0 : Int32) = 0 from rfl)] at hq
        obtain ⟨i, i1, rfl⟩ := inR_ex hy (by omega)
        rw [nI_clamp (by omega)] at hq
        rw [if_pos bIt, kX11_put_46 (shP_j k1).1, s_writeS (shP_j k1) (by omega), (hr k k1).1, show shK (sK (gS g) k) = nI (sK (gS g) k - 51) from if_neg h5]
        simp only [Option.toList_some, Option.toList_none, List.cons_append, List.nil_append]
        rw [kX11_put_53]
        apply hq F _ (fun _ _ => rfl) (fun p hp => upl_o (by omega))
        apply Cls_sh hm k1 (fun _ _ => rfl) (hr k k1).1 (hr k k1).2.1 (hr k k1).2.2.1 (fun p hp => upl_o hp)
        intro q hq'
        show am_upL L (34 + 2 * k) i (nrw (nI (sK (gS g) k - 51)) z) (34 + 2 * k) q = (if q = i then nrw (nI (sK (gS g) k - 51)) z else sE (gS g) k q)
        by_cases hqi : q = i
        · rw [if_pos hqi, hqi]; exact upl_s
        · rw [if_neg hqi, upl_n hqi]; exact (hr k k1).2.2.2 q hq'
theorem cc_element (g : am_G) (hg : wG g) (x y : Int32) : CC mX11_element [.ref 0, .int x, .int y] g (.long (qElement g x y)) g := CC_q fun F L Q hm hq => by
  have hS := hg.2.2.2.2.2.2
  have hr := hm.2.2.2.2.2.2
  have hq' := hq F (SQ_rf F)
  clear hq
  unfold qElement at hq'
  rw [eX11_element, kX11_element_0]
  cases hx : inR x 6
  · rw [refI_x hx, if_neg (by decide)] at hq'
    rw [c_shelfN hx]
    simp only [Option.toList_some, Option.toList_none, List.cons_append, List.nil_append]
    rw [kX11_element_5N, kX11_element_31]
    exact hq'
  · obtain ⟨k, k1, rfl⟩ := inR_ex hx (by decide)
    have hk := hS k k1
    rw [nI_clamp (by omega), refI_j k1] at hq'
    rw [c_shelf k1]
    simp only [Option.toList_some, Option.toList_none, List.cons_append, List.nil_append]
    rw [kX11_element_5, kX11_element_10 (shP_j k1).1, c_isRow hr hS k1]
    simp only [Option.toList_some, Option.toList_none, List.cons_append, List.nil_append]
    rw [kX11_element_14]
    by_cases h5 : sK (gS g) k ≤ 50
    · rw [decide_eq_true h5, if_pos (show bI (!true) = 0 from rfl), kX11_element_31]
      by_cases h0 : sK (gS g) k = 0
      · rw [if_pos h0, if_neg (show ¬ (-11 : Int32) = 0 by decide)] at hq'
        exact hq'
      · rw [if_neg h0, if_pos h5, if_neg (show ¬ (-12 : Int32) = 0 by decide)] at hq'
        exact hq'
    · rw [if_neg (show ¬ sK (gS g) k = 0 by omega), if_neg h5] at hq'
      rw [decide_eq_false h5, if_neg (by decide), kX11_element_17 (shP_j k1).1, s_size (shP_j k1), (hr k k1).2.1]
      simp only [Option.toList_some, Option.toList_none, List.cons_append, List.nil_append]
      rw [kX11_element_23, s_within, wi_b, inR_m (by omega)]
      simp only [Option.toList_some, Option.toList_none, List.cons_append, List.nil_append]
      rw [kX11_element_28]
      cases hy : inR y (sM (gS g) k)
      · rw [hy, if_neg (show ¬ false = true by decide), if_neg (show ¬ (-13 : Int32) = 0 by decide)] at hq'
        rw [if_neg (by decide), kX11_element_31]
        exact hq'
      · rw [hy, if_pos (show true = true from rfl), if_pos (show (0 : Int32) = 0 from rfl)] at hq'
        obtain ⟨i, i1, rfl⟩ := inR_ex hy (by omega)
        rw [nI_clamp (by omega)] at hq'
        rw [if_pos bIt, kX11_element_35 (shP_j k1).1, s_valueAt (shP_j k1) (by omega), (hr k k1).2.2.2 i (by omega)]
        simp only [Option.toList_some, Option.toList_none, List.cons_append, List.nil_append]
        rw [kX11_element_40]
        exact hq'
