/-! ===== the face's questions 2 ===== -/
theorem ag_m2 (f : Nat → Nat) : ∀ k, (agI f (-2) 0 k = -2 ∧ mxI f 0 k = 0) ∨ ∃ p, p < k ∧ agI f (-2) 0 k = nI p ∧ mxI f 0 k = (f p : Int) := by
  intro k
  induction k with
  | zero => exact Or.inl ⟨rfl, rfl⟩
  | succ k ih =>
    have e1 : agI f (-2) 0 (k + 1) = if mxI f 0 k < (f k : Int) then nI k else agI f (-2) 0 k := rfl
    have e2 : mxI f 0 (k + 1) = if mxI f 0 k < (f k : Int) then (f k : Int) else mxI f 0 k := rfl
    by_cases h : mxI f 0 k < (f k : Int)
    · rw [if_pos h] at e1 e2
      exact Or.inr ⟨k, by omega, e1, e2⟩
    · rw [if_neg h] at e1 e2
      rcases ih with ih | ⟨p, p1, p2, p3⟩
      · exact Or.inl ⟨e1.trans ih.1, e2.trans ih.2⟩
      · exact Or.inr ⟨p, by omega, e1.trans p2, e2.trans p3⟩
theorem cc_shadiest (g : am_G) (x w : Int32) : CC mX11_shadiest [.ref 0, .int x, .int w] g (.int (qShadiest (gV g) x w)) g := CC_q fun F L Q hm hq => by
  have h := hm.1
  have hP := h.2.1.2.1
  unfold qShadiest at hq
  rw [eX11_shadiest, kX11_shadiest_0, c_isMonth]
  simp only [Option.toList_some, Option.toList_none, List.cons_append, List.nil_append]
  rw [kX11_shadiest_5]
  cases hx : inR x 12
  · rw [hx, Bool.false_and, if_neg (by decide)] at hq
    rw [if_pos bIf, kX11_shadiest_17]
    exact hq F (SQ_rf F)
  · rw [hx, Bool.true_and] at hq
    rw [if_neg bIt, kX11_shadiest_8, show (1 : Int32) = nI 1 from rfl, c_w (by decide)]
    simp only [Option.toList_some, Option.toList_none, List.cons_append, List.nil_append]
    rw [kX11_shadiest_14]
    cases hw : inR w (1 + 1)
    · rw [show inR w 2 = false from hw, if_neg (by decide)] at hq
      rw [if_neg (by decide), kX11_shadiest_17]
      exact hq F (SQ_rf F)
    · rw [show inR w 2 = true from hw, if_pos rfl] at hq
      obtain ⟨m, m1, rfl⟩ := inR_ex hx (by decide)
      rw [nI_clamp (by omega)] at hq
      have hq' := hq F (SQ_rf F)
      clear hq
      rw [if_pos bIt, kX11_shadiest_19, c_shadiestOne h.1 h.2.1 m1]
      simp only [Option.toList_some, Option.toList_none, List.cons_append, List.nil_append]
      rw [kX11_shadiest_27]
      rcases ag_m2 (fun p => sho (gV g) p m) (vP (gV g)) with ⟨e1, e2⟩ | ⟨p, p1, e1, e2⟩
      · rw [e1, e2] at hq'
        rw [e1, if_neg (fun hh => hh rfl), kX11_shadiest_34]
        by_cases h0 : w = 0
        · rw [if_pos h0] at hq'
          rw [if_neg (fun hh => hh h0), kX11_shadiest_38, kX11_shadiest_44]
          exact hq'
        · rw [if_neg h0] at hq'
          rw [if_pos h0, kX11_shadiest_43, kX11_shadiest_44]
          exact hq'
      · rw [e1, e2] at hq'
        have n2 : ¬ nI p = (-2 : Int32) := by
          have e : (-2 : Int32) = iI (-2) := rfl
          rw [e, iI_n, iI_eq (by omega) (by omega) (by omega) (by omega)]
          omega
        rw [e1, if_pos n2, kX11_shadiest_45]
        by_cases h0 : w = 0
        · rw [if_pos h0] at hq'
          rw [if_neg (fun hh => hh h0), kX11_shadiest_49, kX11_shadiest_62]
          exact hq'
        · rw [if_neg h0] at hq'
          rw [if_pos h0, kX11_shadiest_53, c_shadesOver h.1 h.2.1 p1 m1]
          simp only [Option.toList_some, Option.toList_none, List.cons_append, List.nil_append]
          rw [kX11_shadiest_62]
          exact hq'
theorem cc_alike (g : am_G) (x y : Int32) : CC mX11_alike [.ref 0, .int x, .int y] g (.int (qAlike (gV g) x y)) g := CC_q fun F L Q hm hq => by
  have h := hm.1
  have hT := h.2.1.1
  have hq' := hq F (SQ_rf F)
  clear hq
  unfold qAlike abR at hq'
  rw [eX11_alike, kX11_alike_0]
  by_cases h0 : x < 0
  · rw [decide_eq_false (fun hh => hh h0), Bool.false_and, Bool.false_and, if_neg (by decide)] at hq'
    rw [if_pos h0, kX11_alike_34]; exact hq'
  · rw [decide_eq_true h0, Bool.true_and] at hq'
    rw [if_neg h0, kX11_alike_4, c_isTree h.1]
    simp only [Option.toList_some, Option.toList_none, List.cons_append, List.nil_append]
    rw [kX11_alike_12]
    cases ha : inR (x / 10) (vT (gV g))
    · rw [ha, Bool.false_and, Bool.false_and, if_neg (by decide)] at hq'
      rw [if_pos bIf, kX11_alike_34]; exact hq'
    · rw [ha, Bool.true_and] at hq'
      rw [if_neg bIt, kX11_alike_15, c_isTree h.1]
      simp only [Option.toList_some, Option.toList_none, List.cons_append, List.nil_append]
      rw [kX11_alike_23]
      cases hb : inR (x - x / 10 * 10) (vT (gV g))
      · rw [hb, Bool.false_and, if_neg (by decide)] at hq'
        rw [if_pos bIf, kX11_alike_34]; exact hq'
      · rw [hb, Bool.true_and] at hq'
        rw [if_neg bIt, kX11_alike_26, c_isMonth]
        simp only [Option.toList_some, Option.toList_none, List.cons_append, List.nil_append]
        rw [kX11_alike_31]
        cases hy : inR y 12
        · rw [hy, if_neg (by decide)] at hq'
          rw [if_neg (by decide), kX11_alike_34]; exact hq'
        · rw [hy, if_pos rfl] at hq'
          obtain ⟨a, a1, ea⟩ := inR_ex ha (by omega)
          obtain ⟨b, b1, eb⟩ := inR_ex hb (by omega)
          obtain ⟨m, m1, rfl⟩ := inR_ex hy (by decide)
          rw [eb, ea, nI_clamp (by omega), nI_clamp (by omega), nI_clamp (by omega)] at hq'
          rw [if_pos bIt, kX11_alike_36, eb, ea, c_sameShade h.1 h.2.1 a1 b1 m1]
          simp only [Option.toList_some, Option.toList_none, List.cons_append, List.nil_append]
          rw [kX11_alike_52]
          cases hs : sam (gV g) a b m 256 0
          · rw [hs] at hq'
            rw [if_pos bIf, kX11_alike_59, kX11_alike_60]; exact hq'
          · rw [hs] at hq'
            rw [if_neg bIt, kX11_alike_55, kX11_alike_60]; exact hq'
theorem cc_chair (g : am_G) (x : Int32) : CC mX11_chair [.ref 0, .int x] g (.int (qChair (gV g) x)) g := CC_q fun F L Q hm hq => by
  have h := hm.1
  unfold qChair at hq
  rw [eX11_chair, kX11_chair_0, c_isTm h.1]
  simp only [Option.toList_some, Option.toList_none, List.cons_append, List.nil_append]
  rw [kX11_chair_5]
  cases ht : tmR (gV g) x
  · rw [ht, if_neg (by decide)] at hq
    rw [if_pos bIf, kX11_chair_26, kX11_chair_27]
    exact hq F (SQ_rf F)
  · obtain ⟨a1, a2, a3, a4⟩ := tm_ex h.2.1 ht
    rw [ht, if_pos rfl] at hq
    rw [if_neg bIt, kX11_chair_8, a3, a1]
    apply c_hangsOn h a2 a4
    intro G g1
    simp only [Option.toList_some, Option.toList_none, List.cons_append, List.nil_append]
    rw [kX11_chair_23, kX11_chair_27]
    exact hq G (SB_SQ g1)
theorem ftw_lt {v : am_V} (hv : wV v) (t m : Nat) : ftw v t m (vP v) 1 < 1024 := by
  have hN : 2 ^ vP v ≤ 1024 := two_le (k := 10) hv.2.1
  rw [ftw_bsN hv]
  rcases bsN_bst (gdT v t m) (2 ^ vP v) with ⟨b1, _⟩ | ⟨_, b2, _⟩ <;> omega
theorem cc_turn (g : am_G) (x w : Int32) : CC mX11_turn [.ref 0, .int x, .int w] g (.int (qTurn (gV g) x w)) g := CC_q fun F L Q hm hq => by
  have h := hm.1
  unfold qTurn at hq
  rw [eX11_turn, kX11_turn_0, c_isTm h.1]
  simp only [Option.toList_some, Option.toList_none, List.cons_append, List.nil_append]
  rw [kX11_turn_5]
  cases ht : tmR (gV g) x
  · rw [ht, Bool.false_and, if_neg (by decide)] at hq
    rw [if_pos bIf, kX11_turn_17]
    exact hq F (SQ_rf F)
  · obtain ⟨a1, a2, a3, a4⟩ := tm_ex h.2.1 ht
    rw [ht, Bool.true_and] at hq
    rw [if_neg bIt, kX11_turn_8, show (1 : Int32) = nI 1 from rfl, c_w (by decide)]
    simp only [Option.toList_some, Option.toList_none, List.cons_append, List.nil_append]
    rw [kX11_turn_14]
    cases hw : inR w (1 + 1)
    · rw [show inR w 2 = false from hw, if_neg (by decide)] at hq
      rw [if_neg (by decide), kX11_turn_17]
      exact hq F (SQ_rf F)
    · rw [show inR w 2 = true from hw, if_pos rfl] at hq
      have hf := ftw_lt h.2.1 (tN x) (mN x)
      rw [if_pos bIt, kX11_turn_19, a3, a1]
      apply c_fewestToTurn h a2 a4
      intro G g1
      have hq' := hq G (SB_SQ g1)
      simp only [Option.toList_some, Option.toList_none, List.cons_append, List.nil_append]
      rw [kX11_turn_34]
      by_cases hz : ftw (gV g) (tN x) (mN x) (vP (gV g)) 1 = 0
      · rw [if_pos hz] at hq'
        rw [if_neg (fun hh => hh (by rw [hz]; rfl)), kX11_turn_39]; exact hq'
      · rw [if_neg hz] at hq'
        rw [if_pos (show ¬ nI (ftw (gV g) (tN x) (mN x) (vP (gV g)) 1) = (0 : Int32) from nI_ne (x := 0) (by omega) (by decide) hz), kX11_turn_42]
        by_cases h0 : w = 0
        · rw [if_pos h0] at hq'
          rw [if_neg (fun hh => hh h0), kX11_turn_46, s_bitCount (by omega)]
          simp only [Option.toList_some, Option.toList_none, List.cons_append, List.nil_append]
          rw [kX11_turn_50, kX11_turn_54]; exact hq'
        · rw [if_neg h0] at hq'
          rw [if_pos h0, kX11_turn_53, kX11_turn_54]; exact hq'
theorem cc_lop (g : am_G) (x w : Int32) : CC mX11_lop [.ref 0, .int x, .int w] g (.int (qLop (gV g) x w)) g := CC_q fun F L Q hm hq => by
  have h := hm.1
  unfold qLop at hq
  rw [eX11_lop, kX11_lop_0, c_isTm h.1]
  simp only [Option.toList_some, Option.toList_none, List.cons_append, List.nil_append]
  rw [kX11_lop_5]
  cases ht : tmR (gV g) x
  · rw [ht, Bool.false_and, if_neg (by decide)] at hq
    rw [if_pos bIf, kX11_lop_17]
    exact hq F (SQ_rf F)
  · obtain ⟨a1, a2, a3, a4⟩ := tm_ex h.2.1 ht
    rw [ht, Bool.true_and] at hq
    rw [if_neg bIt, kX11_lop_8, show (1 : Int32) = nI 1 from rfl, c_w (by decide)]
    simp only [Option.toList_some, Option.toList_none, List.cons_append, List.nil_append]
    rw [kX11_lop_14]
    cases hw : inR w (1 + 1)
    · rw [show inR w 2 = false from hw, if_neg (by decide)] at hq
      rw [if_neg (by decide), kX11_lop_17]
      exact hq F (SQ_rf F)
    · rw [show inR w 2 = true from hw, if_pos rfl] at hq
      rw [if_pos bIt, kX11_lop_19]
      by_cases h0 : w = 0
      · rw [if_pos h0] at hq
        rw [if_neg (fun hh => hh h0), kX11_lop_23, a3, a1]
        apply c_lessHigh h a2 a4
        intro G g1
        simp only [Option.toList_some, Option.toList_none, List.cons_append, List.nil_append]
        rw [kX11_lop_38, kX11_lop_56]
        exact hq G (SB_SQ g1)
      · rw [if_neg h0] at hq
        rw [if_pos h0, kX11_lop_41, a3, a1]
        apply c_moreHigh h a2 a4
        intro G g1
        simp only [Option.toList_some, Option.toList_none, List.cons_append, List.nil_append]
        rw [kX11_lop_56]
        exact hq G (SB_SQ g1)
theorem cc_byTurns (g : am_G) (x y : Int32) : CC mX11_byTurns [.ref 0, .int x, .int y] g (.int (qByT (gV g) x y)) g := CC_q fun F L Q hm hq => by
  have h := hm.1
  unfold qByT nwR at hq
  rw [eX11_byTurns, kX11_byTurns_0, c_isTm h.1]
  simp only [Option.toList_some, Option.toList_none, List.cons_append, List.nil_append]
  rw [kX11_byTurns_5]
  cases ht : tmR (gV g) x
  · rw [ht, Bool.false_and, if_neg (by decide)] at hq
    rw [if_pos bIf, kX11_byTurns_12]
    exact hq F (SQ_rf F)
  · obtain ⟨a1, a2, a3, a4⟩ := tm_ex h.2.1 ht
    rw [ht, Bool.true_and] at hq
    rw [if_neg bIt, kX11_byTurns_8]
    by_cases hy : y < 0
    · rw [decide_eq_false (fun hh => hh hy), Bool.false_and, if_neg (by decide)] at hq
      have hn : ¬ (0 : Int32) ≤ y := by
        obtain ⟨z, z1, z2, rfl⟩ := iI_ex y
        revert hy
        simp (disch := omega) only [iI_n, iI_l, iI_neg, iI_add, iI_sub, iI_mul, iI_div, iI_lt, iI_le, iI_eq]
        intro hy
        omega
      rw [if_neg hn, kX11_byTurns_12]
      exact hq F (SQ_rf F)
    · rw [decide_eq_true hy, Bool.true_and] at hq
      obtain ⟨n, n1, rfl⟩ := nI_of hy
      have e1 : nI n / 10 = nI (n / 10) := by
        rw [iI_l, iI_n, iI_n, iI_div (by omega) (by omega) (by decide) (by decide)]; congr 1
      have e2 : nI n - nI (n / 10) * 10 = nI (n % 10) := by
        rw [iI_l, iI_n, iI_n, iI_n, iI_mul, iI_sub]; congr 1; show (n : Int) - ((n / 10 : Nat) : Int) * 10 = ((n % 10 : Nat) : Int); omega
      rw [e1, e2] at hq
      rw [if_pos (nlt0 n1), kX11_byTurns_14, e1, s_within, wi_b]
      simp only [Option.toList_some, Option.toList_none, List.cons_append, List.nil_append]
      rw [kX11_byTurns_23]
      cases hn : decide (¬ nI (n / 10) < 1 ∧ ¬ 4 < nI (n / 10))
      · rw [hn, Bool.false_and, if_neg (by decide)] at hq
        rw [if_pos bIf, kX11_byTurns_34]
        exact hq F (SQ_rf F)
      · rw [hn, Bool.true_and] at hq
        rw [if_neg bIt, kX11_byTurns_26, e1, e2]
        obtain ⟨k, k1, k2, k3⟩ := wi_ex (a := 1) (b := 4) (by decide) (by decide) hn
        by_cases hm1 : n % 10 ≤ 1
        · rw [inR_n (by omega) (by decide), if_pos rfl, k3, nI_clamp (by omega)] at hq
          rw [if_pos (show nI (n % 10) ≤ (1 : Int32) from nI_le (b := 1) hm1 (by decide)), kX11_byTurns_36, e1, a3, a1, k3]
          apply c_playTurns h a2 a4 (by omega) k2
          intro G g1 g2 g3
          have hq' := hq G g1
          simp only [Option.toList_some, Option.toList_none, List.cons_append, List.nil_append]
          rw [kX11_byTurns_55, e1, e2]
          by_cases hz : nI (n % 10) = 0
          · rw [if_pos hz] at hq'
            rw [if_neg (fun hh => hh hz), kX11_byTurns_62, g2, kX11_byTurns_79]; exact hq'
          · rw [if_neg hz] at hq'
            rw [if_pos hz, kX11_byTurns_72, g3, kX11_byTurns_79]; exact hq'
        · have hf : inR (nI (n % 10)) 2 = false := by
            cases hc : inR (nI (n % 10)) 2
            · rfl
            · obtain ⟨j, j1, j2⟩ := inR_ex hc (by decide)
              rw [nI_inj (by omega) (by omega)] at j2
              omega
          rw [hf, if_neg (by decide)] at hq
          rw [if_neg (show ¬ nI (n % 10) ≤ (1 : Int32) from nI_ge (a := 1) (by omega) (by omega)), kX11_byTurns_34]
          exact hq F (SQ_rf F)
theorem cc_save (g : am_G) (x w : Int32) : CC mX11_save [.ref 0, .int x, .int w] g (.int (qSave (gV g) x w)) g := CC_q fun F L Q hm hq => by
  have h := hm.1
  unfold qSave at hq
  have en : tpR (gV g) x = (decide (¬ x < 0) && (inR (x / 100) (vT (gV g)) && inR (x - x / 100 * 100) (vP (gV g)))) := rfl
  have bad : tpR (gV g) x = false → wt am_S0 2047 mX11_save 39 [some (.ref 0), some (.int x), some (.int w)] [] F L Q := by
    intro hb
    rw [hb, Bool.false_and, if_neg (by decide)] at hq
    rw [kX11_save_39]
    exact hq F (SQ_rf F)
  rw [eX11_save, kX11_save_0]
  by_cases h0 : x < 0
  · rw [decide_eq_false (fun hh => hh h0), Bool.false_and] at en
    rw [if_pos h0]; exact bad en
  · rw [decide_eq_true h0, Bool.true_and] at en
    rw [if_neg h0, kX11_save_4, c_isTree h.1]
    simp only [Option.toList_some, Option.toList_none, List.cons_append, List.nil_append]
    rw [kX11_save_12]
    cases ha : inR (x / 100) (vT (gV g))
    · rw [ha, Bool.false_and] at en
      rw [if_pos bIf]; exact bad en
    · rw [ha, Bool.true_and] at en
      rw [if_neg bIt, kX11_save_15, s_has, has_4 h.1]
      simp only [Option.toList_some, Option.toList_none, List.cons_append, List.nil_append]
      rw [kX11_save_27]
      cases hb : inR (x - x / 100 * 100) (vP (gV g))
      · rw [hb] at en
        rw [if_pos bIf]; exact bad en
      · rw [hb] at en
        obtain ⟨a1, a2, a3, a4⟩ := tp_ex h.2.1 en
        rw [en, Bool.true_and] at hq
        rw [if_neg bIt, kX11_save_30, show (1 : Int32) = nI 1 from rfl, c_w (by decide)]
        simp only [Option.toList_some, Option.toList_none, List.cons_append, List.nil_append]
        rw [kX11_save_36]
        cases hw : inR w (1 + 1)
        · rw [show inR w 2 = false from hw, if_neg (by decide)] at hq
          rw [if_neg (by decide), kX11_save_39]
          exact hq F (SQ_rf F)
        · rw [show inR w 2 = true from hw, if_pos rfl] at hq
          rw [if_pos bIt, kX11_save_41, a3, a1]
          apply c_findSeat h a2 a4
          intro G g1 g2 g3
          have hq' := hq G g1
          simp only [Option.toList_some, Option.toList_none, List.cons_append, List.nil_append]
          rw [kX11_save_56]
          by_cases hz : w = 0
          · rw [if_pos hz] at hq'
            rw [if_neg (fun hh => hh hz), kX11_save_60, g2, kX11_save_77]; exact hq'
          · rw [if_neg hz] at hq'
            rw [if_pos hz, kX11_save_70, g3, kX11_save_77]; exact hq'
theorem cc_drawn (g : am_G) (s y x : Int32) : CC mX11_drawn [.ref 0, .int s, .int y, .int x] g (.int (qDrawn (gV g) s y x)) g := CC_q fun F L Q hm hq => by
  have h := hm.1
  have hT := h.2.1.1
  unfold qDrawn at hq
  have en : ncR y = (decide (¬ y < 0) && (decide (¬ y / 100 < 1 ∧ ¬ 30 < y / 100) && inR (y - y / 100 * 100) 13)) := rfl
  have bad : (ncR y && trR (gV g) x) = false → Q (some (.int (-1))) F L := by
    intro hb
    rw [hb, if_neg (by decide)] at hq
    exact hq F (SQ_rf F)
  have good : ncR y = true → trR (gV g) x = true → wt am_S0 2047 mX11_drawn 47 [some (.ref 0), some (.int s), some (.int y), some (.int x)] [] F L Q := by
    intro h1 h2
    obtain ⟨a1, a2, a3, a4, a5⟩ := nc_ex h1
    obtain ⟨b1, b2⟩ := trI_O h.2.1 h2
    rw [h1, h2, Bool.true_and, if_pos rfl] at hq
    rw [kX11_drawn_47, a4, a1]
    obtain ⟨tr, htr⟩ : ∃ tr, trO x = tr := ⟨_, rfl⟩
    rw [htr] at b1 b2 hq
    rw [← b1]
    cases tr with
    | none =>
      apply c_drawYears h (by omega) (fun t ht => Nat.lt_of_lt_of_le (b2 t ht) hT)
      intro G g1
      simp only [Option.toList_some, Option.toList_none, List.cons_append, List.nil_append]
      rw [kX11_drawn_64]
      exact hq G g1
    | some t =>
      apply c_drawYears h (by omega) (fun t ht => Nat.lt_of_lt_of_le (b2 t ht) hT)
      intro G g1
      simp only [Option.toList_some, Option.toList_none, List.cons_append, List.nil_append]
      rw [kX11_drawn_64]
      exact hq G g1
  rw [eX11_drawn, kX11_drawn_0]
  by_cases h0 : y < 0
  · rw [decide_eq_false (fun hh => hh h0), Bool.false_and] at en
    rw [if_pos h0, kX11_drawn_30]
    exact bad (by rw [en]; rfl)
  · rw [decide_eq_true h0, Bool.true_and] at en
    rw [if_neg h0, kX11_drawn_4, s_within, wi_b]
    simp only [Option.toList_some, Option.toList_none, List.cons_append, List.nil_append]
    rw [kX11_drawn_14]
    cases ha : decide (¬ y / 100 < 1 ∧ ¬ 30 < y / 100)
    · rw [ha, Bool.false_and] at en
      rw [if_pos bIf, kX11_drawn_30]
      exact bad (by rw [en]; rfl)
    · rw [ha, Bool.true_and] at en
      rw [if_neg bIt, kX11_drawn_17, show (12 : Int32) = nI 12 from rfl, c_w (by decide)]
      simp only [Option.toList_some, Option.toList_none, List.cons_append, List.nil_append]
      rw [kX11_drawn_27]
      cases hb : inR (y - y / 100 * 100) (12 + 1)
      · rw [show inR (y - y / 100 * 100) 13 = false from hb] at en
        rw [if_neg (by decide), kX11_drawn_30]
        exact bad (by rw [en]; rfl)
      · rw [show inR (y - y / 100 * 100) 13 = true from hb] at en
        rw [if_pos bIt, kX11_drawn_32]
        by_cases hx1 : x = -1
        · rw [if_pos hx1]
          exact good en (by unfold trR; rw [decide_eq_true hx1]; rfl)
        · rw [if_neg hx1, kX11_drawn_37, c_isTree h.1]
          simp only [Option.toList_some, Option.toList_none, List.cons_append, List.nil_append]
          rw [kX11_drawn_42]
          cases hx : inR x (vT (gV g))
          · rw [if_neg (by decide), kX11_drawn_45]
            exact bad (by unfold trR; rw [decide_eq_false hx1, hx, en]; rfl)
          · rw [if_pos bIt]
            exact good en (by unfold trR; rw [hx, Bool.or_true])
theorem cc_power (g : am_G) (x p w : Int32) : CC mX11_power [.ref 0, .int x, .int p, .int w] g (.long (qPower (gV g) x p w)) g := CC_q fun F L Q hm hq => by
  have h := hm.1
  have hP := h.2.1.2.1
  unfold qPower at hq
  rw [eX11_power, kX11_power_0, c_isTm h.1]
  simp only [Option.toList_some, Option.toList_none, List.cons_append, List.nil_append]
  rw [kX11_power_5]
  cases ht : tmR (gV g) x
  · rw [ht, Bool.false_and, Bool.false_and, if_neg (by decide)] at hq
    rw [if_pos bIf, kX11_power_29]
    exact hq F (SQ_rf F)
  · obtain ⟨a1, a2, a3, a4⟩ := tm_ex h.2.1 ht
    rw [ht, Bool.true_and] at hq
    rw [if_neg bIt, kX11_power_8, s_has, has_4 h.1]
    simp only [Option.toList_some, Option.toList_none, List.cons_append, List.nil_append]
    rw [kX11_power_17]
    cases hp : inR p (vP (gV g))
    · rw [hp, Bool.false_and, if_neg (by decide)] at hq
      rw [if_pos bIf, kX11_power_29]
      exact hq F (SQ_rf F)
    · rw [hp, Bool.true_and] at hq
      rw [if_neg bIt, kX11_power_20, show (1 : Int32) = nI 1 from rfl, c_w (by decide)]
      simp only [Option.toList_some, Option.toList_none, List.cons_append, List.nil_append]
      rw [kX11_power_26]
      cases hw : inR w (1 + 1)
      · rw [show inR w 2 = false from hw, if_neg (by decide)] at hq
        rw [if_neg (by decide), kX11_power_29]
        exact hq F (SQ_rf F)
      · rw [show inR w 2 = true from hw, if_pos rfl] at hq
        obtain ⟨k, k1, rfl⟩ := inR_ex hp (by omega)
        rw [nI_clamp (by omega)] at hq
        rw [if_pos bIt, kX11_power_33, a3, a1]
        apply c_powerOf h a2 a4 k1
        intro G g1
        simp only [Option.toList_some, Option.toList_none, List.cons_append, List.nil_append]
        rw [kX11_power_50]
        exact hq G g1
