/-! ===== the model: comparisons, sums, products ===== -/
theorem m_cmp {D n o k : Nat} {L : am_LT} {Q : am_QT} {b : Nat → Nat} {e : Nat → Int32} {sub : Nat → am_P} (hb : ∀ k, k < n → b k ≤ 255) (hn : n ≤ 120) (hok : ∀ q t, q ≤ n → sub q = .inr t → pOk n q [] t) (hsub : subM b n e o L (D + 1) mX12_sums sub) {s : Nat × List Nat × ((Nat → Int32) → Int32)} {F : am_FT} {l1 l2 l3 : Option Value} (hs : s.1 ≤ n) (h : MS F b n e s.1 o) (hq : mdP F b n e o L Q (lpC (byt b n) sub 2 (k + 1) s)) : wt am_S0 (D + 2) mX12_compared 4 [some (.ref 45), l1, l2, l3] [.int (s.2.2 e)] F L Q := by
  have hc := byt_le hb s.1
  have er := lp_s (B := byt b n) (sub := sub) (l := 2) (k := k) (s := s)
  rw [kX12_compared_4, s_byteAt h.1 h.2.1 hb hn hs]
  simp only [Option.toList_some, Option.toList_none, List.cons_append, List.nil_append]
  rw [kX12_compared_9, h.2.2.1, if_neg (by decide), kX12_compared_17]
  have go : (byt b n s.1 = 60 ∨ byt b n s.1 = 61 ∨ byt b n s.1 = 62) → wt am_S0 (D + 2) mX12_compared 37 [some (.ref 45), some (.int (s.2.2 e)), some (.int (mI (byt b n s.1))), l3] [] F L Q := by
    intro hx
    have hlt : s.1 < n := byt_s rfl (show byt b n s.1 < 256 by omega)
    rw [if_pos (((lv_sg _ hc).2.2.1).mpr hx)] at er
    rw [kX12_compared_37]
    apply hsub (s.1 + 1) _ _ hlt (MS_1 h)
    rcases hsb : sub (s.1 + 1) with f | t
    · rw [hsb] at er
      intro G x g1 g2 g3
      have fin : ∀ y : Int32, Q (some (.int y)) G L := fun y => mdP_l hq er G y (FM_tr (FM_up (by omega)) g1) g2 g3
      simp only [Option.toList_some, Option.toList_none, List.cons_append, List.nil_append]
      rw [kX12_compared_51]
      by_cases h60 : mI (byt b n s.1) = 60
      · rw [if_neg (fun hh => hh h60), kX12_compared_58]
        by_cases hy : x ≤ s.2.2 e
        · rw [if_pos hy, kX12_compared_89, kX12_compared_90]; exact fin _
        · rw [if_neg hy, kX12_compared_63, kX12_compared_85, kX12_compared_90]; exact fin _
      · rw [if_pos h60, kX12_compared_66]
        by_cases h61 : mI (byt b n s.1) = 61
        · rw [if_neg (fun hh => hh h61), kX12_compared_72]
          by_cases hy : s.2.2 e = x
          · rw [if_neg (fun hh => hh hy), kX12_compared_77, kX12_compared_85, kX12_compared_90]; exact fin _
          · rw [if_pos hy, kX12_compared_89, kX12_compared_90]; exact fin _
        · rw [if_pos h61, kX12_compared_80]
          by_cases hy : s.2.2 e ≤ x
          · rw [if_pos hy, kX12_compared_89, kX12_compared_90]; exact fin _
          · rw [if_neg hy, kX12_compared_85, kX12_compared_90]; exact fin _
    · rw [hsb] at er
      dsimp only at er
      rw [if_pos rfl] at er
      intro G g1 g2
      have e1 : (lpJ (byt b n) s t).2.2 e = op2 (byt b n s.1) (s.2.2 e) (t.2.2 e) := rfl
      have fin : ∀ y : Int32, (lpJ (byt b n) s t).2.2 e = y → Q (some (.int y)) G L := fun y hy => by
        rw [← hy]
        exact mdP_r hq er G (FM_tr (FM_up (by omega)) g1) g2
      have m60 : mI (byt b n s.1) = 60 ↔ byt b n s.1 = 60 := me_1 (x := 60) hc (by decide)
      have m61 : mI (byt b n s.1) = 61 ↔ byt b n s.1 = 61 := me_1 (x := 61) hc (by decide)
      simp only [Option.toList_some, Option.toList_none, List.cons_append, List.nil_append]
      rw [kX12_compared_51]
      by_cases h60 : byt b n s.1 = 60
      · rw [h60] at e1
        have e2 : (lpJ (byt b n) s t).2.2 e = if s.2.2 e < t.2.2 e then 1 else 0 := e1
        rw [if_neg (fun hh => hh (m60.mpr h60)), kX12_compared_58]
        by_cases hy : t.2.2 e ≤ s.2.2 e
        · rw [if_neg (Int32.not_lt.mpr hy)] at e2
          rw [if_pos hy, kX12_compared_89, kX12_compared_90]; exact fin _ e2
        · rw [if_pos (Int32.not_le.mp hy)] at e2
          rw [if_neg hy, kX12_compared_63, kX12_compared_85, kX12_compared_90]; exact fin _ e2
      · rw [if_pos (fun hh => h60 (m60.mp hh)), kX12_compared_66]
        by_cases h61 : byt b n s.1 = 61
        · rw [h61] at e1
          have e2 : (lpJ (byt b n) s t).2.2 e = if s.2.2 e = t.2.2 e then 1 else 0 := e1
          rw [if_neg (fun hh => hh (m61.mpr h61)), kX12_compared_72]
          by_cases hy : s.2.2 e = t.2.2 e
          · rw [if_pos hy] at e2
            rw [if_neg (fun hh => hh hy), kX12_compared_77, kX12_compared_85, kX12_compared_90]; exact fin _ e2
          · rw [if_neg hy] at e2
            rw [if_pos hy, kX12_compared_89, kX12_compared_90]; exact fin _ e2
        · have h62 : byt b n s.1 = 62 := by omega
          rw [h62] at e1
          have e2 : (lpJ (byt b n) s t).2.2 e = if t.2.2 e < s.2.2 e then 1 else 0 := e1
          rw [if_pos (fun hh => h61 (m61.mp hh)), kX12_compared_80]
          by_cases hy : s.2.2 e ≤ t.2.2 e
          · rw [if_neg (Int32.not_lt.mpr hy)] at e2
            rw [if_pos hy, kX12_compared_89, kX12_compared_90]; exact fin _ e2
          · rw [if_pos (Int32.not_le.mp hy)] at e2
            rw [if_neg hy, kX12_compared_85, kX12_compared_90]; exact fin _ e2
  have m60 : mI (byt b n s.1) = 60 ↔ byt b n s.1 = 60 := me_1 (x := 60) hc (by decide)
  have m61 : mI (byt b n s.1) = 61 ↔ byt b n s.1 = 61 := me_1 (x := 61) hc (by decide)
  have m62 : mI (byt b n s.1) = 62 ↔ byt b n s.1 = 62 := me_1 (x := 62) hc (by decide)
  by_cases h60 : byt b n s.1 = 60
  · rw [if_pos (m60.mpr h60)]; exact go (Or.inl h60)
  rw [if_neg (fun hh => h60 (m60.mp hh)), kX12_compared_23]
  by_cases h61 : byt b n s.1 = 61
  · rw [if_pos (m61.mpr h61)]; exact go (Or.inr (Or.inl h61))
  rw [if_neg (fun hh => h61 (m61.mp hh)), kX12_compared_29]
  by_cases h62 : byt b n s.1 = 62
  · rw [if_pos (m62.mpr h62)]; exact go (Or.inr (Or.inr h62))
  rw [if_neg (fun hh => h62 (m62.mp hh)), kX12_compared_35]
  rw [if_neg (fun hh => by have := ((lv_sg _ hc).2.2.1).mp hh; omega)] at er
  exact mdP_r hq er F (FM_rf F) h
theorem m_sums_loop {D n o : Nat} {L : am_LT} {Q : am_QT} {b : Nat → Nat} {e : Nat → Int32} {sub : Nat → am_P} (hb : ∀ k, k < n → b k ≤ 255) (hn : n ≤ 120) (hok : ∀ q t, q ≤ n → sub q = .inr t → pOk n q [] t) (hsub : subM b n e o L (D + 1) mX12_product sub) : ∀ (k : Nat) (s : Nat × List Nat × ((Nat → Int32) → Int32)) (F : am_FT) (l2 l3 : Option Value), n ≤ s.1 + k → s.1 ≤ n → MS F b n e s.1 o → mdP F b n e o L Q (lpC (byt b n) sub 3 k s) → wt am_S0 (D + 2) mX12_sums 5 [some (.ref 45), some (.int (s.2.2 e)), l2, l3] [] F L Q := by
  intro k
  induction k with
  | zero =>
    intro s F l2 l3 hk hs h hq
    have e256 : byt b n s.1 = 256 := lp_end (by omega)
    rw [kX12_sums_5, h.2.2.1, if_neg (by decide), kX12_sums_12, s_byteAt h.1 h.2.1 hb hn hs, e256]
    simp only [Option.toList_some, Option.toList_none, List.cons_append, List.nil_append]
    rw [kX12_sums_16, if_neg (by decide), kX12_sums_21, s_byteAt h.1 h.2.1 hb hn hs, e256]
    simp only [Option.toList_some, Option.toList_none, List.cons_append, List.nil_append]
    rw [kX12_sums_25, if_pos (by decide), kX12_sums_77]
    exact mdP_r hq rfl F (FM_rf F) h
  | succ k ih =>
    intro s F l2 l3 hk hs h hq
    have hc := byt_le hb s.1
    have m43 : mI (byt b n s.1) = 43 ↔ byt b n s.1 = 43 := me_1 (x := 43) hc (by decide)
    have m45 : mI (byt b n s.1) = 45 ↔ byt b n s.1 = 45 := me_1 (x := 45) hc (by decide)
    have er := lp_s (B := byt b n) (sub := sub) (l := 3) (k := k) (s := s)
    have go : (byt b n s.1 = 43 ∨ byt b n s.1 = 45) → wt am_S0 (D + 2) mX12_sums 30 [some (.ref 45), some (.int (s.2.2 e)), l2, l3] [] F L Q := by
      intro hx
      have hlt : s.1 < n := byt_s rfl (show byt b n s.1 < 256 by omega)
      rw [if_pos (((lv_sg _ hc).2.2.2.1).mpr hx)] at er
      have main : ∀ fl : Int32, (fl = if byt b n s.1 = 43 then 1 else 0) → wt am_S0 (D + 2) mX12_sums 44 [some (.ref 45), some (.int (s.2.2 e)), l2, l3] [.int fl] F L Q := by
        intro fl hfl
        rw [kX12_sums_44]
        apply hsub (s.1 + 1) _ _ hlt (MS_1 h)
        rcases hsb : sub (s.1 + 1) with f | t
        · rw [hsb] at er
          intro G x g1 g2 g3
          have fin : ∀ (y : Int32) (l2 l3 : Option Value), wt am_S0 (D + 2) mX12_sums 73 [some (.ref 45), some (.int (s.2.2 e)), l2, l3] [.int y] G L Q := by
            intro y l2 l3
            rw [kX12_sums_73, kX12_sums_5, g3.2.2, if_pos (nlt0 (by omega)), kX12_sums_77]
            exact mdP_l hq er G y (FM_tr (FM_up (by omega)) g1) g2 g3
          simp only [Option.toList_some, Option.toList_none, List.cons_append, List.nil_append]
          rw [kX12_sums_59]
          by_cases h0 : fl = 0
          · rw [if_pos h0, kX12_sums_70]; exact fin _ _ _
          · rw [if_neg h0, kX12_sums_64]; exact fin _ _ _
        · rw [hsb] at er
          dsimp only at er
          rw [if_neg (by decide)] at er
          have ht := hok (s.1 + 1) t hlt hsb
          intro G g1 g2
          have e1 : (lpJ (byt b n) s t).2.2 e = op2 (byt b n s.1) (s.2.2 e) (t.2.2 e) := rfl
          have fin : ∀ y : Int32, (lpJ (byt b n) s t).2.2 e = y → ∀ l2 l3 : Option Value, wt am_S0 (D + 2) mX12_sums 73 [some (.ref 45), some (.int (s.2.2 e)), l2, l3] [.int y] G L Q := by
            intro y hy l2 l3
            rw [kX12_sums_73, ← hy]
            have h1 := ht.1
            rw [er] at hq
            exact ih (lpJ (byt b n) s t) G l2 l3 (by show n ≤ t.1 + k; omega) ht.2.1 g2 (mdP_FM hq (FM_tr (FM_up (by omega)) g1))
          simp only [Option.toList_some, Option.toList_none, List.cons_append, List.nil_append]
          rw [kX12_sums_59]
          by_cases h43 : byt b n s.1 = 43
          · rw [if_pos h43] at hfl
            rw [h43] at e1
            rw [hfl, if_neg (by decide), kX12_sums_64]; exact fin _ e1 _ _
          · rw [if_neg h43] at hfl
            have h45 : byt b n s.1 = 45 := by omega
            rw [h45] at e1
            rw [hfl, if_pos rfl, kX12_sums_70]; exact fin _ e1 _ _
      rw [kX12_sums_30, s_byteAt h.1 h.2.1 hb hn hs]
      simp only [Option.toList_some, Option.toList_none, List.cons_append, List.nil_append]
      rw [kX12_sums_34]
      by_cases h43 : byt b n s.1 = 43
      · rw [if_neg (fun hh => hh (m43.mpr h43)), kX12_sums_39]
        exact main 1 (by rw [if_pos h43])
      · rw [if_pos (fun hh => h43 (m43.mp hh)), kX12_sums_43]
        exact main 0 (by rw [if_neg h43])
    rw [kX12_sums_5, h.2.2.1, if_neg (by decide), kX12_sums_12, s_byteAt h.1 h.2.1 hb hn hs]
    simp only [Option.toList_some, Option.toList_none, List.cons_append, List.nil_append]
    rw [kX12_sums_16]
    by_cases h43 : byt b n s.1 = 43
    · rw [if_pos (m43.mpr h43)]; exact go (Or.inl h43)
    rw [if_neg (fun hh => h43 (m43.mp hh)), kX12_sums_21, s_byteAt h.1 h.2.1 hb hn hs]
    simp only [Option.toList_some, Option.toList_none, List.cons_append, List.nil_append]
    rw [kX12_sums_25]
    by_cases h45 : byt b n s.1 = 45
    · rw [if_neg (fun hh => hh (m45.mpr h45))]; exact go (Or.inr h45)
    rw [if_pos (fun hh => h45 (m45.mp hh)), kX12_sums_77]
    rw [if_neg (fun hh => by have := ((lv_sg _ hc).2.2.2.1).mp hh; omega)] at er
    exact mdP_r hq er F (FM_rf F) h
theorem m_product_loop {D n o : Nat} {L : am_LT} {Q : am_QT} {b : Nat → Nat} {e : Nat → Int32} {sub : Nat → am_P} (hb : ∀ k, k < n → b k ≤ 255) (hn : n ≤ 120) (hok : ∀ q t, q ≤ n → sub q = .inr t → pOk n q [] t) (hsub : subM b n e o L (D + 1) mX12_one sub) : ∀ (k : Nat) (s : Nat × List Nat × ((Nat → Int32) → Int32)) (F : am_FT) (l3 : Option Value), n ≤ s.1 + k → s.1 ≤ n → MS F b n e s.1 o → mdP F b n e o L Q (lpC (byt b n) sub 4 k s) → wt am_S0 (D + 2) mX12_product 10 [some (.ref 45), some (.int (s.2.2 e)), some (.int (mI (byt b n s.1))), l3] [] F L Q := by
  intro k
  induction k with
  | zero =>
    intro s F l3 hk hs h hq
    have e256 : byt b n s.1 = 256 := lp_end (by omega)
    rw [kX12_product_10, h.2.2.1, if_neg (by decide), kX12_product_17, e256, if_neg (by decide), kX12_product_23, if_neg (by decide), kX12_product_29, if_pos (by decide), kX12_product_94]
    exact mdP_r hq rfl F (FM_rf F) h
  | succ k ih =>
    intro s F l3 hk hs h hq
    have hc := byt_le hb s.1
    have m42 : mI (byt b n s.1) = 42 ↔ byt b n s.1 = 42 := me_1 (x := 42) hc (by decide)
    have m47 : mI (byt b n s.1) = 47 ↔ byt b n s.1 = 47 := me_1 (x := 47) hc (by decide)
    have m37 : mI (byt b n s.1) = 37 ↔ byt b n s.1 = 37 := me_1 (x := 37) hc (by decide)
    have er := lp_s (B := byt b n) (sub := sub) (l := 4) (k := k) (s := s)
    have go : (byt b n s.1 = 42 ∨ byt b n s.1 = 47 ∨ byt b n s.1 = 37) → wt am_S0 (D + 2) mX12_product 35 [some (.ref 45), some (.int (s.2.2 e)), some (.int (mI (byt b n s.1))), l3] [] F L Q := by
      intro hx
      have hlt : s.1 < n := byt_s rfl (show byt b n s.1 < 256 by omega)
      rw [if_pos (((lv_sg _ hc).2.2.2.2).mpr hx)] at er
      rw [kX12_product_35]
      apply hsub (s.1 + 1) _ _ hlt (MS_1 h)
      rcases hsb : sub (s.1 + 1) with f | t
      · rw [hsb] at er
        intro G x g1 g2 g3
        have fin : ∀ (y : Int32) (l2 l3 : Option Value), wt am_S0 (D + 2) mX12_product 85 [some (.ref 45), some (.int (s.2.2 e)), l2, l3] [.int y] G L Q := by
          intro y l2 l3
          rw [kX12_product_85, s_byteAt g3.1 g3.2.1 hb hn g2]
          simp only [Option.toList_some, Option.toList_none, List.cons_append, List.nil_append]
          rw [kX12_product_90, kX12_product_10, g3.2.2, if_pos (nlt0 (by omega)), kX12_product_94]
          exact mdP_l hq er G y (FM_tr (FM_up (by omega)) g1) g2 g3
        simp only [Option.toList_some, Option.toList_none, List.cons_append, List.nil_append]
        rw [kX12_product_49]
        by_cases h42 : mI (byt b n s.1) = 42
        · rw [if_neg (fun hh => hh h42), kX12_product_56]; exact fin _ _ _
        · rw [if_pos h42, kX12_product_62]
          by_cases h0 : x = 0
          · rw [if_neg (fun hh => hh h0), kX12_product_66]; exact fin _ _ _
          · rw [if_pos h0, kX12_product_70]
            by_cases h47 : mI (byt b n s.1) = 47
            · rw [if_neg (fun hh => hh h47), kX12_product_76 h0]; exact fin _ _ _
            · rw [if_pos h47, kX12_product_82 h0]; exact fin _ _ _
      · rw [hsb] at er
        dsimp only at er
        rw [if_neg (by decide)] at er
        have ht := hok (s.1 + 1) t hlt hsb
        intro G g1 g2
        have e1 : (lpJ (byt b n) s t).2.2 e = op2 (byt b n s.1) (s.2.2 e) (t.2.2 e) := rfl
        have fin : ∀ y : Int32, (lpJ (byt b n) s t).2.2 e = y → ∀ l2 l3 : Option Value, wt am_S0 (D + 2) mX12_product 85 [some (.ref 45), some (.int (s.2.2 e)), l2, l3] [.int y] G L Q := by
          intro y hy l2 l3
          rw [kX12_product_85, s_byteAt g2.1 g2.2.1 hb hn ht.2.1]
          simp only [Option.toList_some, Option.toList_none, List.cons_append, List.nil_append]
          rw [kX12_product_90, ← hy]
          have h1 := ht.1
          rw [er] at hq
          exact ih (lpJ (byt b n) s t) G l3 (by show n ≤ t.1 + k; omega) ht.2.1 g2 (mdP_FM hq (FM_tr (FM_up (by omega)) g1))
        simp only [Option.toList_some, Option.toList_none, List.cons_append, List.nil_append]
        rw [kX12_product_49]
        by_cases h42 : byt b n s.1 = 42
        · rw [h42] at e1
          rw [if_neg (fun hh => hh (m42.mpr h42)), kX12_product_56]; exact fin _ e1 _ _
        · rw [if_pos (fun hh => h42 (m42.mp hh)), kX12_product_62]
          by_cases h47 : byt b n s.1 = 47
          · rw [h47] at e1
            have e2 : (lpJ (byt b n) s t).2.2 e = if t.2.2 e = 0 then 0 else s.2.2 e / t.2.2 e := e1
            by_cases h0 : t.2.2 e = 0
            · rw [if_pos h0] at e2
              rw [if_neg (fun hh => hh h0), kX12_product_66]; exact fin _ e2 _ _
            · rw [if_neg h0] at e2
              rw [if_pos h0, kX12_product_70, if_neg (fun hh => hh (m47.mpr h47)), kX12_product_76 h0]; exact fin _ e2 _ _
          · have h37 : byt b n s.1 = 37 := by omega
            rw [h37] at e1
            have e2 : (lpJ (byt b n) s t).2.2 e = if t.2.2 e = 0 then 0 else s.2.2 e - s.2.2 e / t.2.2 e * t.2.2 e := e1
            by_cases h0 : t.2.2 e = 0
            · rw [if_pos h0] at e2
              rw [if_neg (fun hh => hh h0), kX12_product_66]; exact fin _ e2 _ _
            · rw [if_neg h0] at e2
              rw [if_pos h0, kX12_product_70, if_pos (fun hh => h47 (m47.mp hh)), kX12_product_82 h0]; exact fin _ e2 _ _
    rw [kX12_product_10, h.2.2.1, if_neg (by decide), kX12_product_17]
    by_cases h42 : byt b n s.1 = 42
    · rw [if_pos (m42.mpr h42)]; exact go (Or.inl h42)
    rw [if_neg (fun hh => h42 (m42.mp hh)), kX12_product_23]
    by_cases h47 : byt b n s.1 = 47
    · rw [if_pos (m47.mpr h47)]; exact go (Or.inr (Or.inl h47))
    rw [if_neg (fun hh => h47 (m47.mp hh)), kX12_product_29]
    by_cases h37 : byt b n s.1 = 37
    · rw [if_neg (fun hh => hh (m37.mpr h37))]; exact go (Or.inr (Or.inr h37))
    rw [if_pos (fun hh => h37 (m37.mp hh)), kX12_product_94]
    rw [if_neg (fun hh => by have := ((lv_sg _ hc).2.2.2.2).mp hh; omega)] at er
    exact mdP_r hq er F (FM_rf F) h
