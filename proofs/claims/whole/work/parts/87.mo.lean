/-! ===== the model: operands; the whole reading ===== -/
def nnI (x : Int32) : Int32 := if x = 104 then 1 else if x = 105 then -1 else if x = 106 then -1 else if x = 107 then -1 else if x = 108 then -1 else if x = 109 then 2 else if x = 110 then 3 else if x = 111 then -1 else if x = 112 then 5 else if x = 113 then -1 else if x = 114 then -1 else if x = 115 then -1 else if x = 116 then 4 else if x = 117 then -1 else if x = 118 then -1 else if x = 119 then 0 else -1
theorem s_nameOf {d : Nat} {F : am_FT} {L : am_LT} {Q : am_QT} {x : Int32} : wc am_S0 d mX12_nameOf [.int x] F L Q = Q (some (.int (nnI x))) F L := by
  unfold nnI
  rw [eX12_nameOf, kX12_nameOf_0]
  by_cases h104 : x = 104
  · rw [if_pos h104, if_pos h104, kX12_nameOf_82]
  rw [if_neg h104, if_neg h104]
  by_cases h105 : x = 105
  · rw [if_pos h105, if_pos h105, kX12_nameOf_92]
  rw [if_neg h105, if_neg h105]
  by_cases h106 : x = 106
  · rw [if_pos h106, if_pos h106, kX12_nameOf_92]
  rw [if_neg h106, if_neg h106]
  by_cases h107 : x = 107
  · rw [if_pos h107, if_pos h107, kX12_nameOf_92]
  rw [if_neg h107, if_neg h107]
  by_cases h108 : x = 108
  · rw [if_pos h108, if_pos h108, kX12_nameOf_92]
  rw [if_neg h108, if_neg h108]
  by_cases h109 : x = 109
  · rw [if_pos h109, if_pos h109, kX12_nameOf_84]
  rw [if_neg h109, if_neg h109]
  by_cases h110 : x = 110
  · rw [if_pos h110, if_pos h110, kX12_nameOf_86]
  rw [if_neg h110, if_neg h110]
  by_cases h111 : x = 111
  · rw [if_pos h111, if_pos h111, kX12_nameOf_92]
  rw [if_neg h111, if_neg h111]
  by_cases h112 : x = 112
  · rw [if_pos h112, if_pos h112, kX12_nameOf_90]
  rw [if_neg h112, if_neg h112]
  by_cases h113 : x = 113
  · rw [if_pos h113, if_pos h113, kX12_nameOf_92]
  rw [if_neg h113, if_neg h113]
  by_cases h114 : x = 114
  · rw [if_pos h114, if_pos h114, kX12_nameOf_92]
  rw [if_neg h114, if_neg h114]
  by_cases h115 : x = 115
  · rw [if_pos h115, if_pos h115, kX12_nameOf_92]
  rw [if_neg h115, if_neg h115]
  by_cases h116 : x = 116
  · rw [if_pos h116, if_pos h116, kX12_nameOf_88]
  rw [if_neg h116, if_neg h116]
  by_cases h117 : x = 117
  · rw [if_pos h117, if_pos h117, kX12_nameOf_92]
  rw [if_neg h117, if_neg h117]
  by_cases h118 : x = 118
  · rw [if_pos h118, if_pos h118, kX12_nameOf_92]
  rw [if_neg h118, if_neg h118]
  by_cases h119 : x = 119
  · rw [if_pos h119, if_pos h119, kX12_nameOf_80]
  rw [if_neg h119, if_neg h119]
  rw [kX12_nameOf_92]
theorem nn_c : ∀ c, c < 257 → nnI (mI c) = if nmN c < 6 then nI (nmN c) else -1 := by decide +kernel
theorem mD_c : ∀ c, c < 257 → (mI c < 48 ∨ 57 < mI c ↔ isD c = false) := by decide +kernel
theorem mI_n {c : Nat} (h : c ≠ 256) : mI c = nI c := if_neg h
theorem m_num_loop {D n o : Nat} {L : am_LT} {Q : am_QT} {b : Nat → Nat} {e : Nat → Int32} (hb : ∀ k, k < n → b k ≤ 255) (hn : n ≤ 120) {l1 : Option Value} {y2 : Int32} : ∀ (k j q x : Nat) (F : am_FT), j + k = 4 → q ≤ n → MS F b n e q o → x < 10 ^ j → (∀ G : am_FT, FM F G → MS G b n e (dgs (byt b n) k q x).1 o → (dgs (byt b n) k q x).1 ≤ n → q ≤ (dgs (byt b n) k q x).1 → wt am_S0 (D + 1) mX12_one 229 [some (.ref 45), l1, some (.int y2), some (.int (nI (dgs (byt b n) k q x).2)), some (.int (nI (j + ((dgs (byt b n) k q x).1 - q))))] [] G L Q) → wt am_S0 (D + 1) mX12_one 176 [some (.ref 45), l1, some (.int y2), some (.int (nI x)), some (.int (nI j))] [] F L Q := by
  intro k
  induction k with
  | zero =>
    intro j q x F hj hqn h hx hq
    have : j = 4 := by omega
    subst this
    have hq1 := hq F (FM_rf F) h hqn (Nat.le_refl _)
    rw [show (dgs (byt b n) 0 q x).1 - q = 0 from Nat.sub_self q] at hq1
    rw [kX12_one_176, if_pos (by decide)]
    exact hq1
  | succ k ih =>
    intro j q x F hj hqn h hx hq
    have hc := byt_le hb q
    have er : dgs (byt b n) (k + 1) q x = if isD (byt b n q) = true then dgs (byt b n) k (q + 1) (10 * x + (byt b n q - 48)) else (q, x) := rfl
    have md := mD_c _ hc
    rw [kX12_one_176, if_neg (show ¬ (4 : Int32) ≤ nI j from nI_ge (b := 4) (by omega) (by decide)), kX12_one_182, s_byteAt h.1 h.2.1 hb hn hqn]
    simp only [Option.toList_some, Option.toList_none, List.cons_append, List.nil_append]
    rw [kX12_one_186]
    cases hD : isD (byt b n q)
    · rw [er, hD, if_neg (by decide)] at hq
      have hq1 := hq F (FM_rf F) h hqn (Nat.le_refl _)
      rw [show (q, x).1 - q = 0 from Nat.sub_self q] at hq1
      by_cases h1 : mI (byt b n q) < 48
      · rw [if_pos h1]; exact hq1
      · rw [if_neg h1, kX12_one_191, s_byteAt h.1 h.2.1 hb hn hqn]
        simp only [Option.toList_some, Option.toList_none, List.cons_append, List.nil_append]
        rcases md.mpr hD with h2 | h2
        · exact absurd h2 h1
        · rw [kX12_one_195, if_pos h2]; exact hq1
    · have hd := isD_b hD
      have hno : ¬ (mI (byt b n q) < 48 ∨ 57 < mI (byt b n q)) := fun hh => by rw [md.mp hh] at hD; cases hD
      have h10 : 10 ^ j ≤ 10 ^ 4 := Nat.pow_le_pow_right (by decide) (by omega)
      have h10' : (10 : Nat) ^ 4 = 10000 := by decide
      rw [if_neg (fun hh => hno (Or.inl hh)), kX12_one_191, s_byteAt h.1 h.2.1 hb hn hqn]
      simp only [Option.toList_some, Option.toList_none, List.cons_append, List.nil_append]
      rw [kX12_one_195, if_neg (fun hh => hno (Or.inr hh)), kX12_one_200, s_byteAt h.1 h.2.1 hb hn hqn, mI_n (by omega)]
      simp only [Option.toList_some, Option.toList_none, List.cons_append, List.nil_append]
      rw [kX12_one_208, nI_1, show (10 * nI x + nI (byt b n q) - 48 : Int32) = nI (10 * x + (byt b n q - 48)) by
        simp (disch := omega) only [iI_n, iI_l, iI_neg, iI_add, iI_sub, iI_mul, iI_div, iI_lt, iI_le, iI_eq]
        congr 1
        omega]
      rw [er, hD, if_pos rfl] at hq
      have hlt : q < n := byt_s rfl (show byt b n q < 256 by omega)
      refine ih (j + 1) (q + 1) _ _ (by omega) hlt (MS_1 h) (by rw [Nat.pow_succ]; omega) ?_
      intro G g1 g2 g3 g4
      have hq1 := hq G (FM_tr (FM_up (by omega)) g1) g2 g3 (by omega)
      rw [show j + ((dgs (byt b n) k (q + 1) (10 * x + (byt b n q - 48))).1 - q) = j + 1 + ((dgs (byt b n) k (q + 1) (10 * x + (byt b n q - 48))).1 - (q + 1)) by omega] at hq1
      exact hq1
theorem MF_w {G : am_FT} {b : Nat → Nat} {n : Nat} {e : Nat → Int32} {f k : Nat} {x : Int32} (h : MF G b n e f) (hk : k = 17) : MF (am_upF G 45 k x) b n e f :=
  ⟨MSb_FM h.1 (FM_up (by omega)), by rw [up_n (by omega)]; exact h.2.1, by rw [up_n (by omega)]; exact h.2.2⟩
theorem MF_16 {G : am_FT} {b : Nat → Nat} {n : Nat} {e : Nat → Int32} {f : Nat} (h1 : MSb G b n e) (h2 : G 45 14 = nI f) : MF (am_upF G 45 16 (nI f)) b n e f :=
  ⟨MSb_FM h1 (FM_up (by omega)), by rw [up_n (by omega)]; exact h2, up_s⟩
theorem m_one {D n o q : Nat} {L : am_LT} {Q : am_QT} {b : Nat → Nat} {e : Nat → Int32} {neg par : Nat → am_P} {F : am_FT} (hb : ∀ k, k < n → b k ≤ 255) (hn : n ≤ 120) (ho : o ≤ 6) (hok : ∀ q t, q ≤ n → par q = .inr t → pOk n q [] t) (hneg : o < 6 → subM b n e (o + 1) L (D + 1) mX12_one neg) (hpar : o < 6 → subM b n e (o + 1) L (D + 1) mX12_either par) (hqn : q ≤ n) (h : MS F b n e q o) (hq : mdP F b n e o L Q (pOp (byt b n) neg par o q)) : wc am_S0 (D + 2) mX12_one [.ref 45] F L Q := by
  have hc := byt_le hb q
  have m33 : mI (byt b n q) = 33 ↔ byt b n q = 33 := me_1 (x := 33) hc (by decide)
  have m45 : mI (byt b n q) = 45 ↔ byt b n q = 45 := me_1 (x := 45) hc (by decide)
  have m40 : mI (byt b n q) = 40 ↔ byt b n q = 40 := me_1 (x := 40) hc (by decide)
  have er : pOp (byt b n) neg par o q = pOp (byt b n) neg par o q := rfl
  conv at er => rhs; unfold pOp
  have dis : ∀ c, c < 257 → (c = 33 ∨ c = 45 ∨ c = 40) → isD c = false ∧ ¬ nmN c < 6 := by decide +kernel
  rw [eX12_one, kX12_one_0, h.2.2.1, if_pos (by decide), kX12_one_9, s_byteAt h.1 h.2.1 hb hn hqn]
  simp only [Option.toList_some, Option.toList_none, List.cons_append, List.nil_append]
  rw [kX12_one_13]
  have go : (byt b n q = 33 ∨ byt b n q = 45 ∨ byt b n q = 40) → wt am_S0 (D + 2) mX12_one 32 [some (.ref 45), some (.int (mI (byt b n q))), none, none, none] [] F L Q := by
    intro hx
    have hd := dis _ hc hx
    have hlt : q < n := byt_s rfl (show byt b n q < 256 by omega)
    rw [hd.1, if_neg (by decide), if_neg hd.2] at er
    rw [kX12_one_32, h.2.2.2]
    by_cases ho6 : 6 ≤ o
    · rw [if_pos ho6] at er
      rw [if_neg (fun hh => hh (show nI o = (6 : Int32) by rw [show o = 6 by omega]; rfl)), kX12_one_41, s_wrong h.2.2.1 h.2.1]
      simp only [Option.toList_some, Option.toList_none, List.cons_append, List.nil_append]
      rw [kX12_one_45]
      exact mdP_l hq er _ _ (FM_up (by omega)) hqn (MF_16 h.1 h.2.1)
    · rw [if_neg ho6] at er
      rw [if_pos (show ¬ nI o = (6 : Int32) from nI_ne (x := 6) (by omega) (by decide) (by omega)), kX12_one_46, h.2.2.2, h.2.1, nI_1, nI_1]
      have fm : FM F (am_upF (am_upF F 45 17 (nI (o + 1))) 45 14 (nI (q + 1))) := FM_tr (FM_up (by omega)) (FM_up (by omega))
      have hms : MS (am_upF (am_upF F 45 17 (nI (o + 1))) 45 14 (nI (q + 1))) b n e (q + 1) (o + 1) := ⟨MSb_FM h.1 fm, up_s, by rw [up_n (by decide), up_n (by decide)]; exact h.2.2.1, by rw [up_n (by decide), up_s]⟩
      have e17 : (nI (o + 1) - 1 : Int32) = nI o := by rw [nI_m1 (by omega), Nat.add_sub_cancel]
      by_cases h40 : byt b n q = 40
      · rw [if_neg (show ¬ (byt b n q = 33 ∨ byt b n q = 45) by omega), if_pos h40] at er
        rw [if_neg (fun hh => hh (m40.mpr h40)), kX12_one_72]
        apply hpar (by omega) (q + 1) _ _ hlt hms
        rcases hs : par (q + 1) with f | s
        · rw [hs] at er
          intro G x g1 g2 g3
          simp only [Option.toList_some, Option.toList_none, List.cons_append, List.nil_append]
          rw [kX12_one_76, kX12_one_83, if_neg (fun hh => hh (m40.mpr h40)), kX12_one_90, s_takesF g3.2.2 (by omega)]
          simp only [Option.toList_some, Option.toList_none, List.cons_append, List.nil_append]
          rw [kX12_one_96, if_neg (by decide), kX12_one_99, s_wrongF g3.2.2 (by omega)]
          simp only [Option.toList_some, Option.toList_none, List.cons_append, List.nil_append]
          rw [kX12_one_103]
          exact mdP_l hq er _ _ (FM_tr fm (FM_tr g1 (FM_up (by omega)))) g2 (MF_16 g3.1 g3.2.1)
        · rw [hs] at er
          have ok := hok (q + 1) s hlt hs
          intro G g1 g2
          dsimp only at er
          simp only [Option.toList_some, Option.toList_none, List.cons_append, List.nil_append]
          rw [kX12_one_76, kX12_one_83, if_neg (fun hh => hh (m40.mpr h40)), kX12_one_90, show (41 : Int32) = nI 41 from rfl, s_takes g2 hb hn ok.2.1 (by decide)]
          by_cases h41 : byt b n s.1 = 41
          · rw [if_pos h41] at er
            rw [if_pos h41]
            simp only [Option.toList_some, Option.toList_none, List.cons_append, List.nil_append]
            rw [kX12_one_96, if_pos (by decide), kX12_one_104, if_neg (fun hh => hh (m40.mpr h40)), up_n (by decide), g2.2.2.2, e17, kX12_one_120, kX12_one_144]
            apply mdP_r hq er _ (FM_tr fm (FM_tr g1 (FM_tr (FM_up (by omega)) (FM_up (by omega)))))
            exact ⟨MSb_FM g2.1 (FM_tr (FM_up (by omega)) (FM_up (by omega))), by rw [up_n (by decide), up_s], by rw [up_n (by decide), up_n (by decide)]; exact g2.2.2.1, up_s⟩
          · rw [if_neg h41] at er
            rw [if_neg h41]
            simp only [Option.toList_some, Option.toList_none, List.cons_append, List.nil_append]
            rw [kX12_one_96, if_neg (by decide), kX12_one_99, s_wrong g2.2.2.1 g2.2.1]
            simp only [Option.toList_some, Option.toList_none, List.cons_append, List.nil_append]
            rw [kX12_one_103]
            exact mdP_l hq er _ _ (FM_tr fm (FM_tr g1 (FM_up (by omega)))) ok.2.1 (MF_16 g2.1 g2.2.1)
      · have hu : byt b n q = 33 ∨ byt b n q = 45 := by omega
        rw [if_pos hu] at er
        rw [if_pos (fun hh => h40 (m40.mp hh)), kX12_one_79]
        apply hneg (by omega) (q + 1) _ _ hlt hms
        rcases hs : neg (q + 1) with f | s
        · rw [hs] at er
          intro G x g1 g2 g3
          have fin : ∀ y : Int32, Q (some (.int y)) (am_upF G 45 17 (G 45 17 - 1)) L := fun y => mdP_l hq er _ y (FM_tr fm (FM_tr g1 (FM_up (by omega)))) g2 (MF_w g3 rfl)
          simp only [Option.toList_some, Option.toList_none, List.cons_append, List.nil_append]
          rw [kX12_one_83, if_pos (fun hh => h40 (m40.mp hh)), kX12_one_104, if_pos (fun hh => h40 (m40.mp hh)), kX12_one_124]
          by_cases h45 : mI (byt b n q) = 45
          · rw [if_neg (fun hh => hh h45), kX12_one_130, kX12_one_144]; exact fin _
          · rw [if_pos h45, kX12_one_135]
            by_cases h0 : x = 0
            · rw [if_neg (fun hh => hh h0), kX12_one_139, kX12_one_144]; exact fin _
            · rw [if_pos h0, kX12_one_143, kX12_one_144]; exact fin _
        · rw [hs] at er
          intro G g1 g2
          dsimp only at er
          have fin : ∀ y : Int32, (if byt b n q = 33 then (if s.2.2 e = 0 then 1 else 0) else - s.2.2 e) = y → Q (some (.int y)) (am_upF G 45 17 (nI o)) L := fun y hy => by
            rw [← hy]
            exact mdP_r hq er _ (FM_tr fm (FM_tr g1 (FM_up (by omega)))) ⟨MSb_FM g2.1 (FM_up (by omega)), by rw [up_n (by decide)]; exact g2.2.1, by rw [up_n (by decide)]; exact g2.2.2.1, up_s⟩
          simp only [Option.toList_some, Option.toList_none, List.cons_append, List.nil_append]
          rw [kX12_one_83, if_pos (fun hh => h40 (m40.mp hh)), kX12_one_104, if_pos (fun hh => h40 (m40.mp hh)), g2.2.2.2, e17, kX12_one_124]
          by_cases h45 : byt b n q = 45
          · rw [if_neg (fun hh => hh (m45.mpr h45)), kX12_one_130, kX12_one_144]
            exact fin _ (if_neg (by omega))
          · have h33 : byt b n q = 33 := by omega
            rw [if_pos (fun hh => h45 (m45.mp hh)), kX12_one_135]
            by_cases h0 : s.2.2 e = 0
            · rw [if_neg (fun hh => hh h0), kX12_one_139, kX12_one_144]
              exact fin _ (by rw [if_pos h33, if_pos h0])
            · rw [if_pos h0, kX12_one_143, kX12_one_144]
              exact fin _ (by rw [if_pos h33, if_neg h0])
  by_cases h33 : byt b n q = 33
  · rw [if_pos (m33.mpr h33)]; exact go (Or.inl h33)
  rw [if_neg (fun hh => h33 (m33.mp hh)), kX12_one_20]
  by_cases h45 : byt b n q = 45
  · rw [if_pos (m45.mpr h45)]; exact go (Or.inr (Or.inl h45))
  rw [if_neg (fun hh => h45 (m45.mp hh)), kX12_one_26]
  by_cases h40 : byt b n q = 40
  · rw [if_neg (fun hh => hh (m40.mpr h40))]; exact go (Or.inr (Or.inr h40))
  rw [if_pos (fun hh => h40 (m40.mp hh)), kX12_one_145, s_nameOf, nn_c _ hc]
  simp only [Option.toList_some, Option.toList_none, List.cons_append, List.nil_append]
  rw [kX12_one_149]
  by_cases hN : nmN (byt b n q) < 6
  · have hnd : ∀ c, c < 257 → nmN c < 6 → isD c = false := by decide +kernel
    rw [hnd _ hc hN, if_neg (by decide), if_pos hN] at er
    rw [if_pos hN, if_neg (nI_pos (by omega)), kX12_one_154 (oobN hN (by decide)), nI_clamp (by omega), h.1.2.2 _ hN, h.2.1, nI_1]
    exact mdP_r hq er _ (FM_up (by omega)) (MS_q h)
  · rw [if_neg hN, if_pos (by decide), kX12_one_171, show (some (.int 0) : Option Value) = some (.int (nI 0)) from rfl]
    refine m_num_loop hb hn 4 0 q 0 F rfl hqn h (by decide) ?_
    intro G g1 g2 g3 g4
    rw [Nat.zero_add, kX12_one_229]
    cases hD : isD (byt b n q)
    · have e0 : dgs (byt b n) 4 q 0 = (q, 0) := by
        show (if isD (byt b n q) = true then _ else _) = _
        rw [hD]; rfl
      rw [hD, if_neg (by decide), if_neg hN] at er
      have er2 : pOp (byt b n) neg par o q = .inl q := by
        rw [er]
        by_cases ho6 : 6 ≤ o
        · rw [if_pos ho6]
        · rw [if_neg ho6, if_neg (by omega), if_neg h40]
      rw [e0] at g2 ⊢
      rw [show (q, 0).1 - q = 0 from Nat.sub_self q, if_neg (fun hh => hh rfl), kX12_one_234, s_wrong g2.2.2.1 g2.2.1]
      simp only [Option.toList_some, Option.toList_none, List.cons_append, List.nil_append]
      rw [kX12_one_238, kX12_one_242]
      exact mdP_l hq er2 _ _ (FM_tr g1 (FM_up (by omega))) hqn (MF_16 g2.1 g2.2.1)
    · rw [hD, if_pos rfl] at er
      have hD2 : ∀ q, isD (byt b n q) = true → q < n := fun q' h' => byt_lt (show byt b n q' ≠ 256 by have := isD_b h'; omega)
      have e0 : dgs (byt b n) 4 q 0 = dgs (byt b n) 3 (q + 1) (10 * 0 + (byt b n q - 48)) := by
        show (if isD (byt b n q) = true then _ else _) = _
        rw [if_pos hD]
      have h1 := (dgs_ok hD2 3 (q + 1) (10 * 0 + (byt b n q - 48)) (hD2 q hD)).1
      rw [← e0] at h1
      rw [if_pos (show ¬ nI ((dgs (byt b n) 4 q 0).1 - q) = (0 : Int32) by rw [nI0' (by omega)]; omega), kX12_one_241, kX12_one_242]
      exact mdP_r hq er G g1 g2
theorem m_parse {n : Nat} {L : am_LT} {b : Nat → Nat} {e : Nat → Int32} (hb : ∀ k, k < n → b k ≤ 255) (hn : n ≤ 120) : ∀ (d l o D : Nat), l ≤ 5 → o ≤ 6 → (6 - o) * 6 + (6 - l) ≤ d → d + 2 ≤ D → subM b n e o L D (lvM l) (pC (byt b n) d l o) := by
  have hB1 := byt_le hb
  have hB2 : ∀ q, byt b n q ≠ 256 → q < n := fun q h => byt_lt h
  intro d
  induction d with
  | zero => intro l o D h1 h2 h3; exact absurd h3 (by omega)
  | succ d ih =>
    intro l o D hl ho hf hD q F Q hqn h hq
    obtain ⟨D', rfl⟩ : ∃ D', D = D' + 2 := ⟨D - 2, by omega⟩
    by_cases hl5 : l < 5
    · have er : pC (byt b n) (d + 1) l o q = match pC (byt b n) d (l + 1) o q with
        | .inl f => .inl f
        | .inr s => lpC (byt b n) (pC (byt b n) d (l + 1) o) l 120 s := if_pos hl5
      have sub := ih (l + 1) o (D' + 1) (by omega) ho (by omega) (by omega)
      have hok : ∀ q t, q ≤ n → pC (byt b n) d (l + 1) o q = .inr t → pOk n q [] t := fun q t hq ht => pC_ok hB1 hB2 d (l + 1) o q t hq ht
      rcases (by omega : l = 0 ∨ l = 1 ∨ l = 2 ∨ l = 3 ∨ l = 4) with rfl | rfl | rfl | rfl | rfl
      · show wc am_S0 (D' + 2) mX12_either [.ref 45] F L Q
        rw [eX12_either, kX12_either_0]
        apply sub q F _ hqn h
        rcases hs : pC (byt b n) d (0 + 1) o q with f | s
        · rw [hs] at er
          intro G x g1 g2 g3
          simp only [Option.toList_some, Option.toList_none, List.cons_append, List.nil_append]
          rw [kX12_either_4, kX12_either_5, s_takesF g3.2.2 (by omega)]
          simp only [Option.toList_some, Option.toList_none, List.cons_append, List.nil_append]
          rw [kX12_either_11, if_pos rfl, kX12_either_36]
          exact mdP_l hq er G x g1 g2 g3
        · rw [hs] at er
          have ok := hok q s hqn hs
          intro G g1 g2
          simp only [Option.toList_some, Option.toList_none, List.cons_append, List.nil_append]
          rw [kX12_either_4]
          rw [er] at hq
          exact m_either_loop hb hn hok sub 120 s G _ (by omega) ok.2.1 g2 (mdP_FM hq g1)
      · show wc am_S0 (D' + 2) mX12_both [.ref 45] F L Q
        rw [eX12_both, kX12_both_0]
        apply sub q F _ hqn h
        rcases hs : pC (byt b n) d (1 + 1) o q with f | s
        · rw [hs] at er
          intro G x g1 g2 g3
          simp only [Option.toList_some, Option.toList_none, List.cons_append, List.nil_append]
          rw [kX12_both_4, kX12_both_5, s_takesF g3.2.2 (by omega)]
          simp only [Option.toList_some, Option.toList_none, List.cons_append, List.nil_append]
          rw [kX12_both_11, if_pos rfl, kX12_both_36]
          exact mdP_l hq er G x g1 g2 g3
        · rw [hs] at er
          have ok := hok q s hqn hs
          intro G g1 g2
          simp only [Option.toList_some, Option.toList_none, List.cons_append, List.nil_append]
          rw [kX12_both_4]
          rw [er] at hq
          exact m_both_loop hb hn hok sub 120 s G _ (by omega) ok.2.1 g2 (mdP_FM hq g1)
      · show wc am_S0 (D' + 2) mX12_compared [.ref 45] F L Q
        rw [eX12_compared, kX12_compared_0]
        apply sub q F _ hqn h
        rcases hs : pC (byt b n) d (2 + 1) o q with f | s
        · rw [hs] at er
          intro G x g1 g2 g3
          simp only [Option.toList_some, Option.toList_none, List.cons_append, List.nil_append]
          rw [kX12_compared_4, s_byteAt g3.1 g3.2.1 hb hn g2]
          simp only [Option.toList_some, Option.toList_none, List.cons_append, List.nil_append]
          rw [kX12_compared_9, g3.2.2, if_pos (nlt0 (by omega)), kX12_compared_35]
          exact mdP_l hq er G x g1 g2 g3
        · rw [hs] at er
          have ok := hok q s hqn hs
          intro G g1 g2
          simp only [Option.toList_some, Option.toList_none, List.cons_append, List.nil_append]
          rw [er] at hq
          exact m_cmp (k := 119) hb hn hok sub ok.2.1 g2 (mdP_FM hq g1)
      · show wc am_S0 (D' + 2) mX12_sums [.ref 45] F L Q
        rw [eX12_sums, kX12_sums_0]
        apply sub q F _ hqn h
        rcases hs : pC (byt b n) d (3 + 1) o q with f | s
        · rw [hs] at er
          intro G x g1 g2 g3
          simp only [Option.toList_some, Option.toList_none, List.cons_append, List.nil_append]
          rw [kX12_sums_4, kX12_sums_5, g3.2.2, if_pos (nlt0 (by omega)), kX12_sums_77]
          exact mdP_l hq er G x g1 g2 g3
        · rw [hs] at er
          have ok := hok q s hqn hs
          intro G g1 g2
          simp only [Option.toList_some, Option.toList_none, List.cons_append, List.nil_append]
          rw [kX12_sums_4]
          rw [er] at hq
          exact m_sums_loop hb hn hok sub 120 s G _ _ (by omega) ok.2.1 g2 (mdP_FM hq g1)
      · show wc am_S0 (D' + 2) mX12_product [.ref 45] F L Q
        rw [eX12_product, kX12_product_0]
        apply sub q F _ hqn h
        rcases hs : pC (byt b n) d (4 + 1) o q with f | s
        · rw [hs] at er
          intro G x g1 g2 g3
          simp only [Option.toList_some, Option.toList_none, List.cons_append, List.nil_append]
          rw [kX12_product_4, s_byteAt g3.1 g3.2.1 hb hn g2]
          simp only [Option.toList_some, Option.toList_none, List.cons_append, List.nil_append]
          rw [kX12_product_9, kX12_product_10, g3.2.2, if_pos (nlt0 (by omega)), kX12_product_94]
          exact mdP_l hq er G x g1 g2 g3
        · rw [hs] at er
          have ok := hok q s hqn hs
          intro G g1 g2
          simp only [Option.toList_some, Option.toList_none, List.cons_append, List.nil_append]
          rw [kX12_product_4, s_byteAt g2.1 g2.2.1 hb hn ok.2.1]
          simp only [Option.toList_some, Option.toList_none, List.cons_append, List.nil_append]
          rw [kX12_product_9]
          rw [er] at hq
          exact m_product_loop hb hn hok sub 120 s G _ (by omega) ok.2.1 g2 (mdP_FM hq g1)
    · have : l = 5 := by omega
      subst this
      have er : pC (byt b n) (d + 1) 5 o q = pOp (byt b n) (pC (byt b n) d 5 (o + 1)) (pC (byt b n) d 0 (o + 1)) o q := if_neg (by decide)
      rw [er] at hq
      exact m_one (neg := pC (byt b n) d 5 (o + 1)) (par := pC (byt b n) d 0 (o + 1)) hb hn ho (fun q t hq ht => pC_ok hB1 hB2 d 0 (o + 1) q t hq ht) (fun ho6 => ih 5 (o + 1) (D' + 1) (by omega) (by omega) (by omega) (by omega)) (fun ho6 => ih 0 (o + 1) (D' + 1) (by omega) (by omega) (by omega) (by omega)) hqn h hq
