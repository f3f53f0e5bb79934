/-! ===== the model's questions, 2 ===== -/
def amN (f : Nat → Nat) : Nat → Nat
  | 0 => 0
  | k + 1 => if f (amN f k) < f k then k else amN f k
theorem amN_lt (f : Nat → Nat) : ∀ k, amN f k ≤ k - 1 := by
  intro k
  induction k with
  | zero => exact Nat.le_refl _
  | succ k ih => unfold amN; split <;> omega
theorem amN_ag (f : Nat → Nat) : ∀ k, agI f 0 0 (k + 1) = nI (amN f (k + 1)) ∧ mxI f 0 (k + 1) = (f (amN f (k + 1)) : Int) := by
  intro k
  induction k with
  | zero =>
    have e : amN f 1 = 0 := by
      show (if f 0 < f 0 then 0 else 0) = 0
      split <;> rfl
    rw [e]
    by_cases h : (0 : Int) < (f 0 : Int)
    · exact ⟨agI_t h, mxI_t h⟩
    · refine ⟨agI_f h, ?_⟩
      rw [mxI_f h]
      show (0 : Int) = f 0
      omega
  | succ k ih =>
    have e : amN f (k + 1 + 1) = if f (amN f (k + 1)) < f (k + 1) then k + 1 else amN f (k + 1) := rfl
    rw [e]
    by_cases h : f (amN f (k + 1)) < f (k + 1)
    · rw [if_pos h]
      have h2 : mxI f 0 (k + 1) < (f (k + 1) : Int) := by rw [ih.2]; omega
      exact ⟨agI_t h2, mxI_t h2⟩
    · rw [if_neg h]
      have h2 : ¬ mxI f 0 (k + 1) < (f (k + 1) : Int) := by rw [ih.2]; omega
      exact ⟨(agI_f h2).trans ih.1, (mxI_f h2).trans ih.2⟩
def qDeepest (v : am_V) (x w : Int32) : Int32 := if (inR x (vT v) && inR w 2) = true then (if w = 0 then nI (amN (fun m => pop (csit v x.toNatClampNeg m)) 12) else nI (pop (csit v x.toNatClampNeg (amN (fun m => pop (csit v x.toNatClampNeg m)) 12)))) else -1
theorem m_deepest_loop {d t : Nat} {F : am_FT} {L : am_LT} {Q : am_QT} {v : am_V} (h : RM F v) (hv : wV v) (ht : t < vT v) {w : Int32} : ∀ (j k : Nat), k + j = 12 → 1 ≤ k → wt am_S0 (d + 4) mX12_deepest 26 [some (.ref 45), some (.int (nI t)), some (.int w), some (.int (nI (amN (fun m => pop (csit v t m)) k))), some (.int (nI k))] [] F L Q = wt am_S0 (d + 4) mX12_deepest 68 [some (.ref 45), some (.int (nI t)), some (.int w), some (.int (nI (amN (fun m => pop (csit v t m)) 12))), some (.int (nI 12))] [] F L Q := by
  intro j
  induction j with
  | zero =>
    intro k hk h1
    have : k = 12 := by omega
    subst this
    rw [kX12_deepest_26, if_pos (by decide)]
  | succ j ih =>
    intro k hk h1
    have hlt := amN_lt (fun m => pop (csit v t m)) k
    have ih1 := ih (k + 1) (by omega) (by omega)
    have p1 := pop_csit hv t k
    have p2 := pop_csit hv t (amN (fun m => pop (csit v t m)) k)
    have e : amN (fun m => pop (csit v t m)) (k + 1) = if pop (csit v t (amN (fun m => pop (csit v t m)) k)) < pop (csit v t k) then k else amN (fun m => pop (csit v t m)) k := rfl
    rw [kX12_deepest_26, if_neg (show ¬ (12 : Int32) ≤ nI k from nI_ge (b := 12) (by omega) (by decide)), kX12_deepest_33, m_sittersNow h hv ht (by omega)]
    simp only [Option.toList_some, Option.toList_none, List.cons_append, List.nil_append]
    rw [kX12_deepest_40, s_bitsOf (csit_lt hv _ _)]
    simp only [Option.toList_some, Option.toList_none, List.cons_append, List.nil_append]
    rw [kX12_deepest_43, m_sittersNow h hv ht (by omega)]
    simp only [Option.toList_some, Option.toList_none, List.cons_append, List.nil_append]
    rw [kX12_deepest_49, s_bitsOf (csit_lt hv _ _)]
    simp only [Option.toList_some, Option.toList_none, List.cons_append, List.nil_append]
    rw [kX12_deepest_52]
    by_cases h2 : pop (csit v t (amN (fun m => pop (csit v t m)) k)) < pop (csit v t k)
    · rw [e, if_pos h2] at ih1
      rw [if_neg (nI_ge h2 (by omega)), kX12_deepest_55, kX12_deepest_61, nI_1]
      exact ih1
    · rw [e, if_neg h2] at ih1
      rw [if_pos (nI_le (by omega) (by omega)), kX12_deepest_60, kX12_deepest_61, nI_1]
      exact ih1
theorem m_deepest {d : Nat} {F : am_FT} {L : am_LT} {Q : am_QT} {v : am_V} {x w : Int32} (h : MV F v) (hq : Q (some (.int (qDeepest v x w))) F L) : wc am_S0 (d + 50) mX12_deepest [.ref 45, .int x, .int w] F L Q := by
  have hT := h.2.1.1
  unfold qDeepest at hq
  rw [eX12_deepest, kX12_deepest_0, m_isTree h.1 h.2.1]
  simp only [Option.toList_some, Option.toList_none, List.cons_append, List.nil_append]
  rw [kX12_deepest_6]
  cases hx : inR x (vT v)
  · rw [hx, Bool.false_and, if_neg (by decide)] at hq
    rw [if_pos bIf, kX12_deepest_19]
    exact hq
  · obtain ⟨t, ht, rfl⟩ := inR_ex hx (by omega)
    rw [hx, Bool.true_and, nI_clamp (by omega)] at hq
    rw [if_neg bIt, kX12_deepest_9, show (1 : Int64) = (nI 1).toInt64 from rfl, m_w (by decide)]
    simp only [Option.toList_some, Option.toList_none, List.cons_append, List.nil_append]
    rw [kX12_deepest_16]
    cases hw : inR w (1 + 1)
    · rw [show inR w 2 = false from hw, if_neg (by decide)] at hq
      rw [if_neg (by decide), kX12_deepest_19]
      exact hq
    · rw [show inR w 2 = true from hw, if_pos rfl] at hq
      have hlt := amN_lt (fun m => pop (csit v t m)) 12
      have e1 : amN (fun m => pop (csit v t m)) 1 = 0 := by
        show (if _ < _ then 0 else 0) = 0
        split <;> rfl
      rw [if_pos bIt, kX12_deepest_21, show (some (.int 0) : Option Value) = some (.int (nI (amN (fun m => pop (csit v t m)) 1))) by rw [e1]; rfl, show (some (.int 1) : Option Value) = some (.int (nI 1)) from rfl, m_deepest_loop h.1 h.2.1 ht 11 1 rfl (Nat.le_refl _), kX12_deepest_68]
      by_cases h0 : w = 0
      · rw [if_pos h0] at hq
        rw [if_neg (fun hh => hh h0), kX12_deepest_72, kX12_deepest_85]
        exact hq
      · rw [if_neg h0] at hq
        rw [if_pos h0, kX12_deepest_76, m_sittersNow h.1 h.2.1 ht (by omega)]
        simp only [Option.toList_some, Option.toList_none, List.cons_append, List.nil_append]
        rw [kX12_deepest_82, s_bitsOf (csit_lt h.2.1 _ _)]
        simp only [Option.toList_some, Option.toList_none, List.cons_append, List.nil_append]
        rw [kX12_deepest_85]
        exact hq
def qShadiest (v : am_V) (x w : Int32) : Int32 := if (inR x 12 && inR w 2) = true then (if w = 0 then agI (fun p => sho v p x.toNatClampNeg) (-2) 0 (vP v) else iI (mxI (fun p => sho v p x.toNatClampNeg) 0 (vP v))) else -1
theorem m_sho_loop {d m p : Nat} {F : am_FT} {L : am_LT} {Q : am_QT} {v : am_V} (h : RM F v) (hv : wV v) (hm : m < 12) (hp : p < vP v) {l2 l3 l4 : Option Value} : ∀ (j k : Nat), k + j = vT v → wt am_S0 (d + 3) mX12_shadiest 44 [some (.ref 45), some (.int (nI m)), l2, l3, l4, some (.int (nI p)), some (.int (nI (cnt (fun t => vS v t && shd v t m (vN v 1 t) (vN v 4 p)) k))), some (.int (nI k))] [] F L Q = wt am_S0 (d + 3) mX12_shadiest 89 [some (.ref 45), some (.int (nI m)), l2, l3, l4, some (.int (nI p)), some (.int (nI (sho v p m))), some (.int (nI (vT v)))] [] F L Q := by
  have hT := hv.1
  have hP := hv.2.1
  intro j
  induction j with
  | zero =>
    intro k hk
    have : k = vT v := by omega
    subst this
    rw [kX12_shadiest_44, h.1, if_pos (nI_le (Nat.le_refl _) (by omega))]
    rfl
  | succ j ih =>
    intro k hk
    have b4 := lb4 hv hp
    have ih1 := ih (k + 1) (by omega)
    unfold cnt at ih1
    rw [kX12_shadiest_44, h.1, if_neg (nI_ge (by omega) (by omega)), kX12_shadiest_53 (by rw [a30]; exact oobN (by omega) (by decide)), a30, nI_clamp (by omega), mm4 h hp, m_isShadedNow h hv (by omega) hm (by omega)]
    simp only [Option.toList_some, Option.toList_none, List.cons_append, List.nil_append]
    rw [kX12_shadiest_72]
    cases hb : (vS v k && shd v k m (vN v 1 k) (vN v 4 p))
    · simp only [hb] at ih1
      rw [if_pos bIf, kX12_shadiest_79, kX12_shadiest_80, nI_1, show (0 : Int32) = nI 0 from rfl, nI_add]
      exact ih1
    · simp only [hb] at ih1
      rw [if_neg bIt, kX12_shadiest_75, kX12_shadiest_80, nI_1, nI_1]
      exact ih1
theorem m_shadiest_loop {d m : Nat} {F : am_FT} {L : am_LT} {Q : am_QT} {v : am_V} (h : RM F v) (hv : wV v) (hm : m < 12) {w : Int32} : ∀ (j k : Nat) (l6 l7 : Option Value), k + j = vP v → (∀ l5 l6 l7 : Option Value, wt am_S0 (d + 3) mX12_shadiest 125 [some (.ref 45), some (.int (nI m)), some (.int w), some (.int (agI (fun p => sho v p m) (-2) 0 (vP v))), some (.int (iI (mxI (fun p => sho v p m) 0 (vP v)))), l5, l6, l7] [] F L Q) → wt am_S0 (d + 3) mX12_shadiest 29 [some (.ref 45), some (.int (nI m)), some (.int w), some (.int (agI (fun p => sho v p m) (-2) 0 k)), some (.int (iI (mxI (fun p => sho v p m) 0 k))), some (.int (nI k)), l6, l7] [] F L Q := by
  have hP := hv.2.1
  intro j
  induction j with
  | zero =>
    intro k l6 l7 hk hq
    have : k = vP v := by omega
    subst this
    rw [kX12_shadiest_29, h.2.1, if_pos (nI_le (Nat.le_refl _) (by omega))]
    exact hq _ _ _
  | succ j ih =>
    intro k l6 l7 hk hq
    have hb := mxI_b (f := fun p => sho v p m) (m0 := 0) (B := 6) (by decide) (by decide) k fun i _ => sho_le hv i m
    have hp := sho_le hv k m
    rw [kX12_shadiest_29, h.2.1, if_neg (nI_ge (by omega) (by omega)), kX12_shadiest_38]
    refine (m_sho_loop (p := k) h hv hm (by omega) (vT v) 0 (by omega)).mpr ?_
    rw [kX12_shadiest_89, iI_n (sho v k m)]
    have ih1 := fun l6 l7 => ih (k + 1) l6 l7 (by omega) hq
    by_cases h1 : mxI (fun p => sho v p m) 0 k < (sho v k m : Int)
    · rw [agI_t h1, mxI_t h1] at ih1
      have hn := iI_leF h1 (by omega) (by omega) (by omega) (by omega)
      rw [if_neg hn, kX12_shadiest_96, kX12_shadiest_102, if_neg hn, kX12_shadiest_110, kX12_shadiest_117, nI_1]
      exact ih1 _ _
    · rw [agI_f h1, mxI_f h1] at ih1
      have hn : iI (sho v k m : Nat) ≤ iI (mxI (fun p => sho v p m) 0 k) := iI_leT (by omega) (by omega) (by omega) (by omega) (by omega)
      rw [if_pos hn, kX12_shadiest_101, kX12_shadiest_102, if_pos hn, kX12_shadiest_115, kX12_shadiest_117, nI_1]
      exact ih1 _ _
theorem m_shadiest {d : Nat} {F : am_FT} {L : am_LT} {Q : am_QT} {v : am_V} {x w : Int32} (h : MV F v) (hq : Q (some (.int (qShadiest v x w))) F L) : wc am_S0 (d + 50) mX12_shadiest [.ref 45, .int x, .int w] F L Q := by
  unfold qShadiest at hq
  rw [eX12_shadiest, kX12_shadiest_0, m_isMonth]
  simp only [Option.toList_some, Option.toList_none, List.cons_append, List.nil_append]
  rw [kX12_shadiest_5]
  cases hx : inR x 12
  · rw [hx, Bool.false_and, if_neg (by decide)] at hq
    rw [if_pos bIf, kX12_shadiest_18]
    exact hq
  · obtain ⟨m, hm, rfl⟩ := inR_ex hx (by decide)
    rw [hx, Bool.true_and, nI_clamp (by omega)] at hq
    rw [if_neg bIt, kX12_shadiest_8, show (1 : Int64) = (nI 1).toInt64 from rfl, m_w (by decide)]
    simp only [Option.toList_some, Option.toList_none, List.cons_append, List.nil_append]
    rw [kX12_shadiest_15]
    cases hw : inR w (1 + 1)
    · rw [show inR w 2 = false from hw, if_neg (by decide)] at hq
      rw [if_neg (by decide), kX12_shadiest_18]
      exact hq
    · rw [show inR w 2 = true from hw, if_pos rfl] at hq
      rw [if_pos bIt, kX12_shadiest_20]
      refine m_shadiest_loop h.1 h.2.1 hm (vP v) 0 _ _ (by omega) ?_
      intro l5 l6 l7
      rw [kX12_shadiest_125]
      by_cases h0 : w = 0
      · rw [if_pos h0] at hq
        rw [if_neg (fun hh => hh h0), kX12_shadiest_129, kX12_shadiest_135]
        exact hq
      · rw [if_neg h0] at hq
        rw [if_pos h0, kX12_shadiest_133, kX12_shadiest_135]
        exact hq
/-- two trees told together -/
def abR (v : am_V) (x : Int32) : Bool := decide (¬ x < 0) && (inR (x / 10) (vT v) && inR (x - x / 10 * 10) (vT v))
def qAlike (v : am_V) (x m : Int32) : Int32 := if (abR v x && inR m 12) = true then bI (sam v (x / 10).toNatClampNeg (x - x / 10 * 10).toNatClampNeg m.toNatClampNeg 256 0) else -1
theorem m_alike_loop {d a b m : Nat} {F : am_FT} {L : am_LT} {Q : am_QT} {v : am_V} {x : Int32} (h : RM F v) (hv : wV v) (ha : a < vT v) (hb : b < vT v) (hm : m < 12) (hx1 : x / 10 = nI a) (hx2 : x - x / 10 * 10 = nI b) : ∀ (j k : Nat), k + j = 256 → wt am_S0 (d + 3) mX12_alike 40 [some (.ref 45), some (.int x), some (.int (nI m)), some (.int (nI k))] [] F L Q = Q (some (.int (bI (sam v a b m j k)))) F L := by
  intro j
  induction j with
  | zero =>
    intro k hk
    have : k = 256 := by omega
    subst this
    rw [kX12_alike_40, if_pos (by decide), kX12_alike_78]
    rfl
  | succ j ih =>
    intro k hk
    rw [kX12_alike_40, if_neg (show ¬ (256 : Int32) ≤ nI k from nI_ge (b := 256) (by omega) (by decide)), kX12_alike_47, hx1, m_isShadedNow h hv ha hm (by omega)]
    simp only [Option.toList_some, Option.toList_none, List.cons_append, List.nil_append]
    rw [kX12_alike_57, hx2, m_isShadedNow h hv hb hm (by omega)]
    simp only [Option.toList_some, Option.toList_none, List.cons_append, List.nil_append]
    rw [kX12_alike_67]
    unfold sam
    by_cases he : (vS v a && shd v a m (vN v 1 a) k) = (vS v b && shd v b m (vN v 1 b) k)
    · rw [if_pos he, if_pos (by rw [he]), kX12_alike_72, nI_1, ih (k + 1) (by omega)]
    · rw [if_neg he, if_neg (by rw [bI_inj]; exact he), kX12_alike_70]
      rfl
theorem m_alike {d : Nat} {F : am_FT} {L : am_LT} {Q : am_QT} {v : am_V} {x y : Int32} (h : MV F v) (hq : Q (some (.int (qAlike v x y))) F L) : wc am_S0 (d + 50) mX12_alike [.ref 45, .int x, .int y] F L Q := by
  have hT := h.2.1.1
  unfold qAlike abR at hq
  rw [eX12_alike, kX12_alike_0]
  by_cases h0 : x < 0
  · rw [decide_eq_false (fun hh => hh h0), Bool.false_and, Bool.false_and, if_neg (by decide)] at hq
    rw [if_pos h0, kX12_alike_36]
    exact hq
  · rw [decide_eq_true h0, Bool.true_and] at hq
    rw [if_neg h0, kX12_alike_4, m_isTree h.1 h.2.1]
    simp only [Option.toList_some, Option.toList_none, List.cons_append, List.nil_append]
    rw [kX12_alike_13]
    cases ha : inR (x / 10) (vT v)
    · rw [ha, Bool.false_and, Bool.false_and, if_neg (by decide)] at hq
      rw [if_pos bIf, kX12_alike_36]
      exact hq
    · rw [ha, Bool.true_and] at hq
      rw [if_neg bIt, kX12_alike_16, m_isTree h.1 h.2.1]
      simp only [Option.toList_some, Option.toList_none, List.cons_append, List.nil_append]
      rw [kX12_alike_25]
      cases hb : inR (x - x / 10 * 10) (vT v)
      · rw [hb, Bool.false_and, if_neg (by decide)] at hq
        rw [if_pos bIf, kX12_alike_36]
        exact hq
      · rw [hb, Bool.true_and] at hq
        rw [if_neg bIt, kX12_alike_28, m_isMonth]
        simp only [Option.toList_some, Option.toList_none, List.cons_append, List.nil_append]
        rw [kX12_alike_33]
        cases hm : inR y 12
        · rw [hm, if_neg (by decide)] at hq
          rw [if_neg (by decide), kX12_alike_36]
          exact hq
        · rw [hm, if_pos rfl] at hq
          obtain ⟨a, a1, a2⟩ := inR_ex ha (by omega)
          obtain ⟨b, b1, b2⟩ := inR_ex hb (by omega)
          obtain ⟨m, m1, rfl⟩ := inR_ex hm (by decide)
          rw [a2, nI_clamp (by omega)] at hq
          rw [show x - nI a * 10 = nI b by rw [← a2]; exact b2, nI_clamp (by omega), nI_clamp (by omega)] at hq
          rw [if_pos bIt, kX12_alike_38]
          exact (m_alike_loop h.1 h.2.1 a1 b1 m1 a2 b2 256 0 rfl).mpr hq
