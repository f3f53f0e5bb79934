/-! ===== shelves, neutral and the model's; books ===== -/
/-- what a shelf holds (0 nothing, 1 + b a voter, 51 + s a row), how many, what -/
abbrev am_Sh : Type := Nat → Nat × Nat × (Nat → Int64)
def sK (sh : am_Sh) (d : Nat) : Nat := (sh d).1
def sM (sh : am_Sh) (d : Nat) : Nat := (sh d).2.1
def sE (sh : am_Sh) (d : Nat) : Nat → Int64 := (sh d).2.2
def skI (k : Nat) : Int32 := iI ((k : Int) - 1)
def wS (sh : am_Sh) (nb : Nat) : Prop := ∀ d, d < 6 → sK sh d ≤ 55 ∧ sM sh d ≤ 60 ∧ (sK sh d ≤ 50 → sM sh d = 0) ∧ (1 ≤ sK sh d → sK sh d ≤ 50 → sK sh d ≤ nb)
def RSm (F : am_FT) (L : am_LT) (sh : am_Sh) : Prop := ∀ d, d < 6 → F 59 d = skI (sK sh d) ∧ F 60 d = nI (sM sh d) ∧ ∀ i, i < 60 → L 61 (60 * d + i) = sE sh d i
theorem RSm_qM {F G : am_FT} {L : am_LT} {sh : am_Sh} (h : RSm F L sh) (g : qM F G) : RSm G L sh := by
  unfold RSm
  rw [g.1 59 (by decide) (by decide), g.1 60 (by decide) (by decide)]
  exact h
theorem skI_s (k : Nat) : skI (k + 1) = nI k := by
  unfold skI
  rw [iI_n]; congr 1; omega
theorem skI_0 : skI 0 = -1 := rfl
theorem skI_ge {k : Nat} (hk : k ≤ 55) : (0 ≤ skI k) = (1 ≤ k) := by
  rcases Nat.eq_zero_or_pos k with h | h
  · subst h; exact propext ⟨fun hh => absurd hh (by decide), fun hh => absurd hh (by omega)⟩
  · rw [show k = (k - 1) + 1 by omega, skI_s]
    exact propext ⟨fun _ => by omega, fun _ => nlt0 (by omega)⟩
theorem m_isShelf {d : Nat} {F : am_FT} {L : am_LT} {Q : am_QT} {x : Int32} : wc am_S0 (d + 1) mX12_isShelf [.int x] F L Q = Q (some (.int (bI (inR x 6)))) F L := by
  rw [eX12_isShelf, kX12_isShelf_0, show (5 : Int64) = (nI 5).toInt64 from rfl, m_w (by decide)]
  simp only [Option.toList_some, Option.toList_none, List.cons_append, List.nil_append]
  rw [kX12_isShelf_9 nb_b]
def bytI (sh : am_Sh) (x : Int32) : Int32 := if inR x 6 = true then (if sK sh x.toNatClampNeg = 0 then -11 else if sK sh x.toNatClampNeg = 51 then 1 else -12) else -1
theorem m_bytesIs {d nb : Nat} {F : am_FT} {L : am_LT} {Q : am_QT} {sh : am_Sh} {x : Int32} (h : RSm F L sh) (hw : wS sh nb) : wc am_S0 (d + 2) mX12_bytesIs [.ref 45, .int x] F L Q = Q (some (.int (bytI sh x))) F L := by
  unfold bytI
  rw [eX12_bytesIs, kX12_bytesIs_0, m_isShelf]
  simp only [Option.toList_some, Option.toList_none, List.cons_append, List.nil_append]
  rw [kX12_bytesIs_4]
  cases hx : inR x 6
  · rw [if_neg (by decide), kX12_bytesIs_7, kX12_bytesIs_42]; rfl
  · obtain ⟨k, k1, rfl⟩ := inR_ex hx (by decide)
    have hk := (hw k k1).1
    rw [if_pos bIt, kX12_bytesIs_11 (oobN k1 (by decide)), nI_clamp (by omega), (h k k1).1, if_pos rfl]
    by_cases h0 : sK sh k = 0
    · rw [h0, if_neg (by decide), kX12_bytesIs_20, kX12_bytesIs_42, if_pos rfl]
    · obtain ⟨s, hs⟩ : ∃ s, sK sh k = s + 1 := ⟨sK sh k - 1, by omega⟩
      rw [hs, skI_s, if_pos (nlt0 (by omega)), kX12_bytesIs_25 (oobN k1 (by decide)), nI_clamp (by omega), (h k k1).1, hs, skI_s, if_neg (show ¬ s + 1 = 0 by omega)]
      by_cases h51 : s + 1 = 51
      · rw [if_neg (fun hh => hh (show nI s = (50 : Int32) by rw [show s = 50 by omega]; rfl)), kX12_bytesIs_36, kX12_bytesIs_42, if_pos h51]
      · rw [if_pos (show ¬ nI s = (50 : Int32) from nI_ne (x := 50) (by omega) (by decide) (by omega)), kX12_bytesIs_40, kX12_bytesIs_42, if_neg h51]
def fww (v : am_V) (t : Nat) (el : Nat → Int64) (n W : Nat) : Nat → Nat → Int32
  | 0, _ => -2
  | j + 1, k => if wsd el n k = true then (if pas v t (moN el k) (vN v 1 t) (cov v t (moN el k) (vN v 1 t)) W = decide (el (2 * k + 1) = 1) then fww v t el n W j (k + 1) else nI k) else nI k
theorem fww_r (v : am_V) (t : Nat) (el : Nat → Int64) (n : Nat) : ∀ j k, fwr v t el n j k = fww v t el n (wsh v t) j k := by
  intro j
  induction j with
  | zero => intro k; rfl
  | succ j ih =>
    intro k
    unfold fwr fww
    rw [ih (k + 1)]
    rfl
theorem i64_11 (x : Int64) : (11 < x) = (12 ≤ x) := by
  rw [Int64.lt_iff_toInt_lt, Int64.le_iff_toInt_le]
  exact propext ⟨fun h => by have : (11 : Int64).toInt = 11 := rfl; have : (12 : Int64).toInt = 12 := rfl; omega, fun h => by have : (11 : Int64).toInt = 11 := rfl; have : (12 : Int64).toInt = 12 := rfl; omega⟩
theorem i64_01 (x : Int64) : (¬ x < 0 ∧ ¬ 1 < x) = (x = 0 ∨ x = 1) := by
  rw [Int64.lt_iff_toInt_lt, Int64.lt_iff_toInt_lt, ← Int64.toInt_inj, ← Int64.toInt_inj]
  have e0 : (0 : Int64).toInt = 0 := rfl
  have e1 : (1 : Int64).toInt = 1 := rfl
  rw [e0, e1]
  exact propext ⟨fun h => by omega, fun h => by omega⟩
theorem m_isMonthL {d : Nat} {F : am_FT} {L : am_LT} {Q : am_QT} {x : Int64} : wc am_S0 (d + 1) mX12_isMonth [.long x] F L Q = Q (some (.int (bI (decide (¬ x < 0 ∧ ¬ 12 ≤ x))))) F L := by
  rw [eX12_isMonth, kX12_isMonth_0, s_mwl]
  simp only [i64_11]
  simp only [Option.toList_some, Option.toList_none, List.cons_append, List.nil_append]
  rw [kX12_isMonth_8 nb_b]
theorem m_ff2_loop {dd d n t W : Nat} {L : am_LT} {Q : am_QT} {v : am_V} {sh : am_Sh} (hd : d < 6) (hn : sM sh d = n) (hn60 : n ≤ 60) (ht : t < vT v) (hW : W < 1024) : ∀ (j k : Nat) (F : am_FT) (l5 l6 : Option Value), k + j = (n + 1) / 2 → MV F v → RSm F L sh → (∀ G, qM F G → Q (some (.int (fww v t (sE sh d) n W j k))) G L) → wt am_S0 (dd + 49) mX12_firstFalse 3 [some (.ref 45), some (.int (nI d)), some (.int (nI t)), some (.int (nI W)), some (.int (nI k)), l5, l6] [] F L Q := by
  intro j
  induction j with
  | zero =>
    intro k F l5 l6 hk h hr hq
    rw [kX12_firstFalse_3 (oobN hd (by decide)), nI_clamp (by omega), (hr d hd).2.1, hn, nI_2k, if_pos (nI_le (by omega) (by omega)), kX12_firstFalse_131]
    exact hq F (qM_rf F)
  | succ j ih =>
    intro k F l5 l6 hk h hr hq
    have e : fww v t (sE sh d) n W (j + 1) k = if wsd (sE sh d) n k = true then (if pas v t (moN (sE sh d) k) (vN v 1 t) (cov v t (moN (sE sh d) k) (vN v 1 t)) W = decide (sE sh d (2 * k + 1) = 1) then fww v t (sE sh d) n W j (k + 1) else nI k) else nI k := rfl
    have ew : wsd (sE sh d) n k = (decide (2 * k + 1 < n) && (decide (¬ sE sh d (2 * k) < 0 ∧ ¬ 12 ≤ sE sh d (2 * k)) && (decide (sE sh d (2 * k + 1) = 0) || decide (sE sh d (2 * k + 1) = 1)))) := rfl
    have bad : ∀ l5 l6 : Option Value, wsd (sE sh d) n k = false → wt am_S0 (dd + 49) mX12_firstFalse 72 [some (.ref 45), some (.int (nI d)), some (.int (nI t)), some (.int (nI W)), some (.int (nI k)), l5, l6] [] F L Q := by
      intro l5 l6 hb
      rw [hb, if_neg (by decide)] at e
      rw [kX12_firstFalse_72, ← e]
      exact hq F (qM_rf F)
    have ea : (60 : Int32) * nI d + nI (2 * k) = nI (60 * d + 2 * k) := by
      rw [iI_l, iI_n, iI_n, iI_n, iI_mul, iI_add]; congr 1
    rw [kX12_firstFalse_3 (oobN hd (by decide)), nI_clamp (by omega), (hr d hd).2.1, hn, nI_2k, if_neg (nI_ge (by omega) (by omega)), kX12_firstFalse_16, nI_2k, nI_1, ea, kX12_firstFalse_38 (oobN hd (by decide)), nI_clamp (by omega), (hr d hd).2.1, hn]
    by_cases h1 : 2 * k + 1 < n
    · rw [decide_eq_true h1, Bool.true_and] at ew
      have o1 : am_oob (nI (60 * d + 2 * k)) 360 = false := oobN (by omega) (by decide)
      have o2 : am_oob (nI (60 * d + 2 * k) + 1) 360 = false := by rw [nI_1]; exact oobN (by omega) (by decide)
      have e1 : L 61 (60 * d + 2 * k) = sE sh d (2 * k) := (hr d hd).2.2 (2 * k) (by omega)
      have e2 : L 61 (60 * d + 2 * k + 1) = sE sh d (2 * k + 1) := (hr d hd).2.2 (2 * k + 1) (by omega)
      rw [if_neg (nI_ge h1 (by omega)), kX12_firstFalse_42 o1, nI_clamp (by omega), e1, m_isMonthL]
      simp only [Option.toList_some, Option.toList_none, List.cons_append, List.nil_append]
      rw [kX12_firstFalse_52]
      cases hm : decide (¬ sE sh d (2 * k) < 0 ∧ ¬ 12 ≤ sE sh d (2 * k))
      · rw [hm, Bool.false_and] at ew
        rw [if_pos bIf]
        exact bad _ _ ew
      · rw [hm, Bool.true_and, ← Bool.decide_or] at ew
        rw [if_neg bIt, kX12_firstFalse_55 o2, nI_1, nI_clamp (by omega), e2, s_mwl]
        simp only [i64_01]
        simp only [Option.toList_some, Option.toList_none, List.cons_append, List.nil_append]
        rw [kX12_firstFalse_69]
        cases hf : decide (sE sh d (2 * k + 1) = 0 ∨ sE sh d (2 * k + 1) = 1)
        · rw [hf] at ew
          rw [if_neg (by decide)]
          exact bad _ _ ew
        · rw [hf] at ew
          obtain ⟨w1, w2, w3⟩ := wsd_mo ew
          rw [ew, if_pos rfl] at e
          rw [if_pos bIt, kX12_firstFalse_75 o1, nI_clamp (by omega), e1, w2, m_sittersIn h.1 h.2.1 ht w1]
          simp only [Option.toList_some, Option.toList_none, List.cons_append, List.nil_append]
          rw [kX12_firstFalse_96]
          apply m_doesFall h ht (cov_lt h.2.1 _ _ _) hW
          intro G g1
          have hqe := hq
          rw [e] at hqe
          have last : ∀ y : Int32, y = bI (decide (sE sh d (2 * k + 1) = 1)) → wt am_S0 (dd + 49) mX12_firstFalse 119 [some (.ref 45), some (.int (nI d)), some (.int (nI t)), some (.int (nI W)), some (.int (nI k)), some (.int (nI (60 * d + 2 * k))), some (.int (nI (moN (sE sh d) k)))] [.int y, .int (bI (pas v t (moN (sE sh d) k) (vN v 1 t) (cov v t (moN (sE sh d) k) (vN v 1 t)) W))] G L Q := by
            intro y hy
            rw [kX12_firstFalse_119, hy]
            by_cases hp : pas v t (moN (sE sh d) k) (vN v 1 t) (cov v t (moN (sE sh d) k) (vN v 1 t)) W = decide (sE sh d (2 * k + 1) = 1)
            · rw [if_pos hp] at hqe
              rw [if_pos (by rw [hp]), kX12_firstFalse_125, nI_1]
              exact ih (k + 1) G _ _ (by omega) (qM_MV g1 h) (RSm_qM hr g1) fun H h1 => hqe H (qM_tr g1 h1)
            · rw [if_neg hp] at hqe
              rw [if_neg (by rw [bI_inj]; exact hp), kX12_firstFalse_122]
              exact hqe G g1
          simp only [Option.toList_some, Option.toList_none, List.cons_append, List.nil_append]
          rw [kX12_firstFalse_100 o2, nI_1, nI_clamp (by omega), e2]
          by_cases h5 : sE sh d (2 * k + 1) = 1
          · rw [if_neg (fun hh => hh ((lg_cmp_eq _ _).mpr h5)), kX12_firstFalse_114]
            exact last 1 (by rw [decide_eq_true h5]; rfl)
          · rw [if_pos (fun hh => h5 ((lg_cmp_eq _ _).mp hh)), kX12_firstFalse_118]
            exact last 0 (by rw [decide_eq_false h5]; rfl)
    · rw [decide_eq_false h1, Bool.false_and] at ew
      rw [if_pos (nI_le (by omega) (by omega))]
      exact bad _ _ ew
theorem m_firstFalse {dd d n t W : Nat} {F : am_FT} {L : am_LT} {Q : am_QT} {v : am_V} {sh : am_Sh} (hd : d < 6) (hn : sM sh d = n) (hn60 : n ≤ 60) (ht : t < vT v) (hW : W < 1024) (h : MV F v) (hr : RSm F L sh) (hq : ∀ G, qM F G → Q (some (.int (fww v t (sE sh d) n W ((n + 1) / 2) 0))) G L) : wc am_S0 (dd + 49) mX12_firstFalse [.ref 45, .int (nI d), .int (nI t), .int (nI W)] F L Q := by
  rw [eX12_firstFalse, kX12_firstFalse_0, show (some (.int 0) : Option Value) = some (.int (nI 0)) from rfl]
  exact m_ff2_loop hd hn hn60 ht hW ((n + 1) / 2) 0 F _ _ (by omega) h hr hq
def qJudge (v : am_V) (sh : am_Sh) (x y : Int32) : Int32 := if (inR x 6 && inR y (vT v)) = true then (if sK sh x.toNatClampNeg = 0 then -11 else if sK sh x.toNatClampNeg = 51 then fwr v y.toNatClampNeg (sE sh x.toNatClampNeg) (sM sh x.toNatClampNeg) ((sM sh x.toNatClampNeg + 1) / 2) 0 else -12) else -1
theorem byt_ne {sh : am_Sh} {x : Int32} (h : inR x 6 = true) : ¬ bytI sh x = -1 := by
  unfold bytI
  rw [if_pos h]
  split
  · decide
  · split <;> decide
theorem m_judge {d nb : Nat} {F : am_FT} {L : am_LT} {Q : am_QT} {v : am_V} {sh : am_Sh} {x y : Int32} (h : MV F v) (hr : RSm F L sh) (hw : wS sh nb) (hq : ∀ G, qM F G → Q (some (.int (qJudge v sh x y))) G L) : wc am_S0 (d + 50) mX12_judge [.ref 45, .int x, .int y] F L Q := by
  have hT := h.2.1.1
  unfold qJudge at hq
  rw [eX12_judge, kX12_judge_0, m_bytesIs hr hw]
  simp only [Option.toList_some, Option.toList_none, List.cons_append, List.nil_append]
  rw [kX12_judge_5]
  cases hx : inR x 6
  · have e : bytI sh x = -1 := by
      unfold bytI
      rw [hx]; rfl
    rw [hx, Bool.false_and, if_neg (by decide)] at hq
    rw [if_pos e, kX12_judge_18, kX12_judge_49]
    exact hq F (qM_rf F)
  · rw [hx, Bool.true_and] at hq
    rw [if_neg (byt_ne hx), kX12_judge_9, m_isTree h.1 h.2.1]
    simp only [Option.toList_some, Option.toList_none, List.cons_append, List.nil_append]
    rw [kX12_judge_15]
    cases hy : inR y (vT v)
    · rw [hy, if_neg (by decide)] at hq
      rw [if_neg (by decide), kX12_judge_18, kX12_judge_49]
      exact hq F (qM_rf F)
    · rw [hy, if_pos rfl] at hq
      have eb : bytI sh x = if sK sh x.toNatClampNeg = 0 then -11 else if sK sh x.toNatClampNeg = 51 then 1 else -12 := by
        unfold bytI
        rw [hx, if_pos rfl]
      obtain ⟨k, k1, rfl⟩ := inR_ex hx (by decide)
      obtain ⟨t, t1, rfl⟩ := inR_ex hy (by omega)
      rw [nI_clamp (by omega)] at eb
      rw [nI_clamp (by omega), nI_clamp (by omega)] at hq
      rw [if_pos bIt, kX12_judge_22, m_bytesIs hr hw, eb]
      simp only [Option.toList_some, Option.toList_none, List.cons_append, List.nil_append]
      rw [kX12_judge_27]
      by_cases h0 : sK sh k = 0
      · rw [if_pos h0] at hq eb
        rw [if_pos h0, if_neg (by decide), kX12_judge_30, m_bytesIs hr hw, eb]
        simp only [Option.toList_some, Option.toList_none, List.cons_append, List.nil_append]
        rw [kX12_judge_35, kX12_judge_49]
        exact hq F (qM_rf F)
      · rw [if_neg h0] at hq eb
        rw [if_neg h0]
        by_cases h51 : sK sh k = 51
        · rw [if_pos h51, fww_r] at hq
          rw [if_pos h51, if_pos (by decide), kX12_judge_38, m_wishers h.1 h.2.1 t1]
          simp only [Option.toList_some, Option.toList_none, List.cons_append, List.nil_append]
          rw [kX12_judge_46]
          apply m_firstFalse k1 rfl (hw k k1).2.1 t1 (wsh_lt h.2.1 t) h hr
          intro G g1
          simp only [Option.toList_some, Option.toList_none, List.cons_append, List.nil_append]
          rw [kX12_judge_49]
          exact hq G g1
        · rw [if_neg h51] at hq eb
          rw [if_neg h51, if_neg (by decide), kX12_judge_30, m_bytesIs hr hw, eb]
          simp only [Option.toList_some, Option.toList_none, List.cons_append, List.nil_append]
          rw [kX12_judge_35, kX12_judge_49]
          exact hq F (qM_rf F)
/-! whose wishes: the model's sets are those that the class doesn't rule out -/
def okW (v : am_V) (t : Nat) (el : Nat → Int64) (n s : Nat) : Bool := decide (fww v t el n s ((n + 1) / 2) 0 = -2)
theorem fww_ok (v : am_V) (t : Nat) (el : Nat → Int64) (n W : Nat) : ∀ j k, k + j < 100 → (fww v t el n W j k = -2 ↔ ∀ i, k ≤ i → i < k + j → wsd el n i = true ∧ pas v t (moN el i) (vN v 1 t) (cov v t (moN el i) (vN v 1 t)) W = decide (el (2 * i + 1) = 1)) := by
  intro j
  induction j with
  | zero => intro k _; exact ⟨fun _ i h1 h2 => absurd h2 (by omega), fun _ => rfl⟩
  | succ j ih =>
    intro k hk
    have hne : ¬ nI k = -2 := fun h => by
      have h2 : ¬ nI k < 0 := nI_pos (by omega)
      rw [h] at h2
      exact h2 (by decide)
    unfold fww
    by_cases h1 : wsd el n k = true
    · rw [if_pos h1]
      by_cases h2 : pas v t (moN el k) (vN v 1 t) (cov v t (moN el k) (vN v 1 t)) W = decide (el (2 * k + 1) = 1)
      · rw [if_pos h2, ih (k + 1) (by omega)]
        constructor
        · intro hh i i1 i2
          by_cases hi : i = k
          · subst hi; exact ⟨h1, h2⟩
          · exact hh i (by omega) (by omega)
        · intro hh i i1 i2; exact hh i (by omega) (by omega)
      · rw [if_neg h2]
        exact ⟨fun hh => absurd hh hne, fun hh => absurd (hh k (Nat.le_refl _) (by omega)).2 h2⟩
    · rw [if_neg h1]
      exact ⟨fun hh => absurd hh hne, fun hh => absurd (hh k (Nat.le_refl _) (by omega)).1 h1⟩
theorem mbt_bit (el : Nat → Int64) (w : Bool) : ∀ k m, (mbt el w k).testBit m = true ↔ ∃ i, i < k ∧ moN el i = m ∧ decide (el (2 * i + 1) = 1) = w := by
  intro k
  induction k with
  | zero =>
    intro m
    show (0 : Nat).testBit m = true ↔ _
    rw [Nat.zero_testBit]
    exact ⟨fun h => Bool.noConfusion h, fun ⟨i, h, _⟩ => absurd h (by omega)⟩
  | succ k ih =>
    intro m
    unfold mbt
    by_cases h : decide (el (2 * k + 1) = 1) = w
    · rw [if_pos h, Nat.testBit_or, Bool.or_eq_true, ih m, Nat.testBit_two_pow, decide_eq_true_eq]
      constructor
      · rintro (⟨i, a, b, c⟩ | a)
        · exact ⟨i, by omega, b, c⟩
        · exact ⟨k, by omega, a, h⟩
      · rintro ⟨i, a, b, c⟩
        by_cases hi : i = k
        · subst hi; exact Or.inr b
        · exact Or.inl ⟨i, by omega, b, c⟩
    · rw [if_neg h, ih m]
      constructor
      · rintro ⟨i, a, b, c⟩; exact ⟨i, by omega, b, c⟩
      · rintro ⟨i, a, b, c⟩
        by_cases hi : i = k
        · subst hi; exact absurd c h
        · exact ⟨i, by omega, b, c⟩
theorem rul_t (v : am_V) (t fb sb s : Nat) : ∀ k, rul v t fb sb s k = true ↔ ∃ m, m < k ∧ rlc v t fb sb m s = true := by
  intro k
  induction k with
  | zero => exact ⟨fun h => Bool.noConfusion h, fun ⟨m, h, _⟩ => absurd h (by omega)⟩
  | succ k ih =>
    unfold rul
    rw [Bool.or_eq_true, ih]
    constructor
    · rintro (⟨m, a, b⟩ | a)
      · exact ⟨m, by omega, b⟩
      · exact ⟨k, by omega, a⟩
    · rintro ⟨m, a, b⟩
      by_cases hm : m = k
      · subst hm; exact Or.inr b
      · exact Or.inl ⟨m, by omega, b⟩
theorem and_0 {a b : Nat} : a &&& b = 0 ↔ ∀ m, ¬ (a.testBit m = true ∧ b.testBit m = true) := by
  constructor
  · intro h m hh
    have e : (a &&& b).testBit m = false := by rw [h, Nat.zero_testBit]
    rw [Nat.testBit_and, hh.1, hh.2] at e
    cases e
  · intro h
    apply Nat.eq_of_testBit_eq
    intro m
    rw [Nat.testBit_and, Nat.zero_testBit]
    have := h m
    cases h1 : a.testBit m
    · rfl
    · cases h2 : b.testBit m
      · rfl
      · exact absurd ⟨h1, h2⟩ this
theorem pas_sf (v : am_V) (t m h S s : Nat) : pas v t m h S s = decide (sfm v t m h S S < 2 * sfm v t m h S s) := by
  rw [pas_2]
  unfold sfm
  rw [pasA_sw v t m h S s]
theorem okW_r (v : am_V) (t : Nat) (el : Nat → Int64) (n s : Nat) (hn : n ≤ 60) : okW v t el n s = ((wsA el n ((n + 1) / 2) 0 && decide (mbt el true ((n + 1) / 2) &&& mbt el false ((n + 1) / 2) = 0)) && !(rul v t (mbt el true ((n + 1) / 2)) (mbt el false ((n + 1) / 2)) s 12)) := by
  unfold okW
  rw [Bool.eq_iff_iff, decide_eq_true_eq, fww_ok v t el n s _ 0 (by omega), Bool.and_eq_true, Bool.and_eq_true, wsA_t, decide_eq_true_eq, and_0, Bool.not_eq_true', ← Bool.not_eq_true, rul_t]
  constructor
  · intro h
    refine ⟨⟨fun i i1 i2 => (h i i1 i2).1, ?_⟩, ?_⟩
    · rintro m ⟨h1, h2⟩
      obtain ⟨i, i1, i2, i3⟩ := (mbt_bit el true _ m).mp h1
      obtain ⟨j, j1, j2, j3⟩ := (mbt_bit el false _ m).mp h2
      have a := (h i (Nat.zero_le _) (by omega)).2
      have b := (h j (Nat.zero_le _) (by omega)).2
      rw [i2, i3] at a
      rw [j2, j3, a] at b
      cases b
    · rintro ⟨m, m1, m2⟩
      unfold rlc at m2
      rw [Bool.and_eq_true, Nat.testBit_or, Bool.or_eq_true, ← pas_sf] at m2
      rcases m2.1 with h1 | h1
      · obtain ⟨i, i1, i2, i3⟩ := (mbt_bit el true _ m).mp h1
        have a := (h i (Nat.zero_le _) (by omega)).2
        rw [i2, i3] at a
        rw [a, h1] at m2
        exact Bool.noConfusion m2.2
      · obtain ⟨j, j1, j2, j3⟩ := (mbt_bit el false _ m).mp h1
        have b := (h j (Nat.zero_le _) (by omega)).2
        rw [j2, j3] at b
        rw [b] at m2
        cases ht : (mbt el true ((n + 1) / 2)).testBit m
        · rw [ht] at m2; exact Bool.noConfusion m2.2
        · obtain ⟨i, i1, i2, i3⟩ := (mbt_bit el true _ m).mp ht
          have a := (h i (Nat.zero_le _) (by omega)).2
          rw [i2, i3, b] at a
          cases a
  · rintro ⟨⟨h1, h2⟩, h3⟩ i i1 i2
    have hw := h1 i i1 i2
    refine ⟨hw, ?_⟩
    have hm := wsd_mo hw
    rcases hf : decide (el (2 * i + 1) = 1) with _ | _
    · have hb := (mbt_bit el false ((n + 1) / 2) (moN el i)).mpr ⟨i, by omega, rfl, hf⟩
      have hb2 : (mbt el true ((n + 1) / 2)).testBit (moN el i) = false := by
        cases hb3 : (mbt el true ((n + 1) / 2)).testBit (moN el i)
        · rfl
        · exact absurd ⟨hb3, hb⟩ (h2 _)
      cases hp : pas v t (moN el i) (vN v 1 t) (cov v t (moN el i) (vN v 1 t)) s
      · rfl
      · refine absurd ⟨moN el i, hm.1, ?_⟩ h3
        unfold rlc
        rw [← pas_sf, hp, Nat.testBit_or, hb, hb2]; rfl
    · have hb := (mbt_bit el true ((n + 1) / 2) (moN el i)).mpr ⟨i, by omega, rfl, hf⟩
      cases hp : pas v t (moN el i) (vN v 1 t) (cov v t (moN el i) (vN v 1 t)) s
      · refine absurd ⟨moN el i, hm.1, ?_⟩ h3
        unfold rlc
        rw [← pas_sf, hp, Nat.testBit_or, hb]; rfl
      · rfl
theorem fwO_ok (v : am_V) (t : Nat) (el : Nat → Int64) (n : Nat) (hn : n ≤ 60) : (fwO v t el n).1 = cnt (okW v t el n) (2 ^ vP v) ∧ (cnt (okW v t el n) (2 ^ vP v) ≠ 0 → (fwO v t el n).2.1 = lst (okW v t el n) (2 ^ vP v) ∧ (fwO v t el n).2.2 = crt (okW v t el n) (2 ^ vP v - 1) (2 ^ vP v)) := by
  have e : okW v t el n = fun s => ((wsA el n ((n + 1) / 2) 0 && decide (mbt el true ((n + 1) / 2) &&& mbt el false ((n + 1) / 2) = 0)) && !(rul v t (mbt el true ((n + 1) / 2)) (mbt el false ((n + 1) / 2)) s 12)) := by
    funext s
    exact okW_r v t el n s hn
  unfold fwO
  rw [e]
  cases (wsA el n ((n + 1) / 2) 0 && decide (mbt el true ((n + 1) / 2) &&& mbt el false ((n + 1) / 2) = 0))
  · rw [if_neg (by decide)]
    have e2 : cnt (fun s => (false && !(rul v t (mbt el true ((n + 1) / 2)) (mbt el false ((n + 1) / 2)) s 12))) (2 ^ vP v) = 0 := cnt_false fun k _ => Bool.false_and _
    rw [e2]
    exact ⟨rfl, fun h => absurd rfl h⟩
  · rw [if_pos rfl]
    have e3 : (fun s => (true && !(rul v t (mbt el true ((n + 1) / 2)) (mbt el false ((n + 1) / 2)) s 12))) = fun s => !(rul v t (mbt el true ((n + 1) / 2)) (mbt el false ((n + 1) / 2)) s 12) := by
      funext s
      exact Bool.true_and _
    rw [e3]
    exact ⟨rfl, fun _ => ⟨rfl, rfl⟩⟩
