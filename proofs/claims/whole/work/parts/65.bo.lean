/-! ===== books ===== -/
theorem c_holdRow {d p e n : Nat} {F : am_FT} {L : am_LT} {Q : am_QT} {s : Int32} (h : shP p e) (hn : n ≤ 60) (hq : ∀ M : am_LT, (∀ q, q ≠ e → M q = L q) → (∀ i, i < 60 → M e i = 0) → Q none (am_upF (am_upF (am_upF F p 3 (-1)) p 1 s) p 2 (nI n)) M) : wc am_S0 (d + 1) mX8_holdRow [.ref p, .int s, .int (nI n)] F L Q := by
  rw [eX8_holdRow, kX8_holdRow_0 h.1 h.2, if_neg (show ¬ (60 : Int32) < nI n from nI_nlt (a := 60) hn (by decide))]
  exact c_holdRow_loop h 60 0 L rfl (fun i hi => absurd hi (by omega)) hq
def wsd (el : Nat → Int64) (n k : Nat) : Bool := decide (2 * k + 1 < n) && (decide (¬ el (2 * k) < 0 ∧ ¬ 12 ≤ el (2 * k)) && (decide (el (2 * k + 1) = 0) || decide (el (2 * k + 1) = 1)))
theorem nI_2k (k : Nat) : (2 : Int32) * nI k = nI (2 * k) := by
  rw [iI_l, iI_n, iI_n, iI_mul]; congr 1
theorem c_isWellSaid {d p e n k : Nat} {F : am_FT} {L : am_LT} {Q : am_QT} (h : shP p e) (hl : F p 2 = nI n) (hn : n ≤ 60) (hk : k < 31) : wc am_S0 (d + 1) mX1_isWellSaid [.ref p, .int (nI k)] F L Q = Q (some (.int (bI (wsd (L e) n k)))) F L := by
  unfold wsd
  have f65 : ∀ l2 l3 l4 l5 : Option Value, wt am_S0 (d + 1) mX1_isWellSaid 65 [some (.ref p), some (.int (nI k)), l2, l3, l4, l5] [] F L Q = Q (some (.int (bI false))) F L := by
    intro l2 l3 l4 l5
    rw [kX1_isWellSaid_65, kX1_isWellSaid_66 rfl]; rfl
  have f61 : ∀ l2 l3 l4 l5 : Option Value, wt am_S0 (d + 1) mX1_isWellSaid 61 [some (.ref p), some (.int (nI k)), l2, l3, l4, l5] [] F L Q = Q (some (.int (bI true))) F L := by
    intro l2 l3 l4 l5
    rw [kX1_isWellSaid_61, kX1_isWellSaid_66 rfl]; rfl
  rw [eX1_isWellSaid, kX1_isWellSaid_0 h.1, s_size h, hl, nI_2k, nI_1]
  simp only [Option.toList_some, Option.toList_none, List.cons_append, List.nil_append]
  rw [kX1_isWellSaid_9]
  by_cases h1 : 2 * k + 1 < n
  · rw [if_pos (nI_lt h1 (by omega)), kX1_isWellSaid_14 h.1, nI_2k, s_valueAt h (by omega), decide_eq_true h1, Bool.true_and]
    simp only [Option.toList_some, Option.toList_none, List.cons_append, List.nil_append]
    rw [kX1_isWellSaid_21 h.1, nI_2k, nI_1, s_valueAt h (by omega)]
    simp only [Option.toList_some, Option.toList_none, List.cons_append, List.nil_append]
    rw [kX1_isWellSaid_31]
    by_cases h2 : L e (2 * k) < 0
    · rw [if_pos ((lg_cmp_lt _ _).mpr h2), f65, decide_eq_false (fun hh => hh.1 h2)]; rfl
    · rw [if_neg (fun hh => h2 ((lg_cmp_lt _ _).mp hh)), kX1_isWellSaid_39]
      by_cases h3 : 12 ≤ L e (2 * k)
      · rw [if_pos ((lg_cmp_ge _ _).mpr h3), f65, decide_eq_false (fun hh => hh.2 h3)]; rfl
      · rw [if_neg (fun hh => h3 ((lg_cmp_ge _ _).mp hh)), kX1_isWellSaid_47, decide_eq_true ⟨h2, h3⟩, Bool.true_and]
        by_cases h4 : L e (2 * k + 1) = 0
        · rw [if_pos ((lg_cmp_eq _ _).mpr h4), f61, decide_eq_true h4]; rfl
        · rw [if_neg (fun hh => h4 ((lg_cmp_eq _ _).mp hh)), kX1_isWellSaid_54, decide_eq_false h4, Bool.false_or]
          by_cases h5 : L e (2 * k + 1) = 1
          · rw [if_neg (fun hh => hh ((lg_cmp_eq _ _).mpr h5)), f61, decide_eq_true h5]
          · rw [if_pos (fun hh => h5 ((lg_cmp_eq _ _).mp hh)), f65, decide_eq_false h5]
  · rw [if_neg (nI_nlt (by omega) (by omega)), kX1_isWellSaid_12, decide_eq_false h1, Bool.false_and]; rfl
theorem mo_ex {x : Int64} (h1 : ¬ x < 0) (h2 : ¬ 12 ≤ x) : ∃ m, m < 12 ∧ x.toInt32 = nI m := by
  have e1 : 0 ≤ x.toInt := by
    have := Int64.not_lt.mp h1
    rw [Int64.le_iff_toInt_le] at this
    exact this
  have e2 : x.toInt < 12 := by
    have := Int64.not_le.mp h2
    rw [Int64.lt_iff_toInt_lt] at this
    exact this
  refine ⟨x.toInt.toNat, by omega, ?_⟩
  apply Int32.toInt_inj.mp
  rw [nI_toInt (by omega), Int64.toInt_toInt32, Int.bmod_eq_of_le (by omega) (by omega)]
  omega
def moN (el : Nat → Int64) (k : Nat) : Nat := (el (2 * k)).toInt32.toNatClampNeg
theorem wsd_mo {el : Nat → Int64} {n k : Nat} (h : wsd el n k = true) : moN el k < 12 ∧ (el (2 * k)).toInt32 = nI (moN el k) ∧ 2 * k + 1 < n := by
  unfold wsd at h
  rw [Bool.and_eq_true, Bool.and_eq_true, decide_eq_true_iff, decide_eq_true_iff] at h
  obtain ⟨m, hm, e⟩ := mo_ex h.2.1.1 h.2.1.2
  have : moN el k = m := by unfold moN; rw [e, nI_clamp (by omega)]
  rw [this]
  exact ⟨hm, e, h.1⟩
def fwr (v : am_V) (t : Nat) (el : Nat → Int64) (n : Nat) : Nat → Nat → Int32
  | 0, _ => -2
  | j + 1, k => if wsd el n k = true then (if fat v t (moN el k) (vN v 1 t) = decide (el (2 * k + 1) = 1) then fwr v t el n j (k + 1) else nI k) else nI k
theorem c_firstWrong_loop {d p e n t : Nat} {L : am_LT} {Q : am_QT} {v : am_V} (hs : shP p e) (hp : 18 ≤ p) (hn : n ≤ 60) (ht : t < vT v) : ∀ (j k : Nat) (F : am_FT) (l5 : Option Value), k + j = (n + 1) / 2 → CV F v → F p 2 = nI n → (∀ G, SB F G → Q (some (.int (fwr v t (L e) n j k))) G L) → wt am_S0 (d + 7) mX1_firstWrong 8 [some (.ref 17), some (.ref p), some (.int (nI t)), some (.int (nI ((n + 1) / 2))), some (.int (nI k)), l5] [] F L Q := by
  intro j
  induction j with
  | zero =>
    intro k F l5 hk h hl hq
    have : k = (n + 1) / 2 := by omega
    subst this
    rw [kX1_firstWrong_8, if_pos (nI_le (Nat.le_refl _) (by omega)), kX1_firstWrong_109]
    exact hq F (SB_rf F)
  | succ j ih =>
    intro k F l5 hk h hl hq
    have e1 : fwr v t (L e) n (j + 1) k = if wsd (L e) n k = true then (if fat v t (moN (L e) k) (vN v 1 t) = decide (L e (2 * k + 1) = 1) then fwr v t (L e) n j (k + 1) else nI k) else nI k := rfl
    rw [kX1_firstWrong_8, if_neg (nI_ge (by omega) (by omega)), kX1_firstWrong_14, c_isWellSaid hs hl hn (by omega)]
    simp only [Option.toList_some, Option.toList_none, List.cons_append, List.nil_append]
    rw [kX1_firstWrong_20]
    cases hw : wsd (L e) n k
    · rw [e1, hw] at hq
      rw [if_neg (by decide), kX1_firstWrong_23]
      exact hq F (SB_rf F)
    · obtain ⟨m1, m2, m3⟩ := wsd_mo hw
      rw [e1, hw, if_pos rfl] at hq
      rw [if_pos bIt, kX1_firstWrong_26 hs.1, nI_2k, s_valueAt hs (by omega)]
      simp only [Option.toList_some, Option.toList_none, List.cons_append, List.nil_append]
      rw [kX1_firstWrong_39, s_read, ld1 h.1 h.2.1 ht, m2]
      simp only [Option.toList_some, Option.toList_none, List.cons_append, List.nil_append]
      rw [kX1_firstWrong_49]
      apply c_openAsIf h ht m1 (lb1 h.2.1 ht)
      intro G g1 g2
      simp only [Option.toList_some, Option.toList_none, List.cons_append, List.nil_append]
      rw [kX1_firstWrong_52, g2.2.1, g2.2.2.1]
      apply c_passes (SB_CV g1 h) g2 (cov_lt h.2.1 t _ _) (wsh_lt h.2.1 t)
      intro H h1 h2
      have hGH := SB_tr g1 h1
      have hlH : H p 2 = nI n := by rw [hGH.1 p (by omega) (by omega) (by omega) (by omega) (by omega)]; exact hl
      simp only [Option.toList_some, Option.toList_none, List.cons_append, List.nil_append]
      rw [kX1_firstWrong_73 hs.1, nI_2k, nI_1, s_valueAt hs (by omega)]
      simp only [Option.toList_some, Option.toList_none, List.cons_append, List.nil_append]
      have fin : ∀ (b : Bool) (l5 : Option Value), decide (L e (2 * k + 1) = 1) = b → wt am_S0 (d + 7) mX1_firstWrong 97 [some (.ref 17), some (.ref p), some (.int (nI t)), some (.int (nI ((n + 1) / 2))), some (.int (nI k)), l5] [.int (bI b), .int (bI (fat v t (moN (L e) k) (vN v 1 t)))] H L Q := by
        intro b l5 hb
        rw [hb] at hq
        rw [kX1_firstWrong_97]
        by_cases hx : fat v t (moN (L e) k) (vN v 1 t) = b
        · rw [if_pos hx] at hq
          rw [if_pos (by rw [hx]), kX1_firstWrong_103, nI_1]
          exact ih (k + 1) H _ (by omega) (SB_CV hGH h) hlH fun M m1 => hq M (SB_tr hGH m1)
        · rw [if_neg hx] at hq
          rw [if_neg (by rw [bI_inj]; exact hx), kX1_firstWrong_100]
          exact hq H hGH
      rw [kX1_firstWrong_87]
      by_cases h5 : L e (2 * k + 1) = 1
      · rw [if_neg (fun hh => hh ((lg_cmp_eq _ _).mpr h5)), kX1_firstWrong_92]
        exact fin true _ (decide_eq_true h5)
      · rw [if_pos (fun hh => h5 ((lg_cmp_eq _ _).mp hh)), kX1_firstWrong_96]
        exact fin false _ (decide_eq_false h5)
