/-! ===== the face's books and rows of people ===== -/
theorem wsd_c {a b : Nat → Int64} {n k : Nat} (hn : n ≤ 60) (h : ∀ i, i < 60 → a i = b i) : wsd a n k = wsd b n k := by
  unfold wsd
  by_cases hk : 2 * k + 1 < n
  · rw [h (2 * k) (by omega), h (2 * k + 1) (by omega)]
  · rw [decide_eq_false hk, Bool.false_and, Bool.false_and]
theorem wsd_lt {a : Nat → Int64} {n k : Nat} (h : wsd a n k = true) : 2 * k + 1 < n := by
  unfold wsd at h
  rw [Bool.and_eq_true] at h
  exact of_decide_eq_true h.1
theorem fwr_c {v : am_V} {t : Nat} {a b : Nat → Int64} {n : Nat} (hn : n ≤ 60) (h : ∀ i, i < 60 → a i = b i) : ∀ j k, fwr v t a n j k = fwr v t b n j k := by
  intro j
  induction j with
  | zero => intro k; rfl
  | succ j ih =>
    intro k
    have e : ∀ el : Nat → Int64, fwr v t el n (j + 1) k = if wsd el n k = true then (if fat v t (moN el k) (vN v 1 t) = decide (el (2 * k + 1) = 1) then fwr v t el n j (k + 1) else nI k) else nI k := fun _ => rfl
    rw [e, e, wsd_c hn h]
    cases hw : wsd b n k
    · rw [if_neg (show ¬ false = true by decide), if_neg (show ¬ false = true by decide)]
    · have hl := wsd_lt hw
      unfold moN
      rw [h (2 * k) (by omega), h (2 * k + 1) (by omega), ih]
theorem wsA_c {a b : Nat → Int64} {n : Nat} (hn : n ≤ 60) (h : ∀ i, i < 60 → a i = b i) : ∀ j k, wsA a n j k = wsA b n j k := by
  intro j
  induction j with
  | zero => intro k; rfl
  | succ j ih =>
    intro k
    have e : ∀ el : Nat → Int64, wsA el n (j + 1) k = if wsd el n k = true then wsA el n j (k + 1) else false := fun _ => rfl
    rw [e, e, wsd_c hn h, ih]
theorem mbt_c {a b : Nat → Int64} {w : Bool} : ∀ k, (∀ i, i < 2 * k → a i = b i) → mbt a w k = mbt b w k := by
  intro k
  induction k with
  | zero => intro _; rfl
  | succ k ih =>
    intro h
    have e : ∀ el : Nat → Int64, mbt el w (k + 1) = if decide (el (2 * k + 1) = 1) = w then mbt el w k ||| 2 ^ moN el k else mbt el w k := fun _ => rfl
    rw [e, e]
    unfold moN
    rw [h (2 * k) (by omega), h (2 * k + 1) (by omega), ih (fun i hi => h i (by omega))]
theorem fwO_c {v : am_V} {t : Nat} {a b : Nat → Int64} {n : Nat} (hn : n ≤ 60) (h : ∀ i, i < 60 → a i = b i) : fwO v t a n = fwO v t b n := by
  unfold fwO
  rw [wsA_c hn h, mbt_c _ (fun i hi => h i (by omega)), mbt_c _ (fun i hi => h i (by omega))]
theorem cc_judge (g : am_G) (hg : wG g) (x y : Int32) : CC mX11_judge [.ref 0, .int x, .int y] g (.int (qJudge (gV g) (gS g) x y)) g := CC_q fun F L Q hm hq => by
  have h := hm.1
  have hT := h.2.1.1
  have hS := hg.2.2.2.2.2.2
  have hr := hm.2.2.2.2.2.2
  unfold qJudge at hq
  rw [eX11_judge, kX11_judge_0]
  cases hx : inR x 6
  · rw [hx, Bool.false_and, if_neg (by decide)] at hq
    rw [c_shelfN hx]
    simp only [Option.toList_some, Option.toList_none, List.cons_append, List.nil_append]
    rw [kX11_judge_5N, kX11_judge_18]
    exact hq F (SQ_rf F)
  obtain ⟨a, a1, rfl⟩ := inR_ex hx (by decide)
  have ha := hS a a1
  rw [hx, Bool.true_and, nI_clamp (by omega)] at hq
  rw [c_shelf a1]
  simp only [Option.toList_some, Option.toList_none, List.cons_append, List.nil_append]
  rw [kX11_judge_5, kX11_judge_10, c_isTree h.1]
  simp only [Option.toList_some, Option.toList_none, List.cons_append, List.nil_append]
  rw [kX11_judge_15]
  cases hy : inR y (vT (gV g))
  · rw [hy, if_neg (by decide)] at hq
    rw [if_neg (by decide), kX11_judge_18]
    exact hq F (SQ_rf F)
  rw [hy, if_pos (show true = true from rfl)] at hq
  obtain ⟨t, t1, rfl⟩ := inR_ex hy (by omega)
  rw [nI_clamp (by omega)] at hq
  rw [if_pos bIt, kX11_judge_20 (shP_j a1).1, show (0 : Int32) = nI 0 from rfl, c_isRowOf hr hS a1 (by decide)]
  simp only [Option.toList_some, Option.toList_none, List.cons_append, List.nil_append]
  rw [kX11_judge_25]
  by_cases h5 : sK (gS g) a = 51
  · rw [if_neg (show ¬ sK (gS g) a = 0 by omega), if_pos h5] at hq
    rw [decide_eq_true (show sK (gS g) a = 51 + 0 from h5), if_neg bIt, kX11_judge_28]
    apply c_firstWrong (shP_j a1) (by omega) ha.2.1 t1 h (hr a a1).2.1
    intro G g1
    simp only [Option.toList_some, Option.toList_none, List.cons_append, List.nil_append]
    rw [kX11_judge_37, kX11_judge_44, fwr_c ha.2.1 (hr a a1).2.2.2]
    exact hq G (SB_SQ g1)
  · rw [decide_eq_false (show ¬ sK (gS g) a = 51 + 0 from h5), if_pos bIf, kX11_judge_40, c_refOf hr hS a1]
    simp only [Option.toList_some, Option.toList_none, List.cons_append, List.nil_append]
    rw [kX11_judge_44]
    by_cases h0 : sK (gS g) a = 0
    · rw [if_pos h0] at hq ⊢
      exact hq F (SQ_rf F)
    · rw [if_neg h0, if_neg h5] at hq
      rw [if_neg h0]
      exact hq F (SQ_rf F)
theorem cc_wishes (g : am_G) (hg : wG g) (x y w : Int32) : CC mX11_wishes [.ref 0, .int x, .int y, .int w] g (.int (qWishes (gV g) (gS g) x y w)) g := CC_q fun F L Q hm hq => by
  have h := hm.1
  have hT := h.2.1.1
  have hP := h.2.1.2.1
  have hS := hg.2.2.2.2.2.2
  have hr := hm.2.2.2.2.2.2
  unfold qWishes at hq
  rw [eX11_wishes, kX11_wishes_0]
  cases hx : inR x 6
  · rw [hx, Bool.false_and, Bool.false_and, if_neg (by decide)] at hq
    rw [c_shelfN hx]
    simp only [Option.toList_some, Option.toList_none, List.cons_append, List.nil_append]
    rw [kX11_wishes_5N, kX11_wishes_29]
    exact hq F (SQ_rf F)
  obtain ⟨a, a1, rfl⟩ := inR_ex hx (by decide)
  have ha := hS a a1
  rw [hx, Bool.true_and, nI_clamp (by omega)] at hq
  rw [c_shelf a1]
  simp only [Option.toList_some, Option.toList_none, List.cons_append, List.nil_append]
  rw [kX11_wishes_5, kX11_wishes_12, c_isTree h.1]
  simp only [Option.toList_some, Option.toList_none, List.cons_append, List.nil_append]
  rw [kX11_wishes_17]
  cases hy : inR y (vT (gV g))
  · rw [hy, Bool.false_and, if_neg (by decide)] at hq
    rw [if_pos bIf, kX11_wishes_29]
    exact hq F (SQ_rf F)
  rw [hy, Bool.true_and] at hq
  rw [if_neg bIt, kX11_wishes_20, show (2 : Int32) = nI 2 from rfl, c_w (by decide)]
  simp only [Option.toList_some, Option.toList_none, List.cons_append, List.nil_append]
  rw [kX11_wishes_26]
  cases hw : inR w (2 + 1)
  · rw [show inR w 3 = false from hw, if_neg (by decide)] at hq
    rw [if_neg (by decide), kX11_wishes_29]
    exact hq F (SQ_rf F)
  rw [show inR w 3 = true from hw, if_pos (show true = true from rfl)] at hq
  obtain ⟨t, t1, rfl⟩ := inR_ex hy (by omega)
  rw [nI_clamp (by omega)] at hq
  rw [if_pos bIt, kX11_wishes_31 (shP_j a1).1, show (0 : Int32) = nI 0 from rfl, c_isRowOf hr hS a1 (by decide)]
  simp only [Option.toList_some, Option.toList_none, List.cons_append, List.nil_append]
  rw [kX11_wishes_37]
  by_cases h5 : sK (gS g) a = 51
  · rw [if_neg (show ¬ sK (gS g) a = 0 by omega), if_pos h5] at hq
    rw [decide_eq_true (show sK (gS g) a = 51 + 0 from h5), if_pos bIt, kX11_wishes_46]
    apply c_findWishers (shP_j a1) (by omega) ha.2.1 t1 h (hr a a1).2.1
    intro G g1 g2 g3 g4
    rw [fwO_c ha.2.1 (hr a a1).2.2.2] at g2 g3 g4
    have hq' := hq G g1
    obtain ⟨o, ho⟩ : ∃ o, fwO (gV g) t (sE (gS g) a) (sM (gS g) a) = o := ⟨_, rfl⟩
    have hb : o.1 < 2 ^ 31 := by
      have h1 := (fwO_ok (gV g) t (sE (gS g) a) (sM (gS g) a) ha.2.1).1
      have h2 : 2 ^ vP (gV g) ≤ 1024 := two_le (k := 10) hP
      have h3 := cnt_le (okW (gV g) t (sE (gS g) a) (sM (gS g) a)) (2 ^ vP (gV g))
      rw [ho] at h1
      omega
    rw [ho] at g2 g3 g4 hq'
    simp only [Option.toList_some, Option.toList_none, List.cons_append, List.nil_append]
    rw [kX11_wishes_56]
    by_cases w0 : w = 0
    · rw [if_pos w0] at hq'
      rw [if_neg (fun hh => hh w0), kX11_wishes_60, g2]
      exact hq'
    · rw [if_neg w0] at hq'
      rw [if_pos w0, kX11_wishes_68, g2]
      by_cases oz : o.1 = 0
      · rw [if_pos oz] at hq'
        rw [if_neg (fun hh => hh (by rw [oz]; rfl)), kX11_wishes_78]
        by_cases w1 : w = 1
        · rw [if_pos w1] at hq'
          rw [if_neg (fun hh => hh w1), kX11_wishes_83, kX11_wishes_89]
          exact hq'
        · rw [if_neg w1] at hq'
          rw [if_pos w1, kX11_wishes_88, kX11_wishes_89]
          exact hq'
      · rw [if_neg oz] at hq'
        rw [if_pos (show ¬ nI o.1 = (0 : Int32) from nI_ne (x := 0) hb (by decide) oz), kX11_wishes_90]
        by_cases w1 : w = 1
        · rw [if_pos w1] at hq'
          rw [if_neg (fun hh => hh w1), kX11_wishes_95, g3, kX11_wishes_112]
          exact hq'
        · rw [if_neg w1] at hq'
          rw [if_pos w1, kX11_wishes_105, g4, kX11_wishes_112]
          exact hq'
  · rw [decide_eq_false (show ¬ sK (gS g) a = 51 + 0 from h5), if_neg (by decide), kX11_wishes_40, c_refOf hr hS a1]
    simp only [Option.toList_some, Option.toList_none, List.cons_append, List.nil_append]
    rw [kX11_wishes_45]
    by_cases h0 : sK (gS g) a = 0
    · rw [if_pos h0] at hq ⊢
      exact hq F (SQ_rf F)
    · rw [if_neg h0, if_neg h5] at hq
      rw [if_neg h0]
      exact hq F (SQ_rf F)
