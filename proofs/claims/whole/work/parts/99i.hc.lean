/-! ===== the face's changes 1 ===== -/
theorem rz1 : ∀ w, w < 7 → rdZ 1 (nI w) = nI (vLo w) := by decide +kernel
theorem rz2 : ∀ w, w < 7 → rdZ 2 (nI w) = nI (vHi w) := by decide +kernel
theorem fitI_n {w : Nat} {x : Int32} (hw : w < 7) : fitI (nI w) x = fitN w x := by
  unfold fitI fitN
  rw [rz1 w hw, rz2 w hw, decide_eq_true (⟨nI_pos (by omega), nI_ltF (a := 6) (b := w) (by omega) (by decide)⟩ : ¬ nI w < 0 ∧ ¬ (6 : Int32) < nI w), Bool.true_and]
theorem fit_0 {x : Int32} : fitI 0 x = fitN 0 x := fitI_n (w := 0) (by decide)
theorem fit_1 {x : Int32} : fitI 1 x = fitN 1 x := fitI_n (w := 1) (by decide)
theorem fit_4 {x : Int32} : fitI 4 x = fitN 4 x := fitI_n (w := 4) (by decide)
theorem fit_5 {x : Int32} : fitI 5 x = fitN 5 x := fitI_n (w := 5) (by decide)
theorem fit_6 {x : Int32} : fitI 6 x = fitN 6 x := fitI_n (w := 6) (by decide)
theorem own_n {F : am_FT} {v : am_V} (h : RLand (F 1) (F 2) v) {w : Nat} (hw : w < 7) : ownI F (nI w) = nI (vO v w) := by
  rcases (by omega : w = 0 ∨ w = 1 ∨ w = 2 ∨ w = 3 ∨ w = 4 ∨ w = 5 ∨ w = 6) with rfl | rfl | rfl | rfl | rfl | rfl | rfl
  · exact (show ownI F (nI 0) = F 1 1 from rfl).trans h.1
  · exact (show ownI F (nI 1) = F 1 1 from rfl).trans h.1
  · exact (show ownI F (nI 2) = F 1 1 from rfl).trans h.1
  · rfl
  · exact (show ownI F (nI 4) = F 1 2 from rfl).trans h.2.1
  · exact (show ownI F (nI 5) = F 1 2 from rfl).trans h.2.1
  · exact (show ownI F (nI 6) = F 1 2 from rfl).trans h.2.1
theorem has_N {F : am_FT} {v : am_V} (h : RLand (F 1) (F 2) v) {n w : Int32} : hasI F n w = (hasN v n w || (decide (w = 7) && inR n (vT v))) := by
  unfold hasN
  cases hw : inR w 7
  · rw [Bool.false_and, Bool.false_or]
    by_cases h7 : w = 7
    · subst h7
      rw [decide_eq_true rfl, Bool.true_and]
      unfold hasI inR
      rw [show ownI F 7 = F 1 1 from rfl, h.1]
    · rw [decide_eq_false h7, Bool.false_and]
      have h0 : ownI F w = 0 := by
        have ne : ∀ k, k < 7 → ¬ w = nI k := fun k hk e => by rw [e, inR_n hk (by decide)] at hw; cases hw
        unfold ownI
        rw [if_neg (show ¬ w = (0 : Int32) from ne 0 (by decide)), if_neg (show ¬ w = (1 : Int32) from ne 1 (by decide)), if_neg (show ¬ w = (2 : Int32) from ne 2 (by decide)), if_neg (show ¬ w = (3 : Int32) from ne 3 (by decide)), if_neg (show ¬ w = (4 : Int32) from ne 4 (by decide)), if_neg (show ¬ w = (5 : Int32) from ne 5 (by decide)), if_neg (show ¬ w = (6 : Int32) from ne 6 (by decide)), if_neg h7]
      unfold hasI
      rw [h0]
      apply decide_eq_false
      rintro ⟨a, b⟩
      obtain ⟨z, z1, z2, rfl⟩ := iI_ex n
      revert a b
      simp (disch := omega) only [iI_n, iI_l, iI_neg, iI_add, iI_sub, iI_mul, iI_div, iI_lt, iI_le, iI_eq]
      intro a b
      omega
  · obtain ⟨k, k1, rfl⟩ := inR_ex hw (by decide)
    rw [nI_clamp (by omega), Bool.true_and, decide_eq_false (show ¬ nI k = (7 : Int32) from nI_ne (x := 7) (by omega) (by decide) (by omega)), Bool.false_and, Bool.or_false]
    unfold hasI inR
    rw [own_n h k1]
theorem hasN_n {v : am_V} {n w : Int32} (hv : wV v) (h : hasN v n w = true) : ∃ k j, n = nI k ∧ w = nI j ∧ j < 7 ∧ k < vO v j := by
  unfold hasN at h
  cases hw : inR w 7
  · rw [hw, Bool.false_and] at h; cases h
  · rw [hw, Bool.true_and] at h
    obtain ⟨j, j1, rfl⟩ := inR_ex hw (by decide)
    rw [nI_clamp (by omega)] at h
    have := vO_le hv j
    obtain ⟨k, k1, rfl⟩ := inR_ex h (by omega)
    exact ⟨k, j, rfl, rfl, j1, k1⟩
/-! frames -/
theorem RC_fr {F G : am_FT} {c : am_C} (h : RC F c) (e : ∀ p, 24 ≤ p → p ≤ 28 → G p = F p) : RC G c := by
  unfold RC at h ⊢
  rw [e 24 (by decide) (by decide), e 25 (by decide) (by decide), e 26 (by decide) (by decide), e 27 (by decide) (by decide), e 28 (by decide) (by decide)]; exact h
theorem RD_fr {F G : am_FT} {c : am_D} (h : RD F c) (e : ∀ p, 18 ≤ p → p ≤ 23 → G p = F p) : RD G c := by
  unfold RD at h ⊢
  rw [e 18 (by decide) (by decide), e 19 (by decide) (by decide), e 20 (by decide) (by decide), e 21 (by decide) (by decide), e 22 (by decide) (by decide), e 23 (by decide) (by decide)]; exact h
theorem CV_fr {F G : am_FT} {v v' : am_V} (h : CV F v) (hl : RLand (G 1) (G 2) v') (hv : wV v') (hL : vL v' = vL v) (e6 : G 6 = F 6) (e7 : G 7 = F 7) : CV G v' := ⟨hl, hv, by rw [e6, e7, hL]; exact h.2.2⟩
theorem RT_fr {F G : am_FT} {p q : Nat} {t : Nat × (Nat → Nat)} (h : RT (F p 2) (F q) t) (e : G p = F p) (e' : G q = F q) : RT (G p 2) (G q) t := by rw [e, e']; exact h
theorem RTr_fr {F G : am_FT} {t : List Nat} (h : RTr (F 29 3) (F 31) t) (e : G 29 = F 29) (e' : G 31 = F 31) : RTr (G 29 3) (G 31) t := by rw [e, e']; exact h
/-- only the land changed -/
theorem Cls_ld {F G : am_FT} {L : am_LT} {g : am_G} {v' : am_V} (h : Cls F L g) (e : ∀ p, p ≠ 1 → p ≠ 2 → G p = F p) (hl : RLand (G 1) (G 2) v') (hv : wV v') (hL : vL v' = vL (gV g)) : Cls G L (sV g v') := by
  obtain ⟨h1, h2, h3, h4, h5, h6, h7⟩ := h
  exact ⟨CV_fr h1 hl hv hL (e 6 (by decide) (by decide)) (e 7 (by decide) (by decide)), RT_fr h2 (e 3 (by decide) (by decide)) (e 4 (by decide) (by decide)), RC_fr h3 (fun p a b => e p (by omega) (by omega)), RD_fr h4 (fun p a b => e p (by omega) (by omega)), RT_fr h5 (e 29 (by decide) (by decide)) (e 30 (by decide) (by decide)), RTr_fr h6 (e 29 (by decide) (by decide)) (e 31 (by decide) (by decide)), RSc_fr h7 (fun p a b => e p (by omega) (by omega)) (fun _ _ _ => rfl)⟩
/-- land and changes -/
theorem Cls_ch {F G : am_FT} {L : am_LT} {g : am_G} {v' : am_V} {c' : am_C} (h : Cls F L g) (e : ∀ p, p ≠ 2 → (p < 24 ∨ 28 < p) → G p = F p) (hl : RLand (G 1) (G 2) v') (hv : wV v') (hL : vL v' = vL (gV g)) (hc : RC G c') : Cls G L (sC g v' c') := by
  obtain ⟨h1, h2, h3, h4, h5, h6, h7⟩ := h
  exact ⟨CV_fr h1 hl hv hL (e 6 (by decide) (by decide)) (e 7 (by decide) (by decide)), RT_fr h2 (e 3 (by decide) (by decide)) (e 4 (by decide) (by decide)), hc, RD_fr h4 (fun p a b => e p (by omega) (by omega)), RT_fr h5 (e 29 (by decide) (by decide)) (e 30 (by decide) (by decide)), RTr_fr h6 (e 29 (by decide) (by decide)) (e 31 (by decide) (by decide)), RSc_fr h7 (fun p a b => e p (by omega) (by omega)) (fun _ _ _ => rfl)⟩
/-- land and deeds -/
theorem Cls_de {F G : am_FT} {L : am_LT} {g : am_G} {v' : am_V} {d' : am_D} (h : Cls F L g) (e : ∀ p, p ≠ 2 → (p < 18 ∨ 23 < p) → G p = F p) (hl : RLand (G 1) (G 2) v') (hv : wV v') (hL : vL v' = vL (gV g)) (hd : RD G d') : Cls G L (sD g v' d') := by
  obtain ⟨h1, h2, h3, h4, h5, h6, h7⟩ := h
  exact ⟨CV_fr h1 hl hv hL (e 6 (by decide) (by decide)) (e 7 (by decide) (by decide)), RT_fr h2 (e 3 (by decide) (by decide)) (e 4 (by decide) (by decide)), RC_fr h3 (fun p a b => e p (by omega) (by omega)), hd, RT_fr h5 (e 29 (by decide) (by decide)) (e 30 (by decide) (by decide)), RTr_fr h6 (e 29 (by decide) (by decide)) (e 31 (by decide) (by decide)), RSc_fr h7 (fun p a b => e p (by omega) (by omega)) (fun _ _ _ => rfl)⟩
theorem cc_tree (g : am_G) (x y : Int32) : CC mX11_tree [.ref 0, .int x, .int y] g (.int (gTree g x y).1) (gTree g x y).2 := by
  intro F L Q hm hq
  have h := hm.1
  have hv := h.2.1
  have hT := hv.1
  unfold gTree at hq
  rw [eX11_tree, kX11_tree_0, s_fits, fit_0]
  simp only [Option.toList_some, Option.toList_none, List.cons_append, List.nil_append]
  rw [kX11_tree_9]
  cases hx : fitN 0 x
  · rw [hx, Bool.false_and, if_neg (by decide)] at hq
    rw [if_pos bIf, kX11_tree_24]
    exact hq F L (fun _ _ => rfl) (fun _ _ => rfl) hm
  · rw [hx, Bool.true_and] at hq
    rw [if_neg bIt, kX11_tree_12, s_fits, fit_1]
    simp only [Option.toList_some, Option.toList_none, List.cons_append, List.nil_append]
    rw [kX11_tree_21]
    cases hy : fitN 1 y
    · rw [hy, if_neg (by decide)] at hq
      rw [if_neg (by decide), kX11_tree_24]
      exact hq F L (fun _ _ => rfl) (fun _ _ => rfl) hm
    · rw [hy, if_pos rfl] at hq
      obtain ⟨c, c1, c2, rfl⟩ := fitN_ex hx
      obtain ⟨k, k1, k2, rfl⟩ := fitN_ex hy
      have c2' : c ≤ 255 := c2
      have k2' : k ≤ 9 := k2
      rw [nI_clamp (by omega), nI_clamp (by omega)] at hq
      rw [if_pos bIt, kX11_tree_26]
      apply c_addTree h.1 hv
      · intro h6
        rw [if_pos h6] at hq
        simp only [Option.toList_some, Option.toList_none, List.cons_append, List.nil_append]
        rw [kX11_tree_35]
        exact hq F L (fun _ _ => rfl) (fun _ _ => rfl) hm
      · intro h6 G g1 g2
        rw [if_neg (by omega)] at hq
        simp only [Option.toList_some, Option.toList_none, List.cons_append, List.nil_append]
        rw [kX11_tree_35]
        exact hq G L (fun p hp => g1 p (by omega) (by omega)) (fun _ _ => rfl) (Cls_ld hm g1 g2 (wV_aT hv h6 c2' k1 k2') rfl)
theorem cc_person (g : am_G) (x y : Int32) : CC mX11_person [.ref 0, .int x, .int y] g (.int (gPerson g x y).1) (gPerson g x y).2 := by
  intro F L Q hm hq
  have h := hm.1
  have hv := h.2.1
  have hP := hv.2.1
  unfold gPerson at hq
  rw [eX11_person, kX11_person_0, s_fits, fit_4]
  simp only [Option.toList_some, Option.toList_none, List.cons_append, List.nil_append]
  rw [kX11_person_9]
  cases hx : fitN 4 x
  · rw [hx, Bool.false_and, if_neg (by decide)] at hq
    rw [if_pos bIf, kX11_person_24]
    exact hq F L (fun _ _ => rfl) (fun _ _ => rfl) hm
  · rw [hx, Bool.true_and] at hq
    rw [if_neg bIt, kX11_person_12, s_fits, fit_5]
    simp only [Option.toList_some, Option.toList_none, List.cons_append, List.nil_append]
    rw [kX11_person_21]
    cases hy : fitN 5 y
    · rw [hy, if_neg (by decide)] at hq
      rw [if_neg (by decide), kX11_person_24]
      exact hq F L (fun _ _ => rfl) (fun _ _ => rfl) hm
    · rw [hy, if_pos rfl] at hq
      obtain ⟨c, c1, c2, rfl⟩ := fitN_ex hx
      obtain ⟨k, k1, k2, rfl⟩ := fitN_ex hy
      have c2' : c ≤ 255 := c2
      have k2' : k ≤ 63 := k2
      rw [nI_clamp (by omega), nI_clamp (by omega)] at hq
      rw [if_pos bIt, kX11_person_26, show (1 : Int32) = nI 1 from rfl]
      apply c_addPerson h.1 hv
      · intro h6
        rw [if_pos h6] at hq
        simp only [Option.toList_some, Option.toList_none, List.cons_append, List.nil_append]
        rw [kX11_person_36]
        exact hq F L (fun _ _ => rfl) (fun _ _ => rfl) hm
      · intro h6 G g1 g2
        rw [if_neg (by omega)] at hq
        simp only [Option.toList_some, Option.toList_none, List.cons_append, List.nil_append]
        rw [kX11_person_36]
        exact hq G L (fun p hp => g1 p (by omega) (by omega)) (fun _ _ => rfl) (Cls_ld hm g1 g2 (wV_aP hv h6 c2' k2' (by decide)) rfl)
theorem cc_mend (g : am_G) (n w x : Int32) : CC mX11_mend [.ref 0, .int n, .int w, .int x] g (.int (gMend g n w x).1) (gMend g n w x).2 := by
  intro F L Q hm hq
  have h := hm.1
  have hv := h.2.1
  unfold gMend at hq
  have bad : hasN (gV g) n w = false → wt am_S0 2047 mX11_mend 30 [some (.ref 0), some (.int n), some (.int w), some (.int x), none] [] F L Q := by
    intro hb
    rw [hb, Bool.false_and, if_neg (by decide)] at hq
    rw [kX11_mend_30]
    exact hq F L (fun _ _ => rfl) (fun _ _ => rfl) hm
  rw [eX11_mend, kX11_mend_0]
  by_cases h6 : 6 < w
  · rw [if_pos h6]
    apply bad
    unfold hasN
    have : inR w 7 = false := by
      cases hc : inR w 7
      · rfl
      · obtain ⟨j, j1, rfl⟩ := inR_ex hc (by decide)
        exact absurd h6 (nI_ltF (a := 6) (b := j) (by omega) (by decide))
    rw [this, Bool.false_and]
  · rw [if_neg h6, kX11_mend_6, s_has, has_N h.1, decide_eq_false (show ¬ w = 7 from fun e => h6 (by rw [e]; decide)), Bool.false_and, Bool.or_false]
    simp only [Option.toList_some, Option.toList_none, List.cons_append, List.nil_append]
    rw [kX11_mend_15]
    cases hn : hasN (gV g) n w
    · rw [if_pos bIf]; exact bad hn
    · obtain ⟨k, j, rfl, rfl, j1, k1⟩ := hasN_n hv hn
      have k12 := Nat.lt_of_lt_of_le k1 (vO_le hv j)
      rw [hn, Bool.true_and, nI_clamp (by omega), nI_clamp (by omega)] at hq
      rw [if_neg bIt, kX11_mend_18, s_fits, fitI_n j1]
      simp only [Option.toList_some, Option.toList_none, List.cons_append, List.nil_append]
      rw [kX11_mend_27]
      cases hf : fitN j x
      · rw [hf, if_neg (by decide)] at hq
        rw [if_neg (by decide), kX11_mend_30]
        exact hq F L (fun _ _ => rfl) (fun _ _ => rfl) hm
      · rw [hf, if_pos rfl] at hq
        obtain ⟨y, y1, y2, rfl⟩ := fitN_ex hf
        have hh : vHi j ≤ 255 := by
          have : ∀ w, w < 7 → vHi w ≤ 255 := by decide
          exact this j j1
        have old := hv.2.2 j k j1 k1
        rw [nI_clamp (by omega)] at hq
        rw [if_pos bIt, kX11_mend_32, s_read, ld_n h.1 hv j1 k1]
        simp only [Option.toList_some, Option.toList_none, List.cons_append, List.nil_append]
        rw [kX11_mend_41]
        by_cases he : vN (gV g) j k = y
        · rw [if_pos he] at hq
          rw [if_pos (by rw [he]), kX11_mend_71]
          exact hq F L (fun _ _ => rfl) (fun _ _ => rfl) hm
        · rw [if_neg he] at hq
          rw [if_neg (show ¬ nI (vN (gV g) j k) = nI y from nI_ne (by omega) (by omega) he), kX11_mend_49, s_write_n k12 (by omega)]
          simp only [Option.toList_some, Option.toList_none, List.cons_append, List.nil_append]
          rw [kX11_mend_59]
          apply c_chg_add (c := gC g) (RC_fr hm.2.2.1 (fun p a b => up_o (by omega)))
          intro G g1 g2
          simp only [Option.toList_some, Option.toList_none, List.cons_append, List.nil_append]
          rw [kX11_mend_71]
          apply hq G L
          · intro p hp; rw [g1 p (by omega), up_o (by omega)]
          · intro p _; rfl
          · apply Cls_ch hm
            · intro p a b; rw [g1 p b, up_o a]
            · rw [g1 1 (by decide), g1 2 (by decide)]; exact RL_set h.1 hv j1 k1
            · exact wV_set hv y1 y2
            · rfl
            · exact g2
theorem cc_of (g : am_G) (n w : Int32) : CC mX11_of [.ref 0, .int n, .int w] g (.int (gOf g n w)) g := CC_q fun F L Q hm hq => by
  have h := hm.1
  have hv := h.2.1
  have hT := hv.1
  have hq' := hq F (SQ_rf F)
  clear hq
  unfold gOf at hq'
  rw [eX11_of, kX11_of_0, s_has, has_N h.1]
  simp only [Option.toList_some, Option.toList_none, List.cons_append, List.nil_append]
  rw [kX11_of_9]
  cases hn : hasN (gV g) n w
  · rw [hn, if_neg (by decide)] at hq'
    rw [Bool.false_or]
    cases h7 : (decide (w = 7) && inR n (vT (gV g)))
    · rw [h7, if_neg (by decide)] at hq'
      rw [if_pos bIf, kX11_of_24, kX11_of_25]; exact hq'
    · rw [h7, if_pos rfl] at hq'
      rw [Bool.and_eq_true] at h7
      have e7 := of_decide_eq_true h7.1
      subst e7
      obtain ⟨t, t1, rfl⟩ := inR_ex h7.2 (by omega)
      rw [nI_clamp (by omega)] at hq'
      rw [if_neg bIt, kX11_of_12, s_read, ld7 h.1 hv t1]
      simp only [Option.toList_some, Option.toList_none, List.cons_append, List.nil_append]
      rw [kX11_of_21, kX11_of_25]; exact hq'
  · obtain ⟨k, j, rfl, rfl, j1, k1⟩ := hasN_n hv hn
    have k12 := Nat.lt_of_lt_of_le k1 (vO_le hv j)
    rw [hn, if_pos rfl, nI_clamp (by omega), nI_clamp (by omega)] at hq'
    rw [Bool.true_or, if_neg bIt, kX11_of_12, s_read, ld_n h.1 hv j1 k1]
    simp only [Option.toList_some, Option.toList_none, List.cons_append, List.nil_append]
    rw [kX11_of_21, kX11_of_25]; exact hq'
