/-! ===== the face's changes 2 ===== -/
theorem cc_feed (g : am_G) (hg : wG g) (x : Int32) : CC mX11_feed [.ref 0, .int x] g (.int (gFeed g x).1) (gFeed g x).2 := by
  intro F L Q hm hq
  have hT := hg.2.1.1
  have e32 : F 3 2 = nI (gT g).1 := hm.2.1.1
  unfold gFeed at hq
  rw [eX11_feed, kX11_feed_0, show (255 : Int32) = nI 255 from rfl, c_w (by decide)]
  simp only [Option.toList_some, Option.toList_none, List.cons_append, List.nil_append]
  rw [kX11_feed_8]
  cases hx : inR x (255 + 1)
  · rw [show inR x 256 = false from hx, if_neg (by decide)] at hq
    rw [if_pos bIf, kX11_feed_22, kX11_feed_23]
    exact hq F L (fun _ _ => rfl) (fun _ _ => rfl) hm
  · rw [show inR x 256 = true from hx, if_pos rfl] at hq
    obtain ⟨c, c1, rfl⟩ := inR_ex hx (by decide)
    rw [nI_clamp (by omega)] at hq
    rw [if_neg bIt, kX11_feed_11, eX7_take, kX7_take_0, e32]
    by_cases h1 : (gT g).1 = 120
    · rw [if_pos h1] at hq
      rw [if_neg (show ¬ nI (gT g).1 < (120 : Int32) by rw [h1]; decide), kX7_take_9]
      simp only [Option.toList_some, Option.toList_none, List.cons_append, List.nil_append]
      rw [kX11_feed_19, kX11_feed_23]
      exact hq F L (fun _ _ => rfl) (fun _ _ => rfl) hm
    · rw [if_neg h1] at hq
      rw [if_pos (show nI (gT g).1 < (120 : Int32) from nI_ltT (b := 120) (by omega) (by decide)), kX7_take_12, e32, s_lay (p := 4) (n := 120) rfl (by decide), wrA_n (by omega) (by decide)]
      simp only [Option.toList_some, Option.toList_none, List.cons_append, List.nil_append]
      rw [kX7_take_24, up_o (by decide), e32, nI_1]
      simp only [Option.toList_some, Option.toList_none, List.cons_append, List.nil_append]
      rw [kX11_feed_19, kX11_feed_23]
      have e : ∀ p, p ≠ 3 → p ≠ 4 → am_upF (am_upF F 4 (gT g).1 (nI c)) 3 2 (nI ((gT g).1 + 1)) p = F p := fun p a b => by rw [up_o a, up_o b]
      apply hq
      · intro p hp; exact e p (by omega) (by omega)
      · intro p _; rfl
      · obtain ⟨h1', h2, h3, h4, h5, h6, h7⟩ := hm
        refine ⟨CV_fr h1' (by rw [e 1 (by decide) (by decide), e 2 (by decide) (by decide)]; exact h1'.1) h1'.2.1 rfl (e 6 (by decide) (by decide)) (e 7 (by decide) (by decide)), ⟨?_, ?_⟩, RC_fr h3 (fun p a b => e p (by omega) (by omega)), RD_fr h4 (fun p a b => e p (by omega) (by omega)), RT_fr h5 (e 29 (by decide) (by decide)) (e 30 (by decide) (by decide)), RTr_fr h6 (e 29 (by decide) (by decide)) (e 31 (by decide) (by decide)), RSc_fr h7 (fun p a b => e p (by omega) (by omega)) (fun _ _ _ => rfl)⟩
        · exact up_s
        · intro k hk
          have hk' : k < (gT g).1 + 1 := hk
          rw [up_o (by decide)]
          show _ = nI (if k = (gT g).1 then c else (gT g).2 k)
          by_cases he : k = (gT g).1
          · rw [if_pos he, he, up_s]
          · rw [if_neg he, up_n he]
            exact h2.2 k (by omega)
theorem cc_law (g : am_G) (hg : wG g) : CC mX11_law [.ref 0] g (.int (gLaw g).1) (gLaw g).2 := by
  intro F L Q hm hq
  have hT := hg.2.1.1
  obtain ⟨h1, h2, h3, h4, h5, h6, h7⟩ := hm
  unfold gLaw at hq
  rw [eX11_law, kX11_law_0]
  apply c_findFault (b := (gT g).2) hg.2.1.2 hT h2.1 h2.2
  · intro f hf G cs' g1 fn ps
    rw [hf] at hq
    simp only [Option.toList_some, Option.toList_none, List.cons_append, List.nil_append]
    rw [kX11_law_7, if_pos (show ¬ nI f = (-1 : Int32) from fun e => by
      have e1 : (-1 : Int32) = iI (-1) := rfl
      rw [e1, iI_n, iI_eq (by omega) (by omega) (by omega) (by omega)] at e
      omega), kX11_law_34, eX7_clear, kX7_clear_0]
    simp only [Option.toList_some, Option.toList_none, List.cons_append, List.nil_append]
    rw [kX11_law_41, if_pos (show ¬ nI f = (-1 : Int32) from fun e => by
      have e1 : (-1 : Int32) = iI (-1) := rfl
      rw [e1, iI_n, iI_eq (by omega) (by omega) (by omega) (by omega)] at e
      omega), kX11_law_50, kX11_law_54]
    have e : ∀ p, p ≠ 3 → p ≠ 5 → am_upF G 3 2 0 p = F p := fun p a b => by rw [up_o a, g1 p a b]
    apply hq
    · intro p hp; exact e p (by omega) (by omega)
    · intro p _; rfl
    · exact ⟨CV_fr h1 (by rw [e 1 (by decide) (by decide), e 2 (by decide) (by decide)]; exact h1.1) h1.2.1 rfl (e 6 (by decide) (by decide)) (e 7 (by decide) (by decide)), ⟨up_s, fun i hi => absurd hi (Nat.not_lt_zero _)⟩, RC_fr h3 (fun p a b => e p (by omega) (by omega)), RD_fr h4 (fun p a b => e p (by omega) (by omega)), RT_fr h5 (e 29 (by decide) (by decide)) (e 30 (by decide) (by decide)), RTr_fr h6 (e 29 (by decide) (by decide)) (e 31 (by decide) (by decide)), RSc_fr h7 (fun p a b => e p (by omega) (by omega)) (fun _ _ _ => rfl)⟩
  · intro t ht G q' g1 ps hlen
    rw [ht] at hq
    simp only [Option.toList_some, Option.toList_none, List.cons_append, List.nil_append]
    rw [kX11_law_7, if_neg (fun hh => hh rfl), kX11_law_13, ps.2.2.1]
    apply c_become hlen
    intro H j1 j2 j3
    simp only [Option.toList_some, Option.toList_none, List.cons_append, List.nil_append]
    rw [kX11_law_34, eX7_clear, kX7_clear_0]
    simp only [Option.toList_some, Option.toList_none, List.cons_append, List.nil_append]
    rw [kX11_law_41, if_neg (fun hh => hh rfl), kX11_law_46, kX11_law_54]
    have e : ∀ p, p ≠ 3 → p ≠ 5 → p ≠ 6 → p ≠ 7 → am_upF H 3 2 0 p = F p := fun p a b c d => by rw [up_o a, j1 p d c, g1 p a b]
    apply hq
    · intro p hp; exact e p (by omega) (by omega) (by omega) (by omega)
    · intro p _; rfl
    · refine ⟨⟨?_, h1.2.1, ?_⟩, ⟨up_s, fun i hi => absurd hi (Nat.not_lt_zero _)⟩, RC_fr h3 (fun p a b => e p (by omega) (by omega) (by omega) (by omega)), RD_fr h4 (fun p a b => e p (by omega) (by omega) (by omega) (by omega)), RT_fr h5 (e 29 (by decide) (by decide) (by decide) (by decide)) (e 30 (by decide) (by decide) (by decide) (by decide)), RTr_fr h6 (e 29 (by decide) (by decide) (by decide) (by decide)) (e 31 (by decide) (by decide) (by decide) (by decide)), RSc_fr h7 (fun p a b => e p (by omega) (by omega) (by omega) (by omega)) (fun _ _ _ => rfl)⟩
      · rw [e 1 (by decide) (by decide) (by decide) (by decide), e 2 (by decide) (by decide) (by decide) (by decide)]; exact h1.1
      · rw [up_o (by decide), up_o (by decide), j2, up_s]
        exact RLaw_txt hg.2.1.2 ht hlen fun i hi => (j3 i hi).trans (ps.2.2.2.2 i hi)
theorem cc_undo (g : am_G) (hg : wG g) : CC mX11_undo [.ref 0] g (.int (gUndo g).1) (gUndo g).2 := by
  intro F L Q hm hq
  have h := hm.1
  have hw := hg.2.2.1
  unfold gUndo at hq
  rw [eX11_undo, kX11_undo_0]
  apply c_takeBack hm.2.2.1 h.1 h.2.1 (fun i hi => ⟨(hw.2 i hi).1, (hw.2 i hi).2.1⟩)
  · intro h0
    rw [if_pos h0] at hq
    simp only [Option.toList_some, Option.toList_none, List.cons_append, List.nil_append]
    rw [kX11_undo_7, if_pos rfl, kX11_undo_20, kX11_undo_22]
    exact hq F L (fun _ _ => rfl) (fun _ _ => rfl) hm
  · intro h0 G g1 g2 g3
    rw [if_neg h0] at hq
    have hh := hw.2 ((gC g).1 - 1) (by omega)
    simp only [Option.toList_some, Option.toList_none, List.cons_append, List.nil_append]
    rw [kX11_undo_7, if_neg (by decide), kX11_undo_10, g2.1, kX11_undo_22]
    exact hq G L (fun p hp => g1 p (by omega) (by omega)) (fun _ _ => rfl) (Cls_ch hm (fun p a b => g1 p a (by omega)) g3 (wV_set h.2.1 hh.2.2.1.1 hh.2.2.1.2) rfl g2)
theorem cc_redo (g : am_G) (hg : wG g) : CC mX11_redo [.ref 0] g (.int (gRedo g).1) (gRedo g).2 := by
  intro F L Q hm hq
  have h := hm.1
  have hw := hg.2.2.1
  unfold gRedo at hq
  rw [eX11_redo, kX11_redo_0]
  apply c_doAgain hm.2.2.1 h.1 h.2.1 (fun i hi => ⟨(hw.2 i hi).1, (hw.2 i hi).2.1⟩)
  · intro h0
    rw [if_pos h0] at hq
    simp only [Option.toList_some, Option.toList_none, List.cons_append, List.nil_append]
    rw [kX11_redo_7, if_pos rfl, kX11_redo_20, kX11_redo_22]
    exact hq F L (fun _ _ => rfl) (fun _ _ => rfl) hm
  · intro h0 G g1 g2 g3
    rw [if_neg h0] at hq
    have hh := hw.2 (gC g).1 (by omega)
    simp only [Option.toList_some, Option.toList_none, List.cons_append, List.nil_append]
    rw [kX11_redo_7, if_neg (by decide), kX11_redo_10, g2.2.1, kX11_redo_22]
    exact hq G L (fun p hp => g1 p (by omega) (by omega)) (fun _ _ => rfl) (Cls_ch hm (fun p a b => g1 p a (by omega)) g3 (wV_set h.2.1 hh.2.2.2.1 hh.2.2.2.2) rfl g2)
theorem RD_led {F G : am_FT} {d : am_D} {l : Nat → Int32} (h : RD F d) (e : ∀ p, 18 ≤ p → p ≤ 23 → p ≠ 19 → G p = F p) (hl : ∀ k, k < 5 → G 19 k = l k) : RD G (dWi d l) := by
  obtain ⟨h1, h2, h3⟩ := h
  refine ⟨hl, ?_, fun hk => ?_⟩
  · rw [e 18 (by decide) (by decide) (by decide)]; exact h2
  · rw [e 18 (by decide) (by decide) (by decide), e 20 (by decide) (by decide) (by decide), e 21 (by decide) (by decide) (by decide), e 22 (by decide) (by decide) (by decide), e 23 (by decide) (by decide) (by decide)]
    exact h3 hk
theorem vfl_wV {v : am_V} {b k : Nat} (hv : wV v) : wV (vfl v b k) := ⟨hv.1, hv.2.1, hv.2.2⟩
theorem cc_noon (g : am_G) (hg : wG g) : CC mX11_noon [.ref 0] g (.int (gNoon g).1) (gNoon g).2 := by
  intro F L Q hm hq
  have h := hm.1
  have hd := hg.2.2.2.1
  obtain ⟨em, lm⟩ := mNow_e hd
  have h4 := hm.2.2.2.1
  have e4 : F 19 4 = nI (mNow (gD g)) := (h4.1 4 (by decide)).trans em
  unfold gNoon at hq
  rw [eX11_noon, kX11_noon_0, s_tell, show (4 : Int32) = nI 4 from rfl, rdA_n (by decide) (by decide), e4]
  simp only [Option.toList_some, Option.toList_none, List.cons_append, List.nil_append]
  rw [kX11_noon_12]
  apply c_falling h lm
  intro G g1
  have hG := SB_CV g1 h
  have e : ∀ p, 12 ≤ p → G p = F p := fun p hp => g1.1 p (by omega) (by omega) (by omega) (by omega) (by omega)
  have q := SB_SQ g1
  have hmG := Cls_SQ hm q
  have d4 := hmG.2.2.2.1
  simp only [Option.toList_some, Option.toList_none, List.cons_append, List.nil_append]
  rw [kX11_noon_15]
  apply c_fell hG.1 hG.2.1 (fls_lt h.2.1 _)
  intro H j1 j2 j3 j4 j5 j6 j7
  simp only [Option.toList_some, Option.toList_none, List.cons_append, List.nil_append]
  rw [kX11_noon_24]
  apply hq
  · intro p hp; rw [j1 p (by omega) (by omega), e p (by omega)]
  · intro p _; rfl
  · apply Cls_de hmG (fun p a b => j1 p a (by omega)) j2 (vfl_wV h.2.1) rfl
    apply RD_led d4 (fun p a b c => j1 p (by omega) c)
    intro k hk
    rcases (by omega : k = 0 ∨ k = 1 ∨ k = 2 ∨ k = 3 ∨ k = 4) with rfl | rfl | rfl | rfl | rfl
    · rw [j3, d4.1 0 (by decide)]; rfl
    · rw [j4, d4.1 1 (by decide)]; rfl
    · rw [j5, d4.1 2 (by decide)]; rfl
    · rw [j6, d4.1 3 (by decide)]; rfl
    · rw [j7, d4.1 4 (by decide)]; rfl
theorem cc_sits (g : am_G) (x y : Int32) : CC mX11_sits [.ref 0, .int x, .int y] g (.int (gSits g x y).1) (gSits g x y).2 := by
  intro F L Q hm hq
  have h := hm.1
  have hv := h.2.1
  have hP := hv.2.1
  have h4 := hm.2.2.2.1
  unfold gSits at hq
  rw [eX11_sits, kX11_sits_0, s_has, has_4 h.1]
  simp only [Option.toList_some, Option.toList_none, List.cons_append, List.nil_append]
  rw [kX11_sits_9]
  cases hx : inR x (vP (gV g))
  · rw [hx, Bool.false_and, if_neg (by decide)] at hq
    rw [if_pos bIf, kX11_sits_24]
    exact hq F L (fun _ _ => rfl) (fun _ _ => rfl) hm
  · rw [hx, Bool.true_and] at hq
    rw [if_neg bIt, kX11_sits_12, s_fits, fit_4]
    simp only [Option.toList_some, Option.toList_none, List.cons_append, List.nil_append]
    rw [kX11_sits_21]
    cases hy : fitN 4 y
    · rw [hy, if_neg (by decide)] at hq
      rw [if_neg (by decide), kX11_sits_24]
      exact hq F L (fun _ _ => rfl) (fun _ _ => rfl) hm
    · rw [hy, if_pos rfl] at hq
      obtain ⟨k, k1, rfl⟩ := inR_ex hx (by omega)
      obtain ⟨c, c1, c2, rfl⟩ := fitN_ex hy
      have c2' : c ≤ 255 := c2
      rw [nI_clamp (by omega), nI_clamp (by omega)] at hq
      rw [if_pos bIt, kX11_sits_26, c_seat h.1 hv k1]
      simp only [Option.toList_some, Option.toList_none, List.cons_append, List.nil_append]
      rw [kX11_sits_35]
      have e : ∀ p, p ≠ 2 → p ≠ 19 → am_upF (am_upF F 2 (12 * 4 + k) (nI c)) 19 2 (F 19 2 + 1) p = F p := fun p a b => by rw [up_o b, up_o a]
      apply hq
      · intro p hp; exact e p (by omega) (by omega)
      · intro p _; rfl
      · apply Cls_de hm (fun p a b => e p a (by omega))
        · have := RL_set (x := c) h.1 hv (w := 4) (by decide) (lo4 k1)
          rw [up_o (by decide), up_o (by decide)]; exact this
        · exact wV_set hv c1 c2
        · rfl
        · apply RD_led h4 (fun p a b c => e p (by omega) c)
          intro j hj
          show _ = if j = 2 then dL (gD g) 2 + 1 else dL (gD g) j
          by_cases hj2 : j = 2
          · rw [if_pos hj2, hj2, up_s, h4.1 2 (by decide)]
          · rw [if_neg hj2, up_n hj2, up_o (by decide)]; exact h4.1 j hj
theorem cc_lopped (g : am_G) (x : Int32) : CC mX11_lopped [.ref 0, .int x] g (.int (gLopped g x).1) (gLopped g x).2 := by
  intro F L Q hm hq
  have h := hm.1
  have hv := h.2.1
  have hT := hv.1
  have h4 := hm.2.2.2.1
  unfold gLopped at hq
  rw [eX11_lopped, kX11_lopped_0, c_isTree h.1]
  simp only [Option.toList_some, Option.toList_none, List.cons_append, List.nil_append]
  rw [kX11_lopped_5]
  cases hx : inR x (vT (gV g))
  · rw [hx, if_neg (by decide)] at hq
    rw [if_pos bIf, kX11_lopped_19, kX11_lopped_20]
    exact hq F L (fun _ _ => rfl) (fun _ _ => rfl) hm
  · rw [hx, if_pos rfl] at hq
    obtain ⟨k, k1, rfl⟩ := inR_ex hx (by omega)
    rw [nI_clamp (by omega)] at hq
    rw [if_neg bIt, kX11_lopped_8, c_lopOne h.1 hv k1]
    cases hb : (decide (1 < vN (gV g) 1 k) && vS (gV g) k)
    · rw [hb, if_neg (by decide)] at hq
      rw [if_neg (by decide)]
      simp only [Option.toList_some, Option.toList_none, List.cons_append, List.nil_append]
      rw [kX11_lopped_16, kX11_lopped_20]
      exact hq F L (fun _ _ => rfl) (fun _ _ => rfl) hm
    · rw [hb, if_pos rfl] at hq
      rw [if_pos rfl]
      simp only [Option.toList_some, Option.toList_none, List.cons_append, List.nil_append]
      rw [kX11_lopped_16, kX11_lopped_20]
      rw [Bool.and_eq_true] at hb
      have h1 := of_decide_eq_true hb.1
      have h9 := (hv.2.2 1 k (by decide) (lo1 k1)).2
      have e : ∀ p, p ≠ 2 → p ≠ 19 → am_upF (am_upF F 2 (12 * 1 + k) (nI (vN (gV g) 1 k - 1))) 19 3 (F 19 3 + 1) p = F p := fun p a b => by rw [up_o b, up_o a]
      apply hq
      · intro p hp; exact e p (by omega) (by omega)
      · intro p _; rfl
      · apply Cls_de hm (fun p a b => e p a (by omega))
        · have := RL_set (x := vN (gV g) 1 k - 1) h.1 hv (w := 1) (by decide) (lo1 k1)
          rw [up_o (by decide), up_o (by decide)]; exact this
        · exact wV_set hv (by show 1 ≤ _; omega) (by omega)
        · rfl
        · apply RD_led h4 (fun p a b c => e p (by omega) c)
          intro j hj
          show _ = if j = 3 then dL (gD g) 3 + 1 else dL (gD g) j
          by_cases hj2 : j = 3
          · rw [if_pos hj2, hj2, up_s, h4.1 3 (by decide)]
          · rw [if_neg hj2, up_n hj2, up_o (by decide)]; exact h4.1 j hj
theorem cc_led (g : am_G) (x : Int32) : CC mX11_led [.ref 0, .int x] g (.int (gLed g x)) g := CC_q fun F L Q hm hq => by
  have hq' := hq F (SQ_rf F)
  have h4 := hm.2.2.2.1
  clear hq
  unfold gLed at hq'
  rw [eX11_led, kX11_led_0, show (4 : Int32) = nI 4 from rfl, c_w (by decide)]
  simp only [Option.toList_some, Option.toList_none, List.cons_append, List.nil_append]
  rw [kX11_led_6]
  cases hx : inR x (4 + 1)
  · rw [show inR x 5 = false from hx, if_neg (by decide)] at hq'
    rw [if_pos bIf, kX11_led_20, kX11_led_21]; exact hq'
  · rw [show inR x 5 = true from hx, if_pos rfl] at hq'
    obtain ⟨k, k1, rfl⟩ := inR_ex hx (by decide)
    rw [nI_clamp (by omega)] at hq'
    rw [if_neg bIt, kX11_led_9, s_tell, rdA_n (by omega) (by decide), h4.1 k (by omega)]
    simp only [Option.toList_some, Option.toList_none, List.cons_append, List.nil_append]
    rw [kX11_led_17, kX11_led_21]; exact hq'
theorem cc_image (g : am_G) : CC mX11_image [.ref 0] g (.int (gImage g).1) (gImage g).2 := by
  intro F L Q hm hq
  have h := hm.1
  unfold gImage at hq
  rw [eX11_image, kX11_image_0]
  apply c_keepImage h.1 h.2.1 hm.2.2.2.1
  intro G g1 g2
  simp only [Option.toList_some, Option.toList_none, List.cons_append, List.nil_append]
  rw [kX11_image_7, s_tell, show (0 : Int32) = nI 0 from rfl, rdA_n (by decide) (by decide), g2.1 0 (by decide)]
  simp only [Option.toList_some, Option.toList_none, List.cons_append, List.nil_append]
  rw [kX11_image_15]
  apply hq
  · intro p hp; exact g1 p (by omega)
  · intro p _; rfl
  · apply Cls_de hm (fun p a b => g1 p b) _ h.2.1 rfl g2
    rw [g1 1 (by decide), g1 2 (by decide)]; exact h.1
