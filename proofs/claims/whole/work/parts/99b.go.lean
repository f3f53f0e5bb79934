/-! ===== the model's changes, 3: deeds ===== -/
def dWi (d : am_D) (l : Nat → Int32) : am_D := (l, dK d, dT d, dP d, dS d, dH d, dC d, dI d)
def lNoon (d : am_D) (b : Nat) : Nat → Int32 := fun k => if k = 0 then dL d 0 + 1 else if k = 1 then dL d 1 + nI (pop b) else if k = 4 then (dL d 4 + 1) - (dL d 4 + 1) / 12 * 12 else dL d k
def mNow (d : am_D) : Nat := (dL d 4).toNatClampNeg
theorem mNow_e {v : am_V} {d : am_D} (h : wD v d) : dL d 4 = nI (mNow d) ∧ mNow d < 12 := by
  obtain ⟨m, m1, m2⟩ := h.1
  unfold mNow
  rw [m2, nI_clamp (by omega)]
  exact ⟨rfl, m1⟩
def gNoon (g : am_G) : Int32 × am_G := (nI (fls (gV g) (mNow (gD g))), sD g (vfl (gV g) (fls (gV g) (mNow (gD g))) (vT (gV g))) (dWi (gD g) (lNoon (gD g) (fls (gV g) (mNow (gD g))))))
theorem sts_vfl (v : am_V) (b : Nat) : sts (vfl v b (vT v)) = ndf (sts v) b := by
  apply Nat.eq_of_testBit_eq
  intro i
  rw [ndf_bit]
  unfold sts
  rw [bs_bit, bs_bit]
  show (decide (i < vT v) && (if b.testBit i = true ∧ i < vT v then false else vS v i)) = _
  by_cases hi : i < vT v
  · rw [decide_eq_true hi, Bool.true_and, Bool.true_and]
    cases hb : b.testBit i
    · rw [if_neg (fun hh => Bool.noConfusion hh.1), Bool.not_false, Bool.and_true]
    · rw [if_pos ⟨rfl, hi⟩, Bool.not_true, Bool.and_false]
  · rw [decide_eq_false hi, Bool.false_and, Bool.false_and, Bool.false_and]
theorem mc_noon (g : am_G) (hg : wG g) : MC mX12_noon [.ref 45] g (.int (gNoon g).1) (gNoon g).2 := by
  intro F L Q hm hq
  have hmn := mNow_e hg.2.2.2.1
  have hfl := fls_lt hm.1.2.1 (mNow (gD g))
  unfold gNoon at hq
  rw [eX12_noon, kX12_noon_0, hm.2.2.2.1.2.1, hmn.1]
  apply m_fallIn hm.1 hmn.2
  intro G g1
  obtain ⟨h1, h2, h3, ⟨d1, d2, d3, d4⟩, h5, h6, h7⟩ := Mdl_qM hm g1
  simp only [Option.toList_some, Option.toList_none, List.cons_append, List.nil_append]
  rw [kX12_noon_8, kX12_noon_31 rfl rfl, s_bitsOf (by omega)]
  simp only [Option.toList_some, Option.toList_none, List.cons_append, List.nil_append]
  rw [kX12_noon_55 rfl]
  rw [show Int32.toNatClampNeg 0 = 0 from rfl, show Int32.toNatClampNeg 1 = 1 from rfl]
  simp (disch := decide) only [up_o, up_n]
  rw [h1.1.2.2.1, nI_ndf, d1 0 (by decide), d1 1 (by decide), d2]
  apply hq
  · intro p hp
    rw [up_o (by omega), up_o (by omega), up_o (by omega), up_o (by omega), g1.1 p (by omega) (by omega)]
  · intro p _; rfl
  · refine ⟨⟨⟨?_, ?_, ?_, ?_⟩, h1.2.1, ?_⟩, ?_, ?_, ⟨?_, ?_, ?_, ?_⟩, ?_, ?_, RSm_fr h7 ?_ ?_ rfl⟩
    · simp (disch := decide) only [up_o, up_n]; exact h1.1.1
    · simp (disch := decide) only [up_o, up_n]; exact h1.1.2.1
    · simp (disch := decide) only [up_o, up_n, up_s]
      exact congrArg nI (sts_vfl _ _).symm
    · simp (disch := decide) only [up_o, up_n]; exact h1.1.2.2.2
    · simp (disch := decide) only [up_o, up_n]; exact h1.2.2
    · simp (disch := decide) only [up_o, up_n]; exact h2
    · simp (disch := decide) only [up_o, up_n]; exact h3
    · intro k hk
      show _ = lNoon (gD g) (fls (gV g) (mNow (gD g))) k
      unfold lNoon
      rcases (by omega : k = 0 ∨ k = 1 ∨ k = 2 ∨ k = 3) with rfl | rfl | rfl | rfl
      · rw [up_n (by decide), up_s, if_pos rfl]
      · rw [up_s, if_neg (by decide), if_pos rfl]
      · rw [up_n (by decide), up_n (by decide), if_neg (by decide), if_neg (by decide), if_neg (by decide)]
        simp (disch := decide) only [up_o]
        exact d1 2 (by decide)
      · rw [up_n (by decide), up_n (by decide), if_neg (by decide), if_neg (by decide), if_neg (by decide)]
        simp (disch := decide) only [up_o]
        exact d1 3 (by decide)
    · simp (disch := decide) only [up_o, up_n, up_s]
      rfl
    · simp (disch := decide) only [up_o, up_n]; exact d3
    · simp (disch := decide) only [up_o, up_n]; exact d4
    · simp (disch := decide) only [up_o, up_n]; exact h5
    · simp (disch := decide) only [up_o, up_n]; exact h6
    · simp (disch := decide) only [up_o, up_n]
    · simp (disch := decide) only [up_o, up_n]
def lInc (d : am_D) (j : Nat) : Nat → Int32 := fun k => if k = j then dL d j + 1 else dL d k
def gSits (g : am_G) (x y : Int32) : Int32 × am_G := if (inR x (vP (gV g)) && fitN 4 y) = true then (nI (vN (gV g) 4 x.toNatClampNeg), sD g (vset (gV g) 4 x.toNatClampNeg y.toNatClampNeg) (dWi (gD g) (lInc (gD g) 2))) else (-1, g)
theorem mc_sits (g : am_G) (x y : Int32) : MC mX12_sits [.ref 45, .int x, .int y] g (.int (gSits g x y).1) (gSits g x y).2 := by
  intro F L Q hm hq
  have hv := hm.1.2.1
  have hP := hv.2.1
  unfold gSits at hq
  rw [eX12_sits, kX12_sits_0, m_isOne hm.1.1 hv]
  simp only [Option.toList_some, Option.toList_none, List.cons_append, List.nil_append]
  rw [kX12_sits_6]
  cases hx : inR x (vP (gV g))
  · rw [hx, Bool.false_and, if_neg (by decide)] at hq
    rw [if_pos bIf, kX12_sits_17]
    exact hq F L (fun _ _ => rfl) (fun _ _ => rfl) hm
  · rw [hx, Bool.true_and] at hq
    rw [if_neg bIt, kX12_sits_9, m_isCell2]
    simp only [Option.toList_some, Option.toList_none, List.cons_append, List.nil_append]
    rw [kX12_sits_14]
    rw [show fitN 4 y = fitN 0 y from rfl] at hq
    cases hy : fitN 0 y
    · rw [hy, if_neg (by decide)] at hq
      rw [if_neg (by decide), kX12_sits_17]
      exact hq F L (fun _ _ => rfl) (fun _ _ => rfl) hm
    · rw [hy, if_pos rfl] at hq
      obtain ⟨p, p1, rfl⟩ := inR_ex hx (by omega)
      obtain ⟨c, c1, c2, rfl⟩ := fitN_ex hy
      have c2' : c ≤ 255 := c2
      rw [nI_clamp (by omega), nI_clamp (by omega)] at hq
      obtain ⟨h1, h2, h3, ⟨d1, d2, d3, d4⟩, h5, h6, h7⟩ := hm
      rw [if_pos bIt, kX12_sits_19 (by rw [a30]; exact oobN (by omega) (by decide)), a30, nI_clamp (by omega), mm4 h1.1 p1, kX12_sits_43 rfl]
      rw [show Int32.toNatClampNeg 2 = 2 from rfl, up_o (q := 53) (p := 46) (by decide), d1 2 (by decide)]
      apply hq
      · intro q hq
        rw [up_o (by omega), up_o (by omega)]
      · intro q _; rfl
      · refine ⟨⟨RM_set (w := 4) (n := p) h1.1 hv (by decide) p1 ?_ ?_ ?_ ?_, wV_set hv (Nat.zero_le _) c2', ?_⟩, ?_, ?_, ⟨?_, ?_, ?_, ?_⟩, ?_, ?_, RSm_fr h7 ?_ ?_ rfl⟩
        · simp (disch := decide) only [up_o, up_n]
        · simp (disch := decide) only [up_o, up_n]
        · simp (disch := decide) only [up_o, up_n]
        · rw [up_o (by decide)]; rfl
        · simp (disch := decide) only [up_o, up_n]; exact h1.2.2
        · simp (disch := decide) only [up_o, up_n]; exact h2
        · simp (disch := decide) only [up_o, up_n]; exact h3
        · intro k hk
          show _ = lInc (gD g) 2 k
          unfold lInc
          by_cases hk2 : k = 2
          · rw [if_pos hk2, hk2, up_s]
          · rw [if_neg hk2, up_n hk2, up_o (by decide)]; exact d1 k hk
        · simp (disch := decide) only [up_o, up_n]; exact d2
        · simp (disch := decide) only [up_o, up_n]; exact d3
        · simp (disch := decide) only [up_o, up_n]; exact d4
        · simp (disch := decide) only [up_o, up_n]; exact h5
        · simp (disch := decide) only [up_o, up_n]; exact h6
        · simp (disch := decide) only [up_o, up_n]
        · simp (disch := decide) only [up_o, up_n]
def gLopped (g : am_G) (x : Int32) : Int32 × am_G := if inR x (vT (gV g)) = true then (if (decide (1 < vN (gV g) 1 x.toNatClampNeg) && vS (gV g) x.toNatClampNeg) = true then (nI (vN (gV g) 1 x.toNatClampNeg - 1), sD g (vset (gV g) 1 x.toNatClampNeg (vN (gV g) 1 x.toNatClampNeg - 1)) (dWi (gD g) (lInc (gD g) 3))) else (-5, g)) else (-1, g)
theorem mc_lopped (g : am_G) (x : Int32) : MC mX12_lopped [.ref 45, .int x] g (.int (gLopped g x).1) (gLopped g x).2 := by
  intro F L Q hm hq
  have hv := hm.1.2.1
  have hT := hv.1
  unfold gLopped at hq
  rw [eX12_lopped, kX12_lopped_0, m_isTree hm.1.1 hv]
  simp only [Option.toList_some, Option.toList_none, List.cons_append, List.nil_append]
  rw [kX12_lopped_6]
  cases hx : inR x (vT (gV g))
  · rw [hx, if_neg (by decide)] at hq
    rw [if_neg (by decide), kX12_lopped_9]
    exact hq F L (fun _ _ => rfl) (fun _ _ => rfl) hm
  · rw [hx, if_pos rfl] at hq
    obtain ⟨t, t1, rfl⟩ := inR_ex hx (by omega)
    rw [nI_clamp (by omega)] at hq
    have b9 := lb1 hv t1
    have b1 := lb1p hv t1
    rw [if_pos bIt, kX12_lopped_11, m_stands hm.1.1 hv t1]
    simp only [Option.toList_some, Option.toList_none, List.cons_append, List.nil_append]
    rw [kX12_lopped_19]
    cases hs : vS (gV g) t
    · rw [hs, Bool.and_false, if_neg (by decide)] at hq
      rw [if_pos bIf, kX12_lopped_35]
      exact hq F L (fun _ _ => rfl) (fun _ _ => rfl) hm
    · rw [hs, Bool.and_true] at hq
      have o6 : am_oob (6 + nI t) 60 = false := by rw [a6]; exact oobN (by omega) (by decide)
      rw [if_neg bIt, kX12_lopped_22 o6, a6, nI_clamp (by omega), mm1 hm.1.1 t1]
      by_cases h1h : 1 < vN (gV g) 1 t
      · rw [decide_eq_true h1h, if_pos rfl] at hq
        obtain ⟨h1, h2, h3, ⟨d1, d2, d3, d4⟩, h5, h6, h7⟩ := hm
        rw [if_pos (show ¬ nI (vN (gV g) 1 t) = (1 : Int32) from nI_ne (x := 1) (by omega) (by decide) (by omega)), kX12_lopped_38 o6 rfl, a6, nI_clamp (by omega), mm1 h1.1 t1, nI_m1 (by omega), kX12_lopped_59 rfl o6, a6, nI_clamp (by omega), up_s]
        rw [show Int32.toNatClampNeg 3 = 3 from rfl, d1 3 (by decide)]
        apply hq
        · intro q hq
          rw [up_o (by omega), up_o (by omega)]
        · intro q _; rfl
        · refine ⟨⟨RM_set (w := 1) (n := t) h1.1 hv (by decide) t1 ?_ ?_ ?_ ?_, wV_set hv (show 1 ≤ _ by omega) (show _ ≤ 9 by omega), ?_⟩, ?_, ?_, ⟨?_, ?_, ?_, ?_⟩, ?_, ?_, RSm_fr h7 ?_ ?_ rfl⟩
          · simp (disch := decide) only [up_o, up_n]
          · simp (disch := decide) only [up_o, up_n]
          · simp (disch := decide) only [up_o, up_n]
          · rw [up_o (by decide)]; rfl
          · simp (disch := decide) only [up_o, up_n]; exact h1.2.2
          · simp (disch := decide) only [up_o, up_n]; exact h2
          · simp (disch := decide) only [up_o, up_n]; exact h3
          · intro k hk
            show _ = lInc (gD g) 3 k
            unfold lInc
            by_cases hk2 : k = 3
            · rw [if_pos hk2, hk2, up_s]
            · rw [if_neg hk2, up_n hk2, up_o (by decide)]; exact d1 k hk
          · simp (disch := decide) only [up_o, up_n]; exact d2
          · simp (disch := decide) only [up_o, up_n]; exact d3
          · simp (disch := decide) only [up_o, up_n]; exact d4
          · simp (disch := decide) only [up_o, up_n]; exact h5
          · simp (disch := decide) only [up_o, up_n]; exact h6
          · simp (disch := decide) only [up_o, up_n]
          · simp (disch := decide) only [up_o, up_n]
      · rw [decide_eq_false h1h, if_neg (by decide)] at hq
        rw [if_neg (fun hne => hne (show nI (vN (gV g) 1 t) = (1 : Int32) by rw [show vN (gV g) 1 t = 1 by omega]; rfl)), kX12_lopped_35]
        exact hq F L (fun _ _ => rfl) (fun _ _ => rfl) hm
def gLed (g : am_G) (x : Int32) : Int32 := if inR x 5 = true then dL (gD g) x.toNatClampNeg else -1
theorem mc_led (g : am_G) (x : Int32) : MC mX12_led [.ref 45, .int x] g (.int (gLed g x)) g := by
  intro F L Q hm hq
  have hq0 := hq F L (fun _ _ => rfl) (fun _ _ => rfl) hm
  unfold gLed at hq0
  rw [eX12_led, kX12_led_0, show (3 : Int64) = (nI 3).toInt64 from rfl, m_w (by decide)]
  simp only [Option.toList_some, Option.toList_none, List.cons_append, List.nil_append]
  rw [kX12_led_9]
  cases hx : inR x (3 + 1)
  · rw [if_pos bIf, kX12_led_21]
    by_cases h4 : x = 4
    · subst h4
      rw [if_neg (fun hne => hne rfl), kX12_led_26, kX12_led_34, hm.2.2.2.1.2.1]
      exact hq0
    · have h5 : inR x 5 = false := by
        cases h : inR x 5
        · rfl
        · obtain ⟨k, k1, rfl⟩ := inR_ex h (by decide)
          rcases Nat.lt_or_ge k 4 with h | h
          · rw [inR_n h (by decide)] at hx; cases hx
          · exact absurd (show nI k = (4 : Int32) by rw [show k = 4 by omega]; rfl) h4
      rw [h5, if_neg (by decide)] at hq0
      rw [if_pos h4, kX12_led_33, kX12_led_34]
      exact hq0
  · obtain ⟨k, k1, rfl⟩ := inR_ex hx (by decide)
    rw [inR_n (show k < 5 by omega) (by decide), if_pos rfl, nI_clamp (by omega)] at hq0
    rw [if_neg bIt, kX12_led_12 (oobN k1 (by decide)), nI_clamp (by omega), hm.2.2.2.1.1 k k1, kX12_led_34]
    exact hq0
def gImage (g : am_G) : Int32 × am_G := (dL (gD g) 0, sD g (gV g) (dimg (gV g) (gD g)))
theorem m_img_l1 {d : Nat} {L : am_LT} {Q : am_QT} {v : am_V} (hv : wV v) : ∀ (j k : Nat) (F : am_FT), k + j = vT v → RM F v → (∀ t, t < k → F 54 t = nI (vN v 1 t)) → (∀ G : am_FT, (∀ p, p ≠ 54 → G p = F p) → (∀ t, t < vT v → G 54 t = nI (vN v 1 t)) → wt am_S0 d mX12_image 68 [some (.ref 45), some (.int (nI (vT v)))] [] G L Q) → wt am_S0 d mX12_image 39 [some (.ref 45), some (.int (nI k))] [] F L Q := by
  have hT := hv.1
  intro j
  induction j with
  | zero =>
    intro k F hk h hi hq
    have : k = vT v := by omega
    subst this
    rw [kX12_image_39, h.1, if_pos (nI_le (Nat.le_refl _) (by omega))]
    exact hq F (fun _ _ => rfl) hi
  | succ j ih =>
    intro k F hk h hi hq
    rw [kX12_image_39, h.1, if_neg (nI_ge (by omega) (by omega)), kX12_image_47 (by rw [a6]; exact oobN (by omega) (by decide)) (oobN (by omega) (by decide)), a6, nI_clamp (by omega), nI_clamp (by omega), mm1 h (by omega), nI_1]
    refine ih (k + 1) _ (by omega) ?_ ?_ ?_
    · unfold RM
      rw [up_o (by decide), up_o (by decide)]; exact h
    · intro t ht
      by_cases htk : t = k
      · rw [htk, up_s]
      · rw [up_n htk]; exact hi t (by omega)
    · intro G g1 g2
      exact hq G (fun p hp => (g1 p hp).trans (up_o hp)) g2
theorem m_img_l2 {d : Nat} {L : am_LT} {Q : am_QT} {v : am_V} (hv : wV v) : ∀ (j k : Nat) (F : am_FT), k + j = vP v → RM F v → (∀ t, t < k → F 55 t = nI (vN v 4 t)) → (∀ G : am_FT, (∀ p, p ≠ 55 → G p = F p) → (∀ t, t < vP v → G 55 t = nI (vN v 4 t)) → wt am_S0 d mX12_image 99 [some (.ref 45), some (.int (nI (vP v)))] [] G L Q) → wt am_S0 d mX12_image 70 [some (.ref 45), some (.int (nI k))] [] F L Q := by
  have hP := hv.2.1
  intro j
  induction j with
  | zero =>
    intro k F hk h hi hq
    have : k = vP v := by omega
    subst this
    rw [kX12_image_70, h.2.1, if_pos (nI_le (Nat.le_refl _) (by omega))]
    exact hq F (fun _ _ => rfl) hi
  | succ j ih =>
    intro k F hk h hi hq
    rw [kX12_image_70, h.2.1, if_neg (nI_ge (by omega) (by omega)), kX12_image_78 (by rw [a30]; exact oobN (by omega) (by decide)) (oobN (by omega) (by decide)), a30, nI_clamp (by omega), nI_clamp (by omega), mm4 h (by omega), nI_1]
    refine ih (k + 1) _ (by omega) ?_ ?_ ?_
    · unfold RM
      rw [up_o (by decide), up_o (by decide)]; exact h
    · intro t ht
      by_cases htk : t = k
      · rw [htk, up_s]
      · rw [up_n htk]; exact hi t (by omega)
    · intro G g1 g2
      exact hq G (fun p hp => (g1 p hp).trans (up_o hp)) g2
theorem m_img_l3 {d : Nat} {L : am_LT} {Q : am_QT} {f : Nat → Int32} : ∀ (j k : Nat) (F : am_FT), k + j = 4 → (∀ t, t < 4 → F 53 t = f t) → (∀ t, t < k → F 56 t = f t) → (∀ G : am_FT, (∀ p, p ≠ 56 → G p = F p) → (∀ t, t < 4 → G 56 t = f t) → wt am_S0 d mX12_image 124 [some (.ref 45), some (.int (nI 4))] [] G L Q) → wt am_S0 d mX12_image 101 [some (.ref 45), some (.int (nI k))] [] F L Q := by
  intro j
  induction j with
  | zero =>
    intro k F hk h hi hq
    have : k = 4 := by omega
    subst this
    rw [kX12_image_101, if_pos (by decide)]
    exact hq F (fun _ _ => rfl) hi
  | succ j ih =>
    intro k F hk h hi hq
    rw [kX12_image_101, if_neg (show ¬ (4 : Int32) ≤ nI k from nI_ge (b := 4) (by omega) (by decide)), kX12_image_106 (oobN (by omega) (by decide)), nI_clamp (by omega), h k (by omega), nI_1]
    refine ih (k + 1) _ (by omega) ?_ ?_ ?_
    · intro t ht
      rw [up_o (by decide)]; exact h t ht
    · intro t ht
      by_cases htk : t = k
      · rw [htk, up_s]
      · rw [up_n htk]; exact hi t (by omega)
    · intro G g1 g2
      exact hq G (fun p hp => (g1 p hp).trans (up_o hp)) g2
theorem mc_image (g : am_G) : MC mX12_image [.ref 45] g (.int (gImage g).1) (gImage g).2 := by
  intro F L Q hm hq
  have hv := hm.1.2.1
  obtain ⟨h1, h2, h3, ⟨d1, d2, d3, d4⟩, h5, h6, h7⟩ := hm
  unfold gImage at hq
  rw [eX12_image, kX12_image_0, kX12_image_30, h1.1.1, h1.1.2.1, h1.1.2.2.1]
  simp (disch := decide) only [up_n]
  rw [d2, show (some (.int 0) : Option Value) = some (.int (nI 0)) from rfl]
  refine m_img_l1 hv (vT (gV g)) 0 _ (by omega) ?_ (fun t ht => absurd ht (by omega)) ?_
  · unfold RM
    simp (disch := decide) only [up_o, up_n]; exact h1.1
  intro G g1 g2
  have G45 : G 45 = am_upF (am_upF (am_upF (am_upF (am_upF F 45 21 1) 45 22 (nI (vT (gV g)))) 45 23 (nI (vP (gV g)))) 45 24 (nI (sts (gV g)))) 45 25 (dL (gD g) 4) 45 := g1 45 (by decide)
  have GR : RM G (gV g) := by
    unfold RM
    rw [G45, g1 46 (by decide)]
    simp (disch := decide) only [up_o, up_n]; exact h1.1
  rw [kX12_image_68, show (some (.int 0) : Option Value) = some (.int (nI 0)) from rfl]
  refine m_img_l2 hv (vP (gV g)) 0 _ (by omega) GR (fun t ht => absurd ht (by omega)) ?_
  intro H k1 k2
  have Hp : ∀ p, p ≠ 45 → p ≠ 54 → p ≠ 55 → H p = F p := by
    intro p a b c
    rw [k1 p c, g1 p b, up_o a, up_o a, up_o a, up_o a, up_o a]
  rw [kX12_image_99, show (some (.int 0) : Option Value) = some (.int (nI 0)) from rfl]
  refine m_img_l3 (f := dL (gD g)) 4 0 _ rfl ?_ (fun t ht => absurd ht (by omega)) ?_
  · intro t ht
    rw [Hp 53 (by decide) (by decide) (by decide)]; exact d1 t ht
  intro K q1 q2
  have Kp : ∀ p, p ≠ 45 → p ≠ 54 → p ≠ 55 → p ≠ 56 → K p = F p := fun p a b c d => (q1 p d).trans (Hp p a b c)
  have K45 : K 45 = am_upF (am_upF (am_upF (am_upF (am_upF F 45 21 1) 45 22 (nI (vT (gV g)))) 45 23 (nI (vP (gV g)))) 45 24 (nI (sts (gV g)))) 45 25 (dL (gD g) 4) 45 := by rw [q1 45 (by decide), k1 45 (by decide), G45]
  rw [kX12_image_124 rfl, show Int32.toNatClampNeg 0 = 0 from rfl, Kp 53 (by decide) (by decide) (by decide) (by decide), d1 0 (by decide)]
  apply hq
  · intro p hp
    exact Kp p (by omega) (by omega) (by omega) (by omega)
  · intro p _; rfl
  · refine ⟨MV_fr h1 ?_ ?_ ?_ ?_ (Kp 46 (by decide) (by decide) (by decide) (by decide)) (Kp 51 (by decide) (by decide) (by decide) (by decide)), ?_, ?_, ⟨?_, ?_, ?_, fun _ => ⟨?_, ?_, ?_, ?_, fun t ht => ?_, fun t ht => ?_, q2⟩⟩, ?_, ?_, RSm_fr h7 (Kp 59 (by decide) (by decide) (by decide) (by decide)) (Kp 60 (by decide) (by decide) (by decide) (by decide)) rfl⟩
    · rw [K45]; simp (disch := decide) only [up_n]
    · rw [K45]; simp (disch := decide) only [up_n]
    · rw [K45]; simp (disch := decide) only [up_n]
    · rw [K45]; simp (disch := decide) only [up_n]
    · rw [K45, Kp 50 (by decide) (by decide) (by decide) (by decide)]; simp (disch := decide) only [up_n]; exact h2
    · rw [K45, Kp 47 (by decide) (by decide) (by decide) (by decide), Kp 48 (by decide) (by decide) (by decide) (by decide), Kp 49 (by decide) (by decide) (by decide) (by decide)]; simp (disch := decide) only [up_n]; exact h3
    · intro k hk
      rw [Kp 53 (by decide) (by decide) (by decide) (by decide)]; exact d1 k hk
    · rw [K45]; simp (disch := decide) only [up_n]; exact d2
    · rw [K45]; simp (disch := decide) only [up_n, up_s]; rfl
    · rw [K45]; simp (disch := decide) only [up_n, up_s]; rfl
    · rw [K45]; simp (disch := decide) only [up_n, up_s]; rfl
    · rw [K45]; simp (disch := decide) only [up_n, up_s]; rfl
    · rw [K45]; simp (disch := decide) only [up_s]; rfl
    · rw [q1 54 (by decide), k1 54 (by decide)]; exact g2 t ht
    · rw [q1 55 (by decide)]; exact k2 t ht
    · rw [K45, Kp 57 (by decide) (by decide) (by decide) (by decide)]; simp (disch := decide) only [up_n]; exact h5
    · rw [K45, Kp 58 (by decide) (by decide) (by decide) (by decide)]; simp (disch := decide) only [up_n]; exact h6
