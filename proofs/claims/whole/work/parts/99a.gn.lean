/-! ===== the model's changes, 2: mending, the tape, the law, undone ===== -/
def gMend (g : am_G) (n w x : Int32) : Int32 × am_G := if (hasN (gV g) n w && fitN w.toNatClampNeg x) = true then (nI (vN (gV g) w.toNatClampNeg n.toNatClampNeg), if vN (gV g) w.toNatClampNeg n.toNatClampNeg = x.toNatClampNeg then g else sC g (vset (gV g) w.toNatClampNeg n.toNatClampNeg x.toNatClampNeg) (cadd (gC g) (n.toNatClampNeg, w.toNatClampNeg, vN (gV g) w.toNatClampNeg n.toNatClampNeg, x.toNatClampNeg))) else (-1, g)
theorem m_shift_loop {d : Nat} {L : am_LT} {Q : am_QT} {f47 f48 f49 : Nat → Int32} {x1 x2 x3 : Int32} : ∀ (j k : Nat) (F : am_FT), k + j = 40 → 1 ≤ k → (∀ i, i < 40 → F 47 i = (if i + 1 < k then f47 (i + 1) else f47 i) ∧ F 48 i = (if i + 1 < k then f48 (i + 1) else f48 i) ∧ F 49 i = (if i + 1 < k then f49 (i + 1) else f49 i)) → (∀ (G : am_FT) (l4 : Option Value), (∀ p, p ≠ 47 → p ≠ 48 → p ≠ 49 → G p = F p) → (∀ i, i < 39 → G 47 i = f47 (i + 1) ∧ G 48 i = f48 (i + 1) ∧ G 49 i = f49 (i + 1)) → wt am_S0 d mX12_becomes 87 [some (.ref 45), some (.int x1), some (.int x2), some (.int x3), l4] [] G L Q) → wt am_S0 d mX12_becomes 26 [some (.ref 45), some (.int x1), some (.int x2), some (.int x3), some (.int (nI k))] [] F L Q := by
  intro j
  induction j with
  | zero =>
    intro k F hk h1 hi hq
    have : k = 40 := by omega
    subst this
    rw [kX12_becomes_26, if_pos (by decide)]
    refine hq F _ (fun _ _ _ _ => rfl) fun i h39 => ?_
    have := hi i (by omega)
    rw [if_pos (by omega), if_pos (by omega), if_pos (by omega)] at this
    exact this
  | succ j ih =>
    intro k F hk h1 hi hq
    have em : nI k - 1 = nI (k - 1) := nI_m1 (by omega)
    rw [kX12_becomes_26, if_neg (show ¬ (40 : Int32) ≤ nI k from nI_ge (b := 40) (by omega) (by decide)), kX12_becomes_33 (oobN (by omega) (by decide)) (by rw [em]; exact oobN (by omega) (by decide)), em, nI_clamp (by omega), nI_clamp (by omega), kX12_becomes_58 (oobN (by omega) (by decide)) (oobN (by omega) (by decide)) (by rw [em]; exact oobN (by omega) (by decide)), em, nI_clamp (by omega), nI_clamp (by omega), nI_1]
    have hk1 := hi k (by omega)
    rw [if_neg (by omega), if_neg (by omega), if_neg (by omega)] at hk1
    refine ih (k + 1) _ (by omega) (by omega) ?_ ?_
    · intro i h40
      have hi1 := hi i h40
      simp (disch := decide) only [up_o]
      by_cases hx : i = k - 1
      · subst hx
        rw [if_pos (by omega), if_pos (by omega), if_pos (by omega), up_s, up_s, up_s, show k - 1 + 1 = k by omega]
        exact hk1
      · rw [up_n hx, up_n hx, up_n hx]
        by_cases hlt : i + 1 < k
        · rw [if_pos hlt, if_pos hlt, if_pos hlt] at hi1
          rw [if_pos (by omega), if_pos (by omega), if_pos (by omega)]
          exact hi1
        · rw [if_neg hlt, if_neg hlt, if_neg hlt] at hi1
          rw [if_neg (by omega), if_neg (by omega), if_neg (by omega)]
          exact hi1
    · intro G l4 g1 g2
      refine hq G l4 (fun p a b c => (g1 p a b c).trans ?_) g2
      rw [up_o c, up_o b, up_o a]
theorem m_bec_put {d k w n x : Nat} {F : am_FT} {L : am_LT} {Q : am_QT} {x3 : Int32} {l4 : Option Value} (h5 : F 45 5 = nI k) (hk : k < 40) (hp : pmN w + n < 60) : wt am_S0 d mX12_becomes 97 [some (.ref 45), some (.int (nI (pmN w + n))), some (.int (nI x)), some (.int x3), l4] [] F L Q = Q (some (.int x3)) (am_upF (am_upF (am_upF (am_upF (am_upF (am_upF F 47 k (nI (pmN w + n))) 48 k x3) 49 k (nI x)) 45 5 (nI (k + 1))) 45 4 (nI (k + 1))) 46 (pmN w + n) (nI x)) L := by
  rw [kX12_becomes_97 (by rw [h5]; exact oobN hk (by decide)), h5, nI_clamp (by omega), kX12_becomes_125 (oobN hk (by decide)), nI_clamp (by omega)]
  simp (disch := decide) only [up_o]
  rw [h5, nI_1, kX12_becomes_151 (oobN hp (by decide)), nI_clamp (by omega)]
theorem mc_mend (g : am_G) (hg : wG g) (n w x : Int32) : MC mX12_mend [.ref 45, .int n, .int w, .int x] g (.int (gMend g n w x).1) (gMend g n w x).2 := by
  intro F L Q hm hq
  have hv := hm.1.2.1
  unfold gMend at hq
  rw [eX12_mend, kX12_mend_0, m_placeOf hm.1.1 hv]
  simp only [Option.toList_some, Option.toList_none, List.cons_append, List.nil_append]
  rw [kX12_mend_6]
  cases hh : hasN (gV g) n w
  · rw [hh, Bool.false_and, if_neg (by decide)] at hq
    rw [if_neg Bool.false_ne_true, if_pos (by decide), kX12_mend_31, kX12_mend_32]
    exact hq F L (fun _ _ => rfl) (fun _ _ => rfl) hm
  · rw [hh, Bool.true_and] at hq
    obtain ⟨a, b, b7, ab, rfl, rfl, ea, eb⟩ := hasN_ex hv hh
    rw [ea, eb] at hq ⊢
    have hp := pm_lt hv b7 ab
    rw [if_pos rfl, if_neg (nI_pos (by omega)), kX12_mend_13, m_mayBecome b7]
    simp only [Option.toList_some, Option.toList_none, List.cons_append, List.nil_append]
    rw [kX12_mend_18]
    cases hf : fitN b x
    · rw [hf, if_neg (by decide)] at hq
      rw [if_pos bIf, kX12_mend_31, kX12_mend_32]
      exact hq F L (fun _ _ => rfl) (fun _ _ => rfl) hm
    · rw [hf, if_pos rfl] at hq
      obtain ⟨k, k1, k2, rfl⟩ := fitN_ex hf
      have hold := (hv.2.2 b a b7 ab)
      have hhi : vHi b ≤ 255 := by
        have : ∀ w, w < 7 → vHi w ≤ 255 := by decide
        exact this b b7
      have e46 := hm.1.1.2.2.2 b a b7 ab
      rw [nI_clamp (by omega)] at hq
      rw [if_neg bIt, kX12_mend_21, eX12_becomes, kX12_becomes_0 (oobN hp (by decide)), nI_clamp (by omega), e46]
      by_cases hsame : vN (gV g) b a = k
      · rw [if_pos hsame] at hq
        rw [if_neg (fun hne => hne (by rw [hsame])), kX12_becomes_12]
        simp only [Option.toList_some, Option.toList_none, List.cons_append, List.nil_append]
        rw [kX12_mend_28, kX12_mend_32]
        exact hq F L (fun _ _ => rfl) (fun _ _ => rfl) hm
      · rw [if_neg hsame] at hq
        obtain ⟨h1, h2, ⟨c5, c4, cf⟩, h4, h5, h6, h7⟩ := hm
        have hc40 := hg.2.2.1.1
        have fin : ∀ (F' : am_FT) (j : Nat) (l4 : Option Value), (∀ p, p < 45 → F' p = F p) → (∀ p, 45 < p → p ≠ 47 → p ≠ 48 → p ≠ 49 → F' p = F p) → (∀ i, i ≠ 5 → F' 45 i = F 45 i) → F' 45 5 = nI j → j < 40 → j = (if (gC g).1 = 40 then 39 else (gC g).1) → (∀ i, i < j → F' 47 i = nI (pmN ((cadd (gC g) (a, b, vN (gV g) b a, k)).2.2 i).2.1 + ((cadd (gC g) (a, b, vN (gV g) b a, k)).2.2 i).1) ∧ F' 48 i = nI ((cadd (gC g) (a, b, vN (gV g) b a, k)).2.2 i).2.2.1 ∧ F' 49 i = nI ((cadd (gC g) (a, b, vN (gV g) b a, k)).2.2 i).2.2.2) → wt am_S0 2046 mX12_becomes 97 [some (.ref 45), some (.int (nI (pmN b + a))), some (.int (nI k)), some (.int (nI (vN (gV g) b a))), l4] [] F' L (fun r G K => wt am_S0 (2046 + 1) mX12_mend 28 [some (.ref 45), some (.int (nI a)), some (.int (nI b)), some (.int (nI k)), some (.int (nI (pmN b + a)))] (r.toList ++ []) G K Q) := by
          intro F' j l4 f1 f2 f3 f5 fj fje fc
          have ec : (cadd (gC g) (a, b, vN (gV g) b a, k)).1 = j + 1 ∧ (cadd (gC g) (a, b, vN (gV g) b a, k)).2.1 = 0 ∧ (cadd (gC g) (a, b, vN (gV g) b a, k)).2.2 j = (a, b, vN (gV g) b a, k) := by
            unfold cadd
            by_cases h40 : (gC g).1 = 40
            · rw [if_pos h40] at fje ⊢
              subst fje
              exact ⟨rfl, rfl, rfl⟩
            · rw [if_neg h40] at fje ⊢
              subst fje
              exact ⟨rfl, rfl, if_pos rfl⟩
          rw [m_bec_put f5 fj hp]
          simp only [Option.toList_some, Option.toList_none, List.cons_append, List.nil_append]
          rw [kX12_mend_28, kX12_mend_32]
          apply hq
          · intro p hp
            rw [up_o (by omega), up_o (by omega), up_o (by omega), up_o (by omega), up_o (by omega), up_o (by omega), f1 p hp]
          · intro p _; rfl
          · refine ⟨⟨RM_set h1.1 hv b7 ab ?_ ?_ ?_ ?_, wV_set hv k1 k2, ?_⟩, ?_, ⟨?_, ?_, ?_⟩, ?_, ?_, ?_, RSm_fr h7 ?_ ?_ rfl⟩
            · simp (disch := decide) only [up_o, up_n]; exact f3 6 (by decide)
            · simp (disch := decide) only [up_o, up_n]; exact f3 7 (by decide)
            · simp (disch := decide) only [up_o, up_n]; exact f3 8 (by decide)
            · funext i
              by_cases hi : i = pmN b + a
              · subst hi
                rw [up_s, up_s]
              · rw [up_n hi, up_n hi]
                simp (disch := decide) only [up_o, up_n]
                rw [f2 46 (by decide) (by decide) (by decide) (by decide)]
            · simp (disch := decide) only [up_o, up_n]
              rw [f3 12 (by decide), f2 51 (by decide) (by decide) (by decide) (by decide)]; exact h1.2.2
            · simp (disch := decide) only [up_o, up_n]
              rw [f3 10 (by decide), f2 50 (by decide) (by decide) (by decide) (by decide)]; exact h2
            · simp (disch := decide) only [up_o, up_n, up_s]
              rw [show gC (sC g (vset (gV g) b a k) (cadd (gC g) (a, b, vN (gV g) b a, k))) = cadd (gC g) (a, b, vN (gV g) b a, k) from rfl, ec.1]
            · simp (disch := decide) only [up_o, up_n, up_s]
              rw [show gC (sC g (vset (gV g) b a k) (cadd (gC g) (a, b, vN (gV g) b a, k))) = cadd (gC g) (a, b, vN (gV g) b a, k) from rfl, ec.1, ec.2.1]
            · intro i hi
              rw [show gC (sC g (vset (gV g) b a k) (cadd (gC g) (a, b, vN (gV g) b a, k))) = cadd (gC g) (a, b, vN (gV g) b a, k) from rfl, ec.1, ec.2.1] at hi
              rw [show gC (sC g (vset (gV g) b a k) (cadd (gC g) (a, b, vN (gV g) b a, k))) = cadd (gC g) (a, b, vN (gV g) b a, k) from rfl]
              simp (disch := decide) only [up_o]
              by_cases hij : i = j
              · subst hij
                rw [up_s, up_s, up_s, ec.2.2]
                exact ⟨rfl, rfl, rfl⟩
              · rw [up_n hij, up_n hij, up_n hij]
                exact fc i (by omega)
            · simp (disch := decide) only [up_o, up_n]
              rw [f3 19 (by decide), f3 21 (by decide), f3 22 (by decide), f3 23 (by decide), f3 24 (by decide), f3 25 (by decide), f2 53 (by decide) (by decide) (by decide) (by decide), f2 54 (by decide) (by decide) (by decide) (by decide), f2 55 (by decide) (by decide) (by decide) (by decide), f2 56 (by decide) (by decide) (by decide) (by decide)]
              exact h4
            · simp (disch := decide) only [up_o, up_n]
              rw [f3 29 (by decide), f2 57 (by decide) (by decide) (by decide) (by decide)]; exact h5
            · simp (disch := decide) only [up_o, up_n]
              rw [f3 32 (by decide), f2 58 (by decide) (by decide) (by decide) (by decide)]; exact h6
            · simp (disch := decide) only [up_o, up_n]
              exact f2 59 (by decide) (by decide) (by decide) (by decide)
            · simp (disch := decide) only [up_o, up_n]
              exact f2 60 (by decide) (by decide) (by decide) (by decide)
        rw [if_pos (by rw [nI_inj (by omega) (by omega)]; exact hsame), kX12_becomes_14, c5]
        by_cases h40 : (gC g).1 = 40
        · rw [if_neg (fun hne => hne (by rw [h40]; rfl)), kX12_becomes_23, show (some (.int 1) : Option Value) = some (.int (nI 1)) from rfl]
          refine m_shift_loop (f47 := F 47) (f48 := F 48) (f49 := F 49) 39 1 F rfl (Nat.le_refl _) ?_ ?_
          · intro i _
            rw [if_neg (by omega), if_neg (by omega), if_neg (by omega)]
            exact ⟨rfl, rfl, rfl⟩
          · intro G l4 g1 g2
            have g45 : G 45 = F 45 := g1 45 (by decide) (by decide) (by decide)
            rw [kX12_becomes_87, g45, c5, h40, show (nI 40 - 1 : Int32) = nI 39 from rfl]
            refine fin _ 39 _ (fun p hp => by rw [up_o (by omega), g1 p (by omega) (by omega) (by omega)]) (fun p p1 p2 p3 p4 => by rw [up_o (by omega), g1 p p2 p3 p4]) (fun i hi => by rw [up_n hi, g45]) up_s (by decide) (by rw [if_pos h40]) ?_
            intro i hi
            rw [up_o (by decide), up_o (by decide), up_o (by decide)]
            have e2 : (cadd (gC g) (a, b, vN (gV g) b a, k)).2.2 i = (gC g).2.2 (i + 1) := by
              unfold cadd
              rw [if_pos h40]
              exact if_neg (by omega)
            rw [e2, (g2 i hi).1, (g2 i hi).2.1, (g2 i hi).2.2]
            exact cf (i + 1) (by omega)
        · rw [if_pos (show ¬ nI (gC g).1 = (40 : Int32) from nI_ne (x := 40) (by omega) (by decide) h40)]
          refine fin F (gC g).1 _ (fun _ _ => rfl) (fun _ _ _ _ _ => rfl) (fun _ _ => rfl) c5 (by omega) (by rw [if_neg h40]) ?_
          intro i hi
          have e2 : (cadd (gC g) (a, b, vN (gV g) b a, k)).2.2 i = (gC g).2.2 i := by
            unfold cadd
            rw [if_neg h40]
            exact if_neg (by omega)
          rw [e2]
          exact cf i (by omega)
def gOf (g : am_G) (n w : Int32) : Int32 := if hasN (gV g) n w = true then nI (vN (gV g) w.toNatClampNeg n.toNatClampNeg) else if (decide (w = 7) && inR n (vT (gV g))) = true then bI (vS (gV g) n.toNatClampNeg) else -1
theorem mc_of (g : am_G) (n w : Int32) : MC mX12_of [.ref 45, .int n, .int w] g (.int (gOf g n w)) g := by
  intro F L Q hm hq
  have hv := hm.1.2.1
  have hT := hv.1
  have hq0 := hq F L (fun _ _ => rfl) (fun _ _ => rfl) hm
  unfold gOf at hq0
  rw [eX12_of, kX12_of_0, m_placeOf hm.1.1 hv]
  simp only [Option.toList_some, Option.toList_none, List.cons_append, List.nil_append]
  rw [kX12_of_6]
  cases hh : hasN (gV g) n w
  · rw [hh, if_neg (by decide)] at hq0
    rw [if_neg Bool.false_ne_true, if_pos (by decide), kX12_of_20]
    by_cases h7 : w = 7
    · rw [decide_eq_true h7, Bool.true_and] at hq0
      rw [if_neg (fun hne => hne h7), kX12_of_26, m_isTree hm.1.1 hv]
      simp only [Option.toList_some, Option.toList_none, List.cons_append, List.nil_append]
      rw [kX12_of_32]
      cases hn : inR n (vT (gV g))
      · rw [hn, if_neg (by decide)] at hq0
        rw [if_pos bIf, kX12_of_46, kX12_of_47]
        exact hq0
      · rw [hn, if_pos rfl] at hq0
        obtain ⟨t, t1, rfl⟩ := inR_ex hn (by omega)
        rw [nI_clamp (by omega)] at hq0
        have := sts_lt hv
        rw [if_neg bIt, kX12_of_35, hm.1.1.2.2.1, tb_shr _ (by omega) t (by omega), sts_bit t1, kX12_of_47]
        exact hq0
    · rw [decide_eq_false h7, Bool.false_and, if_neg (by decide)] at hq0
      rw [if_pos h7, kX12_of_46, kX12_of_47]
      exact hq0
  · rw [hh, if_pos rfl] at hq0
    obtain ⟨a, b, b7, ab, rfl, rfl, ea, eb⟩ := hasN_ex hv hh
    rw [ea, eb] at hq0 ⊢
    have hp := pm_lt hv b7 ab
    rw [if_pos rfl, if_neg (nI_pos (by omega)), kX12_of_11 (oobN hp (by decide)), nI_clamp (by omega), hm.1.1.2.2.2 b a b7 ab, kX12_of_47]
    exact hq0
def gFeed (g : am_G) (x : Int32) : Int32 × am_G := if inR x 256 = true then (if (gT g).1 = 120 then (-3, g) else (nI ((gT g).1 + 1), sT g ((gT g).1 + 1, fun k => if k = (gT g).1 then x.toNatClampNeg else (gT g).2 k))) else (-1, g)
theorem mc_feed (g : am_G) (hg : wG g) (x : Int32) : MC mX12_feed [.ref 45, .int x] g (.int (gFeed g x).1) (gFeed g x).2 := by
  intro F L Q hm hq
  have ht := hg.2.1.1
  unfold gFeed at hq
  rw [eX12_feed, kX12_feed_0, show (255 : Int64) = (nI 255).toInt64 from rfl, m_w (by decide)]
  simp only [Option.toList_some, Option.toList_none, List.cons_append, List.nil_append]
  rw [kX12_feed_9]
  cases hx : inR x (255 + 1)
  · rw [show inR x 256 = false from hx, if_neg (by decide)] at hq
    rw [if_neg (by decide), kX12_feed_12]
    exact hq F L (fun _ _ => rfl) (fun _ _ => rfl) hm
  · rw [show inR x 256 = true from hx, if_pos rfl] at hq
    obtain ⟨k, k1, rfl⟩ := inR_ex hx (by decide)
    rw [nI_clamp (by omega)] at hq
    obtain ⟨h1, ⟨t1, t2⟩, h3, h4, h5, h6, h7⟩ := hm
    rw [if_pos bIt, kX12_feed_14, t1]
    by_cases h120 : (gT g).1 = 120
    · rw [if_pos h120] at hq
      rw [if_neg (fun hne => hne (by rw [h120]; rfl)), kX12_feed_23]
      exact hq F L (fun _ _ => rfl) (fun _ _ => rfl) ⟨h1, ⟨t1, t2⟩, h3, h4, h5, h6, h7⟩
    · rw [if_neg h120] at hq
      rw [if_pos (show ¬ nI (gT g).1 = (120 : Int32) from nI_ne (x := 120) (by omega) (by decide) h120), kX12_feed_26 (by rw [t1]; exact oobN (by omega) (by decide)), t1, nI_clamp (by omega), nI_1]
      apply hq
      · intro p hp
        rw [up_o (by omega), up_o (by omega)]
      · intro p _; rfl
      · refine ⟨MV_fr h1 ?_ ?_ ?_ ?_ ?_ ?_, ⟨?_, ?_⟩, ?_, ?_, ?_, ?_, RSm_fr h7 ?_ ?_ rfl⟩
        · simp (disch := decide) only [up_o, up_n]
        · simp (disch := decide) only [up_o, up_n]
        · simp (disch := decide) only [up_o, up_n]
        · simp (disch := decide) only [up_o, up_n]
        · simp (disch := decide) only [up_o, up_n]
        · simp (disch := decide) only [up_o, up_n]
        · rw [up_s]; rfl
        · intro i hi
          have hi2 : i < (gT g).1 + 1 := hi
          rw [up_o (by decide)]
          show _ = nI (if i = (gT g).1 then k else (gT g).2 i)
          by_cases hik : i = (gT g).1
          · rw [if_pos hik, hik, up_s]
          · rw [if_neg hik, up_n hik]; exact t2 i (by omega)
        · simp (disch := decide) only [up_o, up_n]; exact h3
        · simp (disch := decide) only [up_o, up_n]; exact h4
        · simp (disch := decide) only [up_o, up_n]; exact h5
        · simp (disch := decide) only [up_o, up_n]; exact h6
        · simp (disch := decide) only [up_o, up_n]
        · simp (disch := decide) only [up_o, up_n]
def vlaw (v : am_V) (f : Int32 → Int32 → Int32 → Int32 → Int32 → Int32 → Int32) : am_V := (vT v, vP v, vN v, vS v, f)
def gLaw (g : am_G) : Int32 × am_G := match pTx (byt (gT g).2 (gT g).1) (gT g).1 121 0 with
  | .inl f => (-100 - nI f, sT g (0, (gT g).2))
  | .inr t => (1, (vlaw (gV g) (txV t), (0, (gT g).2), gC g, gD g, gB g, gL g, gS g))
theorem mc_law (g : am_G) (hg : wG g) : MC mX12_law [.ref 45] g (.int (gLaw g).1) (gLaw g).2 := by
  intro F L Q hm hq
  obtain ⟨h1, ⟨t1, t2⟩, h3, h4, h5, h6, h7⟩ := hm
  unfold gLaw at hq
  apply m_law (b := (gT g).2) hg.2.1.2 hg.2.1.1 t1 t2
  · intro f hf fn G g1
    rw [hf] at hq
    have gq := FW_qM g1
    apply hq
    · intro p hp
      rw [up_o (by omega), g1.1 p (by omega)]
    · intro p _; rfl
    · obtain ⟨m1, m2, m3, m4, m5, m6, m7⟩ := Mdl_qM ⟨h1, ⟨t1, t2⟩, h3, h4, h5, h6, h7⟩ gq
      refine ⟨MV_fr m1 ?_ ?_ ?_ ?_ ?_ ?_, ⟨?_, fun i hi => absurd hi (Nat.not_lt_zero _)⟩, ?_, ?_, ?_, ?_, RSm_fr m7 ?_ ?_ rfl⟩
      · simp (disch := decide) only [up_o, up_n]
      · simp (disch := decide) only [up_o, up_n]
      · simp (disch := decide) only [up_o, up_n]
      · simp (disch := decide) only [up_o, up_n]
      · simp (disch := decide) only [up_o, up_n]
      · simp (disch := decide) only [up_o, up_n]
      · rw [up_s]; rfl
      · simp (disch := decide) only [up_o, up_n]; exact m3
      · simp (disch := decide) only [up_o, up_n]; exact m4
      · simp (disch := decide) only [up_o, up_n]; exact m5
      · simp (disch := decide) only [up_o, up_n]; exact m6
      · simp (disch := decide) only [up_o, up_n]
      · simp (disch := decide) only [up_o, up_n]
  · intro t ht G g1 g2 g10 g12 g51
    rw [ht] at hq
    apply hq
    · intro p hp
      rw [g1 p (by omega) (by omega)]
    · intro p _; rfl
    · refine ⟨⟨?_, h1.2.1, Or.inr ⟨(gT g).1, (gT g).2, t, hg.2.1.1, hg.2.1.2, g12, g51, ht, rfl⟩⟩, ⟨g10, fun i hi => absurd hi (Nat.not_lt_zero _)⟩, ?_, ?_, ?_, ?_, RSm_fr h7 (g1 59 (by decide) (by decide)) (g1 60 (by decide) (by decide)) rfl⟩
      · refine ⟨?_, ?_, ?_, ?_⟩
        · rw [g2 6 (by omega) (by decide) (by decide)]; exact h1.1.1
        · rw [g2 7 (by omega) (by decide) (by decide)]; exact h1.1.2.1
        · rw [g2 8 (by omega) (by decide) (by decide)]; exact h1.1.2.2.1
        · rw [g1 46 (by decide) (by decide)]; exact h1.1.2.2.2
      · rw [g2 5 (by omega) (by decide) (by decide), g2 4 (by omega) (by decide) (by decide), g1 47 (by decide) (by decide), g1 48 (by decide) (by decide), g1 49 (by decide) (by decide)]; exact h3
      · rw [g2 19 (by omega) (by decide) (by decide), g2 21 (by omega) (by decide) (by decide), g2 22 (by omega) (by decide) (by decide), g2 23 (by omega) (by decide) (by decide), g2 24 (by omega) (by decide) (by decide), g2 25 (by omega) (by decide) (by decide), g1 53 (by decide) (by decide), g1 54 (by decide) (by decide), g1 55 (by decide) (by decide), g1 56 (by decide) (by decide)]; exact h4
      · rw [g2 29 (by omega) (by decide) (by decide), g1 57 (by decide) (by decide)]; exact h5
      · rw [g2 32 (by omega) (by decide) (by decide), g1 58 (by decide) (by decide)]; exact h6
def gUndo (g : am_G) : Int32 × am_G := if (gC g).1 = 0 then (-5, g) else (nI ((gC g).1 - 1), sC g (vset (gV g) ((gC g).2.2 ((gC g).1 - 1)).2.1 ((gC g).2.2 ((gC g).1 - 1)).1 ((gC g).2.2 ((gC g).1 - 1)).2.2.1) ((gC g).1 - 1, (gC g).2.1 + 1, (gC g).2.2))
theorem mc_undo (g : am_G) (hg : wG g) : MC mX12_undo [.ref 45] g (.int (gUndo g).1) (gUndo g).2 := by
  intro F L Q hm hq
  obtain ⟨h1, h2, ⟨c5, c4, cf⟩, h4, h5, h6, h7⟩ := hm
  have hv := h1.2.1
  have hc40 := hg.2.2.1.1
  unfold gUndo at hq
  rw [eX12_undo, kX12_undo_0, c5]
  by_cases h0 : (gC g).1 = 0
  · rw [if_pos h0] at hq
    rw [if_neg (fun hne => hne (by rw [h0]; rfl)), kX12_undo_7]
    exact hq F L (fun _ _ => rfl) (fun _ _ => rfl) ⟨h1, h2, ⟨c5, c4, cf⟩, h4, h5, h6, h7⟩
  · rw [if_neg h0] at hq
    have hw := hg.2.2.1.2 ((gC g).1 - 1) (by omega)
    have hf := cf ((gC g).1 - 1) (by omega)
    have hp := pm_lt hv hw.1 hw.2.1
    have em : nI (gC g).1 - 1 = nI ((gC g).1 - 1) := nI_m1 (by omega)
    rw [if_pos (by rw [nI0' (by omega)]; exact h0), kX12_undo_10 (by rw [c5, em]; exact oobN (by omega) (by decide)), c5, em, nI_clamp (by omega), hf.1, kX12_undo_38 (by rw [up_s]; exact oobN (by omega) (by decide)) (oobN hp (by decide)), up_s, nI_clamp (by omega), nI_clamp (by omega), up_o (q := 48) (p := 45) (by decide), hf.2.1]
    apply hq
    · intro p hp
      rw [up_o (by omega), up_o (by omega)]
    · intro p _; rfl
    · refine ⟨⟨RM_set h1.1 hv hw.1 hw.2.1 ?_ ?_ ?_ ?_, wV_set hv hw.2.2.1.1 hw.2.2.1.2, ?_⟩, ?_, ⟨?_, ?_, ?_⟩, ?_, ?_, ?_, RSm_fr h7 ?_ ?_ rfl⟩
      · simp (disch := decide) only [up_o, up_n]
      · simp (disch := decide) only [up_o, up_n]
      · simp (disch := decide) only [up_o, up_n]
      · funext i
        by_cases hi : i = pmN ((gC g).2.2 ((gC g).1 - 1)).2.1 + ((gC g).2.2 ((gC g).1 - 1)).1
        · subst hi
          rw [up_s, up_s]
        · rw [up_n hi, up_n hi, up_o (by decide)]
      · simp (disch := decide) only [up_o, up_n]; exact h1.2.2
      · simp (disch := decide) only [up_o, up_n]; exact h2
      · simp (disch := decide) only [up_o, up_s]; rfl
      · simp (disch := decide) only [up_o, up_n]
        rw [c4]
        show nI _ = nI ((gC g).1 - 1 + ((gC g).2.1 + 1))
        congr 1
        omega
      · intro i hi
        have hi2 : i < (gC g).1 - 1 + ((gC g).2.1 + 1) := hi
        simp (disch := decide) only [up_o]
        exact cf i (by omega)
      · simp (disch := decide) only [up_o, up_n]; exact h4
      · simp (disch := decide) only [up_o, up_n]; exact h5
      · simp (disch := decide) only [up_o, up_n]; exact h6
      · simp (disch := decide) only [up_o, up_n]
      · simp (disch := decide) only [up_o, up_n]
def gRedo (g : am_G) : Int32 × am_G := if (gC g).2.1 = 0 then (-5, g) else (nI ((gC g).2.1 - 1), sC g (vset (gV g) ((gC g).2.2 (gC g).1).2.1 ((gC g).2.2 (gC g).1).1 ((gC g).2.2 (gC g).1).2.2.2) ((gC g).1 + 1, (gC g).2.1 - 1, (gC g).2.2))
theorem mc_redo (g : am_G) (hg : wG g) : MC mX12_redo [.ref 45] g (.int (gRedo g).1) (gRedo g).2 := by
  intro F L Q hm hq
  obtain ⟨h1, h2, ⟨c5, c4, cf⟩, h4, h5, h6, h7⟩ := hm
  have hv := h1.2.1
  have hc40 := hg.2.2.1.1
  unfold gRedo at hq
  rw [eX12_redo, kX12_redo_0, c5, c4]
  by_cases h0 : (gC g).2.1 = 0
  · rw [if_pos h0] at hq
    rw [if_neg (fun hne => hne (by rw [h0, Nat.add_zero])), kX12_redo_11]
    exact hq F L (fun _ _ => rfl) (fun _ _ => rfl) ⟨h1, h2, ⟨c5, c4, cf⟩, h4, h5, h6, h7⟩
  · rw [if_neg h0] at hq
    have hw := hg.2.2.1.2 (gC g).1 (by omega)
    have hf := cf (gC g).1 (by omega)
    have hp := pm_lt hv hw.1 hw.2.1
    rw [if_pos (by rw [nI_inj (by omega) (by omega)]; omega), kX12_redo_14 (by rw [c5]; exact oobN (by omega) (by decide)) (by rw [c5, nI_clamp (by omega), hf.1]; exact oobN hp (by decide)), c5, nI_clamp (by omega), hf.1, nI_clamp (by omega), hf.2.2, kX12_redo_42, nI_1]
    simp (disch := decide) only [up_o]
    rw [c4, show (nI ((gC g).1 + (gC g).2.1) - nI ((gC g).1 + 1) : Int32) = nI ((gC g).2.1 - 1) by
      simp (disch := omega) only [iI_n, iI_l, iI_neg, iI_add, iI_sub, iI_mul, iI_div, iI_lt, iI_le, iI_eq]
      congr 1
      omega]
    apply hq
    · intro p hp
      rw [up_o (by omega), up_o (by omega)]
    · intro p _; rfl
    · refine ⟨⟨RM_set h1.1 hv hw.1 hw.2.1 ?_ ?_ ?_ ?_, wV_set hv hw.2.2.2.1 hw.2.2.2.2, ?_⟩, ?_, ⟨?_, ?_, ?_⟩, ?_, ?_, ?_, RSm_fr h7 ?_ ?_ rfl⟩
      · simp (disch := decide) only [up_o, up_n]
      · simp (disch := decide) only [up_o, up_n]
      · simp (disch := decide) only [up_o, up_n]
      · rw [up_o (by decide)]
      · simp (disch := decide) only [up_o, up_n]; exact h1.2.2
      · simp (disch := decide) only [up_o, up_n]; exact h2
      · rw [up_s]; rfl
      · simp (disch := decide) only [up_o, up_n]
        rw [c4]
        show nI _ = nI ((gC g).1 + 1 + ((gC g).2.1 - 1))
        congr 1
        omega
      · intro i hi
        have hi2 : i < (gC g).1 + 1 + ((gC g).2.1 - 1) := hi
        simp (disch := decide) only [up_o]
        exact cf i (by omega)
      · simp (disch := decide) only [up_o, up_n]; exact h4
      · simp (disch := decide) only [up_o, up_n]; exact h5
      · simp (disch := decide) only [up_o, up_n]; exact h6
      · simp (disch := decide) only [up_o, up_n]
      · simp (disch := decide) only [up_o, up_n]
