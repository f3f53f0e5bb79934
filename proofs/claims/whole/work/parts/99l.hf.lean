/-! ===== the face's acts and shelves ===== -/
theorem TRl_RTr {F : am_FT} {ls : List Nat} (h : RTr (F 29 3) (F 31) ls) : TRl F ls := h
theorem cc_act (g : am_G) (hg : wG g) (b a x : Int32) : CC mX11_act [.ref 0, .int b, .int a, .int x] g (.int (gAct g b a x).1) (gAct g b a x).2 := by
  intro F L Q hm hq
  have hB := hg.2.2.2.2.1
  have hB1 := hB.1
  unfold gAct at hq
  obtain ⟨h1, h2, h3, h4, h5, h6, h7⟩ := hm
  have e32 : F 29 2 = nI (gB g).1 := h5.1
  have f0 : FV F (am_upF F 29 3 0) := ⟨fun p a _ => up_o a, up_n (by decide)⟩
  have m0 : ∀ (G : am_FT), FV F G → ∀ ls, TRl G ls → Cls G L (sL g ls) := by
    intro G ga ls ht
    have e : ∀ p, p ≠ 29 → p ≠ 31 → G p = F p := ga.1
    exact ⟨CV_fr h1 (by rw [e 1 (by decide) (by decide), e 2 (by decide) (by decide)]; exact h1.1) h1.2.1 rfl (e 6 (by decide) (by decide)) (e 7 (by decide) (by decide)), RT_fr h2 (e 3 (by decide) (by decide)) (e 4 (by decide) (by decide)), RC_fr h3 (fun p a b => e p (by omega) (by omega)), RD_fr h4 (fun p a b => e p (by omega) (by omega)), ⟨by rw [ga.2]; exact h5.1, by rw [e 30 (by decide) (by decide)]; exact h5.2⟩, ht, RSc_fr h7 (fun p a b => e p (by omega) (by omega)) (fun _ _ _ => rfl)⟩
  have t0 : ∀ G : am_FT, G 29 3 = 0 → TRl G [] := fun G e => ⟨e, fun i _ hi => absurd hi (Nat.not_lt_zero i)⟩
  have z : am_upF F 29 3 0 29 3 = 0 := up_s
  have end0 : Q (some (.int (0, sL g []).1)) (am_upF F 29 3 0) L → True := fun _ => trivial
  rw [eX11_act, kX11_act_0, eX10_start, kX10_start_0, e32, s_within, wi_b, inR_m (by omega)]
  simp only [Option.toList_some, Option.toList_none, List.cons_append, List.nil_append]
  rw [kX10_start_16]
  cases hb : inR b (gB g).1
  · rw [hb, if_neg (by decide)] at hq
    rw [if_pos bIf, kX10_start_28]
    simp only [Option.toList_some, Option.toList_none, List.cons_append, List.nil_append]
    rw [kX11_act_10]
    exact hq _ L (fun p hp => up_o (by omega)) (fun _ _ => rfl) (m0 _ f0 [] (t0 _ z))
  · rw [hb, if_pos rfl] at hq
    obtain ⟨n, n1, rfl⟩ := inR_ex hb (by omega)
    rw [nI_clamp (by omega)] at hq
    rw [if_neg bIt, kX10_start_19, show (3 : Int32) = nI 3 from rfl, c_w (by decide)]
    simp only [Option.toList_some, Option.toList_none, List.cons_append, List.nil_append]
    rw [kX10_start_25]
    cases ha : inR a (3 + 1)
    · rw [show inR a 4 = false from ha, if_neg (by decide)] at hq
      rw [if_neg (by decide), kX10_start_28]
      simp only [Option.toList_some, Option.toList_none, List.cons_append, List.nil_append]
      rw [kX11_act_10]
      exact hq _ L (fun p hp => up_o (by omega)) (fun _ _ => rfl) (m0 _ f0 [] (t0 _ z))
    · rw [show inR a 4 = true from ha, if_pos rfl] at hq
      obtain ⟨m, m1, rfl⟩ := inR_ex ha (by decide)
      rw [nI_clamp (by omega)] at hq
      have hK := hB.2 n n1
      obtain ⟨K, hKe⟩ : ∃ K, (gB g).2 n = K := ⟨_, rfl⟩
      rw [hKe] at hq hK
      have e30 : am_upF F 29 3 0 30 n = nI K := by rw [up_o (by decide), ← hKe]; exact h5.2 n n1
      obtain ⟨r, r1, r2⟩ := pf_all K hK m m1 (nI n) x
      rw [r1] at hq
      rw [if_pos bIt, kX10_start_30, s_kindOf (by omega) e30]
      simp only [Option.toList_some, Option.toList_none, List.cons_append, List.nil_append]
      rw [kX10_start_37, show (0 : Int32) = nI 0 from rfl]
      apply c_perform (by omega) hK 12 K m 0 2045 x hK m1 (by decide) (by decide) _ _ [] r.1 r.2 r1 e30 (t0 _ z) (by rw [List.length_nil]; omega)
      intro G ga gt
      simp only [Option.toList_some, Option.toList_none, List.cons_append, List.nil_append]
      rw [kX10_start_43]
      simp only [Option.toList_some, Option.toList_none, List.cons_append, List.nil_append]
      rw [kX11_act_10]
      have gf := FV_tr f0 ga
      exact hq G L (fun p hp => gf.1 p (by omega) (by omega)) (fun _ _ => rfl) (m0 G gf _ gt)
theorem cc_trace (g : am_G) (hg : wG g) (x : Int32) : CC mX11_trace [.ref 0, .int x] g (.int (qTrace g x)) g := CC_q fun F L Q hm hq => by
  have hl := hg.2.2.2.2.2.1
  have hr := hm.2.2.2.2.2.1
  have hq' := hq F (SQ_rf F)
  clear hq
  unfold qTrace at hq'
  obtain ⟨N, hN, hN2, hN3, hN4⟩ : ∃ N, (if 24 < F 29 3 then 24 else F 29 3) = nI N ∧ N ≤ 24 ∧ N ≤ (gL g).length ∧ ∀ k, k < 24 → k < (gL g).length → k < N := by
    rw [hr.1]
    by_cases h : 24 < (gL g).length
    · refine ⟨24, ?_, by omega, by omega, fun k a b => a⟩
      rw [if_pos (show (24 : Int32) < nI (gL g).length from nI_ltT (a := 24) h (by omega))]; rfl
    · refine ⟨(gL g).length, ?_, by omega, by omega, fun k a b => b⟩
      rw [if_neg (show ¬ (24 : Int32) < nI (gL g).length from nI_ltF (a := 24) (by omega) (by decide))]
  rw [eX11_trace, kX11_trace_0, eX10_tracesKept, kX10_tracesKept_0, hN]
  simp only [Option.toList_some, Option.toList_none, List.cons_append, List.nil_append]
  rw [kX11_trace_9, s_within, wi_b, inR_m (by omega)]
  simp only [Option.toList_some, Option.toList_none, List.cons_append, List.nil_append]
  rw [kX11_trace_14]
  by_cases h0 : x < 0
  · rw [if_pos h0] at hq'
    have : inR x N = false := decide_eq_false (fun h => h.1 h0)
    rw [this, if_pos bIf, kX11_trace_28, kX11_trace_29]
    exact hq'
  · rw [if_neg h0] at hq'
    obtain ⟨k, k1, rfl⟩ := nI_of h0
    have no : ¬ k < N → inR (nI k) N = false := fun h => decide_eq_false (fun hh => hh.2 (nI_le (by omega) (by omega)))
    by_cases h1 : (gL g).length ≤ k
    · rw [if_pos (nI_le h1 k1)] at hq'
      rw [no (by omega), if_pos bIf, kX11_trace_28, kX11_trace_29]
      exact hq'
    · rw [if_neg (nI_ge (by omega) (by omega))] at hq'
      by_cases h2 : 24 ≤ k
      · rw [if_pos (show (24 : Int32) ≤ nI k from nI_le (a := 24) h2 k1)] at hq'
        rw [no (by omega), if_pos bIf, kX11_trace_28, kX11_trace_29]
        exact hq'
      · rw [if_neg (show ¬ (24 : Int32) ≤ nI k from nI_ge (b := 24) (by omega) (by decide)), nI_clamp k1] at hq'
        rw [inR_n (hN4 k (by omega) (by omega)) (by omega), if_neg bIt, kX11_trace_17, eX10_traceAt, kX10_traceAt_0, s_at (p := 31) (n := 24) rfl (by decide), rdA_n (by omega) (by decide), hr.2 k (by omega) (by omega)]
        simp only [Option.toList_some, Option.toList_none, List.cons_append, List.nil_append]
        rw [kX10_traceAt_8]
        simp only [Option.toList_some, Option.toList_none, List.cons_append, List.nil_append]
        rw [kX11_trace_25, kX11_trace_29]
        exact hq'
/-! shelves -/
theorem c_shelf {d j : Nat} {F : am_FT} {L : am_LT} {Q : am_QT} (hj : j < 6) : wc am_S0 d mX11_shelfAt [.ref 0, .int (nI j)] F L Q = Q (some (.ref (33 + 2 * j))) F L := by
  rw [eX11_shelfAt, kX11_shelfAt_0, if_neg (nI_pos (by omega)), kX11_shelfAt_4, if_neg (show ¬ (6 : Int32) ≤ nI j from nI_ge (b := 6) hj (by decide))]
  rw [kX11_shelfAt_13 (pv := 33 + 2 * j) (oobN hj (by decide)) (by
    rw [nI_clamp (by omega)]
    rcases (by omega : j = 0 ∨ j = 1 ∨ j = 2 ∨ j = 3 ∨ j = 4 ∨ j = 5) with rfl | rfl | rfl | rfl | rfl | rfl <;> rfl), kX11_shelfAt_23]
theorem c_shelfN {d : Nat} {F : am_FT} {L : am_LT} {Q : am_QT} {x : Int32} (hj : inR x 6 = false) : wc am_S0 d mX11_shelfAt [.ref 0, .int x] F L Q = Q (some .null) F L := by
  rw [eX11_shelfAt, kX11_shelfAt_0]
  by_cases h0 : x < 0
  · rw [if_pos h0, kX11_shelfAt_22, kX11_shelfAt_23N]
  · rw [if_neg h0, kX11_shelfAt_4]
    by_cases h6 : 6 ≤ x
    · rw [if_pos h6, kX11_shelfAt_22, kX11_shelfAt_23N]
    · have : inR x 6 = true := decide_eq_true ⟨h0, h6⟩
      rw [this] at hj; cases hj
theorem shK_e {k : Nat} (hk : k ≤ 55) : decide (shK k = -1) = decide (k ≤ 50) := by
  have : ∀ k, k < 56 → decide (shK k = -1) = decide (k ≤ 50) := by decide +kernel
  exact this k (by omega)
theorem shV_e {k : Nat} (hk : k ≤ 55) : (decide (shK k = -1) && decide (shV k = -1)) = decide (k = 0) := by
  have : ∀ k, k < 56 → (decide (shK k = -1) && decide (shV k = -1)) = decide (k = 0) := by decide +kernel
  exact this k (by omega)
theorem shK_of {k s : Nat} (hk : k ≤ 55) (hs : s < 5) : (!decide (shK k = -1) && decide (shK k = nI s)) = decide (k = 51 + s) := by
  have : ∀ s, s < 5 → ∀ k, k < 56 → (!decide (shK k = -1) && decide (shK k = nI s)) = decide (k = 51 + s) := by decide +kernel
  exact this s hs k (by omega)
theorem c_isRow {d j : Nat} {F : am_FT} {L : am_LT} {Q : am_QT} {sh : am_Sh} {nb : Nat} (h : RSc F L sh) (hw : wS sh nb) (hj : j < 6) : wc am_S0 d mX8_isRow [.ref (33 + 2 * j)] F L Q = Q (some (.int (bI (!decide (sK sh j ≤ 50))))) F L := by
  rw [s_isRow (shP_j hj), (h j hj).1, shK_e (hw j hj).1]
theorem c_isEmpty {d j : Nat} {F : am_FT} {L : am_LT} {Q : am_QT} {sh : am_Sh} {nb : Nat} (h : RSc F L sh) (hw : wS sh nb) (hj : j < 6) : wc am_S0 (d + 1) mX8_isEmpty [.ref (33 + 2 * j)] F L Q = Q (some (.int (bI (decide (sK sh j = 0))))) F L := by
  rw [s_isEmpty (shP_j hj), (h j hj).1, (h j hj).2.2.1, shV_e (hw j hj).1]
theorem c_isRowOf {d j s : Nat} {F : am_FT} {L : am_LT} {Q : am_QT} {sh : am_Sh} {nb : Nat} (h : RSc F L sh) (hw : wS sh nb) (hj : j < 6) (hs : s < 5) : wc am_S0 (d + 1) mX8_isRowOf [.ref (33 + 2 * j), .int (nI s)] F L Q = Q (some (.int (bI (decide (sK sh j = 51 + s))))) F L := by
  rw [s_isRowOf (shP_j hj), (h j hj).1, shK_of (hw j hj).1 hs]
theorem c_refOf {d j : Nat} {F : am_FT} {L : am_LT} {Q : am_QT} {sh : am_Sh} {nb : Nat} (h : RSc F L sh) (hw : wS sh nb) (hj : j < 6) : wc am_S0 (d + 2) mX11_refusalOf [.ref (33 + 2 * j)] F L Q = Q (some (.int (if sK sh j = 0 then -11 else -12))) F L := by
  rw [eX11_refusalOf, kX11_refusalOf_0 (shP_j hj).1, c_isEmpty h hw hj]
  simp only [Option.toList_some, Option.toList_none, List.cons_append, List.nil_append]
  rw [kX11_refusalOf_4]
  by_cases h0 : sK sh j = 0
  · rw [decide_eq_true h0, if_neg bIt, if_pos h0, kX11_refusalOf_7, kX11_refusalOf_14]
  · rw [decide_eq_false h0, if_pos bIf, if_neg h0, kX11_refusalOf_12, kX11_refusalOf_14]
/-- one shelf changed -/
theorem Cls_sh {F G : am_FT} {L M : am_LT} {g : am_G} (hm : Cls F L g) {d k m : Nat} {el : Nat → Int64} (hd : d < 6) (ho : ∀ p, p ≠ 33 + 2 * d → G p = F p) (h1 : G (33 + 2 * d) 1 = shK k) (h2 : G (33 + 2 * d) 2 = nI m) (h3 : G (33 + 2 * d) 3 = shV k) (hL : ∀ p, p ≠ 34 + 2 * d → M p = L p) (hE : ∀ i, i < 60 → M (34 + 2 * d) i = el i) : Cls G M (sS g (shS (gS g) d (k, m, el))) := by
  obtain ⟨c1, c2, c3, c4, c5, c6, c7⟩ := hm
  have e := ho
  refine ⟨CV_fr c1 (by rw [e 1 (by omega), e 2 (by omega)]; exact c1.1) c1.2.1 rfl (e 6 (by omega)) (e 7 (by omega)), RT_fr c2 (e 3 (by omega)) (e 4 (by omega)), RC_fr c3 (fun p a b => e p (by omega)), RD_fr c4 (fun p a b => e p (by omega)), RT_fr c5 (e 29 (by omega)) (e 30 (by omega)), RTr_fr c6 (e 29 (by omega)) (e 31 (by omega)), ?_⟩
  intro j hj
  show G (33 + 2 * j) 1 = shK (shS (gS g) d (k, m, el) j).1 ∧ G (33 + 2 * j) 2 = nI (shS (gS g) d (k, m, el) j).2.1 ∧ G (33 + 2 * j) 3 = shV (shS (gS g) d (k, m, el) j).1 ∧ ∀ i, i < 60 → M (34 + 2 * j) i = (shS (gS g) d (k, m, el) j).2.2 i
  by_cases hjd : j = d
  · rw [hjd, shS_s]
    exact ⟨h1, h2, h3, hE⟩
  · rw [shS_n hjd, ho _ (by omega), hL _ (by omega)]
    exact c7 j hj
