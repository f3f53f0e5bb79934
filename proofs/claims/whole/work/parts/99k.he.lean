/-! ===== the image laid back; bodies and acts ===== -/
def bkN (v : am_V) (e : am_D) (k w n : Nat) : Nat := if w = 1 ∧ n < dT e ∧ n < k then dH e n else vN v w n
def bkS (v : am_V) (e : am_D) (k t : Nat) : Bool := if t < k then (if t < dT e then dS e t else true) else vS v t
def I1 (F : am_FT) (v : am_V) (e : am_D) (k : Nat) : Prop := F 1 1 = nI (vT v) ∧ F 1 2 = nI (vP v) ∧ (∀ w n, w < 7 → n < vO v w → F 2 (12 * w + n) = nI (bkN v e k w n)) ∧ ∀ t, t < vT v → F 2 (84 + t) = nI (if bkS v e k t = true then 1 else 0)
theorem bkS_k {v : am_V} {e : am_D} {k t : Nat} (h : t < k) : bkS v e k t = if t < dT e then dS e t else true := if_pos h
theorem bkS_o {v : am_V} {e : am_D} {k t : Nat} (h : t ≠ k) : bkS v e (k + 1) t = bkS v e k t := by
  unfold bkS
  by_cases hc : t < k
  · rw [if_pos hc, if_pos (show t < k + 1 by omega)]
  · rw [if_neg hc, if_neg (show ¬ t < k + 1 by omega)]
theorem c_bk_l1 {d : Nat} {v : am_V} {e : am_D} {L : am_LT} {Q : am_QT} (hv : wV v) (hd : dT e ≤ vT v) : ∀ (j k : Nat) (F : am_FT) (l2 : Option Value), k + j = vT v → F 18 6 = nI (dT e) → (∀ t, t < dT e → F 21 t = bI (dS e t)) → (∀ t, t < dT e → F 22 t = nI (dH e t)) → I1 F v e k → (∀ (G : am_FT) (l2' : Option Value), (∀ p, p ≠ 2 → G p = F p) → I1 G v e (vT v) → wt am_S0 (d + 2) mX3_layBack 89 [some (.ref 18), some (.int (nI (vT v))), l2'] [] G L Q) → wt am_S0 (d + 2) mX3_layBack 11 [some (.ref 18), some (.int (nI k)), l2] [] F L Q := by
  have hT := hv.1
  intro j
  induction j with
  | zero =>
    intro k F l2 hk h6 hs hh hi hq
    have : k = vT v := by omega
    subst this
    rw [kX3_layBack_11, hi.1, if_pos (nI_le (Nat.le_refl _) (by omega))]
    exact hq F l2 (fun _ _ => rfl) hi
  | succ j ih =>
    intro k F l2 hk h6 hs hh hi hq
    rw [kX3_layBack_11, hi.1, if_neg (nI_ge (by omega) (by omega)), kX3_layBack_22, h6]
    by_cases hkd : k < dT e
    · rw [if_pos (nI_ltT hkd (by omega)), kX3_layBack_34, kX3_layBack_35, if_pos rfl, kX3_layBack_51, s_at (p := 21) (n := 6) rfl (by decide), rdA_n (by omega) (by decide), hs k hkd]
      simp only [Option.toList_some, Option.toList_none, List.cons_append, List.nil_append]
      rw [kX3_layBack_59, show (7 : Int32) = nI 7 from rfl, s_write_n (by omega) (by decide)]
      simp only [Option.toList_some, Option.toList_none, List.cons_append, List.nil_append]
      rw [kX3_layBack_62, if_neg (fun h => h rfl), kX3_layBack_66, s_at (p := 22) (n := 6) rfl (by decide), rdA_n (by omega) (by decide), up_o (by decide), hh k hkd]
      simp only [Option.toList_some, Option.toList_none, List.cons_append, List.nil_append]
      rw [kX3_layBack_80, show (1 : Int32) = nI 1 from rfl, s_write_n (by omega) (by decide)]
      simp only [Option.toList_some, Option.toList_none, List.cons_append, List.nil_append]
      rw [kX3_layBack_83, nI_1]
      refine ih (k + 1) _ _ (by omega) ?_ ?_ ?_ ?_ ?_
      · rw [up_o (by decide), up_o (by decide)]; exact h6
      · rw [up_o (by decide), up_o (by decide)]; exact hs
      · rw [up_o (by decide), up_o (by decide)]; exact hh
      · refine ⟨?_, ?_, fun w n hw hn => ?_, fun t ht => ?_⟩
        · rw [up_o (by decide), up_o (by decide)]; exact hi.1
        · rw [up_o (by decide), up_o (by decide)]; exact hi.2.1
        · have n12 := Nat.lt_of_lt_of_le hn (vO_le hv w)
          by_cases hx : w = 1 ∧ n = k
          · obtain ⟨rfl, rfl⟩ := hx
            rw [up_s]
            unfold bkN
            rw [if_pos ⟨rfl, hkd, by omega⟩]
          · rw [up_n (by omega), up_n (by omega), hi.2.2.1 w n hw hn]
            congr 1
            unfold bkN
            by_cases hc : w = 1 ∧ n < dT e ∧ n < k
            · rw [if_pos hc, if_pos ⟨hc.1, hc.2.1, by omega⟩]
            · rw [if_neg hc, if_neg (by omega)]
        · rw [up_n (by omega)]
          by_cases hx : t = k
          · rw [hx, up_s]
            rw [bkS_k (by omega), if_pos hkd]
            rfl
          · rw [up_n (by omega), hi.2.2.2 t ht, bkS_o hx]
      · intro G l g1 g2
        exact hq G l (fun p hp => (g1 p hp).trans (by rw [up_o hp, up_o hp])) g2
    · rw [if_neg (nI_ltF (by omega) (by omega)), kX3_layBack_30, kX3_layBack_35, if_neg (by decide), kX3_layBack_47, kX3_layBack_59, show (7 : Int32) = nI 7 from rfl, s_write_n (by omega) (by decide)]
      simp only [Option.toList_some, Option.toList_none, List.cons_append, List.nil_append]
      rw [kX3_layBack_62, if_pos (by decide), kX3_layBack_83, nI_1]
      refine ih (k + 1) _ _ (by omega) ?_ ?_ ?_ ?_ ?_
      · rw [up_o (by decide)]; exact h6
      · rw [up_o (by decide)]; exact hs
      · rw [up_o (by decide)]; exact hh
      · refine ⟨?_, ?_, fun w n hw hn => ?_, fun t ht => ?_⟩
        · rw [up_o (by decide)]; exact hi.1
        · rw [up_o (by decide)]; exact hi.2.1
        · have n12 := Nat.lt_of_lt_of_le hn (vO_le hv w)
          rw [up_n (by omega), hi.2.2.1 w n hw hn]
          congr 1
          unfold bkN
          by_cases hc : w = 1 ∧ n < dT e ∧ n < k
          · rw [if_pos hc, if_pos ⟨hc.1, hc.2.1, by omega⟩]
          · rw [if_neg hc, if_neg (by omega)]
        · by_cases hx : t = k
          · rw [hx, up_s]
            rw [bkS_k (by omega), if_neg hkd]
            rfl
          · rw [up_n (by omega), hi.2.2.2 t ht, bkS_o hx]
      · intro G l g1 g2
        exact hq G l (fun p hp => (g1 p hp).trans (by rw [up_o hp])) g2
theorem c_bk_l2 {d : Nat} {e : am_D} {L : am_LT} {Q : am_QT} {l2 : Option Value} {f2 : Nat → Int32} (hP : dP e ≤ 10) : ∀ (j k : Nat) (F : am_FT), k + j = dP e → F 18 7 = nI (dP e) → (∀ t, t < dP e → F 23 t = nI (dC e t)) → (∀ i, F 2 i = if 48 ≤ i ∧ i < 48 + k then nI (dC e (i - 48)) else f2 i) → (∀ G : am_FT, (∀ p, p ≠ 2 → G p = F p) → (∀ i, G 2 i = if 48 ≤ i ∧ i < 48 + dP e then nI (dC e (i - 48)) else f2 i) → wt am_S0 (d + 2) mX3_layBack 122 [some (.ref 18), some (.int (nI (dP e))), l2] [] G L Q) → wt am_S0 (d + 2) mX3_layBack 91 [some (.ref 18), some (.int (nI k)), l2] [] F L Q := by
  intro j
  induction j with
  | zero =>
    intro k F hk h7 hc hi hq
    have : k = dP e := by omega
    subst this
    rw [kX3_layBack_91, h7, if_pos (nI_le (Nat.le_refl _) (by omega))]
    exact hq F (fun _ _ => rfl) hi
  | succ j ih =>
    intro k F hk h7 hc hi hq
    rw [kX3_layBack_91, h7, if_neg (nI_ge (by omega) (by omega)), kX3_layBack_99, s_at (p := 23) (n := 10) rfl (by decide), rdA_n (by omega) (by decide), hc k (by omega)]
    simp only [Option.toList_some, Option.toList_none, List.cons_append, List.nil_append]
    rw [kX3_layBack_113, show (4 : Int32) = nI 4 from rfl, s_write_n (by omega) (by decide)]
    simp only [Option.toList_some, Option.toList_none, List.cons_append, List.nil_append]
    rw [kX3_layBack_116, nI_1]
    refine ih (k + 1) _ (by omega) ?_ ?_ ?_ ?_
    · rw [up_o (by decide)]; exact h7
    · rw [up_o (by decide)]; exact hc
    · intro i
      by_cases hik : i = 12 * 4 + k
      · rw [hik, up_s, if_pos (by omega), show 12 * 4 + k - 48 = k by omega]
      · rw [up_n hik, hi i]
        by_cases hx : 48 ≤ i ∧ i < 48 + k
        · rw [if_pos hx, if_pos (by omega)]
        · rw [if_neg hx, if_neg (by omega)]
    · intro G g1 g2
      exact hq G (fun p hp => (g1 p hp).trans (by rw [up_o hp])) g2
theorem c_bk_l3 {d : Nat} {L : am_LT} {Q : am_QT} {l2 : Option Value} {f : Nat → Int32} : ∀ (j k : Nat) (F : am_FT), k + j = 5 → (∀ t, t < 5 → F 20 t = f t) → (∀ t, t < k → F 19 t = f t) → (∀ G : am_FT, (∀ p, p ≠ 19 → G p = F p) → (∀ t, t < 5 → G 19 t = f t) → Q (some (.int 1)) G L) → wt am_S0 (d + 2) mX3_layBack 124 [some (.ref 18), some (.int (nI k)), l2] [] F L Q := by
  intro j
  induction j with
  | zero =>
    intro k F hk h2 h1 hq
    have : k = 5 := by omega
    subst this
    rw [kX3_layBack_124, if_pos (by decide), kX3_layBack_151]
    exact hq F (fun _ _ => rfl) h1
  | succ j ih =>
    intro k F hk h2 h1 hq
    rw [kX3_layBack_124, if_neg (show ¬ (5 : Int32) ≤ nI k from nI_ge (b := 5) (by omega) (by decide)), kX3_layBack_129, s_at (p := 20) (n := 5) rfl (by decide), rdA_n (by omega) (by decide), h2 k (by omega)]
    simp only [Option.toList_some, Option.toList_none, List.cons_append, List.nil_append]
    rw [kX3_layBack_142, s_lay (p := 19) (n := 5) rfl (by decide), wrA_n (by omega) (by decide)]
    simp only [Option.toList_some, Option.toList_none, List.cons_append, List.nil_append]
    rw [kX3_layBack_145, nI_1]
    refine ih (k + 1) _ (by omega) ?_ ?_ ?_
    · rw [up_o (by decide)]; exact h2
    · intro t ht
      by_cases hx : t = k
      · rw [hx, up_s]
      · rw [up_n hx]; exact h1 t (by omega)
    · intro G g1 g2
      exact hq G (fun p hp => (g1 p hp).trans (by rw [up_o hp])) g2
theorem c_layBack {d : Nat} {F : am_FT} {L : am_LT} {Q : am_QT} {v : am_V} {e : am_D} (h : RLand (F 1) (F 2) v) (hv : wV v) (hd : wD v e) (he : RD F e) (hk : dK e = true) (hq : ∀ G : am_FT, (∀ p, p ≠ 2 → p ≠ 19 → G p = F p) → RLand (G 1) (G 2) (vback v e) → (∀ k, k < 5 → G 19 k = dI e k) → Q (some (.int 1)) G L) : wc am_S0 (d + 2) mX3_layBack [.ref 18] F L Q := by
  have hT := hv.1
  have hP := hv.2.1
  obtain ⟨w1, w2, w3, w4, _⟩ := hd.2 hk
  obtain ⟨r1, r2, r3, r4, r5, r6⟩ := he.2.2 hk
  rw [eX3_layBack, kX3_layBack_0, he.2.1, hk, if_pos bIt, kX3_layBack_9, show (some (.int 0) : Option Value) = some (.int (nI 0)) from rfl]
  refine c_bk_l1 hv w1 (vT v) 0 F none (by omega) r1 r3 r4 ⟨h.1, h.2.1, fun w n hw hn => ?_, fun t ht => ?_⟩ ?_
  · rw [h.2.2.1 w n hw hn]
    unfold bkN
    rw [if_neg (by omega)]
  · rw [h.2.2.2 t ht, show bkS v e 0 t = vS v t from if_neg (Nat.not_lt_zero t)]
  · intro G l g1 g2
    rw [kX3_layBack_89, show (some (.int 0) : Option Value) = some (.int (nI 0)) from rfl]
    refine c_bk_l2 (e := e) (f2 := G 2) (by omega) (dP e) 0 G (by omega) (by rw [g1 18 (by decide)]; exact r2) (by rw [g1 23 (by decide)]; exact r5) (fun i => by rw [if_neg (by omega)]) ?_
    intro H j1 j2
    rw [kX3_layBack_122, show (some (.int 0) : Option Value) = some (.int (nI 0)) from rfl]
    refine c_bk_l3 (f := dI e) 5 0 H (by decide) (by rw [j1 20 (by decide), g1 20 (by decide)]; exact r6) (fun t ht => absurd ht (Nat.not_lt_zero t)) ?_
    intro K k1 k2
    apply hq K (fun p a b => by rw [k1 p b, j1 p a, g1 p a]) _ k2
    have e1 : K 1 = F 1 := by rw [k1 1 (by decide), j1 1 (by decide), g1 1 (by decide)]
    rw [e1, k1 2 (by decide)]
    refine ⟨h.1, h.2.1, fun w n hw hn => ?_, fun t ht => ?_⟩
    · have hn' : n < vO v w := hn
      have n12 := Nat.lt_of_lt_of_le hn' (vO_le hv w)
      rw [j2]
      show _ = nI (if w = 1 ∧ n < dT e then dH e n else if w = 4 ∧ n < dP e then dC e n else vN v w n)
      by_cases hx : w = 4 ∧ n < dP e
      · obtain ⟨rfl, hx2⟩ := hx
        rw [if_pos (by omega), if_neg (by omega), if_pos ⟨rfl, hx2⟩, show 12 * 4 + n - 48 = n by omega]
      · rw [if_neg (by omega), g2.2.2.1 w n hw hn', if_neg hx]
        congr 1
        unfold bkN
        by_cases hy : w = 1 ∧ n < dT e
        · rw [if_pos hy, if_pos ⟨hy.1, hy.2, by omega⟩]
        · rw [if_neg hy, if_neg (by omega)]
    · have ht' : t < vT v := ht
      rw [j2, if_neg (by omega), g2.2.2.2 t ht', bkS_k ht']
      rfl
theorem cc_back (g : am_G) (hg : wG g) : CC mX11_back [.ref 0] g (.int (gBack g).1) (gBack g).2 := by
  intro F L Q hm hq
  have h := hm.1
  have hd := hg.2.2.2.1
  have h4 := hm.2.2.2.1
  unfold gBack at hq
  rw [eX11_back, kX11_back_0]
  cases hk : dK (gD g)
  · rw [hk, if_neg (by decide)] at hq
    rw [eX3_layBack, kX3_layBack_0, h4.2.1, hk, if_neg (by decide), kX3_layBack_7]
    simp only [Option.toList_some, Option.toList_none, List.cons_append, List.nil_append]
    rw [kX11_back_7, if_pos rfl, kX11_back_21, kX11_back_23]
    exact hq F L (fun _ _ => rfl) (fun _ _ => rfl) hm
  · rw [hk, if_pos rfl] at hq
    apply c_layBack h.1 h.2.1 hd h4 hk
    intro G g1 g2 g3
    simp only [Option.toList_some, Option.toList_none, List.cons_append, List.nil_append]
    rw [kX11_back_7, if_neg (by decide), kX11_back_10, s_tell, show (0 : Int32) = nI 0 from rfl, rdA_n (by decide) (by decide), g3 0 (by decide)]
    simp only [Option.toList_some, Option.toList_none, List.cons_append, List.nil_append]
    rw [kX11_back_18, kX11_back_23]
    apply hq
    · intro p hp; exact g1 p (by omega) (by omega)
    · intro p _; rfl
    · exact Cls_de hm (fun p a b => g1 p a (by omega)) g2 (wV_back h.2.1 hd hk) rfl (RD_led h4 (fun p a b c => g1 p (by omega) c) g3)
/-! bodies, acts, traces, counts -/
theorem cc_body (g : am_G) (hg : wG g) (x : Int32) : CC mX11_body [.ref 0, .int x] g (.int (gBody g x).1) (gBody g x).2 := by
  intro F L Q hm hq
  have hB := hg.2.2.2.2.1.1
  have e32 : F 29 2 = nI (gB g).1 := hm.2.2.2.2.1.1
  unfold gBody at hq
  rw [eX11_body, kX11_body_0, show (7 : Int32) = nI 7 from rfl, c_w (by decide)]
  simp only [Option.toList_some, Option.toList_none, List.cons_append, List.nil_append]
  rw [kX11_body_7]
  cases hx : inR x (7 + 1)
  · rw [show inR x 8 = false from hx, if_neg (by decide)] at hq
    rw [if_pos bIf, kX11_body_21, kX11_body_22]
    exact hq F L (fun _ _ => rfl) (fun _ _ => rfl) hm
  · rw [show inR x 8 = true from hx, if_pos rfl] at hq
    obtain ⟨c, c1, rfl⟩ := inR_ex hx (by decide)
    rw [nI_clamp (by omega)] at hq
    rw [if_neg bIt, kX11_body_10, eX10_add, kX10_add_0, e32]
    by_cases h1 : (gB g).1 = 50
    · rw [if_pos h1] at hq
      rw [if_neg (show ¬ nI (gB g).1 < (50 : Int32) by rw [h1]; decide), kX10_add_9]
      simp only [Option.toList_some, Option.toList_none, List.cons_append, List.nil_append]
      rw [kX11_body_18, kX11_body_22]
      exact hq F L (fun _ _ => rfl) (fun _ _ => rfl) hm
    · rw [if_neg h1] at hq
      rw [if_pos (show nI (gB g).1 < (50 : Int32) from nI_ltT (b := 50) (by omega) (by decide)), kX10_add_12, e32, s_lay (p := 30) (n := 50) rfl (by decide), wrA_n (by omega) (by decide)]
      simp only [Option.toList_some, Option.toList_none, List.cons_append, List.nil_append]
      rw [kX10_add_24, up_o (by decide), e32, nI_1]
      simp only [Option.toList_some, Option.toList_none, List.cons_append, List.nil_append]
      rw [kX11_body_18, kX11_body_22]
      have e : ∀ p, p ≠ 29 → p ≠ 30 → am_upF (am_upF F 30 (gB g).1 (nI c)) 29 2 (nI ((gB g).1 + 1)) p = F p := fun p a b => by rw [up_o a, up_o b]
      apply hq
      · intro p hp; exact e p (by omega) (by omega)
      · intro p _; rfl
      · obtain ⟨h1', h2, h3, h4, h5, h6, h7⟩ := hm
        refine ⟨CV_fr h1' (by rw [e 1 (by decide) (by decide), e 2 (by decide) (by decide)]; exact h1'.1) h1'.2.1 rfl (e 6 (by decide) (by decide)) (e 7 (by decide) (by decide)), RT_fr h2 (e 3 (by decide) (by decide)) (e 4 (by decide) (by decide)), RC_fr h3 (fun p a b => e p (by omega) (by omega)), RD_fr h4 (fun p a b => e p (by omega) (by omega)), ⟨?_, ?_⟩, ?_, RSc_fr h7 (fun p a b => e p (by omega) (by omega)) (fun _ _ _ => rfl)⟩
        · exact up_s
        · intro k hk
          have hk' : k < (gB g).1 + 1 := hk
          rw [up_o (by decide)]
          show _ = nI (if k = (gB g).1 then c else (gB g).2 k)
          by_cases he : k = (gB g).1
          · rw [if_pos he, he, up_s]
          · rw [if_neg he, up_n he]
            exact h5.2 k (by omega)
        · rw [up_n (by decide), up_o (by decide), e 31 (by decide) (by decide)]; exact h6
theorem cc_count (g : am_G) (x : Int32) : CC mX11_count [.ref 0, .int x] g (.int (qCount g x)) g := CC_q fun F L Q hm hq => by
  have hq' := hq F (SQ_rf F)
  clear hq
  unfold qCount at hq'
  rw [eX11_count, kX11_count_0]
  by_cases h0 : x = 0
  · rw [if_pos h0] at hq' ⊢
    rw [kX11_count_40, hm.1.1.1]; exact hq'
  rw [if_neg h0] at hq' ⊢
  by_cases h1 : x = 1
  · rw [if_pos h1] at hq' ⊢
    rw [kX11_count_48, hm.1.1.2.1]; exact hq'
  rw [if_neg h1] at hq' ⊢
  by_cases h2 : x = 2
  · rw [if_pos h2] at hq' ⊢
    rw [kX11_count_56, hm.2.1.1]; exact hq'
  rw [if_neg h2] at hq' ⊢
  by_cases h3 : x = 3
  · rw [if_pos h3] at hq' ⊢
    rw [kX11_count_64, hm.2.2.1.1]; exact hq'
  rw [if_neg h3] at hq' ⊢
  by_cases h4 : x = 4
  · rw [if_pos h4] at hq' ⊢
    rw [kX11_count_72, hm.2.2.2.2.1.1]; exact hq'
  rw [if_neg h4] at hq' ⊢
  by_cases h5 : x = 5
  · rw [if_pos h5] at hq' ⊢
    rw [kX11_count_80, hm.2.2.2.2.2.1.1]; exact hq'
  rw [if_neg h5] at hq' ⊢
  rw [kX11_count_88]; exact hq'
