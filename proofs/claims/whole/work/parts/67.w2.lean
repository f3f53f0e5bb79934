/-! ===== ruleOut, gather ===== -/
theorem SQ_o15 {F G : am_FT} (h : ∀ q, q ≠ 15 → G q = F q) : SQ F G := ⟨fun p hp => h p (by omega), by rw [h 6 (by decide)]⟩
theorem c_rule_l2 {d : Nat} {L : am_LT} {Q : am_QT} {v : am_V} {t fb sb : Nat} (ht : t < vT v) (hfb : fb < 4096) (hsb : sb < 4096) : ∀ (j m : Nat) (F : am_FT) (l6 l7 : Option Value), m + j = 12 → CV F v → (∀ s, s < 2 ^ vP v → F 15 s = bI (rul v t fb sb s m)) → (∀ G, SQ F G → (∀ p, p ≠ 6 → (p < 8 ∨ 16 ≤ p) → G p = F p) → (∀ s, s < 2 ^ vP v → G 15 s = bI (rul v t fb sb s 12)) → Q none G L) → wt am_S0 (d + 7) mX1_ruleOut 40 [some (.ref 17), some (.int (nI t)), some (.int (nI fb)), some (.int (nI sb)), some (.int (nI (2 ^ vP v))), some (.int (nI m)), l6, l7] [] F L Q := by
  intro j
  induction j with
  | zero =>
    intro m F l6 l7 hm h ha hq
    have : m = 12 := by omega
    subst this
    rw [kX1_ruleOut_40, if_pos (by decide), kX1_ruleOut_169]
    exact hq F (SQ_rf F) (fun _ _ _ => rfl) ha
  | succ j ih =>
    intro m F l6 l7 hm h ha hq
    have hP := h.2.1.2.1
    rw [kX1_ruleOut_40, if_neg (show ¬ (12 : Int32) ≤ nI m from nI_ge (b := 12) (by omega) (by decide)), kX1_ruleOut_47, nI_or, s_holds, bit_b (Nat.lt_trans (or_lt (n := 12) hfb hsb) (by decide)) (by omega)]
    simp only [Option.toList_some, Option.toList_none, List.cons_append, List.nil_append]
    rw [kX1_ruleOut_55]
    cases hin : (fb ||| sb).testBit m
    · rw [if_neg (by decide), kX1_ruleOut_58, kX1_ruleOut_163, nI_1]
      refine ih (m + 1) F _ _ (by omega) h ?_ hq
      intro s hs
      have er : rul v t fb sb s (m + 1) = (rul v t fb sb s m || rlc v t fb sb m s) := rfl
      have ec : rlc v t fb sb m s = false := by unfold rlc; rw [hin]; rfl
      rw [er, ec, Bool.or_false]
      exact ha s hs
    · rw [if_pos bIt, kX1_ruleOut_61, s_read, ld1 h.1 h.2.1 ht]
      simp only [Option.toList_some, Option.toList_none, List.cons_append, List.nil_append]
      rw [kX1_ruleOut_77]
      apply c_openAsIf h ht (by omega) (lb1 h.2.1 ht)
      intro G g1 g2
      have hG := SB_CV g1 h
      have hc := cov_lt h.2.1 t m (vN v 1 t)
      simp only [Option.toList_some, Option.toList_none, List.cons_append, List.nil_append]
      rw [kX1_ruleOut_80]
      apply c_sumSets hG g2 hc
      intro H h1 h2 h3
      have hH := SW_CV h1 hG
      simp only [Option.toList_some, Option.toList_none, List.cons_append, List.nil_append]
      rw [kX1_ruleOut_91, h2.2.1]
      apply c_sumOf hH h2 hc hc
      intro K k1 k2
      have hK := SB_CV k1 hH
      simp only [Option.toList_some, Option.toList_none, List.cons_append, List.nil_append]
      rw [kX1_ruleOut_105]
      have hFK : ∀ p, p ≠ 6 → (p < 8 ∨ 15 ≤ p) → K p = F p := by
        intro p p6 hp
        rw [k1.1 p p6 (by omega) (by omega) (by omega) (by omega), h1.1 p p6 (by omega) (by omega) (by omega) (by omega) (by omega), g1.1 p p6 (by omega) (by omega) (by omega) (by omega)]
      have h14 : ∀ s, s < 2 ^ vP v → K 14 s = nI (sfm v t m (vN v 1 t) (cov v t m (vN v 1 t)) s) := by
        intro s hs
        rw [k1.1 14 (by decide) (by decide) (by decide) (by decide) (by decide)]
        exact h3 s hs
      have h15 : K 15 = F 15 := hFK 15 (by decide) (by decide)
      have hsq : SQ F K := SQ_tr (SB_SQ g1) (SQ_tr (SW_SQ h1) (SB_SQ k1))
      refine c_rule_l1 h.2.1 (by omega) hfb hin (2 ^ vP v) 0 K (by omega) h14 (fun s hs => absurd hs (by omega)) (fun s _ hs => by rw [h15]; exact ha s hs) ?_
      intro M m1 m2
      have hsM : SQ F M := SQ_tr hsq (SQ_o15 m1)
      rw [kX1_ruleOut_163, nI_1]
      refine ih (m + 1) M _ _ (by omega) (SQ_CV hsM h) m2 ?_
      intro N n1 n2 n3
      refine hq N (SQ_tr hsM n1) (fun p p6 hp => ?_) n3
      rw [n2 p p6 hp, m1 p (by omega), hFK p p6 (by omega)]
theorem c_ruleOut {d : Nat} {F : am_FT} {L : am_LT} {Q : am_QT} {v : am_V} {t fb sb : Nat} (ht : t < vT v) (hfb : fb < 4096) (hsb : sb < 4096) (h : CV F v) (hq : ∀ G, SQ F G → (∀ p, p ≠ 6 → (p < 8 ∨ 16 ≤ p) → G p = F p) → (∀ s, s < 2 ^ vP v → G 15 s = bI (rul v t fb sb s 12)) → Q none G L) : wc am_S0 (d + 7) mX1_ruleOut [.ref 17, .int (nI t), .int (nI fb), .int (nI sb)] F L Q := by
  have hP := h.2.1.2.1
  rw [eX1_ruleOut, kX1_ruleOut_0, h.1.2.1, nI_sh _ (by omega), show (0 : Int32) = nI 0 from rfl]
  refine c_rule_l0 hP (2 ^ vP v) 0 F (by omega) (fun s hs => absurd hs (by omega)) ?_
  intro G g1 g2
  rw [kX1_ruleOut_37]
  refine c_rule_l2 ht hfb hsb 12 0 G _ _ rfl (SQ_CV (SQ_o15 g1) h) g2 ?_
  intro H h1 h2 h3
  exact hq H (SQ_tr (SQ_o15 g1) h1) (fun p p6 hp => (h2 p p6 hp).trans (g1 p (by omega))) h3
/-- least of those below k that are well, and what all have -/
def lst (ok : Nat → Bool) : Nat → Nat
  | 0 => 0
  | k + 1 => if (ok k && decide (cnt ok k = 0)) = true then k else lst ok k
def crt (ok : Nat → Bool) (a : Nat) : Nat → Nat
  | 0 => a
  | k + 1 => if ok k = true then crt ok a k &&& k else crt ok a k
theorem c_gather_loop {d : Nat} {L : am_LT} {Q : am_QT} {v : am_V} {rl : Nat → Bool} (hP : vP v ≤ 10) : ∀ (j k : Nat) (F : am_FT), k + j = 2 ^ vP v → (∀ s, s < 2 ^ vP v → F 15 s = bI (rl s)) → F 17 4 = nI (cnt (fun s => !(rl s)) k) → F 17 5 = nI (lst (fun s => !(rl s)) k) → F 17 6 = nI (crt (fun s => !(rl s)) (2 ^ vP v - 1) k) → (∀ G : am_FT, (∀ q, q ≠ 17 → G q = F q) → G 17 4 = nI (cnt (fun s => !(rl s)) (2 ^ vP v)) → G 17 5 = nI (lst (fun s => !(rl s)) (2 ^ vP v)) → G 17 6 = nI (crt (fun s => !(rl s)) (2 ^ vP v - 1) (2 ^ vP v)) → Q none G L) → wt am_S0 (d + 1) mX1_gather 19 [some (.ref 17), some (.int (nI (2 ^ vP v))), some (.int (nI k))] [] F L Q := by
  have h2 : 2 ^ vP v ≤ 1024 := two_le (k := 10) hP
  intro j
  induction j with
  | zero =>
    intro k F hk ha h4 h5 h6 hq
    have : k = 2 ^ vP v := by omega
    subst this
    rw [kX1_gather_19, if_pos (nI_le (Nat.le_refl _) (by omega)), kX1_gather_77]
    exact hq F (fun _ _ => rfl) h4 h5 h6
  | succ j ih =>
    intro k F hk ha h4 h5 h6 hq
    have e4 : cnt (fun s => !(rl s)) (k + 1) = if (!(rl k)) = true then cnt (fun s => !(rl s)) k + 1 else cnt (fun s => !(rl s)) k := rfl
    have e5 : lst (fun s => !(rl s)) (k + 1) = if ((!(rl k)) && decide (cnt (fun s => !(rl s)) k = 0)) = true then k else lst (fun s => !(rl s)) k := rfl
    have e6 : crt (fun s => !(rl s)) (2 ^ vP v - 1) (k + 1) = if (!(rl k)) = true then crt (fun s => !(rl s)) (2 ^ vP v - 1) k &&& k else crt (fun s => !(rl s)) (2 ^ vP v - 1) k := rfl
    have hc := cnt_le (fun s => !(rl s)) k
    rw [kX1_gather_19, if_neg (nI_ge (by omega) (by omega)), kX1_gather_24, s_at (p := 15) (n := 1024) rfl (by decide), rdA_n (by omega) (by decide), ha k (by omega)]
    simp only [Option.toList_some, Option.toList_none, List.cons_append, List.nil_append]
    rw [kX1_gather_32]
    cases hr : rl k
    · rw [hr] at e4 e5 e6
      rw [if_pos (by decide), kX1_gather_39, h4]
      by_cases hz : cnt (fun s => !(rl s)) k = 0
      · rw [decide_eq_true hz] at e5
        rw [if_neg (fun hh => hh (by rw [hz]; rfl)), kX1_gather_46, kX1_gather_51, kX1_gather_71, nI_1]
        refine ih (k + 1) _ (by omega) ?_ ?_ ?_ ?_ ?_
        · intro s hs; rw [up_o (by decide), up_o (by decide), up_o (by decide)]; exact ha s hs
        · rw [up_n (by decide), up_s, up_n (by decide), h4, nI_1, e4]; rfl
        · rw [up_n (by decide), up_n (by decide), up_s, e5]; rfl
        · rw [up_s, up_n (by decide), h6, nI_and, e6]; rfl
        · intro G g1 g2 g3 g4
          exact hq G (fun q hq => (g1 q hq).trans (by rw [up_o hq, up_o hq, up_o hq])) g2 g3 g4
      · rw [decide_eq_false hz] at e5
        rw [if_pos (nI_ne0 (by omega) (by omega)), kX1_gather_51, kX1_gather_71, nI_1]
        refine ih (k + 1) _ (by omega) ?_ ?_ ?_ ?_ ?_
        · intro s hs; rw [up_o (by decide), up_o (by decide)]; exact ha s hs
        · rw [up_n (by decide), up_s, h4, nI_1, e4]; rfl
        · rw [up_n (by decide), up_n (by decide), e5]; exact h5
        · rw [up_s, h6, nI_and, e6]; rfl
        · intro G g1 g2 g3 g4
          exact hq G (fun q hq => (g1 q hq).trans (by rw [up_o hq, up_o hq])) g2 g3 g4
    · rw [hr] at e4 e5 e6
      rw [if_neg (by decide), kX1_gather_36, kX1_gather_71, nI_1]
      exact ih (k + 1) F (by omega) ha (by rw [e4]; exact h4) (by rw [e5]; exact h5) (by rw [e6]; exact h6) hq
