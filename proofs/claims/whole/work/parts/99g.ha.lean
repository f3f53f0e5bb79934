/-! ===== the whole state; the class's ===== -/
def shK (k : Nat) : Int32 := if k ≤ 50 then -1 else nI (k - 51)
def shV (k : Nat) : Int32 := if k = 0 then -1 else if k ≤ 50 then nI (k - 1) else -1
def RSc (F : am_FT) (L : am_LT) (sh : am_Sh) : Prop := ∀ d, d < 6 → F (33 + 2 * d) 1 = shK (sK sh d) ∧ F (33 + 2 * d) 2 = nI (sM sh d) ∧ F (33 + 2 * d) 3 = shV (sK sh d) ∧ ∀ i, i < 60 → L (34 + 2 * d) i = sE sh d i
def Cls (F : am_FT) (L : am_LT) (g : am_G) : Prop := CV F (gV g) ∧ RT (F 3 2) (F 4) (gT g) ∧ RC F (gC g) ∧ RD F (gD g) ∧ RT (F 29 2) (F 30) (gB g) ∧ RTr (F 29 3) (F 31) (gL g) ∧ RSc F L (gS g)
/-- a call of the class: it answers r, and shows g' then; the model's cells stand -/
def CC (m : am_M) (args : List Value) (g : am_G) (r : Value) (g' : am_G) : Prop := ∀ (F : am_FT) (L : am_LT) (Q : am_QT), Cls F L g → (∀ (G : am_FT) (K : am_LT), (∀ p, 45 ≤ p → G p = F p) → (∀ p, 45 ≤ p → K p = L p) → Cls G K g' → Q (some r) G K) → wc am_S0 2047 m args F L Q
theorem RSc_fr {F G : am_FT} {L K : am_LT} {sh : am_Sh} (h : RSc F L sh) (hF : ∀ p, 32 ≤ p → p < 45 → G p = F p) (hL : ∀ p, 32 ≤ p → p < 46 → K p = L p) : RSc G K sh := by
  intro d hd
  rw [hF _ (by omega) (by omega), hL _ (by omega) (by omega)]
  exact h d hd
theorem Cls_SQ {F G : am_FT} {L : am_LT} {g : am_G} (h : Cls F L g) (q : SQ F G) : Cls G L g := by
  obtain ⟨h1, h2, h3, h4, h5, h6, h7⟩ := h
  have e : ∀ p, 18 ≤ p → G p = F p := fun p hp => q.1 p (Or.inr (Or.inr hp))
  refine ⟨SQ_CV q h1, ?_, ?_, ?_, ?_, ?_, RSc_fr h7 (fun p a _ => e p (by omega)) (fun _ _ _ => rfl)⟩
  · rw [q.1 3 (by decide), q.1 4 (by decide)]; exact h2
  · unfold RC at h3 ⊢
    rw [e 24 (by decide), e 25 (by decide), e 26 (by decide), e 27 (by decide), e 28 (by decide)]; exact h3
  · unfold RD at h4 ⊢
    rw [e 18 (by decide), e 19 (by decide), e 20 (by decide), e 21 (by decide), e 22 (by decide), e 23 (by decide)]; exact h4
  · rw [e 29 (by decide), e 30 (by decide)]; exact h5
  · rw [e 29 (by decide), e 31 (by decide)]; exact h6
theorem CC_q {m : am_M} {args : List Value} {g : am_G} {r : Value} (h : ∀ (F : am_FT) (L : am_LT) (Q : am_QT), Cls F L g → (∀ G, SQ F G → Q (some r) G L) → wc am_S0 2047 m args F L Q) : CC m args g r g := by
  intro F L Q hm hq
  apply h F L Q hm
  intro G g1
  exact hq G L (fun p hp => g1.1 p (by omega)) (fun _ _ => rfl) (Cls_SQ hm g1)
theorem c_w {d N : Nat} {F : am_FT} {L : am_LT} {Q : am_QT} {x : Int32} (hN : N < 1000) : wc am_S0 d mX11_within [.int x, .int 0, .int (nI N)] F L Q = Q (some (.int (bI (inR x (N + 1))))) F L := by
  rw [s_within, wi_b, inR_c hN]
theorem c_isTree {d : Nat} {F : am_FT} {L : am_LT} {Q : am_QT} {v : am_V} {x : Int32} (h : RLand (F 1) (F 2) v) : wc am_S0 (d + 2) mX11_isTree [.ref 0, .int x] F L Q = Q (some (.int (bI (inR x (vT v))))) F L := by
  rw [eX11_isTree, kX11_isTree_0, s_has, has_0 h]
  simp only [Option.toList_some, Option.toList_none, List.cons_append, List.nil_append]
  rw [kX11_isTree_9 nb_b]
theorem c_isMonth {d : Nat} {F : am_FT} {L : am_LT} {Q : am_QT} {x : Int32} : wc am_S0 (d + 1) mX11_isMonth [.ref 0, .int x] F L Q = Q (some (.int (bI (inR x 12)))) F L := by
  rw [eX11_isMonth, kX11_isMonth_0, show (11 : Int32) = nI 11 from rfl, c_w (by decide)]
  simp only [Option.toList_some, Option.toList_none, List.cons_append, List.nil_append]
  rw [kX11_isMonth_7 nb_b]
theorem c_isTm {d : Nat} {F : am_FT} {L : am_LT} {Q : am_QT} {v : am_V} {x : Int32} (h : RLand (F 1) (F 2) v) : wc am_S0 (d + 3) mX11_isTreeMonth [.ref 0, .int x] F L Q = Q (some (.int (bI (tmR v x)))) F L := by
  unfold tmR
  rw [eX11_isTreeMonth, kX11_isTreeMonth_0]
  by_cases h1 : x < 0
  · rw [if_pos h1, kX11_isTreeMonth_30, kX11_isTreeMonth_31 rfl, decide_eq_false (fun hh => hh h1)]; rfl
  · rw [if_neg h1, kX11_isTreeMonth_4, c_isTree h, decide_eq_true h1, Bool.true_and]
    simp only [Option.toList_some, Option.toList_none, List.cons_append, List.nil_append]
    rw [kX11_isTreeMonth_12]
    cases inR (x / 100) (vT v)
    · rw [if_pos bIf, kX11_isTreeMonth_30, kX11_isTreeMonth_31 rfl]; rfl
    · rw [if_neg bIt, kX11_isTreeMonth_15, c_isMonth]
      simp only [Option.toList_some, Option.toList_none, List.cons_append, List.nil_append]
      rw [kX11_isTreeMonth_23]
      cases inR (x - x / 100 * 100) 12
      · rw [if_pos bIf, kX11_isTreeMonth_30, kX11_isTreeMonth_31 rfl]; rfl
      · rw [if_neg bIt, kX11_isTreeMonth_26, kX11_isTreeMonth_31 rfl]; rfl
/-! the face's questions -/
theorem cc_shade (g : am_G) (x : Int32) : CC mX11_shade [.ref 0, .int x] g (.int (qShade (gV g) x)) g := CC_q fun F L Q hm hq => by
  have h := hm.1
  unfold qShade at hq
  rw [eX11_shade, kX11_shade_0, c_isTm h.1]
  simp only [Option.toList_some, Option.toList_none, List.cons_append, List.nil_append]
  rw [kX11_shade_5]
  cases ht : tmR (gV g) x
  · rw [ht, if_neg (by decide)] at hq
    rw [if_pos bIf, kX11_shade_26, kX11_shade_27]
    exact hq F (SQ_rf F)
  · obtain ⟨a1, a2, a3, a4⟩ := tm_ex h.2.1 ht
    rw [ht, if_pos rfl] at hq
    rw [if_neg bIt, kX11_shade_8, a3, a1, c_sittersIn h.1 h.2.1 a2 a4]
    simp only [Option.toList_some, Option.toList_none, List.cons_append, List.nil_append]
    rw [kX11_shade_23, kX11_shade_27]
    exact hq F (SQ_rf F)
theorem cc_votes (g : am_G) (x w : Int32) : CC mX11_votes [.ref 0, .int x, .int w] g (.int (qVotes (gV g) x w)) g := CC_q fun F L Q hm hq => by
  have h := hm.1
  unfold qVotes at hq
  rw [eX11_votes, kX11_votes_0, c_isTm h.1]
  simp only [Option.toList_some, Option.toList_none, List.cons_append, List.nil_append]
  rw [kX11_votes_5]
  cases ht : tmR (gV g) x
  · rw [ht, Bool.false_and, if_neg (by decide)] at hq
    rw [if_pos bIf, kX11_votes_17]
    exact hq F (SQ_rf F)
  · obtain ⟨a1, a2, a3, a4⟩ := tm_ex h.2.1 ht
    rw [ht, Bool.true_and] at hq
    rw [if_neg bIt, kX11_votes_8, show (3 : Int32) = nI 3 from rfl, c_w (by decide)]
    simp only [Option.toList_some, Option.toList_none, List.cons_append, List.nil_append]
    rw [kX11_votes_14]
    cases hw : inR w (3 + 1)
    · rw [show inR w 4 = false from hw, if_neg (by decide)] at hq
      rw [if_neg (by decide), kX11_votes_17]
      exact hq F (SQ_rf F)
    · rw [show inR w 4 = true from hw, if_pos rfl] at hq
      obtain ⟨n, n1, rfl⟩ := inR_ex hw (by decide)
      rw [if_pos bIt, kX11_votes_19]
      by_cases n3 : n = 3
      · subst n3
        rw [if_neg (by decide), if_neg (by decide), if_neg (by decide)] at hq
        rw [if_neg (fun hh => hh rfl), kX11_votes_24, a3, a1, c_cellsOf h.1 h.2.1 a2 a4]
        simp only [Option.toList_some, Option.toList_none, List.cons_append, List.nil_append]
        rw [kX11_votes_39]
        exact hq F (SQ_rf F)
      · rw [if_pos (show ¬ nI n = (3 : Int32) from nI_ne (x := 3) (by omega) (by decide) n3), kX11_votes_40, a3, a1]
        have hS := csit_lt h.2.1 (tN x) (mN x)
        have hW := wsh_lt h.2.1 (tN x)
        apply c_open h a2 a4
        intro G g1 g2
        have hG := SB_CV g1 h
        have f5 := g2.2.1
        have f6 := g2.2.2.1
        simp only [Option.toList_some, Option.toList_none, List.cons_append, List.nil_append]
        rw [kX11_votes_55]
        rcases (by omega : n = 0 ∨ n = 1 ∨ n = 2) with rfl | rfl | rfl
        · rw [if_pos (show nI 0 = (0 : Int32) from rfl)] at hq
          rw [if_pos (by decide), kX11_votes_90, if_neg (by decide), kX11_votes_98, f6, kX11_votes_115]
          apply c_sumOf hG g2 hS hW
          intro H h1 h2
          simp only [Option.toList_some, Option.toList_none, List.cons_append, List.nil_append]
          rw [kX11_votes_118]
          have := hq H (SB_SQ (SB_tr g1 h1))
          rw [pasA_sw] at this
          exact this
        · rw [if_neg (by decide), if_pos (show nI 1 = (1 : Int32) from rfl)] at hq
          rw [if_pos (by decide), kX11_votes_90, if_pos (by decide), kX11_votes_108, f5, kX11_votes_115]
          apply c_sumOf hG g2 hS hS
          intro H h1 h2
          simp only [Option.toList_some, Option.toList_none, List.cons_append, List.nil_append]
          rw [kX11_votes_118]
          exact hq H (SB_SQ (SB_tr g1 h1))
        · rw [if_neg (by decide), if_neg (by decide), if_pos (show nI 2 = (2 : Int32) from rfl)] at hq
          rw [if_neg (by decide), kX11_votes_60, f5, f6]
          apply c_passes hG g2 hS hW
          intro H h1 h2
          have hq1 := hq H (SB_SQ (SB_tr g1 h1))
          unfold fal at hq1
          simp only [Option.toList_some, Option.toList_none, List.cons_append, List.nil_append]
          rw [kX11_votes_81]
          cases hb : (vS (gV g) (tN x) && pas (gV g) (tN x) (mN x) (vN (gV g) 1 (tN x)) (csit (gV g) (tN x) (mN x)) (wsh (gV g) (tN x)))
          · rw [hb] at hq1
            rw [if_pos bIf, kX11_votes_88, kX11_votes_89]; exact hq1
          · rw [hb] at hq1
            rw [if_neg bIt, kX11_votes_84, kX11_votes_89]; exact hq1
theorem cc_falls (g : am_G) (x : Int32) : CC mX11_falls [.ref 0, .int x] g (.int (qFalls (gV g) x)) g := CC_q fun F L Q hm hq => by
  have h := hm.1
  unfold qFalls at hq
  rw [eX11_falls, kX11_falls_0, show (12 : Int32) = nI 12 from rfl, c_w (by decide)]
  simp only [Option.toList_some, Option.toList_none, List.cons_append, List.nil_append]
  rw [kX11_falls_7]
  cases hx : inR x (12 + 1)
  · rw [show inR x 13 = false from hx, if_neg (by decide)] at hq
    rw [if_neg (by decide), kX11_falls_10]
    exact hq F (SQ_rf F)
  · rw [show inR x 13 = true from hx, if_pos rfl] at hq
    obtain ⟨n, n1, rfl⟩ := inR_ex hx (by decide)
    rw [nI_clamp (by omega)] at hq
    rw [if_pos bIt, kX11_falls_12]
    by_cases h12 : n = 12
    · subst h12
      rw [if_neg (by decide)] at hq
      rw [if_neg (fun hh => hh rfl), kX11_falls_18]
      apply c_neverFalling h
      intro G g1
      simp only [Option.toList_some, Option.toList_none, List.cons_append, List.nil_append]
      rw [kX11_falls_25, kX11_falls_36]
      exact hq G (SB_SQ g1)
    · rw [if_pos (show nI n < (12 : Int32) from nI_ltT (b := 12) (by omega) (by decide))] at hq
      rw [if_pos (show ¬ nI n = (12 : Int32) from nI_ne (x := 12) (by omega) (by decide) h12), kX11_falls_28]
      apply c_falling h (by omega)
      intro G g1
      simp only [Option.toList_some, Option.toList_none, List.cons_append, List.nil_append]
      rw [kX11_falls_36]
      exact hq G (SB_SQ g1)
theorem cc_first (g : am_G) (x : Int32) : CC mX11_first [.ref 0, .int x] g (.int (qFirst (gV g) x)) g := CC_q fun F L Q hm hq => by
  have h := hm.1
  unfold qFirst at hq
  rw [eX11_first, kX11_first_0, c_isTm h.1]
  simp only [Option.toList_some, Option.toList_none, List.cons_append, List.nil_append]
  rw [kX11_first_5]
  cases ht : tmR (gV g) x
  · rw [ht, if_neg (by decide)] at hq
    rw [if_pos bIf, kX11_first_26, kX11_first_27]
    exact hq F (SQ_rf F)
  · obtain ⟨a1, a2, a3, a4⟩ := tm_ex h.2.1 ht
    rw [ht, if_pos rfl] at hq
    rw [if_neg bIt, kX11_first_8, a3, a1]
    apply c_firstFall h a2 a4
    intro G g1
    simp only [Option.toList_some, Option.toList_none, List.cons_append, List.nil_append]
    rw [kX11_first_23, kX11_first_27]
    exact hq G (SB_SQ g1)
theorem cc_left (g : am_G) (x n : Int32) : CC mX11_left [.ref 0, .int x, .int n] g (.int (qLeft (gV g) x n)) g := CC_q fun F L Q hm hq => by
  have h := hm.1
  unfold qLeft at hq
  rw [eX11_left, kX11_left_0, c_isMonth]
  simp only [Option.toList_some, Option.toList_none, List.cons_append, List.nil_append]
  rw [kX11_left_5]
  cases hx : inR x 12
  · rw [hx, Bool.false_and, if_neg (by decide)] at hq
    rw [if_pos bIf, kX11_left_30, kX11_left_31]
    exact hq F (SQ_rf F)
  · rw [hx, Bool.true_and] at hq
    rw [if_neg bIt, kX11_left_8, show (99 : Int32) = nI 99 from rfl, c_w (by decide)]
    simp only [Option.toList_some, Option.toList_none, List.cons_append, List.nil_append]
    rw [kX11_left_15]
    cases hw : inR n (99 + 1)
    · rw [show inR n 100 = false from hw, if_neg (by decide)] at hq
      rw [if_pos bIf, kX11_left_30, kX11_left_31]
      exact hq F (SQ_rf F)
    · rw [show inR n 100 = true from hw, if_pos rfl] at hq
      obtain ⟨m, m1, rfl⟩ := inR_ex hx (by decide)
      obtain ⟨k, k1, rfl⟩ := inR_ex hw (by decide)
      rw [nI_clamp (by omega), nI_clamp (by omega)] at hq
      rw [if_neg bIt, kX11_left_18]
      apply c_leftBehind h m1 (by omega)
      intro G g1
      simp only [Option.toList_some, Option.toList_none, List.cons_append, List.nil_append]
      rw [kX11_left_27, kX11_left_31]
      exact hq G (SB_SQ g1)
theorem cc_deepest (g : am_G) (x w : Int32) : CC mX11_deepest [.ref 0, .int x, .int w] g (.int (qDeepest (gV g) x w)) g := CC_q fun F L Q hm hq => by
  have h := hm.1
  have hT := h.2.1.1
  unfold qDeepest at hq
  rw [eX11_deepest, kX11_deepest_0, c_isTree h.1]
  simp only [Option.toList_some, Option.toList_none, List.cons_append, List.nil_append]
  rw [kX11_deepest_5]
  cases hx : inR x (vT (gV g))
  · rw [hx, Bool.false_and, if_neg (by decide)] at hq
    rw [if_pos bIf, kX11_deepest_17]
    exact hq F (SQ_rf F)
  · rw [hx, Bool.true_and] at hq
    rw [if_neg bIt, kX11_deepest_8, show (1 : Int32) = nI 1 from rfl, c_w (by decide)]
    simp only [Option.toList_some, Option.toList_none, List.cons_append, List.nil_append]
    rw [kX11_deepest_14]
    cases hw : inR w (1 + 1)
    · rw [show inR w 2 = false from hw, if_neg (by decide)] at hq
      rw [if_neg (by decide), kX11_deepest_17]
      exact hq F (SQ_rf F)
    · rw [show inR w 2 = true from hw, if_pos rfl] at hq
      obtain ⟨t, t1, rfl⟩ := inR_ex hx (by omega)
      rw [nI_clamp (by omega)] at hq
      rw [if_pos bIt, kX11_deepest_19, c_deepestMonth h.1 h.2.1 t1, (amN_ag _ 11).1]
      simp only [Option.toList_some, Option.toList_none, List.cons_append, List.nil_append]
      rw [kX11_deepest_27]
      by_cases h0 : w = 0
      · rw [if_pos h0] at hq
        rw [if_neg (fun hh => hh h0), kX11_deepest_32, kX11_deepest_48]
        exact hq F (SQ_rf F)
      · rw [if_neg h0] at hq
        have hlt := amN_lt (fun m => pop (csit (gV g) t m)) 12
        rw [if_pos h0, kX11_deepest_36, c_sittersIn h.1 h.2.1 t1 (by show amN _ 12 < 12; omega)]
        simp only [Option.toList_some, Option.toList_none, List.cons_append, List.nil_append]
        have hS := csit_lt h.2.1 t (amN (fun m => pop (csit (gV g) t m)) 12)
        rw [kX11_deepest_45, s_bitCount (by show csit (gV g) t (amN (fun m => pop (csit (gV g) t m)) 12) < 4096; omega)]
        simp only [Option.toList_some, Option.toList_none, List.cons_append, List.nil_append]
        rw [kX11_deepest_48]
        exact hq F (SQ_rf F)
