/-! ===== the model's changes, 1 ===== -/
def fitL (w : Nat) (x : Int64) : Bool := decide (¬ x < (nI (vLo w)).toInt64 ∧ ¬ (nI (vHi w)).toInt64 < x)
theorem fitL_ex {w : Nat} {x : Int64} (hw : w < 7) (h : fitL w x = true) : ∃ k, vLo w ≤ k ∧ k ≤ vHi w ∧ x.toInt32 = nI k ∧ x = (nI k).toInt64 := by
  have h1 := of_decide_eq_true h
  have hh : vHi w ≤ 255 := by
    have : ∀ w, w < 7 → vHi w ≤ 255 := by decide
    exact this w hw
  have hl : vLo w ≤ 1 := by unfold vLo; split <;> omega
  obtain ⟨c1, c2⟩ := h1
  rw [Int64.lt_iff_toInt_lt, Int32.toInt_toInt64, nI_toInt (by omega)] at c1 c2
  have e1 : x.toInt32 = nI x.toInt.toNat := by
    rw [← Int32.toInt_inj, nI_toInt (by omega), Int64.toInt_toInt32, Int.bmod_eq_of_le (by omega) (by omega)]
    omega
  refine ⟨x.toInt.toNat, by omega, by omega, e1, ?_⟩
  rw [← Int64.toInt_inj, Int32.toInt_toInt64, nI_toInt (by omega)]
  omega
theorem m_fitL {d w : Nat} {F : am_FT} {L : am_LT} {Q : am_QT} {x : Int64} : wc am_S0 d mX12_within [.long x, .long (nI (vLo w)).toInt64, .long (nI (vHi w)).toInt64] F L Q = Q (some (.int (bI (fitL w x)))) F L := s_mwl
theorem m_isCellL {d : Nat} {F : am_FT} {L : am_LT} {Q : am_QT} {x : Int64} : wc am_S0 (d + 1) mX12_isCell [.long x] F L Q = Q (some (.int (bI (fitL 4 x)))) F L := by
  rw [eX12_isCell, kX12_isCell_0, show (0 : Int64) = (nI (vLo 4)).toInt64 from rfl, show (255 : Int64) = (nI (vHi 4)).toInt64 from rfl, m_fitL]
  simp only [Option.toList_some, Option.toList_none, List.cons_append, List.nil_append]
  rw [kX12_isCell_8 nb_b]
def pplOk (el : Nat → Int64) (M i c : Nat) (v : am_V) : Bool := decide (i + 3 * c + 3 ≤ M) && (decide (vP v < 10) && (fitL 4 (el (i + 3 * c)) && (fitL 5 (el (i + 3 * c + 1)) && fitL 6 (el (i + 3 * c + 2)))))
def eN (el : Nat → Int64) (i : Nat) : Nat := (el i).toInt32.toNatClampNeg
def ppl (el : Nat → Int64) (M i : Nat) : Nat → Nat → am_V → Nat × am_V
  | 0, c, v => (c, v)
  | f + 1, c, v => if pplOk el M i c v = true then ppl el M i f (c + 1) (vaP v (eN el (i + 3 * c)) (eN el (i + 3 * c + 1)) (eN el (i + 3 * c + 2))) else (c, v)
def gPeople (g : am_G) (x y n : Int32) : Int32 × am_G := if (inR x 6 && decide (¬ n < 1 ∧ ¬ 10 < n)) = true then (if sK (gS g) x.toNatClampNeg = 0 then (0, g) else if sK (gS g) x.toNatClampNeg = 52 then (if y < 0 then (0, g) else (nI (ppl (sE (gS g) x.toNatClampNeg) (sM (gS g) x.toNatClampNeg) y.toNatClampNeg n.toNatClampNeg 0 (gV g)).1, sV g (ppl (sE (gS g) x.toNatClampNeg) (sM (gS g) x.toNatClampNeg) y.toNatClampNeg n.toNatClampNeg 0 (gV g)).2)) else (-12, g)) else (-1, g)
theorem m_ppl_loop {dd d i n M : Nat} {L : am_LT} {Q : am_QT} {g0 : am_G} {el : Nat → Int64} (hd : d < 6) (hi : i < 2 ^ 31) (hn : n ≤ 10) (hM : M ≤ 60) (hel : sE (gS g0) d = el) (hMM : sM (gS g0) d = M) : ∀ (f c : Nat) (v : am_V) (F : am_FT) (l6 : Option Value), c + f = n → Mdl F L (sV g0 v) → (∀ G : am_FT, (∀ p, p < 45 → G p = F p) → Mdl G L (sV g0 (ppl el M i f c v).2) → Q (some (.int (nI (ppl el M i f c v).1))) G L) → wt am_S0 (dd + 3) mX12_people 69 [some (.ref 45), some (.int (nI d)), some (.int (nI i)), some (.int (nI n)), some (.int (nI c)), some (.int 1), l6] [] F L Q := by
  intro f
  induction f with
  | zero =>
    intro c v F l6 hc hm hq
    have : c = n := by omega
    subst this
    rw [kX12_people_69, if_neg (by decide), kX12_people_74, if_pos (nI_le (Nat.le_refl _) (by omega)), kX12_people_232]
    exact hq F (fun _ _ => rfl) hm
  | succ f ih =>
    intro c v F l6 hc hm hq
    have hv : wV v := hm.1.2.1
    have hP := hv.2.1
    have hsh := hm.2.2.2.2.2.2 d hd
    have e7 : F 45 7 = nI (vP v) := hm.1.1.2.1
    have e60 : F 60 d = nI M := by rw [hsh.2.1]; show nI (sM (gS g0) d) = _; rw [hMM]
    have e61 : ∀ k, k < 60 → L 61 (60 * d + k) = el k := fun k hk => by rw [hsh.2.2 k hk]; show sE (gS g0) d k = _; rw [hel]
    have er : ppl el M i (f + 1) c v = if pplOk el M i c v = true then ppl el M i f (c + 1) (vaP v (eN el (i + 3 * c)) (eN el (i + 3 * c + 1)) (eN el (i + 3 * c + 2))) else (c, v) := rfl
    have eo : pplOk el M i c v = (decide (i + 3 * c + 3 ≤ M) && (decide (vP v < 10) && (fitL 4 (el (i + 3 * c)) && (fitL 5 (el (i + 3 * c + 1)) && fitL 6 (el (i + 3 * c + 2)))))) := rfl
    have bad : ∀ l6 : Option Value, ∀ x5 : Int32, pplOk el M i c v = false → wt am_S0 (dd + 3) mX12_people 186 [some (.ref 45), some (.int (nI d)), some (.int (nI i)), some (.int (nI n)), some (.int (nI c)), some (.int x5), l6] [] F L Q := by
      intro l6 x5 hb
      rw [hb, if_neg (by decide)] at er
      rw [er] at hq
      rw [kX12_people_186, kX12_people_187, if_pos rfl, kX12_people_229, kX12_people_69, if_pos rfl, kX12_people_232]
      exact hq F (fun _ _ => rfl) hm
    rw [kX12_people_69, if_neg (by decide), kX12_people_74, if_neg (nI_ge (by omega) (by omega)), kX12_people_80 (oobN hd (by decide)), nI_clamp (by omega), e60]
    have hcmp : ((nI M - 3) - 3 * nI c < nI i) = ¬ (i + 3 * c + 3 ≤ M) := by
      simp (disch := omega) only [iI_n, iI_l, iI_neg, iI_add, iI_sub, iI_mul, iI_div, iI_lt, iI_le, iI_eq]
      exact propext ⟨fun h => by omega, fun h => by omega⟩
    by_cases h1 : i + 3 * c + 3 ≤ M
    · rw [decide_eq_true h1, Bool.true_and] at eo
      rw [if_neg (fun hh => (hcmp.mp hh) h1), kX12_people_97, e7]
      by_cases h2 : vP v < 10
      · rw [decide_eq_true h2, Bool.true_and] at eo
        have ek : (60 * nI d + nI i + 3 * nI c : Int32) = nI (60 * d + (i + 3 * c)) := by
          rw [iI_l, iI_l, iI_n, iI_n, iI_n, iI_n, iI_mul, iI_mul, iI_add, iI_add]; congr 1; omega
        have o0 : am_oob (nI (60 * d + (i + 3 * c))) 360 = false := oobN (by omega) (by decide)
        have o1 : am_oob (nI (60 * d + (i + 3 * c)) + 1) 360 = false := by rw [nI_1]; exact oobN (by omega) (by decide)
        have a2 : nI (60 * d + (i + 3 * c)) + 2 = nI (60 * d + (i + 3 * c) + 2) := nI_add _ 2
        have o2 : am_oob (nI (60 * d + (i + 3 * c)) + 2) 360 = false := by rw [a2]; exact oobN (by omega) (by decide)
        rw [if_neg (show ¬ (10 : Int32) ≤ nI (vP v) from nI_ge (b := 10) h2 (by decide)), kX12_people_106, kX12_people_111, if_neg (by decide), ek, kX12_people_131 o0, nI_clamp (by omega), e61 _ (by omega), m_isCellL]
        simp only [Option.toList_some, Option.toList_none, List.cons_append, List.nil_append]
        rw [kX12_people_141]
        cases f4 : fitL 4 (el (i + 3 * c))
        · rw [f4, Bool.false_and] at eo
          rw [if_pos bIf]
          exact bad _ _ eo
        · rw [f4, Bool.true_and] at eo
          rw [if_neg bIt, kX12_people_144 o1, nI_1, nI_clamp (by omega), show 60 * d + (i + 3 * c) + 1 = 60 * d + (i + 3 * c + 1) by omega, e61 _ (by omega), show (0 : Int64) = (nI (vLo 5)).toInt64 from rfl, show (63 : Int64) = (nI (vHi 5)).toInt64 from rfl, m_fitL]
          simp only [Option.toList_some, Option.toList_none, List.cons_append, List.nil_append]
          rw [kX12_people_160]
          cases f5 : fitL 5 (el (i + 3 * c + 1))
          · rw [f5, Bool.false_and] at eo
            rw [if_pos bIf]
            exact bad _ _ eo
          · rw [f5, Bool.true_and] at eo
            rw [if_neg bIt, kX12_people_163 o2, a2, nI_clamp (by omega), show 60 * d + (i + 3 * c) + 2 = 60 * d + (i + 3 * c + 2) by omega, e61 _ (by omega), show (0 : Int64) = (nI (vLo 6)).toInt64 from rfl, show (3 : Int64) = (nI (vHi 6)).toInt64 from rfl, m_fitL]
            simp only [Option.toList_some, Option.toList_none, List.cons_append, List.nil_append]
            rw [kX12_people_179]
            cases f6 : fitL 6 (el (i + 3 * c + 2))
            · rw [f6] at eo
              rw [if_pos bIf]
              exact bad _ _ eo
            · rw [f6] at eo
              rw [eo, if_pos rfl] at er
              rw [er] at hq
              obtain ⟨k4, l4, u4, t4, _⟩ := fitL_ex (by decide) f4
              obtain ⟨k5, l5, u5, t5, _⟩ := fitL_ex (by decide) f5
              obtain ⟨k6, l6', u6, t6, _⟩ := fitL_ex (by decide) f6
              have u4' : k4 ≤ 255 := u4
              have u5' : k5 ≤ 63 := u5
              have u6' : k6 ≤ 3 := u6
              have n4 : eN el (i + 3 * c) = k4 := by unfold eN; rw [t4, nI_clamp (by omega)]
              have n5 : eN el (i + 3 * c + 1) = k5 := by unfold eN; rw [t5, nI_clamp (by omega)]
              have n6 : eN el (i + 3 * c + 2) = k6 := by unfold eN; rw [t6, nI_clamp (by omega)]
              rw [n4, n5, n6] at hq
              rw [if_neg bIt, kX12_people_182, kX12_people_187, if_neg (by decide), kX12_people_194 o0 o1, nI_1, nI_clamp (by omega), nI_clamp (by omega), show 60 * d + (i + 3 * c) + 1 = 60 * d + (i + 3 * c + 1) by omega, e61 _ (by omega), e61 _ (by omega), kX12_people_219 o2, a2, nI_clamp (by omega), show 60 * d + (i + 3 * c) + 2 = 60 * d + (i + 3 * c + 2) by omega, e61 _ (by omega), t4, t5, t6]
              apply m_adds hm h2 u4' u5' u6'
              intro G g1 g2 g3
              simp only [Option.toList_some, Option.toList_none, List.cons_append, List.nil_append]
              rw [kX12_people_226, nI_1, kX12_people_229]
              exact ih (c + 1) (vaP v k4 k5 k6) G _ (by omega) g2 fun H h1 h2 => hq H (fun p hp => (h1 p hp).trans (g1 p hp)) h2
      · rw [decide_eq_false h2, Bool.false_and] at eo
        rw [if_pos (show (10 : Int32) ≤ nI (vP v) from nI_le (a := 10) (by omega) (by omega)), kX12_people_110, kX12_people_111, if_pos rfl]
        exact bad _ _ eo
    · rw [decide_eq_false h1, Bool.false_and] at eo
      rw [if_pos (hcmp.mpr h1), kX12_people_110, kX12_people_111, if_pos rfl]
      exact bad _ _ eo
theorem wi_ex {n : Int32} {a b : Nat} (hb : b < 1000) (ha : a ≤ b) (h : decide (¬ n < nI a ∧ ¬ nI b < n) = true) : ∃ k, a ≤ k ∧ k ≤ b ∧ n = nI k := by
  have h1 := of_decide_eq_true h
  obtain ⟨z, z1, z2, rfl⟩ := iI_ex n
  obtain ⟨c1, c2⟩ := h1
  have hz : (a : Int) ≤ z ∧ z ≤ b := by
    revert c1 c2
    simp (disch := omega) only [iI_n, iI_l, iI_neg, iI_add, iI_sub, iI_mul, iI_div, iI_lt, iI_le, iI_eq]
    intro c1 c2
    exact ⟨by omega, by omega⟩
  exact ⟨z.toNat, by omega, by omega, iI_tn (by omega)⟩
theorem mc_people (g : am_G) (hg : wG g) (x y n : Int32) : MC mX12_people [.ref 45, .int x, .int y, .int n] g (.int (gPeople g x y n).1) (gPeople g x y n).2 := by
  intro F L Q hm hq
  have same := fun (hx : ∀ z, z = gPeople g x y n → z.2 = g) => hq
  unfold gPeople at hq
  have hS := hg.2.2.2.2.2.2
  rw [eX12_people, kX12_people_0, m_isShelf]
  simp only [Option.toList_some, Option.toList_none, List.cons_append, List.nil_append]
  rw [kX12_people_4]
  cases hx : inR x 6
  · rw [hx, Bool.false_and, if_neg (by decide)] at hq
    rw [if_pos bIf, kX12_people_19]
    exact hq F L (fun _ _ => rfl) (fun _ _ => rfl) hm
  · rw [hx, Bool.true_and] at hq
    rw [if_neg bIt, kX12_people_7, show (1 : Int64) = Int32.toInt64 1 from rfl, show (10 : Int64) = Int32.toInt64 10 from rfl, s_mwi]
    simp only [Option.toList_some, Option.toList_none, List.cons_append, List.nil_append]
    rw [kX12_people_16]
    cases hn : decide (¬ n < 1 ∧ ¬ 10 < n)
    · rw [hn, if_neg (by decide)] at hq
      rw [if_neg (by decide), kX12_people_19]
      exact hq F L (fun _ _ => rfl) (fun _ _ => rfl) hm
    · rw [hn, if_pos rfl] at hq
      obtain ⟨k, k1, rfl⟩ := inR_ex hx (by decide)
      obtain ⟨m, m1, m2, rfl⟩ := wi_ex (a := 1) (b := 10) (by decide) (by decide) hn
      rw [nI_clamp (by omega), nI_clamp (by omega)] at hq
      have hk := hS k k1
      have hsh := hm.2.2.2.2.2.2 k k1
      rw [if_pos bIt, kX12_people_21 (oobN k1 (by decide)), nI_clamp (by omega), hsh.1]
      have none' : ∀ l5 l6 : Option Value, Q (some (.int 0)) F L → wt am_S0 2047 mX12_people 66 [some (.ref 45), some (.int (nI k)), some (.int y), some (.int (nI m)), some (.int 0), l5, l6] [] F L Q := by
        intro l5 l6 h0
        rw [kX12_people_66, kX12_people_67, kX12_people_69, if_pos rfl, kX12_people_232]
        exact h0
      by_cases h0 : sK (gS g) k = 0
      · rw [if_pos h0] at hq
        rw [h0, if_pos (by decide), kX12_people_44 (oobN k1 (by decide)), nI_clamp (by omega), hsh.1, h0, if_pos (by decide)]
        exact none' _ _ (hq F L (fun _ _ => rfl) (fun _ _ => rfl) hm)
      · rw [if_neg h0] at hq
        obtain ⟨s, hs⟩ : ∃ s, sK (gS g) k = s + 1 := ⟨sK (gS g) k - 1, by omega⟩
        rw [hs, skI_s, if_neg (nI_pos (by omega)), kX12_people_30 (oobN k1 (by decide)), nI_clamp (by omega), hsh.1, hs, skI_s]
        by_cases h52 : sK (gS g) k = 52
        · rw [if_pos h52] at hq
          have e51 : nI s = (51 : Int32) := by rw [show s = 51 by omega]; rfl
          rw [if_pos e51, kX12_people_44 (oobN k1 (by decide)), nI_clamp (by omega), hsh.1, hs, skI_s, if_neg (fun hh => hh e51), kX12_people_58]
          by_cases hy : y < 0
          · rw [if_pos hy] at hq
            rw [if_pos hy]
            exact none' _ _ (hq F L (fun _ _ => rfl) (fun _ _ => rfl) hm)
          · rw [if_neg hy] at hq
            obtain ⟨i, hi, rfl⟩ := nI_of hy
            rw [nI_clamp hi] at hq
            rw [if_neg hy, kX12_people_62, kX12_people_67, show (some (.int 0) : Option Value) = some (.int (nI 0)) from rfl]
            exact m_ppl_loop (g0 := g) k1 hi m2 hk.2.1 rfl rfl m 0 (gV g) F _ (by omega) hm fun G g1 g2 => hq G L g1 (fun _ _ => rfl) g2
        · rw [if_neg h52] at hq
          rw [if_neg (show ¬ nI s = (51 : Int32) from nI_ne (x := 51) (by omega) (by decide) (by omega)), kX12_people_41]
          exact hq F L (fun _ _ => rfl) (fun _ _ => rfl) hm
/-! where a number lies -/
def hasN (v : am_V) (n w : Int32) : Bool := inR w 7 && inR n (vO v w.toNatClampNeg)
def wNN (w : Int32) : Nat := w.toNatClampNeg
theorem inR_not7 {x : Int32} (h0 : ¬ x = 0) (h1 : ¬ x = 1) (h2 : ¬ x = 2) (h3 : ¬ x = 3) (h4 : ¬ x = 4) (h5 : ¬ x = 5) (h6 : ¬ x = 6) : inR x 7 = false := by
  cases h : inR x 7
  · rfl
  · obtain ⟨k, k1, rfl⟩ := inR_ex h (by decide)
    rcases (by omega : k = 0 ∨ k = 1 ∨ k = 2 ∨ k = 3 ∨ k = 4 ∨ k = 5 ∨ k = 6) with rfl | rfl | rfl | rfl | rfl | rfl | rfl
    · exact absurd rfl h0
    · exact absurd rfl h1
    · exact absurd rfl h2
    · exact absurd rfl h3
    · exact absurd rfl h4
    · exact absurd rfl h5
    · exact absurd rfl h6
theorem m_placeOf {d : Nat} {F : am_FT} {L : am_LT} {Q : am_QT} {v : am_V} {n w : Int32} (h : RM F v) (hv : wV v) : wc am_S0 (d + 2) mX12_placeOf [.ref 45, .int n, .int w] F L Q = Q (some (.int (if hasN v n w = true then nI (pmN w.toNatClampNeg + n.toNatClampNeg) else -1))) F L := by
  have hT := hv.1
  have hP := hv.2.1
  have tr : ∀ k : Nat, k < 3 → w = nI k → wt am_S0 (d + 2) mX12_placeOf 44 [some (.ref 45), some (.int n), some (.int w)] [] F L Q = Q (some (.int (if hasN v n w = true then nI (pmN w.toNatClampNeg + n.toNatClampNeg) else -1))) F L := by
    intro k hk hw
    have e : hasN v n w = inR n (vT v) := by
      unfold hasN
      rw [hw, inR_n (by omega) (by decide), Bool.true_and, nI_clamp (by omega)]
      congr 1
      exact if_pos hk
    rw [e, kX12_placeOf_44, m_isTree h hv]
    simp only [Option.toList_some, Option.toList_none, List.cons_append, List.nil_append]
    rw [kX12_placeOf_50]
    cases hn : inR n (vT v)
    · rw [if_pos bIf, kX12_placeOf_62, kX12_placeOf_63]; rfl
    · obtain ⟨m, m1, rfl⟩ := inR_ex hn (by omega)
      rw [if_neg bIt, kX12_placeOf_53, kX12_placeOf_63, if_pos rfl, hw, nI_clamp (by omega), nI_clamp (by omega)]
      congr 3
      rcases (by omega : k = 0 ∨ k = 1 ∨ k = 2) with rfl | rfl | rfl
      · exact nI_add 0 m
      · exact nI_add 6 m
      · exact nI_add 12 m
  have pe : ∀ k : Nat, 4 ≤ k → k < 7 → w = nI k → wt am_S0 (d + 2) mX12_placeOf 81 [some (.ref 45), some (.int n), some (.int w)] [] F L Q = Q (some (.int (if hasN v n w = true then nI (pmN w.toNatClampNeg + n.toNatClampNeg) else -1))) F L := by
    intro k hk1 hk hw
    have e : hasN v n w = inR n (vP v) := by
      unfold hasN
      rw [hw, inR_n (by omega) (by decide), Bool.true_and, nI_clamp (by omega)]
      congr 1
      unfold vO
      rw [if_neg (by omega), if_neg (by omega), if_pos hk]
    rw [e, kX12_placeOf_81, m_isOne h hv]
    simp only [Option.toList_some, Option.toList_none, List.cons_append, List.nil_append]
    rw [kX12_placeOf_87]
    cases hn : inR n (vP v)
    · rw [if_pos bIf, kX12_placeOf_104, kX12_placeOf_105]; rfl
    · obtain ⟨m, m1, rfl⟩ := inR_ex hn (by omega)
      rw [if_neg bIt, kX12_placeOf_90, kX12_placeOf_105, if_pos rfl, hw, nI_clamp (by omega), nI_clamp (by omega)]
      congr 3
      rcases (by omega : k = 4 ∨ k = 5 ∨ k = 6) with rfl | rfl | rfl
      · exact nI_add 30 m
      · exact nI_add 40 m
      · exact nI_add 50 m
  rw [eX12_placeOf, kX12_placeOf_0]
  by_cases h0 : w = 0
  · rw [if_pos h0]; exact tr 0 (by decide) h0
  rw [if_neg h0]
  by_cases h1 : w = 1
  · rw [if_pos h1]; exact tr 1 (by decide) h1
  rw [if_neg h1]
  by_cases h2 : w = 2
  · rw [if_pos h2]; exact tr 2 (by decide) h2
  rw [if_neg h2]
  by_cases h3 : w = 3
  · have e : hasN v n w = inR n 12 := by
      unfold hasN
      rw [h3]
      rfl
    rw [if_pos h3, e, kX12_placeOf_64, m_isMonth]
    simp only [Option.toList_some, Option.toList_none, List.cons_append, List.nil_append]
    rw [kX12_placeOf_69]
    cases hn : inR n 12
    · rw [if_pos bIf, kX12_placeOf_79, kX12_placeOf_80]; rfl
    · obtain ⟨m, m1, rfl⟩ := inR_ex hn (by decide)
      rw [if_neg bIt, kX12_placeOf_72, kX12_placeOf_80, if_pos rfl, h3, nI_clamp (by omega), a18]
      rfl
  rw [if_neg h3]
  by_cases h4 : w = 4
  · rw [if_pos h4]; exact pe 4 (by decide) (by decide) h4
  rw [if_neg h4]
  by_cases h5 : w = 5
  · rw [if_pos h5]; exact pe 5 (by decide) (by decide) h5
  rw [if_neg h5]
  by_cases h6 : w = 6
  · rw [if_pos h6]; exact pe 6 (by decide) (by decide) h6
  rw [if_neg h6, kX12_placeOf_106]
  have e : hasN v n w = false := by
    unfold hasN
    rw [inR_not7 h0 h1 h2 h3 h4 h5 h6]; rfl
  rw [e]; rfl
theorem hasN_ex {v : am_V} (hv : wV v) {n w : Int32} (h : hasN v n w = true) : ∃ a b, b < 7 ∧ a < vO v b ∧ n = nI a ∧ w = nI b ∧ n.toNatClampNeg = a ∧ w.toNatClampNeg = b := by
  unfold hasN at h
  rw [Bool.and_eq_true] at h
  obtain ⟨b, b1, rfl⟩ := inR_ex h.1 (by decide)
  rw [nI_clamp (by omega)] at h
  have := vO_le hv b
  obtain ⟨a, a1, rfl⟩ := inR_ex h.2 (by omega)
  exact ⟨a, b, b1, a1, rfl, rfl, nI_clamp (by omega), nI_clamp (by omega)⟩
theorem m_mayBecome {d w : Nat} {F : am_FT} {L : am_LT} {Q : am_QT} {x : Int32} (hw : w < 7) : wc am_S0 (d + 2) mX12_mayBecome [.int (nI w), .int x] F L Q = Q (some (.int (bI (fitN w x)))) F L := by
  rw [eX12_mayBecome, kX12_mayBecome_0]
  rcases (by omega : w = 0 ∨ w = 1 ∨ w = 2 ∨ w = 3 ∨ w = 4 ∨ w = 5 ∨ w = 6) with rfl | rfl | rfl | rfl | rfl | rfl | rfl
  · rw [if_pos (by decide), kX12_mayBecome_40, m_isCell2]
    simp only [Option.toList_some, Option.toList_none, List.cons_append, List.nil_append]
    rw [kX12_mayBecome_45 nb_b]
  · rw [if_neg (by decide), if_pos (by decide), kX12_mayBecome_46, show (1 : Int64) = (nI (vLo 1)).toInt64 from rfl, show (9 : Int64) = (nI (vHi 1)).toInt64 from rfl, m_fit]
    simp only [Option.toList_some, Option.toList_none, List.cons_append, List.nil_append]
    rw [kX12_mayBecome_55 nb_b]
  · rw [if_neg (by decide), if_neg (by decide), if_pos (by decide), kX12_mayBecome_76, show (0 : Int64) = (nI (vLo 2)).toInt64 from rfl, show (3 : Int64) = (nI (vHi 2)).toInt64 from rfl, m_fit]
    simp only [Option.toList_some, Option.toList_none, List.cons_append, List.nil_append]
    rw [kX12_mayBecome_85 nb_b]
  · rw [if_neg (by decide), if_neg (by decide), if_neg (by decide), if_pos (by decide), kX12_mayBecome_56, show (0 : Int64) = (nI (vLo 3)).toInt64 from rfl, show (9 : Int64) = (nI (vHi 3)).toInt64 from rfl, m_fit]
    simp only [Option.toList_some, Option.toList_none, List.cons_append, List.nil_append]
    rw [kX12_mayBecome_65 nb_b]
  · rw [if_neg (by decide), if_neg (by decide), if_neg (by decide), if_neg (by decide), if_pos (by decide), kX12_mayBecome_40, m_isCell2]
    simp only [Option.toList_some, Option.toList_none, List.cons_append, List.nil_append]
    rw [kX12_mayBecome_45 nb_b]
    rfl
  · rw [if_neg (by decide), if_neg (by decide), if_neg (by decide), if_neg (by decide), if_neg (by decide), if_pos (by decide), kX12_mayBecome_66, show (0 : Int64) = (nI (vLo 5)).toInt64 from rfl, show (63 : Int64) = (nI (vHi 5)).toInt64 from rfl, m_fit]
    simp only [Option.toList_some, Option.toList_none, List.cons_append, List.nil_append]
    rw [kX12_mayBecome_75 nb_b]
  · rw [if_neg (by decide), if_neg (by decide), if_neg (by decide), if_neg (by decide), if_neg (by decide), if_neg (by decide), kX12_mayBecome_76, show (0 : Int64) = (nI (vLo 6)).toInt64 from rfl, show (3 : Int64) = (nI (vHi 6)).toInt64 from rfl, m_fit]
    simp only [Option.toList_some, Option.toList_none, List.cons_append, List.nil_append]
    rw [kX12_mayBecome_85 nb_b]
