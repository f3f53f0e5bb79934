/-! ===== power, by turns ===== -/
def wys (v : am_V) (t m p : Nat) : Nat := cnt (wyb v t m (csit v t m) p (ndf (csit v t m) (2 ^ p))) (2 ^ vP v)
theorem c_waysToDecide {d : Nat} {F : am_FT} {L : am_LT} {Q : am_QT} {v : am_V} (h : CV F v) {t m p : Nat} {st : Bool} (hp : p < vP v) (hb : BO F v t m (vN v 1 t) st (csit v t m)) (hq : ∀ G, SQ F G → Q (some (.int (nI (wys v t m p)))) G L) : wc am_S0 (d + 7) mX4_waysToDecide [.ref 16, .int (nI p), .int (nI (ndf (csit v t m) (2 ^ p)))] F L Q := by
  have hc := csit_lt h.2.1 t m
  rw [eX4_waysToDecide, kX4_waysToDecide_0]
  apply c_sumSets h hb hc
  intro G g1 g2 g3
  have hG := SW_CV g1 h
  have hP := h.2.1.2.1
  simp only [Option.toList_some, Option.toList_none, List.cons_append, List.nil_append]
  rw [kX4_waysToDecide_13, g2.2.1]
  apply c_sumOf hG g2 hc hc
  intro H h1 h2
  have hH := SB_CV h1 hG
  simp only [Option.toList_some, Option.toList_none, List.cons_append, List.nil_append]
  rw [kX4_waysToDecide_27, hH.1.2.1, nI_sh _ (by omega)]
  have h14 : ∀ s, s < 2 ^ vP v → H 14 s = nI (sfm v t m (vN v 1 t) (csit v t m) s) := by
    intro s hs
    rw [h1.1 14 (by decide) (by decide) (by decide) (by decide) (by decide)]
    exact g3 s hs
  refine (c_ways_loop (o := ndf (csit v t m) (2 ^ p)) h.2.1 hp h14 (2 ^ vP v) 0 _ _ (by omega)).mpr ?_
  exact hq H (SQ_tr (SW_SQ g1) (SB_SQ h1))
def hv : Nat → Nat × Nat → Nat × Nat
  | 0, x => x
  | j + 1, x => if x.2 ≤ 1 ∨ x.1 % 2 ≠ 0 then x else hv j (x.1 / 2, x.2 / 2)
theorem c_power_l {d : Nat} {F : am_FT} {L : am_LT} {Q : am_QT} {l1 l2 l3 : Option Value} {pt x5 : Int32} : ∀ (j a b : Nat), b ≤ 2 ^ j → j ≤ 10 → a ≤ 1024 → wt am_S0 d mX4_powerOf 59 [some (.ref 16), l1, l2, l3, some (.int pt), some (.int x5), some (.int (nI a)), some (.int (nI b))] [] F L Q = Q (some (.int (if pt = 0 then nI (hv j (a, b)).1 else nI (hv j (a, b)).2))) F L := by
  have e2 : ∀ x : Nat, x ≤ 1024 → nI x / (2 : Int32) = nI (x / 2) := by
    intro x hx
    simp (disch := omega) only [iI_n, iI_l, iI_neg, iI_add, iI_sub, iI_mul, iI_div, iI_lt, iI_le, iI_eq]
    congr 1
  have hend : ∀ a b : Nat, wt am_S0 d mX4_powerOf 87 [some (.ref 16), l1, l2, l3, some (.int pt), some (.int x5), some (.int (nI a)), some (.int (nI b))] [] F L Q = Q (some (.int (if pt = 0 then nI a else nI b))) F L := by
    intro a b
    rw [kX4_powerOf_87]
    by_cases h : pt = 0
    · rw [if_neg (fun hh => hh h), kX4_powerOf_92, kX4_powerOf_99, if_pos h]
    · rw [if_pos h, kX4_powerOf_97, kX4_powerOf_99, if_neg h]
  intro j
  induction j with
  | zero =>
    intro a b hb hj ha
    rw [kX4_powerOf_59, if_pos (show nI b ≤ (1 : Int32) from nI_le (b := 1) (by omega) (by decide)), hend]
    rfl
  | succ j ih =>
    intro a b hb hj ha
    have h2 : 2 ^ (j + 1) ≤ 1024 := two_le (k := 10) hj
    rw [kX4_powerOf_59]
    by_cases h1 : b ≤ 1
    · rw [if_pos (show nI b ≤ (1 : Int32) from nI_le (b := 1) h1 (by decide)), hend, show hv (j + 1) (a, b) = (a, b) from if_pos (Or.inl h1)]
    · rw [if_neg (show ¬ nI b ≤ (1 : Int32) from nI_ge (a := 1) (by omega) (by omega)), kX4_powerOf_65]
      have e3 : (nI a - nI a / 2 * 2 : Int32) = nI (a % 2) := by
        simp (disch := omega) only [iI_n, iI_l, iI_neg, iI_add, iI_sub, iI_mul, iI_div, iI_lt, iI_le, iI_eq]
        congr 1
        omega
      rw [e3]
      by_cases h3 : a % 2 = 0
      · rw [h3, if_neg (fun hh => hh nI_0), kX4_powerOf_72, e2 a ha, e2 b (by omega), ih (a / 2) (b / 2) (by rw [Nat.pow_succ] at hb; omega) (by omega) (by omega), show hv (j + 1) (a, b) = hv j (a / 2, b / 2) from if_neg (fun hh => hh.elim (fun h5 => h1 h5) (fun h5 => h5 h3))]
      · rw [if_pos (nI_ne0 (by omega) (by omega)), hend, show hv (j + 1) (a, b) = (a, b) from if_pos (Or.inr h3)]
def pwr (v : am_V) (t m p : Nat) (pt : Int32) : Int32 := if (csit v t m).testBit p = true then (if pt = 0 then nI (hv 10 (wys v t m p, 2 ^ pop (ndf (csit v t m) (2 ^ p)))).1 else nI (hv 10 (wys v t m p, 2 ^ pop (ndf (csit v t m) (2 ^ p)))).2) else pt
theorem c_powerOf {d : Nat} {F : am_FT} {L : am_LT} {Q : am_QT} {v : am_V} (h : CV F v) {t m p : Nat} {pt : Int32} (ht : t < vT v) (hm : m < 12) (hp : p < vP v) (hq : ∀ G, SQ F G → Q (some (.int (pwr v t m p pt))) G L) : wc am_S0 (d + 8) mX4_powerOf [.ref 16, .int (nI t), .int (nI m), .int (nI p), .int pt] F L Q := by
  have hc := csit_lt h.2.1 t m
  have hP := h.2.1.2.1
  have hn : ndf (csit v t m) (2 ^ p) < 1024 := ndf_lt (n := 10) hc
  have hpo : pop (ndf (csit v t m) (2 ^ p)) ≤ 10 := pop_le (n := 10) hn (by decide)
  have hwy : wys v t m p ≤ 1024 := Nat.le_trans (cnt_le _ _) (two_le (k := 10) hP)
  rw [eX4_powerOf, kX4_powerOf_0]
  apply c_open h ht hm
  intro G g1 g2
  have hG := SB_CV g1 h
  have hG5 : G 9 5 = nI (csit v t m) := g2.2.1
  simp only [Option.toList_some, Option.toList_none, List.cons_append, List.nil_append]
  rw [kX4_powerOf_9, hG5, s_holds, bit_b (by omega) (by omega)]
  simp only [Option.toList_some, Option.toList_none, List.cons_append, List.nil_append]
  rw [kX4_powerOf_20]
  have hq1 := fun H hH => hq H hH
  unfold pwr at hq1
  cases hb : (csit v t m).testBit p
  · rw [if_neg (by decide), kX4_powerOf_23]
    rw [hb] at hq1
    exact hq1 G (SB_SQ g1)
  · rw [if_pos bIt, kX4_powerOf_26, hG5, nI_sh p (by omega), nI_ndf]
    rw [hb] at hq1
    apply c_waysToDecide hG hp g2
    intro H h1
    simp only [Option.toList_some, Option.toList_none, List.cons_append, List.nil_append]
    rw [kX4_powerOf_48, s_bitCount (by omega)]
    simp only [Option.toList_some, Option.toList_none, List.cons_append, List.nil_append]
    rw [kX4_powerOf_56, nI_sh _ (by unfold pop at hpo; omega)]
    have hpo2 : cnt (ndf (csit v t m) (2 ^ p)).testBit 12 ≤ 10 := hpo
    rw [c_power_l 10 (wys v t m p) _ (two_le hpo2) (by decide) hwy]
    exact hq1 H (SQ_tr (SB_SQ g1) h1)
