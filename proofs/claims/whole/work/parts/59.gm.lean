/-! ===== games: whose chair it hangs on, by how much to lop, the fewest that turn it ===== -/
def qq (v : am_V) (t m a : Nat) : Bool := vS v t && pas v t m (vN v 1 t) a (wsh v t)
def hng (v : am_V) (t m : Nat) : Nat := bs (fun p => (csit v t m).testBit p && (qq v t m (ndf (csit v t m) (2 ^ p)) != fal v t m)) (vP v)
theorem xor_lt {a b : Nat} {n : Nat} (ha : a < 2 ^ n) (hb : b < 2 ^ n) : a ^^^ b < 2 ^ n := Nat.xor_lt_two_pow ha hb
theorem c_hangsOn_loop {d : Nat} {L : am_LT} {Q : am_QT} {v : am_V} {t m : Nat} (ht : t < vT v) (hm : m < 12) {l1 l2 : Option Value} : ∀ (j k : Nat) (F : am_FT), k + j = vP v → CV F v → BO F v t m (vN v 1 t) (vS v t) (csit v t m) → (∀ G, SB F G → Q (some (.int (nI (hng v t m)))) G L) → wt am_S0 (d + 8) mX4_hangsOn 40 [some (.ref 16), l1, l2, some (.int (nI (csit v t m))), some (.int (bI (fal v t m))), some (.int (nI (bs (fun p => (csit v t m).testBit p && (qq v t m (ndf (csit v t m) (2 ^ p)) != fal v t m)) k))), some (.int (nI k))] [] F L Q := by
  intro j
  induction j with
  | zero =>
    intro k F hk h hb hq
    have hP := h.2.1.2.1
    have : k = vP v := by omega
    subst this
    rw [kX4_hangsOn_40, h.1.2.1, if_pos (nI_le (Nat.le_refl _) (by omega)), kX4_hangsOn_103]
    exact hq F (SB_rf F)
  | succ j ih =>
    intro k F hk h hb hq
    have hP := h.2.1.2.1
    have hc := csit_lt h.2.1 t m
    have hn : ndf (csit v t m) (2 ^ k) < 1024 := ndf_lt (n := 10) hc
    have e1 : bs (fun p => (csit v t m).testBit p && (qq v t m (ndf (csit v t m) (2 ^ p)) != fal v t m)) (k + 1) = if ((csit v t m).testBit k && (qq v t m (ndf (csit v t m) (2 ^ k)) != fal v t m)) = true then bs (fun p => (csit v t m).testBit p && (qq v t m (ndf (csit v t m) (2 ^ p)) != fal v t m)) k ||| 2 ^ k else bs (fun p => (csit v t m).testBit p && (qq v t m (ndf (csit v t m) (2 ^ p)) != fal v t m)) k := rfl
    rw [kX4_hangsOn_40, h.1.2.1, if_neg (nI_ge (by omega) (by omega)), kX4_hangsOn_52, s_holds, bit_b (by omega) (by omega)]
    simp only [Option.toList_some, Option.toList_none, List.cons_append, List.nil_append]
    rw [kX4_hangsOn_58]
    cases h1 : (csit v t m).testBit k
    · have ih1 := ih (k + 1) F (by omega) h hb hq
      rw [e1, h1] at ih1
      rw [if_pos bIf, kX4_hangsOn_97, nI_1]
      exact ih1
    · rw [if_neg bIt, kX4_hangsOn_61, nI_sh k (by omega), nI_ndf, hb.2.2.1]
      apply c_passes h hb hn (wsh_lt h.2.1 t)
      intro G g1 g2
      have ih1 := ih (k + 1) G (by omega) (SB_CV g1 h) g2 fun H h1 => hq H (SB_tr g1 h1)
      rw [e1, h1] at ih1
      simp only [Option.toList_some, Option.toList_none, List.cons_append, List.nil_append]
      rw [kX4_hangsOn_83, show (vS v t && pas v t m (vN v 1 t) (ndf (csit v t m) (2 ^ k)) (wsh v t)) = qq v t m (ndf (csit v t m) (2 ^ k)) from rfl]
      by_cases h2 : qq v t m (ndf (csit v t m) (2 ^ k)) = fal v t m
      · rw [h2, bne_self_eq_false] at ih1
        rw [h2, if_pos rfl, kX4_hangsOn_97, nI_1]
        exact ih1
      · rw [bne_iff_ne.mpr h2] at ih1
        rw [if_neg (by rw [bI_inj]; exact h2), kX4_hangsOn_88, kX4_hangsOn_97, nI_1, nI_sh k (by omega), nI_or]
        exact ih1
theorem c_hangsOn {d : Nat} {F : am_FT} {L : am_LT} {Q : am_QT} {v : am_V} (h : CV F v) {t m : Nat} (ht : t < vT v) (hm : m < 12) (hq : ∀ G, SB F G → Q (some (.int (nI (hng v t m)))) G L) : wc am_S0 (d + 8) mX4_hangsOn [.ref 16, .int (nI t), .int (nI m)] F L Q := by
  rw [eX4_hangsOn, kX4_hangsOn_0]
  apply c_open h ht hm
  intro G g1 g2
  simp only [Option.toList_some, Option.toList_none, List.cons_append, List.nil_append]
  rw [kX4_hangsOn_9, g2.2.1, g2.2.2.1]
  apply c_passes (SB_CV g1 h) g2 (csit_lt h.2.1 t m) (wsh_lt h.2.1 t)
  intro H h1 h2
  simp only [Option.toList_some, Option.toList_none, List.cons_append, List.nil_append]
  rw [kX4_hangsOn_32]
  exact c_hangsOn_loop ht hm (vP v) 0 H (by omega) (SB_CV h1 (SB_CV g1 h)) h2 fun M m1 => hq M (SB_tr g1 (SB_tr h1 m1))
def fat (v : am_V) (t m h : Nat) : Bool := pas v t m h (cov v t m h) (wsh v t)
theorem c_fallsAt {d : Nat} {F : am_FT} {L : am_LT} {Q : am_QT} {v : am_V} (h : CV F v) {t m hh : Nat} (ht : t < vT v) (hm : m < 12) (hc : hh ≤ 9) (hq : ∀ G, SB F G → Q (some (.int (bI (fat v t m hh)))) G L) : wc am_S0 (d + 8) mX4_fallsAt [.ref 16, .int (nI t), .int (nI m), .int (nI hh)] F L Q := by
  rw [eX4_fallsAt, kX4_fallsAt_0]
  apply c_openAsIf h ht hm hc
  intro G g1 g2
  simp only [Option.toList_some, Option.toList_none, List.cons_append, List.nil_append]
  rw [kX4_fallsAt_10, g2.2.1, g2.2.2.1]
  apply c_passes (SB_CV g1 h) g2 (cov_lt h.2.1 t m hh) (wsh_lt h.2.1 t)
  intro H h1 h2
  simp only [Option.toList_some, Option.toList_none, List.cons_append, List.nil_append]
  rw [kX4_fallsAt_31 nb_b]
  exact hq H (SB_tr g1 h1)
def srI (f : Nat → Bool) : Nat → Nat → Int32
  | 0, _ => -2
  | j + 1, k => if f k = true then nI k else srI f j (k + 1)
def lsh (v : am_V) (t m : Nat) : Int32 := if vS v t = true then srI (fun k => !(fat v t m (vN v 1 t - k))) (vN v 1 t) 0 else -2
def msh (v : am_V) (t m : Nat) : Int32 := if vS v t = true then srI (fun k => fat v t m (vN v 1 t + k)) (10 - vN v 1 t) 0 else -2
theorem c_lessHigh_loop {d : Nat} {L : am_LT} {Q : am_QT} {v : am_V} {t m : Nat} (ht : t < vT v) (hm : m < 12) (hs : vS v t = true) : ∀ (j k : Nat) (F : am_FT), k + j = vN v 1 t → CV F v → (∀ G, SB F G → Q (some (.int (srI (fun k => !(fat v t m (vN v 1 t - k))) j k))) G L) → wt am_S0 (d + 9) mX4_lessHigh 13 [some (.ref 16), some (.int (nI t)), some (.int (nI m)), some (.int (nI (vN v 1 t))), some (.int (nI k))] [] F L Q := by
  intro j
  induction j with
  | zero =>
    intro k F hk h hq
    have h1 := lb1 h.2.1 ht
    have : k = vN v 1 t := by omega
    rw [kX4_lessHigh_13, this, if_pos (nI_le (Nat.le_refl _) (by omega)), kX4_lessHigh_52]
    exact hq F (SB_rf F)
  | succ j ih =>
    intro k F hk h hq
    have h1 := lb1 h.2.1 ht
    rw [kX4_lessHigh_13, if_neg (nI_ge (by omega) (by omega)), kX4_lessHigh_19, s_stands, ld7 h.1 h.2.1 ht, show (if bI (vS v t) = 1 then (1 : Int32) else 0) = bI (vS v t) by cases vS v t <;> decide, hs]
    simp only [Option.toList_some, Option.toList_none, List.cons_append, List.nil_append]
    rw [kX4_lessHigh_27, if_neg bIt, kX4_lessHigh_30, show (nI (vN v 1 t) - nI k : Int32) = nI (vN v 1 t - k) by rw [iI_n, iI_n, iI_n, iI_sub]; congr 1; omega]
    apply c_fallsAt h ht hm (by omega)
    intro G g1
    unfold srI at hq
    simp only [Option.toList_some, Option.toList_none, List.cons_append, List.nil_append]
    rw [kX4_lessHigh_40]
    cases hf : fat v t m (vN v 1 t - k)
    · rw [hf] at hq
      rw [if_neg (by decide), kX4_lessHigh_43]
      exact hq G g1
    · rw [hf] at hq
      rw [if_pos bIt, kX4_lessHigh_46, nI_1]
      exact ih (k + 1) G (by omega) (SB_CV g1 h) fun H h1 => hq H (SB_tr g1 h1)
theorem c_lessHigh {d : Nat} {F : am_FT} {L : am_LT} {Q : am_QT} {v : am_V} (h : CV F v) {t m : Nat} (ht : t < vT v) (hm : m < 12) (hq : ∀ G, SB F G → Q (some (.int (lsh v t m))) G L) : wc am_S0 (d + 9) mX4_lessHigh [.ref 16, .int (nI t), .int (nI m)] F L Q := by
  rw [eX4_lessHigh, kX4_lessHigh_0, s_read, ld1 h.1 h.2.1 ht]
  simp only [Option.toList_some, Option.toList_none, List.cons_append, List.nil_append]
  rw [kX4_lessHigh_9]
  unfold lsh at hq
  cases hs : vS v t
  · rw [hs] at hq
    have h1 := lb1p h.2.1 ht
    have h2 := lb1 h.2.1 ht
    rw [kX4_lessHigh_13, if_neg (show ¬ nI (vN v 1 t) ≤ (0 : Int32) from nI_ge (a := 0) (by omega) (by omega)), kX4_lessHigh_19, s_stands, ld7 h.1 h.2.1 ht, show (if bI (vS v t) = 1 then (1 : Int32) else 0) = bI (vS v t) by cases vS v t <;> decide, hs]
    simp only [Option.toList_some, Option.toList_none, List.cons_append, List.nil_append]
    rw [kX4_lessHigh_27, if_pos bIf, kX4_lessHigh_52]
    exact hq F (SB_rf F)
  · rw [hs] at hq
    exact c_lessHigh_loop ht hm hs _ 0 F (by omega) h hq
theorem c_moreHigh_loop {d : Nat} {L : am_LT} {Q : am_QT} {v : am_V} {t m : Nat} (ht : t < vT v) (hm : m < 12) (hs : vS v t = true) : ∀ (j k : Nat) (F : am_FT), k + j = 10 - vN v 1 t → CV F v → (∀ G, SB F G → Q (some (.int (srI (fun k => fat v t m (vN v 1 t + k)) j k))) G L) → wt am_S0 (d + 9) mX4_moreHigh 13 [some (.ref 16), some (.int (nI t)), some (.int (nI m)), some (.int (nI (vN v 1 t))), some (.int (nI k))] [] F L Q := by
  intro j
  induction j with
  | zero =>
    intro k F hk h hq
    have h1 := lb1 h.2.1 ht
    rw [kX4_moreHigh_13, nI_add, if_pos (show (9 : Int32) < nI (vN v 1 t + k) from nI_lt (a := 9) (by omega) (by omega)), kX4_moreHigh_55]
    exact hq F (SB_rf F)
  | succ j ih =>
    intro k F hk h hq
    have h1 := lb1 h.2.1 ht
    rw [kX4_moreHigh_13, nI_add, if_neg (show ¬ (9 : Int32) < nI (vN v 1 t + k) from nI_nlt (a := 9) (by omega) (by decide)), kX4_moreHigh_22, s_stands, ld7 h.1 h.2.1 ht, show (if bI (vS v t) = 1 then (1 : Int32) else 0) = bI (vS v t) by cases vS v t <;> decide, hs]
    simp only [Option.toList_some, Option.toList_none, List.cons_append, List.nil_append]
    rw [kX4_moreHigh_30, if_neg bIt, kX4_moreHigh_33, nI_add]
    apply c_fallsAt h ht hm (by omega)
    intro G g1
    unfold srI at hq
    simp only [Option.toList_some, Option.toList_none, List.cons_append, List.nil_append]
    rw [kX4_moreHigh_43]
    cases hf : fat v t m (vN v 1 t + k)
    · rw [hf] at hq
      rw [if_pos bIf, kX4_moreHigh_49, nI_1]
      exact ih (k + 1) G (by omega) (SB_CV g1 h) fun H h1 => hq H (SB_tr g1 h1)
    · rw [hf] at hq
      rw [if_neg bIt, kX4_moreHigh_46]
      exact hq G g1
theorem c_moreHigh {d : Nat} {F : am_FT} {L : am_LT} {Q : am_QT} {v : am_V} (h : CV F v) {t m : Nat} (ht : t < vT v) (hm : m < 12) (hq : ∀ G, SB F G → Q (some (.int (msh v t m))) G L) : wc am_S0 (d + 9) mX4_moreHigh [.ref 16, .int (nI t), .int (nI m)] F L Q := by
  rw [eX4_moreHigh, kX4_moreHigh_0, s_read, ld1 h.1 h.2.1 ht]
  simp only [Option.toList_some, Option.toList_none, List.cons_append, List.nil_append]
  rw [kX4_moreHigh_9]
  unfold msh at hq
  cases hs : vS v t
  · rw [hs] at hq
    have h2 := lb1 h.2.1 ht
    rw [kX4_moreHigh_13, show (nI (vN v 1 t) + 0 : Int32) = nI (vN v 1 t) from nI_add _ 0, if_neg (show ¬ (9 : Int32) < nI (vN v 1 t) from nI_nlt (a := 9) (by omega) (by decide)), kX4_moreHigh_22, s_stands, ld7 h.1 h.2.1 ht, show (if bI (vS v t) = 1 then (1 : Int32) else 0) = bI (vS v t) by cases vS v t <;> decide, hs]
    simp only [Option.toList_some, Option.toList_none, List.cons_append, List.nil_append]
    rw [kX4_moreHigh_30, if_pos bIf, kX4_moreHigh_55]
    exact hq F (SB_rf F)
  · rw [hs] at hq
    exact c_moreHigh_loop ht hm hs _ 0 F (by omega) h hq
def fsN (g : Nat → Bool) : Nat → Nat → Nat
  | 0, _ => 0
  | j + 1, k => if g k = true then k else fsN g j (k + 1)
def ftg (v : am_V) (t m many s : Nat) : Bool := decide (pop s = many) && (qq v t m (csit v t m ^^^ s) != fal v t m)
/-- the fewest that turn it: by how many, then the least set; 0: none -/
def ftw (v : am_V) (t m : Nat) : Nat → Nat → Nat
  | 0, _ => 0
  | j + 1, n => if fsN (ftg v t m n) (2 ^ vP v - 1) 1 = 0 then ftw v t m j (n + 1) else fsN (ftg v t m n) (2 ^ vP v - 1) 1
theorem c_few_l1 {d : Nat} {L : am_LT} {Q : am_QT} {v : am_V} {t m n : Nat} (ht : t < vT v) (hm : m < 12) (hn : n < 100) {l1 l2 : Option Value} : ∀ (j k : Nat) (F : am_FT), k + j = 2 ^ vP v → 1 ≤ k → CV F v → BO F v t m (vN v 1 t) (vS v t) (csit v t m) → (∀ G, SB F G → fsN (ftg v t m n) j k ≠ 0 → Q (some (.int (nI (fsN (ftg v t m n) j k)))) G L) → (∀ G l8, SB F G → BO G v t m (vN v 1 t) (vS v t) (csit v t m) → fsN (ftg v t m n) j k = 0 → wt am_S0 (d + 8) mX4_fewestToTurn 111 [some (.ref 16), l1, l2, some (.int (nI (csit v t m))), some (.int (nI (wsh v t))), some (.int (bI (fal v t m))), some (.int (nI (2 ^ vP v))), some (.int (nI n)), l8] [] G L Q) → wt am_S0 (d + 8) mX4_fewestToTurn 67 [some (.ref 16), l1, l2, some (.int (nI (csit v t m))), some (.int (nI (wsh v t))), some (.int (bI (fal v t m))), some (.int (nI (2 ^ vP v))), some (.int (nI n)), some (.int (nI k))] [] F L Q := by
  intro j
  induction j with
  | zero =>
    intro k F hk hk1 h hb hq hr
    have h2 : 2 ^ vP v ≤ 1024 := two_le (k := 10) h.2.1.2.1
    rw [kX4_fewestToTurn_67, if_pos (nI_le (by omega) (by omega))]
    exact hr F _ (SB_rf F) hb rfl
  | succ j ih =>
    intro k F hk hk1 h hb hq hr
    have h2 : 2 ^ vP v ≤ 1024 := two_le (k := 10) h.2.1.2.1
    have hc := csit_lt h.2.1 t m
    have hk10 : k < 1024 := by omega
    have e1 : fsN (ftg v t m n) (j + 1) k = if ftg v t m n k = true then k else fsN (ftg v t m n) j (k + 1) := rfl
    rw [kX4_fewestToTurn_67, if_neg (nI_ge (by omega) (by omega)), kX4_fewestToTurn_74, s_bitCount (by omega)]
    simp only [Option.toList_some, Option.toList_none, List.cons_append, List.nil_append]
    have hp : pop k ≤ 10 := pop_le (n := 10) hk10 (by decide)
    rw [kX4_fewestToTurn_79, show cnt k.testBit 12 = pop k from rfl]
    by_cases hpn : pop k = n
    · rw [if_neg (by rw [hpn]; exact fun hh => hh rfl), kX4_fewestToTurn_84, nI_xor]
      apply c_passes h hb (xor_lt (n := 10) hc hk10) (wsh_lt h.2.1 t)
      intro G g1 g2
      simp only [Option.toList_some, Option.toList_none, List.cons_append, List.nil_append]
      rw [kX4_fewestToTurn_97, show (vS v t && pas v t m (vN v 1 t) (csit v t m ^^^ k) (wsh v t)) = qq v t m (csit v t m ^^^ k) from rfl]
      by_cases hx : qq v t m (csit v t m ^^^ k) = fal v t m
      · have hg : ftg v t m n k = false := by unfold ftg; rw [hx, bne_self_eq_false, Bool.and_false]
        rw [e1, hg] at hq hr
        rw [hx, if_pos rfl, kX4_fewestToTurn_105, nI_1]
        exact ih (k + 1) G (by omega) (by omega) (SB_CV g1 h) g2 (fun H h1 h3 => hq H (SB_tr g1 h1) h3) fun H l8 h1 h3 h4 => hr H l8 (SB_tr g1 h1) h3 h4
      · have hg : ftg v t m n k = true := by unfold ftg; rw [decide_eq_true hpn, bne_iff_ne.mpr hx]; rfl
        rw [e1, hg, if_pos rfl] at hq
        rw [if_neg (by rw [bI_inj]; exact hx), kX4_fewestToTurn_102]
        exact hq G g1 (by omega)
    · have hg : ftg v t m n k = false := by unfold ftg; rw [decide_eq_false hpn, Bool.false_and]
      rw [e1, hg] at hq hr
      rw [if_pos (fun hh => hpn ((nI_inj (by omega) (by omega)).mp hh)), kX4_fewestToTurn_105, nI_1]
      exact ih (k + 1) F (by omega) (by omega) h hb hq hr
theorem c_few_l2 {d : Nat} {L : am_LT} {Q : am_QT} {v : am_V} {t m : Nat} (ht : t < vT v) (hm : m < 12) {l1 l2 : Option Value} : ∀ (j n : Nat) (F : am_FT) (l8 : Option Value), n + j = vP v + 1 → CV F v → BO F v t m (vN v 1 t) (vS v t) (csit v t m) → (∀ G, SB F G → Q (some (.int (nI (ftw v t m j n)))) G L) → wt am_S0 (d + 8) mX4_fewestToTurn 52 [some (.ref 16), l1, l2, some (.int (nI (csit v t m))), some (.int (nI (wsh v t))), some (.int (bI (fal v t m))), some (.int (nI (2 ^ vP v))), some (.int (nI n)), l8] [] F L Q := by
  intro j
  induction j with
  | zero =>
    intro n F l8 hk h hb hq
    have hP := h.2.1.2.1
    rw [kX4_fewestToTurn_52, h.1.2.1, if_pos (nI_lt (by omega) (by omega)), kX4_fewestToTurn_117]
    exact hq F (SB_rf F)
  | succ j ih =>
    intro n F l8 hk h hb hq
    have hP := h.2.1.2.1
    have h1 : 1 ≤ 2 ^ vP v := Nat.one_le_two_pow
    have e1 : ftw v t m (j + 1) n = if fsN (ftg v t m n) (2 ^ vP v - 1) 1 = 0 then ftw v t m j (n + 1) else fsN (ftg v t m n) (2 ^ vP v - 1) 1 := rfl
    rw [kX4_fewestToTurn_52, h.1.2.1, if_neg (nI_nlt (by omega) (by omega)), kX4_fewestToTurn_64]
    refine c_few_l1 (k := 1) ht hm (by omega) (2 ^ vP v - 1) F (by omega) (Nat.le_refl _) h hb ?_ ?_
    · intro G g1 g2
      rw [e1, if_neg g2] at hq
      exact hq G g1
    · intro G l8' g1 g2 g3
      rw [e1, if_pos g3] at hq
      rw [kX4_fewestToTurn_111, nI_1]
      exact ih (n + 1) G _ (by omega) (SB_CV g1 h) g2 fun H h1 => hq H (SB_tr g1 h1)
theorem c_fewestToTurn {d : Nat} {F : am_FT} {L : am_LT} {Q : am_QT} {v : am_V} (h : CV F v) {t m : Nat} (ht : t < vT v) (hm : m < 12) (hq : ∀ G, SB F G → Q (some (.int (nI (ftw v t m (vP v) 1)))) G L) : wc am_S0 (d + 8) mX4_fewestToTurn [.ref 16, .int (nI t), .int (nI m)] F L Q := by
  have hP := h.2.1.2.1
  rw [eX4_fewestToTurn, kX4_fewestToTurn_0]
  apply c_open h ht hm
  intro G g1 g2
  simp only [Option.toList_some, Option.toList_none, List.cons_append, List.nil_append]
  rw [kX4_fewestToTurn_9, g2.2.1, g2.2.2.1]
  apply c_passes (SB_CV g1 h) g2 (csit_lt h.2.1 t m) (wsh_lt h.2.1 t)
  intro H h1 h2
  have hH := SB_CV h1 (SB_CV g1 h)
  simp only [Option.toList_some, Option.toList_none, List.cons_append, List.nil_append]
  rw [kX4_fewestToTurn_36, hH.1.2.1, nI_sh _ (by omega)]
  exact c_few_l2 ht hm (vP v) 1 H _ (by omega) hH h2 fun M m1 => hq M (SB_tr g1 (SB_tr h1 m1))
