/-! ===== years by draws ===== -/
def cldI (z : Int32) : Int32 := (Int32.toUInt32 z >>> (Int32.toUInt32 8 &&& Int32.toUInt32 31)).toInt32 - (Int32.toUInt32 z >>> (Int32.toUInt32 8 &&& Int32.toUInt32 31)).toInt32 / 12 * 12
def dyS (v : am_V) (nc : Nat) (tr : Option Nat) (m : Nat) (s : Int32 × Nat × Nat) : Int32 × Nat × Nat := if cldI (s.1 * 1103515245 + 12345) < nI nc then (s.1 * 1103515245 + 12345, s.2.1, s.2.2) else (s.1 * 1103515245 + 12345, ndf s.2.1 (s.2.1 &&& fls v m), s.2.2 + (match tr with | none => 0 | some t => if (s.2.1 &&& fls v m).testBit t = true then 1 else 0))
def dyM (v : am_V) (nc : Nat) (tr : Option Nat) (s : Int32 × Nat × Nat) : Nat → Int32 × Nat × Nat
  | 0 => s
  | k + 1 => dyS v nc tr k (dyM v nc tr s k)
/-- the draw, how often it fell, how many stood, after so many years -/
def dyY (v : am_V) (seed : Int32) (nc : Nat) (tr : Option Nat) : Nat → Int32 × Nat × Nat
  | 0 => (seed, 0, 0)
  | y + 1 => ((dyM v nc tr ((dyY v seed nc tr y).1, sts v, (dyY v seed nc tr y).2.1) 12).1, (dyM v nc tr ((dyY v seed nc tr y).1, sts v, (dyY v seed nc tr y).2.1) 12).2.2, (dyY v seed nc tr y).2.2 + pop (dyM v nc tr ((dyY v seed nc tr y).1, sts v, (dyY v seed nc tr y).2.1) 12).2.1)
def trI (tr : Option Nat) : Int32 := match tr with | none => -1 | some t => nI t
theorem dyM_lt (v : am_V) (nc : Nat) (tr : Option Nat) (s : Int32 × Nat × Nat) (hs : s.2.1 < 64) : ∀ k, (dyM v nc tr s k).2.1 < 64 := by
  intro k
  induction k with
  | zero => exact hs
  | succ k ih =>
    unfold dyM dyS
    split
    · exact ih
    · exact ndf_lt (n := 6) ih
theorem c_draw_l1 {d : Nat} {L : am_LT} {Q : am_QT} {v : am_V} {l1 l2 l3 l6 l7 l8 l9 l10 l11 : Option Value} {x4 : Int32} : ∀ (j k : Nat) (F : am_FT), k + j = 12 → CV F v → (∀ m, m < k → F 13 m = nI (fls v m)) → (∀ G, SQ F G → (∀ m, m < 12 → G 13 m = nI (fls v m)) → wt am_S0 (d + 10) mX9_drawYears 31 [some (.ref 12), l1, l2, l3, some (.int x4), some (.int 12), l6, l7, l8, l9, l10, l11] [] G L Q) → wt am_S0 (d + 10) mX9_drawYears 3 [some (.ref 12), l1, l2, l3, some (.int x4), some (.int (nI k)), l6, l7, l8, l9, l10, l11] [] F L Q := by
  intro j
  induction j with
  | zero =>
    intro k F hk h hm hq
    have : k = 12 := by omega
    subst this
    rw [kX9_drawYears_3, if_pos (by decide)]
    exact hq F (SQ_rf F) hm
  | succ j ih =>
    intro k F hk h hm hq
    rw [kX9_drawYears_3, if_neg (show ¬ (12 : Int32) ≤ nI k from nI_ge (b := 12) (by omega) (by decide)), kX9_drawYears_10]
    apply c_falling h (by omega)
    intro G g1
    simp only [Option.toList_some, Option.toList_none, List.cons_append, List.nil_append]
    rw [kX9_drawYears_22, s_lay (p := 13) (n := 12) rfl (by decide), wrA_n (by omega) (by decide)]
    simp only [Option.toList_some, Option.toList_none, List.cons_append, List.nil_append]
    rw [kX9_drawYears_25, nI_1]
    have hs : SQ F (am_upF G 13 k (nI (fls v k))) := SQ_tr (SB_SQ g1) (SQ_up (by omega))
    refine ih (k + 1) _ (by omega) (SQ_CV hs h) ?_ ?_
    · intro m hm1
      by_cases hmk : m = k
      · subst hmk; rw [up_s]
      · rw [up_n hmk, g1.1 13 (by decide) (by decide) (by decide) (by decide) (by decide)]; exact hm m (by omega)
    · intro H h1 h2
      exact hq H (SQ_tr hs h1) h2
theorem c_draw_l2 {d : Nat} {F : am_FT} {L : am_LT} {Q : am_QT} {v : am_V} {nc : Nat} {tr : Option Nat} (htr : ∀ t, tr = some t → t < 6) (hF : ∀ m, m < 12 → F 13 m = nI (fls v m)) {l1 l2 l7 l8 : Option Value} {s : Int32 × Nat × Nat} (hs : s.2.1 < 64) : ∀ (j k : Nat) (l11 : Option Value), k + j = 12 → (∀ x, l8 = some (.int x) → (∀ l11', wt am_S0 (d + 10) mX9_drawYears 138 [some (.ref 12), l1, l2, some (.int (nI nc)), some (.int (trI tr)), some (.int (dyM v nc tr s 12).1), some (.int (nI (dyM v nc tr s 12).2.2)), l7, l8, some (.int (nI (dyM v nc tr s 12).2.1)), some (.int 12), l11'] [] F L Q) → wt am_S0 (d + 10) mX9_drawYears 58 [some (.ref 12), l1, l2, some (.int (nI nc)), some (.int (trI tr)), some (.int (dyM v nc tr s k).1), some (.int (nI (dyM v nc tr s k).2.2)), l7, l8, some (.int (nI (dyM v nc tr s k).2.1)), some (.int (nI k)), l11] [] F L Q) := by
  intro j
  induction j with
  | zero =>
    intro k l11 hk x hx hq
    have : k = 12 := by omega
    subst this
    rw [kX9_drawYears_58, if_pos (by decide)]
    exact hq l11
  | succ j ih =>
    intro k l11 hk x hx hq
    subst hx
    have e : dyM v nc tr s (k + 1) = dyS v nc tr k (dyM v nc tr s k) := rfl
    have hl := dyM_lt v nc tr s hs k
    rw [kX9_drawYears_58, if_neg (show ¬ (12 : Int32) ≤ nI k from nI_ge (b := 12) (by omega) (by decide)), kX9_drawYears_65]
    by_cases hc : cldI ((dyM v nc tr s k).1 * 1103515245 + 12345) < nI nc
    · have hc2 : ¬ nI nc ≤ cldI ((dyM v nc tr s k).1 * 1103515245 + 12345) := Int32.not_le.mpr hc
      have e2 : dyM v nc tr s (k + 1) = ((dyM v nc tr s k).1 * 1103515245 + 12345, (dyM v nc tr s k).2.1, (dyM v nc tr s k).2.2) := by rw [e]; unfold dyS; rw [if_pos hc]
      have ih1 := ih (k + 1) l11 (by omega) x rfl hq
      rw [e2] at ih1
      unfold cldI at hc2
      rw [if_neg hc2, kX9_drawYears_88, kX9_drawYears_132, nI_1]
      exact ih1
    · have hc2 : nI nc ≤ cldI ((dyM v nc tr s k).1 * 1103515245 + 12345) := Int32.not_lt.mp hc
      unfold cldI at hc2
      rw [if_pos hc2, kX9_drawYears_91, s_at (p := 13) (n := 12) rfl (by decide), rdA_n (by omega) (by decide), hF k (by omega)]
      simp only [Option.toList_some, Option.toList_none, List.cons_append, List.nil_append]
      rw [kX9_drawYears_102, nI_and]
      cases tr with
      | none =>
        have e2 : dyM v nc none s (k + 1) = ((dyM v nc none s k).1 * 1103515245 + 12345, ndf (dyM v nc none s k).2.1 ((dyM v nc none s k).2.1 &&& fls v k), (dyM v nc none s k).2.2) := by rw [e]; unfold dyS; rw [if_neg hc]; rfl
        have ih1 := ih (k + 1) (some (.int (nI ((dyM v nc none s k).2.1 &&& fls v k)))) (by omega) x rfl hq
        rw [e2] at ih1
        rw [if_pos (show trI none < 0 by decide), kX9_drawYears_123, kX9_drawYears_132, nI_1, nI_ndf]
        exact ih1
      | some t =>
        have ht := htr t rfl
        have e2 : dyM v nc (some t) s (k + 1) = ((dyM v nc (some t) s k).1 * 1103515245 + 12345, ndf (dyM v nc (some t) s k).2.1 ((dyM v nc (some t) s k).2.1 &&& fls v k), (dyM v nc (some t) s k).2.2 + if ((dyM v nc (some t) s k).2.1 &&& fls v k).testBit t = true then 1 else 0) := by rw [e]; unfold dyS; rw [if_neg hc]
        have ih1 := ih (k + 1) (some (.int (nI ((dyM v nc (some t) s k).2.1 &&& fls v k)))) (by omega) x rfl hq
        rw [e2] at ih1
        rw [if_neg (show ¬ trI (some t) < 0 from nI_pos (by omega)), kX9_drawYears_110, show trI (some t) = nI t from rfl, s_holds, bit_b (Nat.lt_of_le_of_lt Nat.and_le_left (by omega)) (by omega)]
        simp only [Option.toList_some, Option.toList_none, List.cons_append, List.nil_append]
        rw [kX9_drawYears_117]
        cases hb : ((dyM v nc (some t) s k).2.1 &&& fls v k).testBit t
        · rw [hb] at ih1
          rw [if_pos bIf, kX9_drawYears_123, kX9_drawYears_132, nI_1, nI_ndf]
          exact ih1
        · rw [hb] at ih1
          rw [if_neg bIt, kX9_drawYears_120, kX9_drawYears_123, kX9_drawYears_132, nI_1, nI_1, nI_ndf]
          exact ih1
theorem c_draw_l3 {d : Nat} {F : am_FT} {L : am_LT} {Q : am_QT} {v : am_V} (h : CV F v) {seed : Int32} {nc ny : Nat} {tr : Option Nat} (hny : ny < 100) (htr : ∀ t, tr = some t → t < 6) (hF : ∀ m, m < 12 → F 13 m = nI (fls v m)) : ∀ (j k : Nat) (l9 l10 l11 : Option Value), k + j = ny → (∀ l9 l10 l11 : Option Value, wt am_S0 (d + 10) mX9_drawYears 154 [some (.ref 12), some (.int seed), some (.int (nI ny)), some (.int (nI nc)), some (.int (trI tr)), some (.int (dyY v seed nc tr ny).1), some (.int (nI (dyY v seed nc tr ny).2.1)), some (.int (nI (dyY v seed nc tr ny).2.2)), some (.int (nI ny)), l9, l10, l11] [] F L Q) → wt am_S0 (d + 10) mX9_drawYears 43 [some (.ref 12), some (.int seed), some (.int (nI ny)), some (.int (nI nc)), some (.int (trI tr)), some (.int (dyY v seed nc tr k).1), some (.int (nI (dyY v seed nc tr k).2.1)), some (.int (nI (dyY v seed nc tr k).2.2)), some (.int (nI k)), l9, l10, l11] [] F L Q := by
  intro j
  induction j with
  | zero =>
    intro k l9 l10 l11 hk hq
    have : k = ny := by omega
    subst this
    rw [kX9_drawYears_43, if_pos (nI_le (Nat.le_refl _) (by omega))]
    exact hq l9 l10 l11
  | succ j ih =>
    intro k l9 l10 l11 hk hq
    rw [kX9_drawYears_43, if_neg (nI_ge (by omega) (by omega)), kX9_drawYears_49, c_standing h.1 h.2.1]
    simp only [Option.toList_some, Option.toList_none, List.cons_append, List.nil_append]
    rw [kX9_drawYears_53]
    have hs := sts_lt h.2.1
    refine c_draw_l2 (v := v) (s := ((dyY v seed nc tr k).1, sts v, (dyY v seed nc tr k).2.1)) htr hF hs 12 0 _ rfl _ rfl ?_
    intro l11'
    have hl := dyM_lt v nc tr ((dyY v seed nc tr k).1, sts v, (dyY v seed nc tr k).2.1) hs 12
    rw [kX9_drawYears_138, s_bitCount (by omega)]
    simp only [Option.toList_some, Option.toList_none, List.cons_append, List.nil_append]
    rw [kX9_drawYears_145, nI_add, nI_1]
    exact ih (k + 1) _ _ _ (by omega) hq
theorem c_drawYears {d : Nat} {F : am_FT} {L : am_LT} {Q : am_QT} {v : am_V} (h : CV F v) {seed : Int32} {nc ny : Nat} {tr : Option Nat} (hny : ny < 100) (htr : ∀ t, tr = some t → t < 6) (hq : ∀ G, SQ F G → Q (some (.int (nI (match tr with | none => (dyY v seed nc tr ny).2.2 | some _ => (dyY v seed nc tr ny).2.1)))) G L) : wc am_S0 (d + 10) mX9_drawYears [.ref 12, .int seed, .int (nI ny), .int (nI nc), .int (trI tr)] F L Q := by
  rw [eX9_drawYears, kX9_drawYears_0]
  refine c_draw_l1 12 0 F rfl h (fun m hm => absurd hm (by omega)) ?_
  intro G g1 g2
  rw [kX9_drawYears_31]
  refine c_draw_l3 (v := v) (SQ_CV g1 h) hny htr g2 ny 0 _ _ _ (by omega) ?_
  intro l9 l10 l11
  rw [kX9_drawYears_154]
  have hq1 := hq G g1
  cases tr with
  | none =>
    rw [if_pos (show trI none < 0 by decide), kX9_drawYears_164, kX9_drawYears_166]
    exact hq1
  | some t =>
    have ht := htr t rfl
    rw [if_neg (show ¬ trI (some t) < 0 from nI_pos (by omega)), kX9_drawYears_159, kX9_drawYears_166]
    exact hq1
