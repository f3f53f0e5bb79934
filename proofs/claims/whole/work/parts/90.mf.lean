/-! ===== the model: who sits, who wishes, how votes fall ===== -/
theorem bi_or {b : Bool} {s k : Nat} (hk : k < 31) : (nI s ||| (if b = true then (1 : Int32) <<< (nI k &&& 31) else 0)) = nI (if b = true then s ||| 2 ^ k else s) := by
  cases b
  · rw [if_neg (by decide), if_neg (by decide), show (0 : Int32) = nI 0 from rfl, nI_or, Nat.or_zero]
  · rw [if_pos rfl, if_pos rfl, nI_sh k hk, nI_or]
theorem m_sittersIn_loop {d t m : Nat} {F : am_FT} {L : am_LT} {Q : am_QT} {v : am_V} (h : RM F v) (hv : wV v) (ht : t < vT v) (hm : m < 12) : ∀ (j k : Nat), k + j = vP v → wt am_S0 (d + 2) mX12_sittersIn 5 [some (.ref 45), some (.int (nI t)), some (.int (nI m)), some (.int (nI (bs (fun p => shd v t m (vN v 1 t) (vN v 4 p)) k))), some (.int (nI k))] [] F L Q = Q (some (.int (nI (cov v t m (vN v 1 t))))) F L := by
  have hP := hv.2.1
  intro j
  induction j with
  | zero =>
    intro k hk
    have : k = vP v := by omega
    subst this
    rw [kX12_sittersIn_5, h.2.1, if_pos (nI_le (Nat.le_refl _) (by omega)), kX12_sittersIn_50]
    rfl
  | succ j ih =>
    intro k hk
    have b4 := lb4 hv (n := k) (by omega)
    have ih1 := ih (k + 1) (by omega)
    unfold bs at ih1
    rw [kX12_sittersIn_5, h.2.1, if_neg (nI_ge (by omega) (by omega)), kX12_sittersIn_14 (by rw [a30]; exact oobN (by omega) (by decide)), a30, nI_clamp (by omega), mm4 h (by omega), m_isShaded h hv ht hm (by omega)]
    simp only [Option.toList_some, Option.toList_none, List.cons_append, List.nil_append]
    rw [kX12_sittersIn_31]
    cases hb : shd v t m (vN v 1 t) (vN v 4 k)
    · rw [if_pos bIf, kX12_sittersIn_41, kX12_sittersIn_42, nI_1, show (0 : Int32) = nI 0 from rfl, nI_or, Nat.or_zero]
      simp only [hb] at ih1
      exact ih1
    · rw [if_neg bIt, kX12_sittersIn_34, kX12_sittersIn_42, nI_1, nI_sh k (by omega), nI_or]
      simp only [hb] at ih1
      exact ih1
theorem m_sittersIn {d t m : Nat} {F : am_FT} {L : am_LT} {Q : am_QT} {v : am_V} (h : RM F v) (hv : wV v) (ht : t < vT v) (hm : m < 12) : wc am_S0 (d + 2) mX12_sittersIn [.ref 45, .int (nI t), .int (nI m)] F L Q = Q (some (.int (nI (cov v t m (vN v 1 t))))) F L := by
  rw [eX12_sittersIn, kX12_sittersIn_0]
  exact m_sittersIn_loop h hv ht hm (vP v) 0 (by omega)
theorem sts_bit {v : am_V} {t : Nat} (ht : t < vT v) : (sts v).testBit t = vS v t := by
  unfold sts
  rw [bs_bit, decide_eq_true ht, Bool.true_and]
theorem m_stands {d t : Nat} {F : am_FT} {L : am_LT} {Q : am_QT} {v : am_V} (h : RM F v) (hv : wV v) (ht : t < vT v) : wc am_S0 d mX12_isIn [.int (F 45 8), .int (nI t)] F L Q = Q (some (.int (bI (vS v t)))) F L := by
  have := hv.1
  have := sts_lt hv
  rw [h.2.2.1, s_isIn (by omega) (by omega), sts_bit ht]
theorem m_sittersNow {d t m : Nat} {F : am_FT} {L : am_LT} {Q : am_QT} {v : am_V} (h : RM F v) (hv : wV v) (ht : t < vT v) (hm : m < 12) : wc am_S0 (d + 3) mX12_sittersNow [.ref 45, .int (nI t), .int (nI m)] F L Q = Q (some (.int (nI (csit v t m)))) F L := by
  unfold csit
  rw [eX12_sittersNow, kX12_sittersNow_0, m_stands h hv ht]
  simp only [Option.toList_some, Option.toList_none, List.cons_append, List.nil_append]
  rw [kX12_sittersNow_8]
  cases vS v t
  · rw [if_pos bIf, kX12_sittersNow_20, kX12_sittersNow_21]; rfl
  · rw [if_neg bIt, kX12_sittersNow_11, m_sittersIn h hv ht hm]
    simp only [Option.toList_some, Option.toList_none, List.cons_append, List.nil_append]
    rw [kX12_sittersNow_17, kX12_sittersNow_21]; rfl
theorem m_wishers_loop {d t : Nat} {F : am_FT} {L : am_LT} {Q : am_QT} {v : am_V} (h : RM F v) (hv : wV v) (ht : t < vT v) : ∀ (j k : Nat), k + j = vP v → wt am_S0 (d + 1) mX12_wishers 4 [some (.ref 45), some (.int (nI t)), some (.int (nI (bs (fun p => (vN v 5 p).testBit t) k))), some (.int (nI k))] [] F L Q = Q (some (.int (nI (wsh v t)))) F L := by
  have hP := hv.2.1
  have hT := hv.1
  intro j
  induction j with
  | zero =>
    intro k hk
    have : k = vP v := by omega
    subst this
    rw [kX12_wishers_4, h.2.1, if_pos (nI_le (Nat.le_refl _) (by omega)), kX12_wishers_44]
    rfl
  | succ j ih =>
    intro k hk
    have b5 := lb5 hv (n := k) (by omega)
    have ih1 := ih (k + 1) (by omega)
    unfold bs at ih1
    rw [kX12_wishers_4, h.2.1, if_neg (nI_ge (by omega) (by omega)), kX12_wishers_12 (by rw [a40]; exact oobN (by omega) (by decide)), a40, nI_clamp (by omega), mm5 h (by omega), s_isIn (by omega) (by omega)]
    simp only [Option.toList_some, Option.toList_none, List.cons_append, List.nil_append]
    rw [kX12_wishers_26]
    cases hb : (vN v 5 k).testBit t
    · rw [if_pos bIf, kX12_wishers_35, kX12_wishers_36, nI_1, show (0 : Int32) = nI 0 from rfl, nI_or, Nat.or_zero]
      simp only [hb] at ih1
      exact ih1
    · rw [if_neg bIt, kX12_wishers_29, kX12_wishers_36, nI_1, nI_sh k (by omega), nI_or]
      simp only [hb] at ih1
      exact ih1
theorem m_wishers {d t : Nat} {F : am_FT} {L : am_LT} {Q : am_QT} {v : am_V} (h : RM F v) (hv : wV v) (ht : t < vT v) : wc am_S0 (d + 1) mX12_wishers [.ref 45, .int (nI t)] F L Q = Q (some (.int (nI (wsh v t)))) F L := by
  rw [eX12_wishers, kX12_wishers_0]
  exact m_wishers_loop h hv ht (vP v) 0 (by omega)
theorem clp_m {d : Nat} {F : am_FT} {L : am_LT} {Q : am_QT} {l0 l1 l2 l3 l4 : Option Value} {x : Int32} : wt am_S0 d mX12_countsOf 88 [l0, l1, l2, l3, l4, some (.int x)] [] F L Q = Q (some (.int (nI (clp x)))) F L := by
  obtain ⟨z, h1, h2, rfl⟩ := iI_ex x
  rw [kX12_countsOf_88]
  unfold clp
  by_cases h3 : z < 0
  · rw [if_neg (show ¬ (0 : Int32) ≤ iI z from iI_leF (a := 0) (b := z) h3 (by omega) (by omega) (by omega) (by omega)), kX12_countsOf_93, kX12_countsOf_111, if_pos (show iI z < (0 : Int32) from iI_ltT (b := 0) h3 (by omega) (by omega) (by omega) (by omega))]
    rfl
  · rw [if_pos (show (0 : Int32) ≤ iI z from iI_leT (a := 0) (b := z) (by omega) (by omega) (by omega) (by omega) (by omega)), kX12_countsOf_97, if_neg (show ¬ iI z < (0 : Int32) from iI_ltF (b := 0) (by omega) (by omega) (by omega) (by omega) (by omega))]
    by_cases h4 : z ≤ 9
    · rw [if_pos (show iI z ≤ (9 : Int32) from iI_leT (b := 9) h4 (by omega) (by omega) (by omega) (by omega)), kX12_countsOf_109, kX12_countsOf_111, if_neg (show ¬ (9 : Int32) < iI z from iI_ltF (a := 9) (by omega) (by omega) (by omega) (by omega) (by omega)), iI_tn (by omega), nI_clamp (by omega)]
    · rw [if_neg (show ¬ iI z ≤ (9 : Int32) from iI_leF (b := 9) (by omega) (by omega) (by omega) (by omega) (by omega)), kX12_countsOf_104, kX12_countsOf_111, if_pos (show (9 : Int32) < iI z from iI_ltT (a := 9) (by omega) (by omega) (by omega) (by omega) (by omega))]
      rfl
theorem m_countsOf {d t m p n : Nat} {F : am_FT} {L : am_LT} {Q : am_QT} {v : am_V} (h : MV F v) (ht : t < vT v) (hp : p < vP v) (hq : ∀ G, qM F G → Q (some (.int (nI (wor v t m (vN v 1 t) p n)))) G L) : wc am_S0 (d + 46) mX12_countsOf [.ref 45, .int (nI t), .int (nI m), .int (nI p), .int (nI n)] F L Q := by
  have hT := h.2.1.1
  have hP := h.2.1.2.1
  have o1 : am_oob (50 + nI p) 60 = false := by rw [a50]; exact oobN (by omega) (by decide)
  have o2 : am_oob (6 + nI t) 60 = false := by rw [a6]; exact oobN (by omega) (by decide)
  rw [eX12_countsOf, kX12_countsOf_0 o1, a50, nI_clamp (by omega), mm6 h.1 hp]
  rcases h.2.2 with h12 | ⟨ln, b, tx, hn, hb, h12, h51, htx, hval⟩
  · rw [h12.1, if_pos (by decide), clp_m]
    have e : wor v t m (vN v 1 t) p n = clp (nI (vN v 6 p)) := by
      unfold wor
      rw [h12.2]
    rw [← e]
    exact hq F (qM_rf F)
  · rw [h12, if_neg (nI_pos (by omega)), kX12_countsOf_18 o1 rfl, a50, nI_clamp (by omega), mm6 h.1 hp, kX12_countsOf_44 o2 rfl rfl rfl, a6, nI_clamp (by omega), up_o (q := 46) (p := 52) (by decide), mm1 h.1 ht, kX12_countsOf_67 rfl rfl]
    rw [up_o (q := 45) (p := 52) (by decide), up_o (q := 45) (p := 52) (by decide), up_o (q := 45) (p := 52) (by decide), up_o (q := 45) (p := 52) (by decide), h12]
    have fr : qM F (am_upF (am_upF (am_upF (am_upF (am_upF (am_upF F 52 (Int32.toNatClampNeg 0) (nI (vN v 6 p))) 52 (Int32.toNatClampNeg 1) (nI (vN v 1 t))) 52 (Int32.toNatClampNeg 2) (nI m)) 52 (Int32.toNatClampNeg 3) (nI n)) 52 (Int32.toNatClampNeg 4) (nI t)) 52 (Int32.toNatClampNeg 5) (nI p)) := qM_tr qM_52 (qM_tr qM_52 (qM_tr qM_52 (qM_tr qM_52 (qM_tr qM_52 qM_52))))
    apply m_workOut (e := en6 (nI (vN v 6 p)) (nI (vN v 1 t)) (nI m) (nI n) (nI t) (nI p)) (b := b) ?_ hb hn (Or.inr ⟨rfl, ?_⟩)
    · intro f hf
      rw [htx] at hf
      cases hf
    · intro t' ht' G g1 g2
      rw [htx] at ht'
      cases ht'
      simp only [Option.toList_some, Option.toList_none, List.cons_append, List.nil_append]
      rw [kX12_countsOf_86, clp_m]
      have e : wor v t m (vN v 1 t) p n = clp (tx.2 (en6 (nI (vN v 6 p)) (nI (vN v 1 t)) (nI m) (nI n) (nI t) (nI p))) := by
        unfold wor
        rw [hval]
        rfl
      rw [← e]
      exact hq G (qM_tr fr (FW_qM g1))
    · intro k hk
      rcases (by omega : k = 0 ∨ k = 1 ∨ k = 2 ∨ k = 3 ∨ k = 4 ∨ k = 5) with rfl | rfl | rfl | rfl | rfl | rfl
      · rw [up_n (by decide), up_n (by decide), up_n (by decide), up_n (by decide), up_n (by decide)]; exact up_s
      · rw [up_n (by decide), up_n (by decide), up_n (by decide), up_n (by decide)]; exact up_s
      · rw [up_n (by decide), up_n (by decide), up_n (by decide)]; exact up_s
      · rw [up_n (by decide), up_n (by decide)]; exact up_s
      · rw [up_n (by decide)]; exact up_s
      · exact up_s
    · intro k hk
      rw [fr.1 51 (by decide) (by decide)]
      exact h51 k hk
theorem m_sumOf_loop {d t m S W : Nat} {L : am_LT} {Q : am_QT} {v : am_V} (ht : t < vT v) (hS : S < 1024) (hW : W < 1024) : ∀ (j k : Nat) (F : am_FT), k + j = vP v → MV F v → (∀ G, qM F G → Q (some (.int (nI (pasA v t m (vN v 1 t) S W (pop S) (vP v))))) G L) → wt am_S0 (d + 47) mX12_sumOf 6 [some (.ref 45), some (.int (nI t)), some (.int (nI m)), some (.int (nI S)), some (.int (nI W)), some (.int (nI (pasA v t m (vN v 1 t) S W (pop S) k))), some (.int (nI k))] [] F L Q := by
  intro j
  induction j with
  | zero =>
    intro k F hk h hq
    have hP := h.2.1.2.1
    have : k = vP v := by omega
    subst this
    rw [kX12_sumOf_6, h.1.2.1, if_pos (nI_le (Nat.le_refl _) (by omega)), kX12_sumOf_54]
    exact hq F (qM_rf F)
  | succ j ih =>
    intro k F hk h hq
    have hP := h.2.1.2.1
    have hand : S &&& W < 1024 := Nat.lt_of_le_of_lt Nat.and_le_left hS
    have es : pasA v t m (vN v 1 t) S W (pop S) (k + 1) = pasA v t m (vN v 1 t) S W (pop S) k + (if (S.testBit k && W.testBit k) = true then wor v t m (vN v 1 t) k (pop S) else 0) := rfl
    rw [kX12_sumOf_6, h.1.2.1, if_neg (nI_ge (by omega) (by omega)), kX12_sumOf_15, nI_and, s_isIn (by omega) (by omega), Nat.testBit_and]
    simp only [Option.toList_some, Option.toList_none, List.cons_append, List.nil_append]
    rw [kX12_sumOf_26]
    cases hb : (S.testBit k && W.testBit k)
    · rw [hb, if_neg (by decide)] at es
      rw [if_pos bIf, kX12_sumOf_44, kX12_sumOf_45, nI_1, show (0 : Int32) = nI 0 from rfl, nI_add, ← es]
      exact ih (k + 1) F (by omega) h hq
    · rw [hb, if_pos rfl] at es
      rw [if_neg bIt, kX12_sumOf_29, s_bitsOf hS]
      simp only [Option.toList_some, Option.toList_none, List.cons_append, List.nil_append]
      rw [kX12_sumOf_38]
      apply m_countsOf h ht (by omega)
      intro G g1
      simp only [Option.toList_some, Option.toList_none, List.cons_append, List.nil_append]
      rw [kX12_sumOf_41, kX12_sumOf_45, nI_1, nI_add, ← es]
      exact ih (k + 1) G (by omega) (qM_MV g1 h) fun H h1 => hq H (qM_tr g1 h1)
theorem m_sumOf {d t m S W : Nat} {F : am_FT} {L : am_LT} {Q : am_QT} {v : am_V} (h : MV F v) (ht : t < vT v) (hS : S < 1024) (hW : W < 1024) (hq : ∀ G, qM F G → Q (some (.int (nI (pasA v t m (vN v 1 t) S W (pop S) (vP v))))) G L) : wc am_S0 (d + 47) mX12_sumOf [.ref 45, .int (nI t), .int (nI m), .int (nI S), .int (nI W)] F L Q := by
  rw [eX12_sumOf, kX12_sumOf_0]
  exact m_sumOf_loop ht hS hW (vP v) 0 F (by omega) h hq
theorem pasAB (v : am_V) (t m h a b n : Nat) : ∀ k, pasA v t m h a b n k + pasB v t m h a b n k = pasA v t m h a a n k := by
  intro k
  induction k with
  | zero => rfl
  | succ k ih =>
    have e1 : pasA v t m h a b n (k + 1) = pasA v t m h a b n k + (if (a.testBit k && b.testBit k) = true then wor v t m h k n else 0) := rfl
    have e2 : pasB v t m h a b n (k + 1) = pasB v t m h a b n k + (if (a.testBit k && !(b.testBit k)) = true then wor v t m h k n else 0) := rfl
    have e3 : pasA v t m h a a n (k + 1) = pasA v t m h a a n k + (if (a.testBit k && a.testBit k) = true then wor v t m h k n else 0) := rfl
    rw [e1, e2, e3, ← ih]
    cases a.testBit k <;> cases b.testBit k <;> simp <;> omega
theorem pas_2 (v : am_V) (t m h a b : Nat) : pas v t m h a b = decide (pasA v t m h a a (pop a) (vP v) < 2 * pasA v t m h a b (pop a) (vP v)) := by
  unfold pas
  rw [← pasAB v t m h a b (pop a) (vP v)]
  congr 1
  apply propext
  constructor <;> intro <;> omega
theorem m_doesFall {d t m S W : Nat} {F : am_FT} {L : am_LT} {Q : am_QT} {v : am_V} (h : MV F v) (ht : t < vT v) (hS : S < 1024) (hW : W < 1024) (hq : ∀ G, qM F G → Q (some (.int (bI (pas v t m (vN v 1 t) S W)))) G L) : wc am_S0 (d + 48) mX12_doesFall [.ref 45, .int (nI t), .int (nI m), .int (nI S), .int (nI W)] F L Q := by
  have hP := h.2.1.2.1
  have l1 := pasA_le v t m (vN v 1 t) S W (pop S) (vP v)
  have l2 := pasA_le v t m (vN v 1 t) S S (pop S) (vP v)
  rw [eX12_doesFall, kX12_doesFall_0]
  apply m_sumOf h ht hS hW
  intro G g1
  simp only [Option.toList_some, Option.toList_none, List.cons_append, List.nil_append]
  rw [kX12_doesFall_10]
  apply m_sumOf (qM_MV g1 h) ht hS hS
  intro H h1
  have hq1 := hq H (qM_tr g1 h1)
  rw [pas_2] at hq1
  simp only [Option.toList_some, Option.toList_none, List.cons_append, List.nil_append]
  rw [kX12_doesFall_19, show (2 * nI (pasA v t m (vN v 1 t) S W (pop S) (vP v)) : Int32) = nI (2 * pasA v t m (vN v 1 t) S W (pop S) (vP v)) by
    rw [iI_l, iI_n, iI_n, iI_mul]; congr 1]
  by_cases h2 : pasA v t m (vN v 1 t) S S (pop S) (vP v) < 2 * pasA v t m (vN v 1 t) S W (pop S) (vP v)
  · rw [if_neg (nI_ge h2 (by omega)), kX12_doesFall_22, kX12_doesFall_27 rfl]
    rw [decide_eq_true h2] at hq1
    exact hq1
  · rw [if_pos (nI_le (by omega) (by omega)), kX12_doesFall_26, kX12_doesFall_27 rfl]
    rw [decide_eq_false h2] at hq1
    exact hq1
theorem m_fallsNow {d t m : Nat} {F : am_FT} {L : am_LT} {Q : am_QT} {v : am_V} (h : MV F v) (ht : t < vT v) (hm : m < 12) (hq : ∀ G, qM F G → Q (some (.int (bI (fal v t m)))) G L) : wc am_S0 (d + 49) mX12_fallsNow [.ref 45, .int (nI t), .int (nI m)] F L Q := by
  rw [eX12_fallsNow, kX12_fallsNow_0, m_stands h.1 h.2.1 ht]
  simp only [Option.toList_some, Option.toList_none, List.cons_append, List.nil_append]
  rw [kX12_fallsNow_8]
  unfold fal csit at hq
  cases hs : vS v t
  · rw [hs] at hq
    rw [if_pos bIf, kX12_fallsNow_35, kX12_fallsNow_36 rfl]
    exact hq F (qM_rf F)
  · rw [hs, if_pos rfl] at hq
    rw [if_neg bIt, kX12_fallsNow_11, m_sittersIn h.1 h.2.1 ht hm]
    simp only [Option.toList_some, Option.toList_none, List.cons_append, List.nil_append]
    rw [kX12_fallsNow_20, m_wishers h.1 h.2.1 ht]
    simp only [Option.toList_some, Option.toList_none, List.cons_append, List.nil_append]
    rw [kX12_fallsNow_25]
    apply m_doesFall h ht (cov_lt h.2.1 _ _ _) (wsh_lt h.2.1 _)
    intro G g1
    have hq1 := hq G g1
    rw [Bool.true_and] at hq1
    simp only [Option.toList_some, Option.toList_none, List.cons_append, List.nil_append]
    rw [kX12_fallsNow_28]
    revert hq1
    cases pas v t m (vN v 1 t) (cov v t m (vN v 1 t)) (wsh v t)
    · intro hq1
      rw [if_pos bIf, kX12_fallsNow_35, kX12_fallsNow_36 rfl]
      exact hq1
    · intro hq1
      rw [if_neg bIt, kX12_fallsNow_31, kX12_fallsNow_36 rfl]
      exact hq1
theorem m_isShadedNow {d t m c : Nat} {F : am_FT} {L : am_LT} {Q : am_QT} {v : am_V} (h : RM F v) (hv : wV v) (ht : t < vT v) (hm : m < 12) (hc : c < 256) : wc am_S0 (d + 2) mX12_isShadedNow [.ref 45, .int (nI t), .int (nI m), .int (nI c)] F L Q = Q (some (.int (bI (vS v t && shd v t m (vN v 1 t) c)))) F L := by
  rw [eX12_isShadedNow, kX12_isShadedNow_0, m_stands h hv ht]
  simp only [Option.toList_some, Option.toList_none, List.cons_append, List.nil_append]
  rw [kX12_isShadedNow_8]
  cases vS v t
  · rw [if_pos bIf, kX12_isShadedNow_25, kX12_isShadedNow_26 rfl]; rfl
  · rw [if_neg bIt, kX12_isShadedNow_11, m_isShaded h hv ht hm hc, Bool.true_and]
    simp only [Option.toList_some, Option.toList_none, List.cons_append, List.nil_append]
    rw [kX12_isShadedNow_18]
    cases shd v t m (vN v 1 t) c
    · rw [if_pos bIf, kX12_isShadedNow_25, kX12_isShadedNow_26 rfl]; rfl
    · rw [if_neg bIt, kX12_isShadedNow_21, kX12_isShadedNow_26 rfl]; rfl
theorem m_fallIn_loop {d m : Nat} {L : am_LT} {Q : am_QT} {v : am_V} (hm : m < 12) : ∀ (j k : Nat) (F : am_FT), k + j = vT v → MV F v → (∀ G, qM F G → Q (some (.int (nI (fls v m)))) G L) → wt am_S0 (d + 50) mX12_fallIn 4 [some (.ref 45), some (.int (nI m)), some (.int (nI (bs (fun t => fal v t m) k))), some (.int (nI k))] [] F L Q := by
  intro j
  induction j with
  | zero =>
    intro k F hk h hq
    have hT := h.2.1.1
    have : k = vT v := by omega
    subst this
    rw [kX12_fallIn_4, h.1.1, if_pos (nI_le (Nat.le_refl _) (by omega)), kX12_fallIn_37]
    exact hq F (qM_rf F)
  | succ j ih =>
    intro k F hk h hq
    have hT := h.2.1.1
    rw [kX12_fallIn_4, h.1.1, if_neg (nI_ge (by omega) (by omega)), kX12_fallIn_12]
    apply m_fallsNow h (by omega) hm
    intro G g1
    have ih1 := ih (k + 1) G (by omega) (qM_MV g1 h) fun H h1 => hq H (qM_tr g1 h1)
    unfold bs at ih1
    simp only [Option.toList_some, Option.toList_none, List.cons_append, List.nil_append]
    rw [kX12_fallIn_19]
    cases hb : fal v k m
    · rw [if_pos bIf, kX12_fallIn_28, kX12_fallIn_29, nI_1, show (0 : Int32) = nI 0 from rfl, nI_or, Nat.or_zero]
      simp only [hb] at ih1
      exact ih1
    · rw [if_neg bIt, kX12_fallIn_22, kX12_fallIn_29, nI_1, nI_sh k (by omega), nI_or]
      simp only [hb] at ih1
      exact ih1
theorem m_fallIn {d m : Nat} {F : am_FT} {L : am_LT} {Q : am_QT} {v : am_V} (h : MV F v) (hm : m < 12) (hq : ∀ G, qM F G → Q (some (.int (nI (fls v m)))) G L) : wc am_S0 (d + 50) mX12_fallIn [.ref 45, .int (nI m)] F L Q := by
  rw [eX12_fallIn, kX12_fallIn_0]
  exact m_fallIn_loop hm (vT v) 0 F (by omega) h hq
