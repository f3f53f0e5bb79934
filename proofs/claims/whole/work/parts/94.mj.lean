/-! ===== the model's questions, 4: lopping, by turns ===== -/
/-- the heap while heights are tried -/
def lpI (F0 F : am_FT) (t : Nat) : Prop := (∀ p, p ≠ 45 → p ≠ 52 → p ≠ 46 → F p = F0 p) ∧ (∀ k, (k < 13 ∨ 17 < k) → F 45 k = F0 45 k) ∧ ∀ i, i ≠ 6 + t → F 46 i = F0 46 i
theorem lpI_qM {F0 F G : am_FT} {t : Nat} (h : lpI F0 F t) (g : qM F G) : lpI F0 G t := ⟨fun p a b c => (g.1 p a b).trans (h.1 p a b c), fun k hk => (g.2 k hk).trans (h.2.1 k hk), fun i hi => by rw [g.1 46 (by decide) (by decide)]; exact h.2.2 i hi⟩
theorem lpI_up {F0 F : am_FT} {t : Nat} {x : Int32} (h : lpI F0 F t) : lpI F0 (am_upF F 46 (6 + t) x) t := ⟨fun p a b c => (up_o c).trans (h.1 p a b c), fun k hk => by rw [up_o (by decide)]; exact h.2.1 k hk, fun i hi => by rw [up_n hi]; exact h.2.2 i hi⟩
theorem vset_o {v : am_V} {t h w n : Nat} (hw : w ≠ 1) : vN (vset v 1 t h) w n = vN v w n := if_neg fun hh => hw hh.1
theorem vset_s {v : am_V} {t h : Nat} : vN (vset v 1 t h) 1 t = h := if_pos ⟨rfl, rfl⟩
theorem cov_set {v : am_V} {t h m : Nat} : cov (vset v 1 t h) t m h = cov v t m h := by
  unfold cov
  apply bs_congr
  intro k _
  unfold shd
  rw [vset_o (by decide), vset_o (by decide), vset_o (by decide), vset_o (by decide)]
theorem wsh_set {v : am_V} {t h : Nat} : wsh (vset v 1 t h) t = wsh v t := by
  unfold wsh
  apply bs_congr
  intro k _
  rw [vset_o (by decide)]
theorem wor_set {v : am_V} {t h m g p n : Nat} : wor (vset v 1 t h) t m g p n = wor v t m g p n := by
  unfold wor
  rw [vset_o (by decide)]
  rfl
theorem pas_set {v : am_V} {t h m g a b : Nat} : pas (vset v 1 t h) t m g a b = pas v t m g a b := by
  unfold pas pasA pasB
  rw [sm_congr (q := fun p => if (a.testBit p && !b.testBit p) = true then wor v t m g p (pop a) else 0) fun k _ => by rw [wor_set]]
  rw [sm_congr (p := fun p => if (a.testBit p && b.testBit p) = true then wor (vset v 1 t h) t m g p (pop a) else 0) (q := fun p => if (a.testBit p && b.testBit p) = true then wor v t m g p (pop a) else 0) fun k _ => by rw [wor_set]]
  rfl
theorem fal_gen {v v' : am_V} {t h m : Nat} (e1 : vN v' 1 t = h) (e2 : vS v' t = vS v t) (e3 : cov v' t m h = cov v t m h) (e4 : wsh v' t = wsh v t) (e5 : ∀ a b, pas v' t m h a b = pas v t m h a b) : fal v' t m = (vS v t && fat v t m h) := by
  unfold fal fat csit
  rw [e1, e2, e3, e4, e5]
  cases vS v t
  · rw [Bool.false_and, Bool.false_and]
  · rw [if_pos rfl]
theorem fal_set {v : am_V} {t h m : Nat} : fal (vset v 1 t h) t m = (vS v t && fat v t m h) := fal_gen vset_s rfl cov_set wsh_set fun _ _ => pas_set
theorem lp_MV {F0 F : am_FT} {t h : Nat} {v : am_V} (hl : lpI F0 F t) (k : MV F0 v) (ht : t < vT v) (h1 : 1 ≤ h) (h9 : h ≤ 9) : MV (am_upF F 46 (6 + t) (nI h)) (vset v 1 t h) := by
  have hT := k.2.1.1
  refine ⟨⟨?_, ?_, ?_, ?_⟩, wV_set k.2.1 h1 h9, ?_⟩
  · rw [up_o (by decide), hl.2.1 6 (by omega)]; exact k.1.1
  · rw [up_o (by decide), hl.2.1 7 (by omega)]; exact k.1.2.1
  · rw [up_o (by decide), hl.2.1 8 (by omega)]; exact k.1.2.2.1
  · intro w n hw hn
    have hn' : n < vO v w := hn
    have hm := k.1.2.2.2 w n hw hn'
    by_cases hx : w = 1 ∧ n = t
    · obtain ⟨rfl, rfl⟩ := hx
      rw [vset_s]
      exact up_s
    · rw [show vN (vset v 1 t h) w n = vN v w n from if_neg hx]
      have hne : pmN w + n ≠ 6 + t := by
        rcases (by omega : w = 0 ∨ w = 1 ∨ w = 2 ∨ w = 3 ∨ w = 4 ∨ w = 5 ∨ w = 6) with rfl | rfl | rfl | rfl | rfl | rfl | rfl
        · have : n < vT v := hn'
          show 0 + n ≠ 6 + t
          omega
        · show 6 + n ≠ 6 + t
          omega
        · show 12 + n ≠ 6 + t
          omega
        · show 18 + n ≠ 6 + t
          omega
        · show 30 + n ≠ 6 + t
          omega
        · show 40 + n ≠ 6 + t
          omega
        · show 50 + n ≠ 6 + t
          omega
      rw [up_n hne, hl.2.2 _ hne]
      exact hm
  · rw [up_o (by decide), up_o (by decide), hl.2.1 12 (by omega), hl.1 51 (by decide) (by decide) (by decide)]
    exact k.2.2
theorem lp_back {F0 F : am_FT} {t : Nat} {v : am_V} (hl : lpI F0 F t) (k : RM F0 v) (ht : t < vT v) : qM F0 (am_upF F 46 (6 + t) (nI (vN v 1 t))) := by
  refine ⟨fun p p45 p52 => ?_, fun i hi => by rw [up_o (by decide)]; exact hl.2.1 i hi⟩
  by_cases h46 : p = 46
  · subst h46
    funext i
    by_cases hi : i = 6 + t
    · subst hi
      rw [up_s, mm1 k ht]
    · rw [up_n hi, hl.2.2 i hi]
  · rw [up_o h46, hl.1 p p45 p52 h46]
theorem lpI_rf {F : am_FT} {t : Nat} : lpI F F t := ⟨fun _ _ _ _ => rfl, fun _ _ => rfl, fun _ _ => rfl⟩
theorem m_lop_loop0 {d t m : Nat} {F0 : am_FT} {L : am_LT} {Q : am_QT} {v : am_V} {x : Int32} (h0 : MV F0 v) (hx : x - x / 100 * 100 = nI m) (ht : t < vT v) (hm : m < 12) (hs : vS v t = true) (hq0 : ∀ (y : Int32), y = lsh v t m → ∀ G, qM F0 G → Q (some (.int y)) G L) : ∀ (j k : Nat) (F : am_FT), k + j = vN v 1 t → lpI F0 F t → srI (fun k => !(fat v t m (vN v 1 t - k))) j k = lsh v t m → wt am_S0 (d + 50) mX12_lop 57 [some (.ref 45), some (.int x), some (.int 0), some (.int (nI t)), some (.int (nI (vN v 1 t))), some (.int (-2)), some (.int (nI k))] [] F L Q := by
  have hT := h0.2.1.1
  have b9 := lb1 h0.2.1 ht
  have b1 := lb1p h0.2.1 ht
  have fin : ∀ (F : am_FT) (y : Int32) (l6 : Option Value), lpI F0 F t → y = lsh v t m → wt am_S0 (d + 50) mX12_lop 154 [some (.ref 45), some (.int x), some (.int 0), some (.int (nI t)), some (.int (nI (vN v 1 t))), some (.int y), l6] [] F L Q := by
    intro F y l6 hl hy
    rw [kX12_lop_154 (by rw [a6]; exact oobN (by omega) (by decide)), a6, nI_clamp (by omega)]
    exact hq0 y hy _ (lp_back hl h0.1 ht)
  intro j
  induction j with
  | zero =>
    intro k F hk hl hr
    have hk2 : k = vN v 1 t := by omega
    rw [kX12_lop_57, if_neg (by decide), kX12_lop_62, if_neg (by decide), kX12_lop_66, kX12_lop_81, show (1 : Int64) = Int32.toInt64 1 from rfl, show (9 : Int64) = Int32.toInt64 9 from rfl, s_mwi]
    simp only [Option.toList_some, Option.toList_none, List.cons_append, List.nil_append]
    rw [show decide (¬ nI (vN v 1 t) - nI k < (1 : Int32) ∧ ¬ (9 : Int32) < nI (vN v 1 t) - nI k) = false by
      apply decide_eq_false
      simp (disch := omega) only [iI_n, iI_l, iI_neg, iI_add, iI_sub, iI_mul, iI_div, iI_lt, iI_le, iI_eq]
      rintro ⟨a, b⟩
      omega, kX12_lop_88, if_pos bIf]
    exact fin F (-2) _ hl hr
  | succ j ih =>
    intro k F hk hl hr
    rw [kX12_lop_57, if_neg (by decide), kX12_lop_62, if_neg (by decide), kX12_lop_66, kX12_lop_81, show (1 : Int64) = Int32.toInt64 1 from rfl, show (9 : Int64) = Int32.toInt64 9 from rfl, s_mwi]
    simp only [Option.toList_some, Option.toList_none, List.cons_append, List.nil_append]
    rw [show decide (¬ nI (vN v 1 t) - nI k < (1 : Int32) ∧ ¬ (9 : Int32) < nI (vN v 1 t) - nI k) = true by
      apply decide_eq_true
      simp (disch := omega) only [iI_n, iI_l, iI_neg, iI_add, iI_sub, iI_mul, iI_div, iI_lt, iI_le, iI_eq]
      constructor <;> omega, kX12_lop_88, if_neg bIt, kX12_lop_91, if_neg (by decide), kX12_lop_103, kX12_lop_116 (by rw [a6]; exact oobN (by omega) (by decide)), a6, nI_clamp (by omega), hx, show (nI (vN v 1 t) - nI k : Int32) = nI (vN v 1 t - k) by
      simp (disch := omega) only [iI_n, iI_l, iI_neg, iI_add, iI_sub, iI_mul, iI_div, iI_lt, iI_le, iI_eq]
      congr 1 <;> omega]
    have hu : srI (fun k => !(fat v t m (vN v 1 t - k))) (j + 1) k = if (!(fat v t m (vN v 1 t - k))) = true then nI k else srI (fun k => !(fat v t m (vN v 1 t - k))) j (k + 1) := rfl
    rw [hu] at hr
    have hl2 : lpI F0 (am_upF F 46 (6 + t) (nI (vN v 1 t - k))) t := lpI_up hl
    apply m_fallsNow (lp_MV (h := vN v 1 t - k) hl h0 ht (by omega) (by omega)) ht hm
    intro G g1
    have hl3 := lpI_qM hl2 g1
    rw [fal_set, hs, Bool.true_and]
    simp only [Option.toList_some, Option.toList_none, List.cons_append, List.nil_append]
    rw [kX12_lop_126, if_pos (by decide), kX12_lop_135, kX12_lop_136]
    cases hf : fat v t m (vN v 1 t - k)
    · rw [hf] at hr
      rw [if_neg (by decide), kX12_lop_139, kX12_lop_146, kX12_lop_57, if_pos (nlt0 (by omega))]
      exact fin G (nI k) _ hl3 hr
    · rw [hf] at hr
      rw [if_pos (by decide), kX12_lop_144, kX12_lop_146, nI_1]
      exact ih (k + 1) G (by omega) hl3 hr
theorem m_lop_loop1 {d t m : Nat} {F0 : am_FT} {L : am_LT} {Q : am_QT} {v : am_V} {x : Int32} (h0 : MV F0 v) (hx : x - x / 100 * 100 = nI m) (ht : t < vT v) (hm : m < 12) (hs : vS v t = true) (hq0 : ∀ (y : Int32), y = msh v t m → ∀ G, qM F0 G → Q (some (.int y)) G L) : ∀ (j k : Nat) (F : am_FT), k + j = 10 - vN v 1 t → lpI F0 F t → srI (fun k => fat v t m (vN v 1 t + k)) j k = msh v t m → wt am_S0 (d + 50) mX12_lop 57 [some (.ref 45), some (.int x), some (.int 1), some (.int (nI t)), some (.int (nI (vN v 1 t))), some (.int (-2)), some (.int (nI k))] [] F L Q := by
  have hT := h0.2.1.1
  have b9 := lb1 h0.2.1 ht
  have b1 := lb1p h0.2.1 ht
  have fin : ∀ (F : am_FT) (y : Int32) (l6 : Option Value), lpI F0 F t → y = msh v t m → wt am_S0 (d + 50) mX12_lop 154 [some (.ref 45), some (.int x), some (.int 1), some (.int (nI t)), some (.int (nI (vN v 1 t))), some (.int y), l6] [] F L Q := by
    intro F y l6 hl hy
    rw [kX12_lop_154 (by rw [a6]; exact oobN (by omega) (by decide)), a6, nI_clamp (by omega)]
    exact hq0 y hy _ (lp_back hl h0.1 ht)
  intro j
  induction j with
  | zero =>
    intro k F hk hl hr
    have hk2 : k = 10 - vN v 1 t := by omega
    rw [kX12_lop_57, if_neg (by decide), kX12_lop_62, if_pos (by decide), kX12_lop_75, kX12_lop_81, show (1 : Int64) = Int32.toInt64 1 from rfl, show (9 : Int64) = Int32.toInt64 9 from rfl, s_mwi]
    simp only [Option.toList_some, Option.toList_none, List.cons_append, List.nil_append]
    rw [show decide (¬ nI (vN v 1 t) + nI k < (1 : Int32) ∧ ¬ (9 : Int32) < nI (vN v 1 t) + nI k) = false by
      apply decide_eq_false
      simp (disch := omega) only [iI_n, iI_l, iI_neg, iI_add, iI_sub, iI_mul, iI_div, iI_lt, iI_le, iI_eq]
      rintro ⟨a, b⟩
      omega, kX12_lop_88, if_pos bIf]
    exact fin F (-2) _ hl hr
  | succ j ih =>
    intro k F hk hl hr
    rw [kX12_lop_57, if_neg (by decide), kX12_lop_62, if_pos (by decide), kX12_lop_75, kX12_lop_81, show (1 : Int64) = Int32.toInt64 1 from rfl, show (9 : Int64) = Int32.toInt64 9 from rfl, s_mwi]
    simp only [Option.toList_some, Option.toList_none, List.cons_append, List.nil_append]
    rw [show decide (¬ nI (vN v 1 t) + nI k < (1 : Int32) ∧ ¬ (9 : Int32) < nI (vN v 1 t) + nI k) = true by
      apply decide_eq_true
      simp (disch := omega) only [iI_n, iI_l, iI_neg, iI_add, iI_sub, iI_mul, iI_div, iI_lt, iI_le, iI_eq]
      constructor <;> omega, kX12_lop_88, if_neg bIt, kX12_lop_91, if_pos (by decide), kX12_lop_111, kX12_lop_116 (by rw [a6]; exact oobN (by omega) (by decide)), a6, nI_clamp (by omega), hx, show (nI (vN v 1 t) + nI k : Int32) = nI (vN v 1 t + k) by
      simp (disch := omega) only [iI_n, iI_l, iI_neg, iI_add, iI_sub, iI_mul, iI_div, iI_lt, iI_le, iI_eq]
      congr 1 <;> omega]
    have hu : srI (fun k => fat v t m (vN v 1 t + k)) (j + 1) k = if (fat v t m (vN v 1 t + k)) = true then nI k else srI (fun k => fat v t m (vN v 1 t + k)) j (k + 1) := rfl
    rw [hu] at hr
    have hl2 : lpI F0 (am_upF F 46 (6 + t) (nI (vN v 1 t + k))) t := lpI_up hl
    apply m_fallsNow (lp_MV (h := vN v 1 t + k) hl h0 ht (by omega) (by omega)) ht hm
    intro G g1
    have hl3 := lpI_qM hl2 g1
    rw [fal_set, hs, Bool.true_and]
    simp only [Option.toList_some, Option.toList_none, List.cons_append, List.nil_append]
    rw [kX12_lop_126, if_neg (by decide), kX12_lop_131, kX12_lop_136]
    cases hf : fat v t m (vN v 1 t + k)
    · rw [hf] at hr
      rw [if_pos (by decide), kX12_lop_144, kX12_lop_146, nI_1]
      exact ih (k + 1) G (by omega) hl3 hr
    · rw [hf] at hr
      rw [if_neg (by decide), kX12_lop_139, kX12_lop_146, kX12_lop_57, if_pos (nlt0 (by omega))]
      exact fin G (nI k) _ hl3 hr
def qLop (v : am_V) (x w : Int32) : Int32 := if (tmR v x && inR w 2) = true then (if w = 0 then lsh v (tN x) (mN x) else msh v (tN x) (mN x)) else -1
theorem m_lop {d : Nat} {F : am_FT} {L : am_LT} {Q : am_QT} {v : am_V} {x w : Int32} (h : MV F v) (hq : ∀ G, qM F G → Q (some (.int (qLop v x w))) G L) : wc am_S0 (d + 50) mX12_lop [.ref 45, .int x, .int w] F L Q := by
  have hT := h.2.1.1
  unfold qLop at hq
  rw [eX12_lop, kX12_lop_0, m_isTm h.1 h.2.1]
  simp only [Option.toList_some, Option.toList_none, List.cons_append, List.nil_append]
  rw [kX12_lop_5]
  cases ht : tmR v x
  · rw [ht, Bool.false_and, if_neg (by decide)] at hq
    rw [if_pos bIf, kX12_lop_18]
    exact hq F (qM_rf F)
  · obtain ⟨a1, a2, a3, a4⟩ := tm_ex h.2.1 ht
    rw [ht, Bool.true_and] at hq
    rw [if_neg bIt, kX12_lop_8, show (1 : Int64) = (nI 1).toInt64 from rfl, m_w (by decide)]
    simp only [Option.toList_some, Option.toList_none, List.cons_append, List.nil_append]
    rw [kX12_lop_15]
    cases hw : inR w (1 + 1)
    · rw [show inR w 2 = false from hw, if_neg (by decide)] at hq
      rw [if_neg (by decide), kX12_lop_18]
      exact hq F (qM_rf F)
    · rw [show inR w 2 = true from hw, if_pos rfl] at hq
      obtain ⟨k, k1, rfl⟩ := inR_ex hw (by decide)
      rw [if_pos bIt, kX12_lop_20, a1, m_stands h.1 h.2.1 a2]
      simp only [Option.toList_some, Option.toList_none, List.cons_append, List.nil_append]
      rw [kX12_lop_33]
      cases hs : vS v (tN x)
      · have e1 : lsh v (tN x) (mN x) = -2 := by
          unfold lsh
          rw [hs]; rfl
        have e2 : msh v (tN x) (mN x) = -2 := by
          unfold msh
          rw [hs]; rfl
        rw [e1, e2, show (if nI k = (0 : Int32) then (-2 : Int32) else -2) = -2 by split <;> rfl] at hq
        rw [if_neg (by decide), kX12_lop_36]
        exact hq F (qM_rf F)
      · rw [if_pos bIt, kX12_lop_39 (by rw [a6]; exact oobN (by omega) (by decide)), a6, nI_clamp (by omega), mm1 h.1 a2]
        rcases (by omega : k = 0 ∨ k = 1) with rfl | rfl
        · rw [if_pos (by decide)] at hq
          refine m_lop_loop0 h a3 a2 a4 hs (fun y hy G g => by rw [hy]; exact hq G g) (vN v 1 (tN x)) 0 F (by omega) lpI_rf ?_
          unfold lsh
          rw [if_pos hs]
        · rw [if_neg (by decide)] at hq
          refine m_lop_loop1 h a3 a2 a4 hs (fun y hy G g => by rw [hy]; exact hq G g) (10 - vN v 1 (tN x)) 0 F (by omega) lpI_rf ?_
          unfold msh
          rw [if_pos hs]
/-! by turns -/
theorem m_ff_loop {D t m n j a : Nat} {L : am_LT} {Q : am_QT} {v : am_V} {w : Bool} (hj : j + 1 ≤ n) (hn : n ≤ 4) (ha : a < 1024) (hrec : ∀ (a : Nat) (F : am_FT) (Q : am_QT), a < 1024 → MV F v → (∀ G, qM F G → Q (some (.int (bI (gvl (qq v t m) (vP v) n j a)))) G L) → wc am_S0 (D + 1) mX12_fallsFrom [.ref 45, .int (nI t), .int (nI m), .int (nI a), .int (nI (n - j)), .int (nI n)] F L Q) : ∀ (i p : Nat) (F : am_FT), p + i = vP v → MV F v → (∀ G, qM F G → Q (some (.int (bI (if anyP (fun p => gvl (qq v t m) (vP v) n j (a ^^^ 2 ^ p) == w) i p = true then w else gvl (qq v t m) (vP v) n j a)))) G L) → wt am_S0 (D + 2) mX12_fallsFrom 56 [some (.ref 45), some (.int (nI t)), some (.int (nI m)), some (.int (nI a)), some (.int (nI (n - (j + 1)))), some (.int (nI n)), some (.int (bI w)), some (.int (nI p))] [] F L Q := by
  intro i
  induction i with
  | zero =>
    intro p F hp h hq
    have hP := h.2.1.2.1
    have : p = vP v := by omega
    subst this
    rw [kX12_fallsFrom_56, h.1.2.1, if_pos (nI_le (Nat.le_refl _) (by omega)), kX12_fallsFrom_97, nI_1, show n - (j + 1) + 1 = n - j by omega]
    apply hrec a F _ ha h
    intro G g1
    simp only [Option.toList_some, Option.toList_none, List.cons_append, List.nil_append]
    rw [kX12_fallsFrom_110 nb_b]
    exact hq G g1
  | succ i ih =>
    intro p F hp h hq
    have hP := h.2.1.2.1
    have h2p : 2 ^ p < 1024 := Nat.pow_lt_pow_right (m := p) (n := 10) (by decide) (by omega)
    have er : anyP (fun p => gvl (qq v t m) (vP v) n j (a ^^^ 2 ^ p) == w) (i + 1) p = if (gvl (qq v t m) (vP v) n j (a ^^^ 2 ^ p) == w) = true then true else anyP (fun p => gvl (qq v t m) (vP v) n j (a ^^^ 2 ^ p) == w) i (p + 1) := rfl
    rw [kX12_fallsFrom_56, h.1.2.1, if_neg (nI_ge (by omega) (by omega)), kX12_fallsFrom_65, nI_sh p (by omega), nI_xor, nI_1, show n - (j + 1) + 1 = n - j by omega]
    apply hrec _ F _ (Nat.xor_lt_two_pow (n := 10) ha h2p) h
    intro G g1
    rw [er] at hq
    simp only [Option.toList_some, Option.toList_none, List.cons_append, List.nil_append]
    rw [kX12_fallsFrom_83]
    by_cases he : gvl (qq v t m) (vP v) n j (a ^^^ 2 ^ p) = w
    · rw [if_pos (show (gvl (qq v t m) (vP v) n j (a ^^^ 2 ^ p) == w) = true from beq_iff_eq.mpr he), if_pos rfl] at hq
      rw [if_neg (fun hh => hh (by rw [he])), kX12_fallsFrom_88 nb_b]
      exact hq G g1
    · rw [if_neg (fun hh => he (beq_iff_eq.mp hh))] at hq
      rw [if_pos (by rw [bI_inj]; exact he), kX12_fallsFrom_91, nI_1]
      exact ih (p + 1) G (by omega) (qM_MV g1 h) fun H h1 => hq H (qM_tr g1 h1)
theorem gvl_m (q : Nat → Bool) (P n j a : Nat) : gvl q P n (j + 1) a = if anyP (fun p => gvl q P n j (a ^^^ 2 ^ p) == decide ((n - (j + 1)) % 2 = 0)) P 0 = true then decide ((n - (j + 1)) % 2 = 0) else gvl q P n j a := by
  show (if (gvl q P n j a == decide ((n - (j + 1)) % 2 = 0) || anyP (fun p => gvl q P n j (a ^^^ 2 ^ p) == decide ((n - (j + 1)) % 2 = 0)) P 0) = true then decide ((n - (j + 1)) % 2 = 0) else !decide ((n - (j + 1)) % 2 = 0)) = _
  cases anyP (fun p => gvl q P n j (a ^^^ 2 ^ p) == decide ((n - (j + 1)) % 2 = 0)) P 0
  · cases gvl q P n j a <;> cases decide ((n - (j + 1)) % 2 = 0) <;> rfl
  · rw [Bool.or_true, if_pos rfl, if_pos rfl]
theorem m_fallsFrom {d t m n : Nat} {L : am_LT} {v : am_V} (ht : t < vT v) (hn : n ≤ 4) : ∀ (j a : Nat) (F : am_FT) (Q : am_QT), j ≤ n → a < 1024 → MV F v → (∀ G, qM F G → Q (some (.int (bI (gvl (qq v t m) (vP v) n j a)))) G L) → wc am_S0 (d + 49 + j) mX12_fallsFrom [.ref 45, .int (nI t), .int (nI m), .int (nI a), .int (nI (n - j)), .int (nI n)] F L Q := by
  intro j
  induction j with
  | zero =>
    intro a F Q hj ha h hq
    have hv := h.2.1
    have e : gvl (qq v t m) (vP v) n 0 a = (vS v t && pas v t m (vN v 1 t) a (wsh v t)) := rfl
    rw [e] at hq
    rw [eX12_fallsFrom, kX12_fallsFrom_0, Nat.sub_zero, if_neg (fun hh => hh rfl), kX12_fallsFrom_7, m_stands h.1 hv ht]
    simp only [Option.toList_some, Option.toList_none, List.cons_append, List.nil_append]
    rw [kX12_fallsFrom_15]
    cases hs : vS v t
    · rw [hs] at hq
      rw [if_pos bIf, kX12_fallsFrom_37, kX12_fallsFrom_38 rfl]
      exact hq F (qM_rf F)
    · rw [hs, Bool.true_and] at hq
      rw [if_neg bIt, kX12_fallsFrom_18, m_wishers h.1 hv ht]
      simp only [Option.toList_some, Option.toList_none, List.cons_append, List.nil_append]
      rw [kX12_fallsFrom_27]
      apply m_doesFall h ht ha (wsh_lt hv t)
      intro G g1
      have hq1 := hq G g1
      simp only [Option.toList_some, Option.toList_none, List.cons_append, List.nil_append]
      rw [kX12_fallsFrom_30]
      revert hq1
      cases pas v t m (vN v 1 t) a (wsh v t)
      · intro hq1
        rw [if_pos bIf, kX12_fallsFrom_37, kX12_fallsFrom_38 rfl]
        exact hq1
      · intro hq1
        rw [if_neg bIt, kX12_fallsFrom_33, kX12_fallsFrom_38 rfl]
        exact hq1
  | succ j ih =>
    intro a F Q hj ha h hq
    rw [gvl_m] at hq
    have main : ∀ w : Int32, w = bI (decide ((n - (j + 1)) % 2 = 0)) → wt am_S0 (d + 49 + (j + 1)) mX12_fallsFrom 51 [some (.ref 45), some (.int (nI t)), some (.int (nI m)), some (.int (nI a)), some (.int (nI (n - (j + 1)))), some (.int (nI n)), none, none] [.int w] F L Q := by
      intro w hw
      rw [kX12_fallsFrom_51, hw, show (some (.int 0) : Option Value) = some (.int (nI 0)) from rfl, show d + 49 + (j + 1) = d + 48 + j + 2 by omega]
      exact m_ff_loop (D := d + 48 + j) hj hn ha (fun a F Q h1 h2 h3 => by
        have := ih a F Q (by omega) h1 h2 h3
        rw [show d + 49 + j = d + 48 + j + 1 by omega] at this
        exact this) (vP v) 0 F (by omega) h hq
    rw [eX12_fallsFrom, kX12_fallsFrom_0, if_pos (show ¬ nI (n - (j + 1)) = nI n by rw [nI_inj (by omega) (by omega)]; omega), kX12_fallsFrom_39, show (nI (n - (j + 1)) - nI (n - (j + 1)) / 2 * 2 : Int32) = nI ((n - (j + 1)) % 2) by
      simp (disch := omega) only [iI_n, iI_l, iI_neg, iI_add, iI_sub, iI_mul, iI_div, iI_lt, iI_le, iI_eq]
      congr 1
      omega]
    by_cases h2 : (n - (j + 1)) % 2 = 0
    · rw [if_neg (fun hh => hh (show nI ((n - (j + 1)) % 2) = (0 : Int32) by rw [h2]; rfl)), kX12_fallsFrom_46]
      exact main 1 (by rw [decide_eq_true h2]; rfl)
    · rw [if_pos (by rw [nI0' (by omega)]; exact h2), kX12_fallsFrom_50]
      exact main 0 (by rw [decide_eq_false h2]; rfl)
/-- how many turns, and what is asked, told together -/
def nwR (y : Int32) : Bool := decide (¬ y < 0) && (decide (¬ y / 10 < 1 ∧ ¬ 4 < y / 10) && inR (y - y / 10 * 10) 2)
def qByT (v : am_V) (x y : Int32) : Int32 := if (tmR v x && nwR y) = true then (if y - y / 10 * 10 = 0 then bI (gvT v (tN x) (mN x) (y / 10).toNatClampNeg) else gvM v (tN x) (mN x) (y / 10).toNatClampNeg) else -1
theorem m_bt_loop {d t m n S : Nat} {L : am_LT} {Q : am_QT} {v : am_V} {w : Bool} {x y : Int32} (ht : t < vT v) (hn1 : 1 ≤ n) (hn : n ≤ 4) (hS : S < 1024) : ∀ (i p : Nat) (F : am_FT), p + i = vP v → MV F v → (∀ G, qM F G → Q (some (.int (lmv (fun p => gvl (qq v t m) (vP v) n (n - 1) (S ^^^ 2 ^ p)) w i p))) G L) → wt am_S0 (d + 60) mX12_byTurns 103 [some (.ref 45), some (.int x), some (.int y), some (.int (nI t)), some (.int (nI m)), some (.int (nI n)), some (.int (nI S)), some (.int (bI w)), some (.int (nI p))] [] F L Q := by
  intro i
  induction i with
  | zero =>
    intro p F hp h hq
    have hP := h.2.1.2.1
    have : p = vP v := by omega
    subst this
    rw [kX12_byTurns_103, h.1.2.1, if_pos (nI_le (Nat.le_refl _) (by omega)), kX12_byTurns_143]
    exact hq F (qM_rf F)
  | succ i ih =>
    intro p F hp h hq
    have hP := h.2.1.2.1
    have h2p : 2 ^ p < 1024 := Nat.pow_lt_pow_right (m := p) (n := 10) (by decide) (by omega)
    have er : lmv (fun p => gvl (qq v t m) (vP v) n (n - 1) (S ^^^ 2 ^ p)) w (i + 1) p = if gvl (qq v t m) (vP v) n (n - 1) (S ^^^ 2 ^ p) = w then nI p else lmv (fun p => gvl (qq v t m) (vP v) n (n - 1) (S ^^^ 2 ^ p)) w i (p + 1) := rfl
    rw [er] at hq
    rw [kX12_byTurns_103, h.1.2.1, if_neg (nI_ge (by omega) (by omega)), kX12_byTurns_112, nI_sh p (by omega), nI_xor, show (1 : Int32) = nI (n - (n - 1)) by rw [show n - (n - 1) = 1 by omega]; rfl, show d + 59 = (d + 59 - 49 - (n - 1)) + 49 + (n - 1) by omega]
    apply m_fallsFrom ht hn (n - 1) _ F _ (by omega) (Nat.xor_lt_two_pow (n := 10) hS h2p) h
    intro G g1
    simp only [Option.toList_some, Option.toList_none, List.cons_append, List.nil_append]
    rw [show (d + 59 - 49 - (n - 1)) + 49 + (n - 1) + 1 = d + 60 by omega, kX12_byTurns_129]
    by_cases he : gvl (qq v t m) (vP v) n (n - 1) (S ^^^ 2 ^ p) = w
    · rw [if_pos he] at hq
      rw [if_neg (fun hh => hh (by rw [he])), kX12_byTurns_134]
      exact hq G g1
    · rw [if_neg he] at hq
      rw [if_pos (by rw [bI_inj]; exact he), kX12_byTurns_137, nI_1]
      exact ih (p + 1) G (by omega) (qM_MV g1 h) fun H h1 => hq H (qM_tr g1 h1)
theorem m_byTurns {d : Nat} {F : am_FT} {L : am_LT} {Q : am_QT} {v : am_V} {x y : Int32} (h : MV F v) (hq : ∀ G, qM F G → Q (some (.int (qByT v x y))) G L) : wc am_S0 (d + 60) mX12_byTurns [.ref 45, .int x, .int y] F L Q := by
  unfold qByT nwR at hq
  rw [eX12_byTurns, kX12_byTurns_0, m_isTm h.1 h.2.1]
  simp only [Option.toList_some, Option.toList_none, List.cons_append, List.nil_append]
  rw [kX12_byTurns_5]
  cases ht : tmR v x
  · rw [ht, Bool.false_and, if_neg (by decide)] at hq
    rw [if_pos bIf, kX12_byTurns_40]
    exact hq F (qM_rf F)
  · obtain ⟨a1, a2, a3, a4⟩ := tm_ex h.2.1 ht
    rw [ht, Bool.true_and] at hq
    rw [if_neg bIt, kX12_byTurns_8]
    by_cases hy : y < 0
    · rw [decide_eq_false (fun hh => hh hy), Bool.false_and, if_neg (by decide)] at hq
      rw [if_pos hy, kX12_byTurns_40]
      exact hq F (qM_rf F)
    · rw [decide_eq_true hy, Bool.true_and] at hq
      rw [if_neg hy, kX12_byTurns_12, show (1 : Int64) = Int32.toInt64 1 from rfl, show (4 : Int64) = Int32.toInt64 4 from rfl, s_mwi]
      simp only [Option.toList_some, Option.toList_none, List.cons_append, List.nil_append]
      rw [kX12_byTurns_24]
      cases hn : decide (¬ y / 10 < 1 ∧ ¬ 4 < y / 10)
      · rw [hn, Bool.false_and, if_neg (by decide)] at hq
        rw [if_pos bIf, kX12_byTurns_40]
        exact hq F (qM_rf F)
      · rw [hn, Bool.true_and] at hq
        rw [if_neg bIt, kX12_byTurns_27, show (1 : Int64) = (nI 1).toInt64 from rfl, m_w (by decide)]
        simp only [Option.toList_some, Option.toList_none, List.cons_append, List.nil_append]
        rw [kX12_byTurns_37]
        cases hw : inR (y - y / 10 * 10) (1 + 1)
        · rw [show inR (y - y / 10 * 10) 2 = false from hw, if_neg (by decide)] at hq
          rw [if_neg (by decide), kX12_byTurns_40]
          exact hq F (qM_rf F)
        · rw [show inR (y - y / 10 * 10) 2 = true from hw, if_pos rfl] at hq
          have hn2 := of_decide_eq_true hn
          obtain ⟨n, hn1, hn4, hyn⟩ : ∃ n : Nat, 1 ≤ n ∧ n ≤ 4 ∧ y / 10 = nI n := by
            obtain ⟨z, z1, z2, hz⟩ := iI_ex (y / 10)
            rw [hz] at hn2
            have hc : 1 ≤ z ∧ z ≤ 4 := by
              obtain ⟨c1, c2⟩ := hn2
              revert c1 c2
              simp (disch := omega) only [iI_n, iI_l, iI_neg, iI_add, iI_sub, iI_mul, iI_div, iI_lt, iI_le, iI_eq]
              intro c1 c2
              exact ⟨by omega, by omega⟩
            exact ⟨z.toNat, by omega, by omega, by rw [hz]; exact iI_tn (by omega)⟩
          have hc := csit_lt h.2.1 (tN x) (mN x)
          rw [hyn, nI_clamp (by omega)] at hq
          rw [if_pos bIt, kX12_byTurns_42, a3, a1, m_sittersNow h.1 h.2.1 a2 a4]
          simp only [Option.toList_some, Option.toList_none, List.cons_append, List.nil_append]
          rw [kX12_byTurns_66, hyn, show (0 : Int32) = nI (n - n) by rw [Nat.sub_self]; rfl, show d + 59 = (d + 59 - 49 - n) + 49 + n by omega]
          apply m_fallsFrom a2 hn4 n _ F _ (Nat.le_refl _) hc h
          intro G g1
          simp only [Option.toList_some, Option.toList_none, List.cons_append, List.nil_append]
          rw [show (d + 59 - 49 - n) + 49 + n + 1 = d + 60 by omega, kX12_byTurns_80, hyn]
          by_cases h0 : y - nI n * 10 = 0
          · rw [if_pos h0] at hq
            have hq1 := hq G g1
            rw [if_neg (fun hh => hh h0), kX12_byTurns_89]
            revert hq1
            unfold gvT
            cases gvl (qq v (tN x) (mN x)) (vP v) n n (csit v (tN x) (mN x))
            · intro hq1
              rw [if_pos bIf, kX12_byTurns_98, kX12_byTurns_99]; exact hq1
            · intro hq1
              rw [if_neg bIt, kX12_byTurns_94, kX12_byTurns_99]; exact hq1
          · rw [if_neg h0] at hq
            rw [if_pos h0, kX12_byTurns_100, show (some (.int 0) : Option Value) = some (.int (nI 0)) from rfl]
            exact m_bt_loop a2 hn1 hn4 hc (vP v) 0 G (by omega) (qM_MV g1 h) fun H h1 => hq H (qM_tr g1 h1)
