/-! ===== the model's questions, 1 ===== -/
def tN (x : Int32) : Nat := (x / 100).toNatClampNeg
def mN (x : Int32) : Nat := (x - x / 100 * 100).toNatClampNeg
theorem tm_ex {v : am_V} {x : Int32} (hv : wV v) (h : tmR v x = true) : x / 100 = nI (tN x) ∧ tN x < vT v ∧ x - x / 100 * 100 = nI (mN x) ∧ mN x < 12 := by
  unfold tmR at h
  simp only [Bool.and_eq_true] at h
  have hT := hv.1
  obtain ⟨k, k1, k2⟩ := inR_ex h.2.1 (by omega)
  obtain ⟨m, m1, m2⟩ := inR_ex h.2.2 (by omega)
  unfold tN mN
  rw [m2, k2, nI_clamp (by omega), nI_clamp (by omega)]
  exact ⟨rfl, k1, rfl, m1⟩
theorem m_w {d N : Nat} {F : am_FT} {L : am_LT} {Q : am_QT} {x : Int32} (hN : N < 1000) : wc am_S0 d mX12_within [.long x.toInt64, .long 0, .long (nI N).toInt64] F L Q = Q (some (.int (bI (inR x (N + 1))))) F L := by
  rw [show (0 : Int64) = Int32.toInt64 0 from rfl, s_mwi, inR_c hN]
def qShade (v : am_V) (x : Int32) : Int32 := if tmR v x = true then nI (csit v (tN x) (mN x)) else -1
theorem m_shade {d : Nat} {F : am_FT} {L : am_LT} {Q : am_QT} {v : am_V} {x : Int32} (h : MV F v) (hq : Q (some (.int (qShade v x))) F L) : wc am_S0 (d + 50) mX12_shade [.ref 45, .int x] F L Q := by
  unfold qShade at hq
  rw [eX12_shade, kX12_shade_0, m_isTm h.1 h.2.1]
  simp only [Option.toList_some, Option.toList_none, List.cons_append, List.nil_append]
  rw [kX12_shade_5]
  cases ht : tmR v x
  · rw [ht, if_neg (by decide)] at hq
    rw [if_pos bIf, kX12_shade_23, kX12_shade_24]
    exact hq
  · obtain ⟨a1, a2, a3, a4⟩ := tm_ex h.2.1 ht
    rw [ht, if_pos rfl] at hq
    rw [if_neg bIt, kX12_shade_8, a3, a1, m_sittersNow h.1 h.2.1 a2 a4]
    simp only [Option.toList_some, Option.toList_none, List.cons_append, List.nil_append]
    rw [kX12_shade_20, kX12_shade_24]
    exact hq
/-! cells counted -/
theorem cnt_ad (p : Nat → Bool) (n : Nat) : ∀ k, cnt p (n + k) = cnt p n + cnt (fun i => p (n + i)) k := by
  intro k
  induction k with
  | zero => rfl
  | succ k ih =>
    show (if p (n + k) = true then cnt p (n + k) + 1 else cnt p (n + k)) = cnt p n + (if p (n + k) = true then cnt (fun i => p (n + i)) k + 1 else cnt (fun i => p (n + i)) k)
    rw [ih]
    split <;> omega
theorem cnt_false {p : Nat → Bool} {n : Nat} (h : ∀ k, k < n → p k = false) : cnt p n = 0 := by
  induction n with
  | zero => rfl
  | succ n ih => unfold cnt; rw [h n (by omega), ih fun k hk => h k (by omega)]; rfl
theorem cnt_rows {p A Bx : Nat → Bool} (h : ∀ y x, y < 16 → x < 16 → p (16 * y + x) = (A y && Bx x)) : ∀ n, n ≤ 16 → cnt p (16 * n) = cnt Bx 16 * cnt A n := by
  intro n
  induction n with
  | zero => intro _; rfl
  | succ n ih =>
    intro hn
    rw [Nat.mul_succ, cnt_ad, ih (by omega)]
    have e : cnt (fun i => p (16 * n + i)) 16 = if A n = true then cnt Bx 16 else 0 := by
      cases hA : A n
      · rw [if_neg (by decide)]
        apply cnt_false
        intro k hk
        show p (16 * n + k) = false
        rw [h n k (by omega) hk, hA]; rfl
      · rw [if_pos rfl]
        apply cnt_congr
        intro k hk
        show p (16 * n + k) = Bx k
        rw [h n k (by omega) hk, hA]; rfl
    rw [e]
    show _ = cnt Bx 16 * (if A n = true then cnt A n + 1 else cnt A n)
    cases A n
    · rw [if_neg (by decide), if_neg (by decide)]; rfl
    · rw [if_pos rfl, if_pos rfl, Nat.mul_succ]
theorem celA : ∀ f, f < 16 → ∀ r, r < 28 → cnt (fun y => decide (y + 1 ≤ f ∧ f ≤ y + r)) 16 = min r f := by decide +kernel
theorem celB : ∀ f, f < 16 → ∀ b, b < 4 → cnt (fun x => decide (f ≤ x + b ∧ x ≤ f + b)) 16 = min (f + b) 15 + 1 - (f - b) := by decide +kernel
theorem cel_cnt {f r b : Nat} (hf : f < 256) (hr : r < 28) (hb : b < 4) : cnt (fun c => shg c f r b) 256 = celN f r b := by
  have h := cnt_rows (p := fun c => shg c f r b) (A := fun y => decide (y + 1 ≤ f / 16 ∧ f / 16 ≤ y + r)) (Bx := fun x => decide (f % 16 ≤ x + b ∧ x ≤ f % 16 + b)) (fun y x hy hx => by
    show shg (16 * y + x) f r b = _
    unfold shg
    rw [show (16 * y + x) / 16 = y by omega, show (16 * y + x) % 16 = x by omega, ← Bool.decide_and]
    congr 1
    apply propext
    constructor
    · rintro ⟨a, b, c, d⟩; exact ⟨⟨a, b⟩, c, d⟩
    · rintro ⟨⟨a, b⟩, c, d⟩; exact ⟨a, b, c, d⟩) 16 (Nat.le_refl _)
  rw [celA (f / 16) (by omega) r hr, celB (f % 16) (by omega) b hb] at h
  unfold celN
  rw [Nat.mul_comm]
  exact h
theorem cel_m {v : am_V} (hv : wV v) {t m : Nat} (ht : t < vT v) (hm : m < 12) : cnt (fun c => vS v t && shd v t m (vN v 1 t) c) 256 = cel v t m := by
  unfold cel
  have b0 := lb0 hv ht
  have b2 := lb2 hv ht
  have hp : vN v 1 t * vN v 3 m ≤ 9 * 9 := Nat.mul_le_mul (lb1 hv ht) (lb3 hv hm)
  cases vS v t
  · rw [if_neg (by decide)]
    exact cnt_false fun k _ => rfl
  · rw [if_pos rfl]
    exact cel_cnt (by omega) (by omega) (by omega)
theorem pasA_sw (v : am_V) (t m h a b n : Nat) : ∀ k, pasA v t m h a b n k = pasA v t m h b a n k := by
  intro k
  unfold pasA
  apply sm_congr
  intro p _
  rw [Bool.and_comm]
/-- votes: what 0 to 3 -/
def qVotes (v : am_V) (x w : Int32) : Int32 := if (tmR v x && inR w 4) = true then (if w = 0 then nI (pasA v (tN x) (mN x) (vN v 1 (tN x)) (csit v (tN x) (mN x)) (wsh v (tN x)) (pop (csit v (tN x) (mN x))) (vP v)) else if w = 1 then nI (pasA v (tN x) (mN x) (vN v 1 (tN x)) (csit v (tN x) (mN x)) (csit v (tN x) (mN x)) (pop (csit v (tN x) (mN x))) (vP v)) else if w = 2 then bI (fal v (tN x) (mN x)) else nI (cel v (tN x) (mN x))) else -1
theorem m_votes_loop {d t m : Nat} {F : am_FT} {L : am_LT} {Q : am_QT} {v : am_V} (h : RM F v) (hv : wV v) (ht : t < vT v) (hm : m < 12) {l1 l2 : Option Value} {z5 : Int32} : ∀ (j k : Nat), k + j = 256 → wt am_S0 (d + 3) mX12_votes 98 [some (.ref 45), l1, l2, some (.int (nI t)), some (.int (nI m)), some (.int z5), some (.int (nI (cnt (fun c => vS v t && shd v t m (vN v 1 t) c) k))), some (.int (nI k))] [] F L Q = Q (some (.int (nI (cel v t m)))) F L := by
  intro j
  induction j with
  | zero =>
    intro k hk
    have : k = 256 := by omega
    subst this
    rw [kX12_votes_98, if_pos (by decide), kX12_votes_134, cel_m hv ht hm]
  | succ j ih =>
    intro k hk
    have ih1 := ih (k + 1) (by omega)
    unfold cnt at ih1
    rw [kX12_votes_98, if_neg (show ¬ (256 : Int32) ≤ nI k from nI_ge (b := 256) (by omega) (by decide)), kX12_votes_106, m_isShadedNow h hv ht hm (by omega)]
    simp only [Option.toList_some, Option.toList_none, List.cons_append, List.nil_append]
    rw [kX12_votes_117]
    cases hb : (vS v t && shd v t m (vN v 1 t) k)
    · simp only [hb] at ih1
      rw [if_pos bIf, kX12_votes_124, kX12_votes_125, nI_1, show (0 : Int32) = nI 0 from rfl, nI_add]
      exact ih1
    · simp only [hb] at ih1
      rw [if_neg bIt, kX12_votes_120, kX12_votes_125, nI_1, nI_1]
      exact ih1
theorem m_votes {d : Nat} {F : am_FT} {L : am_LT} {Q : am_QT} {v : am_V} {x w : Int32} (h : MV F v) (hq : ∀ G, qM F G → Q (some (.int (qVotes v x w))) G L) : wc am_S0 (d + 50) mX12_votes [.ref 45, .int x, .int w] F L Q := by
  unfold qVotes at hq
  rw [eX12_votes, kX12_votes_0, m_isTm h.1 h.2.1]
  simp only [Option.toList_some, Option.toList_none, List.cons_append, List.nil_append]
  rw [kX12_votes_5]
  cases ht : tmR v x
  · rw [ht, Bool.false_and, if_neg (by decide)] at hq
    rw [if_pos bIf, kX12_votes_20]
    exact hq F (qM_rf F)
  · obtain ⟨a1, a2, a3, a4⟩ := tm_ex h.2.1 ht
    rw [ht, Bool.true_and] at hq
    rw [if_neg bIt, kX12_votes_8, show (3 : Int64) = (nI 3).toInt64 from rfl, m_w (by decide)]
    simp only [Option.toList_some, Option.toList_none, List.cons_append, List.nil_append]
    rw [kX12_votes_17]
    cases hw : inR w (3 + 1)
    · rw [show inR w 4 = false from hw, if_neg (by decide)] at hq
      rw [if_neg (by decide), kX12_votes_20]
      exact hq F (qM_rf F)
    · rw [show inR w 4 = true from hw, if_pos rfl] at hq
      obtain ⟨k, k1, rfl⟩ := inR_ex hw (by decide)
      rw [if_pos bIt, kX12_votes_22, a3, a1, m_sittersNow h.1 h.2.1 a2 a4]
      simp only [Option.toList_some, Option.toList_none, List.cons_append, List.nil_append]
      rw [kX12_votes_40]
      rcases (by omega : k = 0 ∨ k = 1 ∨ k = 2 ∨ k = 3) with rfl | rfl | rfl | rfl
      · rw [if_neg (by decide), kX12_votes_47, if_neg (by decide), kX12_votes_57, m_wishers h.1 h.2.1 a2]
        simp only [Option.toList_some, Option.toList_none, List.cons_append, List.nil_append]
        rw [kX12_votes_62, kX12_votes_67]
        apply m_sumOf h a2 (csit_lt h.2.1 _ _) (wsh_lt h.2.1 _)
        intro G g1
        simp only [Option.toList_some, Option.toList_none, List.cons_append, List.nil_append]
        rw [kX12_votes_70]
        exact hq G g1
      · rw [if_neg (by decide), kX12_votes_47, if_pos (by decide), kX12_votes_65, kX12_votes_67]
        apply m_sumOf h a2 (csit_lt h.2.1 _ _) (csit_lt h.2.1 _ _)
        intro G g1
        simp only [Option.toList_some, Option.toList_none, List.cons_append, List.nil_append]
        rw [kX12_votes_70]
        exact hq G g1
      · rw [if_pos (by decide), kX12_votes_71, if_neg (by decide), kX12_votes_76]
        apply m_fallsNow h a2 a4
        intro G g1
        have hq1 := hq G g1
        simp only [Option.toList_some, Option.toList_none, List.cons_append, List.nil_append]
        rw [kX12_votes_83]
        revert hq1
        rw [if_neg (by decide), if_neg (by decide), if_pos (by decide)]
        cases fal v (tN x) (mN x)
        · intro hq1
          rw [if_pos bIf, kX12_votes_90, kX12_votes_91]; exact hq1
        · intro hq1
          rw [if_neg bIt, kX12_votes_86, kX12_votes_91]; exact hq1
      · rw [if_pos (by decide), kX12_votes_71, if_pos (by decide), kX12_votes_92]
        refine (m_votes_loop h.1 h.2.1 a2 a4 256 0 rfl).mpr ?_
        exact hq F (qM_rf F)
def qFalls (v : am_V) (x : Int32) : Int32 := if inR x 13 = true then (if x < 12 then nI (fls v x.toNatClampNeg) else nI (nvr v)) else -1
/-- those that fall in none of the first k months -/
def nvK (v : am_V) : Nat → Nat
  | 0 => 2 ^ vT v - 1
  | k + 1 => ndf (nvK v k) (fls v k)
theorem nvK_bit (v : am_V) : ∀ k i, (nvK v k).testBit i = (decide (i < vT v) && decide (∀ m, m < k → fal v i m = false)) := by
  intro k
  induction k with
  | zero =>
    intro i
    show (2 ^ vT v - 1).testBit i = _
    rw [Nat.testBit_two_pow_sub_one, decide_eq_true (fun m hm => absurd hm (by omega) : ∀ m, m < 0 → fal v i m = false), Bool.and_true]
  | succ k ih =>
    intro i
    show (ndf (nvK v k) (fls v k)).testBit i = _
    rw [ndf_bit, ih i]
    unfold fls
    rw [bs_bit]
    by_cases hi : i < vT v
    · simp only [decide_eq_true hi, Bool.true_and]
      by_cases h1 : ∀ m, m < k → fal v i m = false
      · rw [decide_eq_true h1, Bool.true_and]
        cases h2 : fal v i k
        · rw [decide_eq_true (fun m hm => by
            by_cases hmk : m = k
            · rw [hmk]; exact h2
            · exact h1 m (by omega))]; rfl
        · rw [decide_eq_false (fun hh => by have := hh k (by omega); rw [h2] at this; cases this)]; rfl
      · rw [decide_eq_false h1, decide_eq_false (fun hh => h1 fun m hm => hh m (by omega))]; rfl
    · simp only [decide_eq_false hi, Bool.false_and]
theorem nvK_12 (v : am_V) : nvK v 12 = nvr v := by
  apply Nat.eq_of_testBit_eq
  intro i
  rw [nvK_bit]
  unfold nvr
  rw [bs_bit]
  by_cases hi : i < vT v
  · rw [decide_eq_true hi, Bool.true_and, Bool.true_and]
    have := nvb_all v i
    cases h : nvb v i
    · rw [decide_eq_false (fun hh => by rw [this.mpr hh] at h; cases h)]
    · rw [decide_eq_true (this.mp h)]
  · rw [decide_eq_false hi]; rfl
theorem nvK_lt (v : am_V) (k : Nat) : nvK v k < 2 ^ vT v := by
  apply Nat.lt_pow_two_of_testBit
  intro i hi
  rw [nvK_bit, decide_eq_false (by omega)]; rfl
theorem m_falls_loop {d : Nat} {L : am_LT} {Q : am_QT} {v : am_V} {l1 : Option Value} : ∀ (j k : Nat) (F : am_FT), k + j = 12 → MV F v → (∀ G, qM F G → Q (some (.int (nI (nvr v)))) G L) → (∀ y, l1 = some (.int y) → wt am_S0 (d + 51) mX12_falls 37 [some (.ref 45), l1, some (.int (nI (nvK v k))), some (.int (nI k))] [] F L Q) := by
  intro j
  induction j with
  | zero =>
    intro k F hk h hq y hy
    have : k = 12 := by omega
    subst this
    rw [kX12_falls_37, if_pos (by decide), kX12_falls_59, nvK_12]
    exact hq F (qM_rf F)
  | succ j ih =>
    intro k F hk h hq y hy
    subst hy
    rw [kX12_falls_37, if_neg (show ¬ (12 : Int32) ≤ nI k from nI_ge (b := 12) (by omega) (by decide)), kX12_falls_43]
    apply m_fallIn h (by omega)
    intro G g1
    simp only [Option.toList_some, Option.toList_none, List.cons_append, List.nil_append]
    rw [kX12_falls_49, nI_ndf, nI_1]
    exact ih (k + 1) G (by omega) (qM_MV g1 h) (fun H h1 => hq H (qM_tr g1 h1)) y rfl
theorem nI_2m1 : ∀ k, k < 31 → ((1 : Int32) <<< (nI k &&& 31)) - 1 = nI (2 ^ k - 1) := by decide +kernel
theorem m_falls {d : Nat} {F : am_FT} {L : am_LT} {Q : am_QT} {v : am_V} {x : Int32} (h : MV F v) (hq : ∀ G, qM F G → Q (some (.int (qFalls v x))) G L) : wc am_S0 (d + 51) mX12_falls [.ref 45, .int x] F L Q := by
  have hT := h.2.1.1
  unfold qFalls at hq
  rw [eX12_falls, kX12_falls_0, show (12 : Int64) = (nI 12).toInt64 from rfl, m_w (by decide)]
  simp only [Option.toList_some, Option.toList_none, List.cons_append, List.nil_append]
  rw [kX12_falls_9]
  cases hx : inR x (12 + 1)
  · rw [show inR x 13 = false from hx, if_neg (by decide)] at hq
    rw [if_neg (by decide), kX12_falls_12]
    exact hq F (qM_rf F)
  · rw [show inR x 13 = true from hx, if_pos rfl] at hq
    obtain ⟨k, k1, rfl⟩ := inR_ex hx (by decide)
    rw [if_pos bIt, kX12_falls_14]
    by_cases h12 : k < 12
    · rw [if_pos (show nI k < (12 : Int32) from nI_lt (b := 12) h12 (by decide)), nI_clamp (by omega)] at hq
      rw [if_neg (show ¬ (12 : Int32) ≤ nI k from nI_ge (b := 12) h12 (by decide)), kX12_falls_20]
      apply m_fallIn h h12
      intro G g1
      simp only [Option.toList_some, Option.toList_none, List.cons_append, List.nil_append]
      rw [kX12_falls_25]
      exact hq G g1
    · rw [if_neg (show ¬ nI k < (12 : Int32) from nI_nlt (b := 12) (by omega) (by omega))] at hq
      rw [if_pos (show (12 : Int32) ≤ nI k from nI_le (a := 12) (by omega) (by omega)), kX12_falls_26, h.1.1, nI_2m1 _ (by omega)]
      exact m_falls_loop 12 0 F rfl h hq _ rfl
def qFirst (v : am_V) (x : Int32) : Int32 := if tmR v x = true then ffI (fal v (tN x)) (mN x) 12 0 else -1
theorem m_first_loop {d t f : Nat} {L : am_LT} {Q : am_QT} {v : am_V} {x : Int32} (hx1 : x / 100 = nI t) (hx2 : x - x / 100 * 100 = nI f) (ht : t < vT v) (hf : f < 12) : ∀ (j k : Nat) (F : am_FT), k + j = 12 → MV F v → (∀ G, qM F G → Q (some (.int (ffI (fal v t) f j k))) G L) → wt am_S0 (d + 50) mX12_first 12 [some (.ref 45), some (.int x), some (.int (nI k))] [] F L Q := by
  intro j
  induction j with
  | zero =>
    intro k F hk h hq
    have : k = 12 := by omega
    subst this
    rw [kX12_first_12, if_pos (by decide), kX12_first_54]
    exact hq F (qM_rf F)
  | succ j ih =>
    intro k F hk h hq
    rw [kX12_first_12, if_neg (show ¬ (12 : Int32) ≤ nI k from nI_ge (b := 12) (by omega) (by decide)), kX12_first_18, hx2, hx1, md12 f k (by omega) (by omega)]
    apply m_fallsNow h ht (by omega)
    intro G g1
    simp only [Option.toList_some, Option.toList_none, List.cons_append, List.nil_append]
    rw [kX12_first_35]
    unfold ffI at hq
    cases hb : fal v t ((f + k) % 12)
    · rw [hb] at hq
      rw [if_pos bIf, kX12_first_48, nI_1]
      exact ih (k + 1) G (by omega) (qM_MV g1 h) fun H h1 => hq H (qM_tr g1 h1)
    · rw [hb] at hq
      rw [if_neg bIt, kX12_first_38, hx2, md12 f k (by omega) (by omega)]
      exact hq G g1
theorem m_first {d : Nat} {F : am_FT} {L : am_LT} {Q : am_QT} {v : am_V} {x : Int32} (h : MV F v) (hq : ∀ G, qM F G → Q (some (.int (qFirst v x))) G L) : wc am_S0 (d + 50) mX12_first [.ref 45, .int x] F L Q := by
  unfold qFirst at hq
  rw [eX12_first, kX12_first_0, m_isTm h.1 h.2.1]
  simp only [Option.toList_some, Option.toList_none, List.cons_append, List.nil_append]
  rw [kX12_first_5]
  cases ht : tmR v x
  · rw [ht, if_neg (by decide)] at hq
    rw [if_neg (by decide), kX12_first_8]
    exact hq F (qM_rf F)
  · obtain ⟨a1, a2, a3, a4⟩ := tm_ex h.2.1 ht
    rw [ht, if_pos rfl] at hq
    rw [if_pos bIt, kX12_first_10]
    exact m_first_loop a1 a3 a2 a4 12 0 F rfl h hq
def qLeft (v : am_V) (x n : Int32) : Int32 := if (inR x 12 && inR n 100) = true then nI (lfb v x.toNatClampNeg (min n.toNatClampNeg 12)) else -1
theorem ndf_ndf (a b c : Nat) : ndf (ndf a b) c = ndf (ndf a c) b := by
  apply Nat.eq_of_testBit_eq
  intro i
  rw [ndf_bit, ndf_bit, ndf_bit, ndf_bit]
  cases a.testBit i <;> cases b.testBit i <;> cases c.testBit i <;> rfl
theorem lfb_bit (v : am_V) (m : Nat) : ∀ k i, (lfb v m k).testBit i = ((sts v).testBit i && decide (∀ j, j < k → (fls v ((m + j) % 12)).testBit i = false)) := by
  intro k
  induction k with
  | zero =>
    intro i
    show (sts v).testBit i = _
    rw [decide_eq_true (fun j hj => absurd hj (by omega) : ∀ j, j < 0 → (fls v ((m + j) % 12)).testBit i = false), Bool.and_true]
  | succ k ih =>
    intro i
    show (ndf (lfb v m k) (fls v ((m + k) % 12))).testBit i = _
    rw [ndf_bit, ih i]
    cases (sts v).testBit i
    · rfl
    · rw [Bool.true_and, Bool.true_and]
      by_cases h1 : ∀ j, j < k → (fls v ((m + j) % 12)).testBit i = false
      · rw [decide_eq_true h1, Bool.true_and]
        cases h2 : (fls v ((m + k) % 12)).testBit i
        · rw [decide_eq_true (fun j hj => by
            by_cases hjk : j = k
            · rw [hjk]; exact h2
            · exact h1 j (by omega))]; rfl
        · rw [decide_eq_false (fun hh => by have := hh k (by omega); rw [h2] at this; cases this)]; rfl
      · rw [decide_eq_false h1, decide_eq_false (fun hh => h1 fun j hj => hh j (by omega))]; rfl
theorem lfb_12 (v : am_V) (m n : Nat) : lfb v m n = lfb v m (min n 12) := by
  by_cases h : n ≤ 12
  · rw [Nat.min_eq_left h]
  · rw [Nat.min_eq_right (by omega)]
    apply Nat.eq_of_testBit_eq
    intro i
    rw [lfb_bit, lfb_bit]
    congr 1
    congr 1
    apply propext
    constructor
    · intro hh j hj; exact hh j (by omega)
    · intro hh j hj
      have := hh (j % 12) (by omega)
      rw [show (m + j % 12) % 12 = (m + j) % 12 by omega] at this
      exact this
theorem m_left_loop {d m n : Nat} {L : am_LT} {Q : am_QT} {v : am_V} (hm : m < 12) (hn : n < 100) : ∀ (j k : Nat) (F : am_FT), k + j = n → MV F v → (∀ G, qM F G → Q (some (.int (nI (lfb v m n)))) G L) → wt am_S0 (d + 51) mX12_left 30 [some (.ref 45), some (.int (nI m)), some (.int (nI n)), some (.int (nI (lfb v m k))), some (.int (nI k))] [] F L Q := by
  intro j
  induction j with
  | zero =>
    intro k F hk h hq
    have : k = n := by omega
    subst this
    rw [kX12_left_30, if_pos (nI_le (Nat.le_refl _) (by omega)), kX12_left_58]
    exact hq F (qM_rf F)
  | succ j ih =>
    intro k F hk h hq
    rw [kX12_left_30, if_neg (nI_ge (by omega) (by omega)), kX12_left_36, md12 m k (by omega) (by omega)]
    apply m_fallIn h (by omega)
    intro G g1
    simp only [Option.toList_some, Option.toList_none, List.cons_append, List.nil_append]
    rw [kX12_left_48, nI_ndf, nI_1]
    exact ih (k + 1) G (by omega) (qM_MV g1 h) fun H h1 => hq H (qM_tr g1 h1)
theorem m_left {d : Nat} {F : am_FT} {L : am_LT} {Q : am_QT} {v : am_V} {x n : Int32} (h : MV F v) (hq : ∀ G, qM F G → Q (some (.int (qLeft v x n))) G L) : wc am_S0 (d + 51) mX12_left [.ref 45, .int x, .int n] F L Q := by
  unfold qLeft at hq
  rw [eX12_left, kX12_left_0, m_isMonth]
  simp only [Option.toList_some, Option.toList_none, List.cons_append, List.nil_append]
  rw [kX12_left_5]
  cases hx : inR x 12
  · rw [hx, Bool.false_and, if_neg (by decide)] at hq
    rw [if_pos bIf, kX12_left_20]
    exact hq F (qM_rf F)
  · obtain ⟨m, m1, rfl⟩ := inR_ex hx (by decide)
    rw [hx, Bool.true_and] at hq
    rw [if_neg bIt, kX12_left_8, show (99 : Int64) = (nI 99).toInt64 from rfl, m_w (by decide)]
    simp only [Option.toList_some, Option.toList_none, List.cons_append, List.nil_append]
    rw [kX12_left_17]
    cases hn : inR n (99 + 1)
    · rw [show inR n 100 = false from hn, if_neg (by decide)] at hq
      rw [if_neg (by decide), kX12_left_20]
      exact hq F (qM_rf F)
    · rw [show inR n 100 = true from hn, if_pos rfl] at hq
      obtain ⟨k, k1, rfl⟩ := inR_ex hn (by decide)
      rw [nI_clamp (by omega), nI_clamp (by omega), ← lfb_12] at hq
      rw [if_pos bIt, kX12_left_22, h.1.2.2.1]
      exact m_left_loop m1 (by omega) k 0 F (by omega) h hq
