/-! ===== noons in thought ===== -/
def fal (v : am_V) (t m : Nat) : Bool := vS v t && pas v t m (vN v 1 t) (csit v t m) (wsh v t)
def fls (v : am_V) (m : Nat) : Nat := bs (fun t => fal v t m) (vT v)
def sts (v : am_V) : Nat := bs (vS v) (vT v)
theorem fls_lt {v : am_V} (hv : wV v) (m : Nat) : fls v m < 64 := Nat.lt_of_lt_of_le (bs_lt _ _) (two_le (k := 6) hv.1)
theorem sts_lt {v : am_V} (hv : wV v) : sts v < 64 := Nat.lt_of_lt_of_le (bs_lt _ _) (two_le (k := 6) hv.1)
theorem c_sittersIn {d : Nat} {F : am_FT} {L : am_LT} {Q : am_QT} {v : am_V} (h : RLand (F 1) (F 2) v) (hv : wV v) {t m : Nat} (ht : t < vT v) (hm : m < 12) : wc am_S0 (d + 3) mX9_sittersIn [.ref 12, .int (nI t), .int (nI m)] F L Q = Q (some (.int (nI (csit v t m)))) F L := by
  unfold csit
  rw [eX9_sittersIn, kX9_sittersIn_0, s_stands, ld7 h hv ht, show (if bI (vS v t) = 1 then (1 : Int32) else 0) = bI (vS v t) by cases vS v t <;> decide]
  simp only [Option.toList_some, Option.toList_none, List.cons_append, List.nil_append]
  rw [kX9_sittersIn_8]
  cases hs : vS v t
  · rw [if_pos bIf, kX9_sittersIn_32, kX9_sittersIn_33]; rfl
  · rw [if_neg bIt, kX9_sittersIn_11, s_read, ld1 h hv ht]
    simp only [Option.toList_some, Option.toList_none, List.cons_append, List.nil_append]
    rw [kX9_sittersIn_26, c_coveredBy h hv ht hm (lb1 hv ht)]
    simp only [Option.toList_some, Option.toList_none, List.cons_append, List.nil_append]
    rw [kX9_sittersIn_29, kX9_sittersIn_33]; rfl
theorem c_fallsIn {d : Nat} {F : am_FT} {L : am_LT} {Q : am_QT} {v : am_V} (h : CV F v) {t m : Nat} (ht : t < vT v) (hm : m < 12) (hq : ∀ G, SB F G → Q (some (.int (bI (fal v t m)))) G L) : wc am_S0 (d + 8) mX9_fallsIn [.ref 12, .int (nI t), .int (nI m)] F L Q := by
  rw [eX9_fallsIn, kX9_fallsIn_0]
  apply c_open h ht hm
  intro G g1 g2
  simp only [Option.toList_some, Option.toList_none, List.cons_append, List.nil_append]
  rw [kX9_fallsIn_9, g2.2.1, g2.2.2.1]
  apply c_passes (SB_CV g1 h) g2 (csit_lt h.2.1 t m) (wsh_lt h.2.1 t)
  intro H h1 h2
  simp only [Option.toList_some, Option.toList_none, List.cons_append, List.nil_append]
  rw [kX9_fallsIn_30 nb_b]
  exact hq H (SB_tr g1 h1)
theorem c_falling_loop {d : Nat} {L : am_LT} {Q : am_QT} {v : am_V} {m : Nat} (hm : m < 12) : ∀ (j k : Nat) (F : am_FT), k + j = vT v → CV F v → (∀ G, SB F G → Q (some (.int (nI (fls v m)))) G L) → wt am_S0 (d + 9) mX9_falling 4 [some (.ref 12), some (.int (nI m)), some (.int (nI (bs (fun t => fal v t m) k))), some (.int (nI k))] [] F L Q := by
  intro j
  induction j with
  | zero =>
    intro k F hk h hq
    have hT := h.2.1.1
    have : k = vT v := by omega
    subst this
    rw [kX9_falling_4, h.1.1, if_pos (nI_le (Nat.le_refl _) (by omega)), kX9_falling_36]
    exact hq F (SB_rf F)
  | succ j ih =>
    intro k F hk h hq
    have hT := h.2.1.1
    rw [kX9_falling_4, h.1.1, if_neg (nI_ge (by omega) (by omega)), kX9_falling_15]
    apply c_fallsIn h (by omega) hm
    intro G g1
    have ih1 := ih (k + 1) G (by omega) (SB_CV g1 h) fun H h1 => hq H (SB_tr g1 h1)
    unfold bs at ih1
    simp only [Option.toList_some, Option.toList_none, List.cons_append, List.nil_append]
    rw [kX9_falling_21]
    cases hb : fal v k m
    · rw [if_pos bIf, kX9_falling_30, nI_1]
      simp only [hb] at ih1
      exact ih1
    · rw [if_neg bIt, kX9_falling_24, kX9_falling_30, nI_1, nI_sh k (by omega), nI_or]
      simp only [hb] at ih1
      exact ih1
theorem c_falling {d : Nat} {F : am_FT} {L : am_LT} {Q : am_QT} {v : am_V} (h : CV F v) {m : Nat} (hm : m < 12) (hq : ∀ G, SB F G → Q (some (.int (nI (fls v m)))) G L) : wc am_S0 (d + 9) mX9_falling [.ref 12, .int (nI m)] F L Q := by
  rw [eX9_falling, kX9_falling_0]
  exact c_falling_loop hm (vT v) 0 F (by omega) h hq
/-- the first month of the next j in which p holds, from f + k on; -2 -/
def ffI (p : Nat → Bool) (f : Nat) : Nat → Nat → Int32
  | 0, _ => -2
  | j + 1, k => if p ((f + k) % 12) = true then nI ((f + k) % 12) else ffI p f j (k + 1)
theorem md12 (a b : Nat) (ha : a < 100) (hb : b < 200) : (nI a + nI b) - (nI a + nI b) / 12 * 12 = nI ((a + b) % 12) := by
  simp (disch := omega) only [iI_n, iI_l, iI_neg, iI_add, iI_sub, iI_mul, iI_div, iI_lt, iI_le, iI_eq]
  congr 1
  omega
theorem c_firstFall_loop {d : Nat} {L : am_LT} {Q : am_QT} {v : am_V} {t f : Nat} (ht : t < vT v) (hf : f < 12) : ∀ (j k : Nat) (F : am_FT) (l4 : Option Value), k + j = 12 → CV F v → (∀ G, SB F G → Q (some (.int (ffI (fal v t) f j k))) G L) → wt am_S0 (d + 9) mX9_firstFall 2 [some (.ref 12), some (.int (nI t)), some (.int (nI f)), some (.int (nI k)), l4] [] F L Q := by
  intro j
  induction j with
  | zero =>
    intro k F l4 hk h hq
    have : k = 12 := by omega
    subst this
    rw [kX9_firstFall_2, if_pos (by decide), kX9_firstFall_35]
    exact hq F (SB_rf F)
  | succ j ih =>
    intro k F l4 hk h hq
    rw [kX9_firstFall_2, if_neg (show ¬ (12 : Int32) ≤ nI k from nI_ge (b := 12) (by omega) (by decide)), kX9_firstFall_8, md12 f k (by omega) (by omega)]
    apply c_fallsIn h ht (by omega)
    intro G g1
    simp only [Option.toList_some, Option.toList_none, List.cons_append, List.nil_append]
    rw [kX9_firstFall_23]
    unfold ffI at hq
    cases hb : fal v t ((f + k) % 12)
    · rw [if_pos bIf, kX9_firstFall_29, nI_1]
      rw [hb] at hq
      exact ih (k + 1) G _ (by omega) (SB_CV g1 h) fun H h1 => hq H (SB_tr g1 h1)
    · rw [if_neg bIt, kX9_firstFall_26]
      rw [hb] at hq
      exact hq G g1
theorem c_firstFall {d : Nat} {F : am_FT} {L : am_LT} {Q : am_QT} {v : am_V} (h : CV F v) {t f : Nat} (ht : t < vT v) (hf : f < 12) (hq : ∀ G, SB F G → Q (some (.int (ffI (fal v t) f 12 0))) G L) : wc am_S0 (d + 9) mX9_firstFall [.ref 12, .int (nI t), .int (nI f)] F L Q := by
  rw [eX9_firstFall, kX9_firstFall_0]
  exact c_firstFall_loop ht hf 12 0 F _ rfl h hq
theorem ffI_none (p : Nat → Bool) (f : Nat) : ∀ j k, (ffI p f j k = -2) ↔ ∀ i, k ≤ i → i < k + j → p ((f + i) % 12) = false := by
  intro j
  induction j with
  | zero => intro k; exact ⟨fun _ i h1 h2 => absurd h2 (by omega), fun _ => rfl⟩
  | succ j ih =>
    intro k
    unfold ffI
    cases hp : p ((f + k) % 12)
    · rw [if_neg (by decide), ih (k + 1)]
      constructor
      · intro h i h1 h2
        by_cases hi : i = k
        · subst hi; exact hp
        · exact h i (by omega) (by omega)
      · intro h i h1 h2
        exact h i (by omega) (by omega)
    · rw [if_pos rfl]
      constructor
      · intro h
        have h2 : ∀ n : Nat, n < 12 → nI n ≠ -2 := by decide
        exact absurd h (h2 _ (by omega))
      · intro h
        have := h k (by omega) (by omega)
        rw [hp] at this
        cases this
def nvb (v : am_V) (t : Nat) : Bool := decide (ffI (fal v t) 0 12 0 = -2)
theorem nvb_all (v : am_V) (t : Nat) : nvb v t = true ↔ ∀ m, m < 12 → fal v t m = false := by
  have e := ffI_none (fal v t) 0 12 0
  unfold nvb
  rw [decide_eq_true_iff]
  constructor
  · intro he m hm
    have := e.1 he m (by omega) (by omega)
    rw [show (0 + m) % 12 = m by omega] at this
    exact this
  · intro hb
    exact e.2 fun i _ hi => hb _ (by omega)
def nvr (v : am_V) : Nat := bs (nvb v) (vT v)
theorem c_neverFalling_loop {d : Nat} {L : am_LT} {Q : am_QT} {v : am_V} : ∀ (j k : Nat) (F : am_FT), k + j = vT v → CV F v → (∀ G, SB F G → Q (some (.int (nI (nvr v)))) G L) → wt am_S0 (d + 10) mX9_neverFalling 4 [some (.ref 12), some (.int (nI (bs (nvb v) k))), some (.int (nI k))] [] F L Q := by
  intro j
  induction j with
  | zero =>
    intro k F hk h hq
    have hT := h.2.1.1
    have : k = vT v := by omega
    subst this
    rw [kX9_neverFalling_4, h.1.1, if_pos (nI_le (Nat.le_refl _) (by omega)), kX9_neverFalling_38]
    exact hq F (SB_rf F)
  | succ j ih =>
    intro k F hk h hq
    have hT := h.2.1.1
    rw [kX9_neverFalling_4, h.1.1, if_neg (nI_ge (by omega) (by omega)), kX9_neverFalling_15]
    apply c_firstFall (f := 0) h (by omega) (by decide)
    intro G g1
    have ih1 := ih (k + 1) G (by omega) (SB_CV g1 h) fun H h1 => hq H (SB_tr g1 h1)
    unfold bs at ih1
    simp only [Option.toList_some, Option.toList_none, List.cons_append, List.nil_append]
    rw [kX9_neverFalling_21]
    by_cases hb : ffI (fal v k) 0 12 0 = -2
    · rw [if_neg (fun hn => hn hb), kX9_neverFalling_26, kX9_neverFalling_32, nI_1, nI_sh k (by omega), nI_or]
      rw [show nvb v k = true from decide_eq_true hb] at ih1
      exact ih1
    · rw [if_pos hb, kX9_neverFalling_32, nI_1]
      rw [show nvb v k = false from decide_eq_false hb] at ih1
      exact ih1
theorem c_neverFalling {d : Nat} {F : am_FT} {L : am_LT} {Q : am_QT} {v : am_V} (h : CV F v) (hq : ∀ G, SB F G → Q (some (.int (nI (nvr v)))) G L) : wc am_S0 (d + 10) mX9_neverFalling [.ref 12] F L Q := by
  rw [eX9_neverFalling, kX9_neverFalling_0]
  exact c_neverFalling_loop (vT v) 0 F (by omega) h hq
theorem c_standing_loop {d : Nat} {L : am_LT} {Q : am_QT} {v : am_V} {F : am_FT} (h : RLand (F 1) (F 2) v) (hv : wV v) : ∀ (j k : Nat), k + j = vT v → wt am_S0 (d + 2) mX9_standing 4 [some (.ref 12), some (.int (nI (bs (vS v) k))), some (.int (nI k))] [] F L Q = Q (some (.int (nI (sts v)))) F L := by
  have hT := hv.1
  intro j
  induction j with
  | zero =>
    intro k hk
    have : k = vT v := by omega
    subst this
    rw [kX9_standing_4, h.1, if_pos (nI_le (Nat.le_refl _) (by omega)), kX9_standing_38]
    rfl
  | succ j ih =>
    intro k hk
    rw [kX9_standing_4, h.1, if_neg (nI_ge (by omega) (by omega)), kX9_standing_15, s_stands, ld7 h hv (t := k) (by omega), show (if bI (vS v k) = 1 then (1 : Int32) else 0) = bI (vS v k) by cases vS v k <;> decide]
    have ih1 := ih (k + 1) (by omega)
    unfold bs at ih1
    simp only [Option.toList_some, Option.toList_none, List.cons_append, List.nil_append]
    rw [kX9_standing_23]
    cases hb : vS v k
    · rw [if_pos bIf, kX9_standing_32, nI_1]
      simp only [hb] at ih1
      exact ih1
    · rw [if_neg bIt, kX9_standing_26, kX9_standing_32, nI_1, nI_sh k (by omega), nI_or]
      simp only [hb] at ih1
      exact ih1
theorem c_standing {d : Nat} {F : am_FT} {L : am_LT} {Q : am_QT} {v : am_V} (h : RLand (F 1) (F 2) v) (hv : wV v) : wc am_S0 (d + 2) mX9_standing [.ref 12] F L Q = Q (some (.int (nI (sts v)))) F L := by
  rw [eX9_standing, kX9_standing_0]
  exact c_standing_loop h hv (vT v) 0 (by omega)
/-- who is left behind k noons, from month m on -/
def lfb (v : am_V) (m : Nat) : Nat → Nat
  | 0 => sts v
  | k + 1 => ndf (lfb v m k) (fls v ((m + k) % 12))
theorem c_leftBehind_loop {d : Nat} {L : am_LT} {Q : am_QT} {v : am_V} {m n : Nat} {l2 : Option Value} (hm : m < 12) (hn : n ≤ 12) : ∀ (j k : Nat) (F : am_FT), k + j = n → CV F v → (∀ G, SB F G → Q (some (.int (nI (lfb v m n)))) G L) → (∀ x, l2 = some (.int x) → wt am_S0 (d + 10) mX9_leftBehind 16 [some (.ref 12), some (.int (nI m)), l2, some (.int (nI (lfb v m k))), some (.int (nI n)), some (.int (nI k))] [] F L Q) := by
  intro j
  induction j with
  | zero =>
    intro k F hk h hq x hx
    subst hx
    have : k = n := by omega
    subst this
    rw [kX9_leftBehind_16, if_pos (nI_le (Nat.le_refl _) (by omega)), kX9_leftBehind_45]
    exact hq F (SB_rf F)
  | succ j ih =>
    intro k F hk h hq x hx
    subst hx
    rw [kX9_leftBehind_16, if_neg (nI_ge (by omega) (by omega)), kX9_leftBehind_23, md12 m k (by omega) (by omega)]
    apply c_falling h (by omega)
    intro G g1
    simp only [Option.toList_some, Option.toList_none, List.cons_append, List.nil_append]
    rw [kX9_leftBehind_35, nI_ndf, nI_1]
    exact ih (k + 1) G (by omega) (SB_CV g1 h) (fun H h1 => hq H (SB_tr g1 h1)) x rfl
theorem c_leftBehind {d : Nat} {F : am_FT} {L : am_LT} {Q : am_QT} {v : am_V} (h : CV F v) {m n : Nat} (hm : m < 12) (hn : n < 100) (hq : ∀ G, SB F G → Q (some (.int (nI (lfb v m (min n 12))))) G L) : wc am_S0 (d + 10) mX9_leftBehind [.ref 12, .int (nI m), .int (nI n)] F L Q := by
  rw [eX9_leftBehind, kX9_leftBehind_0, c_standing h.1 h.2.1]
  simp only [Option.toList_some, Option.toList_none, List.cons_append, List.nil_append]
  rw [kX9_leftBehind_4, show (if (12 : Int32) < nI n then (12 : Int32) else nI n) = nI (min n 12) by
    by_cases h1 : 12 < n
    · rw [if_pos (show (12 : Int32) < nI n from nI_lt (a := 12) h1 (by omega)), Nat.min_eq_right (by omega)]; rfl
    · rw [if_neg (show ¬ (12 : Int32) < nI n from nI_nlt (a := 12) (by omega) (by decide)), Nat.min_eq_left (by omega)]]
  exact c_leftBehind_loop hm (Nat.min_le_right _ _) (min n 12) 0 F (by omega) h hq _ rfl
