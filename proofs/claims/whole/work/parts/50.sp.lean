/-! ===== specs: what the face and the classes inside share ===== -/
/-- a row read, 0 where no place is -/
def rdA (F : am_FT) (p n : Nat) (i : Int32) : Int32 := if i < 0 then 0 else if Int32.ofNat n ≤ i then 0 else F p i.toNatClampNeg
def wrA (F : am_FT) (p n : Nat) (i v : Int32) : am_FT := if i < 0 then F else if Int32.ofNat n ≤ i then F else am_upF F p i.toNatClampNeg v
def rdZ (j : Nat) (i : Int32) : Int32 := if i < 0 then 0 else if Int32.ofNat (am_zt j).length ≤ i then 0 else (am_zt j).getD i.toNatClampNeg 0
def wiI (v a b : Int32) : Int32 := if v < a then 0 else if b < v then 0 else 1
def bitI (s k : Int32) : Int32 := if ((Int32.toUInt32 s >>> (Int32.toUInt32 k &&& Int32.toUInt32 31)).toInt32 &&& 1) = 0 then 0 else 1
theorem sp_oob {i : Int32} {n : Nat} (hn : n < 2 ^ 31) (h1 : ¬ i < 0) (h2 : ¬ Int32.ofNat n ≤ i) : am_oob i n = false := by
  obtain ⟨j, hj, rfl⟩ := nI_of h1
  have h3 : ¬ nI n ≤ nI j := h2
  rw [nI_leI hn hj] at h3
  exact decide_eq_false (vp_in_nI (by omega) hn)
theorem nb_if {p : Prop} [Decidable p] : narrow .boolean (.int (if p then 1 else 0)) = .int (if p then 1 else 0) := by split <;> rfl
theorem nb_fi {p : Prop} [Decidable p] : narrow .boolean (.int (if p then 0 else 1)) = .int (if p then 0 else 1) := by split <;> rfl
theorem nb_wi {v a b : Int32} : narrow .boolean (.int (wiI v a b)) = .int (wiI v a b) := by unfold wiI; split; rfl; split <;> rfl
theorem nb_bit {s k : Int32} : narrow .boolean (.int (bitI s k)) = .int (bitI s k) := by unfold bitI; split <;> rfl
theorem s_at {d p n : Nat} {F : am_FT} {L : am_LT} {Q : am_QT} {i : Int32} (hp : am_S0[p]? = some (100, n, [])) (hn : n < 2 ^ 31) : wc am_S0 d mX11_at [.ref p, .int i] F L Q = Q (some (.int (rdA F p n i))) F L := by
  unfold rdA
  rw [eX11_at, kX11_at_0]
  by_cases h1 : i < 0
  · rw [if_pos h1, if_pos h1, kX11_at_16, kX11_at_17]
  · rw [if_neg h1, if_neg h1, kX11_at_4 hp]
    by_cases h2 : Int32.ofNat n ≤ i
    · rw [if_pos h2, if_pos h2, kX11_at_16, kX11_at_17]
    · rw [if_neg h2, if_neg h2, kX11_at_10 hp (sp_oob hn h1 h2), kX11_at_17]
theorem s_atZ {d j : Nat} {F : am_FT} {L : am_LT} {Q : am_QT} {i : Int32} (hj : j < 5) : wc am_S0 d mX11_at [.ref (1000 + j), .int i] F L Q = Q (some (.int (rdZ j i))) F L := by
  have hz : am_Z0 (1000 + j - 1000) = some ((am_zt j).length, fun i => (am_zt j).getD i 0) := by
    rw [Nat.add_sub_cancel_left]
    exact if_pos hj
  have hl : (am_zt j).length < 2 ^ 31 := by
    rcases (by omega : j = 0 ∨ j = 1 ∨ j = 2 ∨ j = 3 ∨ j = 4) with rfl | rfl | rfl | rfl | rfl <;> decide
  have k4 : wt am_S0 d mX11_at 4 [some (.ref (1000 + j)), some (.int i)] [] F L Q = if Int32.ofNat (am_zt j).length ≤ i then wt am_S0 d mX11_at 16 [some (.ref (1000 + j)), some (.int i)] [] F L Q else wt am_S0 d mX11_at 10 [some (.ref (1000 + j)), some (.int i)] [] F L Q := (wt_iload_n dX11_at_4 rfl).trans ((wt_aload_n dX11_at_5 rfl rfl).trans ((wt_arraylengthZ dX11_at_6 (by omega) (by omega) hz).trans (wt_if_icmp_ge dX11_at_7 (t := 16) rfl)))
  unfold rdZ
  rw [eX11_at, kX11_at_0]
  by_cases h1 : i < 0
  · rw [if_pos h1, if_pos h1, kX11_at_16, kX11_at_17]
  · rw [if_neg h1, if_neg h1, k4]
    by_cases h2 : Int32.ofNat (am_zt j).length ≤ i
    · rw [if_pos h2, if_pos h2, kX11_at_16, kX11_at_17]
    · rw [if_neg h2, if_neg h2]
      have k10 : wt am_S0 d mX11_at 10 [some (.ref (1000 + j)), some (.int i)] [] F L Q = wt am_S0 d mX11_at 17 [some (.ref (1000 + j)), some (.int i)] [.int ((am_zt j).getD i.toNatClampNeg 0)] F L Q := (wt_aload_n dX11_at_10 rfl rfl).trans ((wt_iload_n dX11_at_11 rfl).trans ((wt_ialoadZ dX11_at_12 (by omega) (by omega) hz (sp_oob hl h1 h2)).trans (wt_goto dX11_at_13 (t := 17) rfl)))
      rw [k10, kX11_at_17]
theorem s_lay {d p n : Nat} {F : am_FT} {L : am_LT} {Q : am_QT} {i v : Int32} (hp : am_S0[p]? = some (100, n, [])) (hn : n < 2 ^ 31) : wc am_S0 d mX11_lay [.ref p, .int i, .int v] F L Q = Q none (wrA F p n i v) L := by
  unfold wrA
  rw [eX11_lay, kX11_lay_0]
  by_cases h1 : i < 0
  · rw [if_pos h1, if_pos h1, kX11_lay_14]
  · rw [if_neg h1, if_neg h1, kX11_lay_4 hp]
    by_cases h2 : Int32.ofNat n ≤ i
    · rw [if_pos h2, if_pos h2, kX11_lay_14]
    · rw [if_neg h2, if_neg h2, kX11_lay_10 hp (sp_oob hn h1 h2), kX11_lay_14]
theorem s_within {d : Nat} {F : am_FT} {L : am_LT} {Q : am_QT} {v a b : Int32} : wc am_S0 d mX11_within [.int v, .int a, .int b] F L Q = Q (some (.int (wiI v a b))) F L := by
  unfold wiI
  rw [eX11_within, kX11_within_0]
  by_cases h1 : v < a
  · rw [if_pos h1, if_pos h1, kX11_within_14, kX11_within_15 rfl]
  · rw [if_neg h1, if_neg h1, kX11_within_5]
    by_cases h2 : b < v
    · rw [if_pos h2, if_pos h2, kX11_within_14, kX11_within_15 rfl]
    · rw [if_neg h2, if_neg h2, kX11_within_10, kX11_within_15 rfl]
theorem s_holds {d : Nat} {F : am_FT} {L : am_LT} {Q : am_QT} {s k : Int32} : wc am_S0 d mX11_holds [.int s, .int k] F L Q = Q (some (.int (bitI s k))) F L := by
  unfold bitI
  rw [eX11_holds, kX11_holds_0]
  by_cases h1 : ((Int32.toUInt32 s >>> (Int32.toUInt32 k &&& Int32.toUInt32 31)).toInt32 &&& 1) = 0
  · rw [if_pos h1, if_pos h1, kX11_holds_12, kX11_holds_13 rfl]
  · rw [if_neg h1, if_neg h1, kX11_holds_8, kX11_holds_13 rfl]
/-! Land -/
/-- a number of the land as read(number, what) gives it -/
def ldI (F : am_FT) (n w : Int32) : Int32 := if w * 12 + n < 0 then 0 else if 96 ≤ w * 12 + n then 0 else F 2 (w * 12 + n).toNatClampNeg
theorem s_read {d : Nat} {F : am_FT} {L : am_LT} {Q : am_QT} {n w : Int32} : wc am_S0 d mX5_read [.ref 1, .int n, .int w] F L Q = Q (some (.int (ldI F n w))) F L := by
  unfold ldI
  rw [eX5_read, kX5_read_0]
  by_cases h1 : w * 12 + n < 0
  · rw [if_pos h1, if_pos h1, kX5_read_29, kX5_read_30]
  · rw [if_neg h1, if_neg h1, kX5_read_11]
    by_cases h2 : 96 ≤ w * 12 + n
    · rw [if_pos h2, if_pos h2, kX5_read_29, kX5_read_30]
    · rw [if_neg h2, if_neg h2, kX5_read_20 (sp_oob (n := 96) (by decide) h1 h2), kX5_read_30]
theorem s_stands {d : Nat} {F : am_FT} {L : am_LT} {Q : am_QT} {t : Int32} : wc am_S0 (d + 1) mX5_stands [.ref 1, .int t] F L Q = Q (some (.int (if ldI F t 7 = 1 then 1 else 0))) F L := by
  rw [eX5_stands, kX5_stands_0, s_read]
  by_cases h : ldI F t 7 = 1
  · simp only [h, if_true, Option.toList_some, List.cons_append, List.nil_append, kX5_stands_0, kX5_stands_7, kX5_stands_11, kX5_stands_15, kX5_stands_16, not_true_eq_false, if_false, show narrow .boolean (.int 1) = .int 1 from rfl]
  · simp only [h, if_false, Option.toList_some, List.cons_append, List.nil_append, kX5_stands_0, kX5_stands_7, kX5_stands_11, kX5_stands_15, kX5_stands_16, not_false_eq_true, if_true, show narrow .boolean (.int 0) = .int 0 from rfl]
theorem s_write {d : Nat} {F : am_FT} {L : am_LT} {Q : am_QT} {n w v : Int32} : wc am_S0 (d + 1) mX5_write [.ref 1, .int n, .int w, .int v] F L Q = Q none (wrA F 2 96 (w * 12 + n) v) L := by
  simp only [eX5_write, kX5_write_0, kX5_write_14, s_lay (p := 2) (n := 96) rfl (by decide), Option.toList_none, List.nil_append]
/-- whether a cell lies in a shade: cell, foot, rows, broad -/
def liI (c f r b : Int32) : Int32 := if f / 16 - c / 16 < 1 then 0 else if r < f / 16 - c / 16 then 0 else if b < (if 0 ≤ (f - f / 16 * 16) - (c - c / 16 * 16) then (f - f / 16 * 16) - (c - c / 16 * 16) else 0 - ((f - f / 16 * 16) - (c - c / 16 * 16))) then 0 else 1
theorem s_lies {d : Nat} {F : am_FT} {L : am_LT} {Q : am_QT} {c f r b : Int32} : wc am_S0 (d + 1) mX5_lies [.int c, .int f, .int r, .int b] F L Q = Q (some (.int (liI c f r b))) F L := by
  unfold liI
  rw [eX5_lies, kX5_lies_0, kX5_lies_23]
  by_cases h1 : f / 16 - c / 16 < 1
  · rw [if_pos h1, if_pos h1, kX5_lies_47, kX5_lies_48 rfl]
  · rw [if_neg h1, if_neg h1, kX5_lies_31]
    by_cases h2 : r < f / 16 - c / 16
    · rw [if_pos h2, if_pos h2, kX5_lies_47, kX5_lies_48 rfl]
    · rw [if_neg h2, if_neg h2, kX5_lies_37]
      by_cases h3 : b < (if 0 ≤ (f - f / 16 * 16) - (c - c / 16 * 16) then (f - f / 16 * 16) - (c - c / 16 * 16) else 0 - ((f - f / 16 * 16) - (c - c / 16 * 16)))
      · rw [if_pos h3, if_pos h3, kX5_lies_47, kX5_lies_48 rfl]
      · rw [if_neg h3, if_neg h3, kX5_lies_43, kX5_lies_48 rfl]
/-- the bits of those k below n for which g isn't 0 -/
def orF (g : Nat → Int32) : Nat → Int32
  | 0 => 0
  | k + 1 => if g k = 0 then orF g k else orF g k ||| ((1 : Int32) <<< (nI k &&& 31))
def cvI (F : am_FT) (n : Nat) (t m h : Int32) : Int32 := orF (fun k => liI (ldI F (nI k) 4) (ldI F t 0) (h * ldI F m 3 / 3) (ldI F t 2)) n
theorem s_coveredBy_loop {d n : Nat} {F : am_FT} {L : am_LT} {Q : am_QT} {l1 l2 l3 : Option Value} {f r b : Int32} (hn : F 1 2 = nI n) (hn2 : n < 2 ^ 31) : ∀ (j k : Nat), k + j = n → wt am_S0 (d + 2) mX5_coveredBy 34 [some (.ref 1), l1, l2, l3, some (.int f), some (.int r), some (.int b), some (.int (orF (fun k => liI (ldI F (nI k) 4) f r b) k)), some (.int (nI k))] [] F L Q = Q (some (.int (orF (fun k => liI (ldI F (nI k) 4) f r b) n))) F L := by
  intro j
  induction j with
  | zero =>
    intro k hk
    have : k = n := by omega
    subst this
    rw [kX5_coveredBy_34, hn, if_pos (nI_le (Nat.le_refl _) hn2), kX5_coveredBy_77]
  | succ j ih =>
    intro k hk
    rw [kX5_coveredBy_34, hn, if_neg (nI_ge (by omega) hn2), kX5_coveredBy_43, s_read]
    simp only [Option.toList_some, List.cons_append, List.nil_append]
    rw [kX5_coveredBy_50, s_lies]
    simp only [Option.toList_some, List.cons_append, List.nil_append]
    rw [kX5_coveredBy_59]
    have ih1 := ih (k + 1) (by omega)
    by_cases h : liI (ldI F (nI k) 4) f r b = 0
    · rw [if_pos h, kX5_coveredBy_71, nI_1]
      rw [show orF (fun k => liI (ldI F (nI k) 4) f r b) (k + 1) = orF (fun k => liI (ldI F (nI k) 4) f r b) k from if_pos h] at ih1
      exact ih1
    · rw [if_neg h, kX5_coveredBy_62, kX5_coveredBy_71, nI_1]
      rw [show orF (fun k => liI (ldI F (nI k) 4) f r b) (k + 1) = orF (fun k => liI (ldI F (nI k) 4) f r b) k ||| ((1 : Int32) <<< (nI k &&& 31)) from if_neg h] at ih1
      exact ih1
theorem s_coveredBy {d n : Nat} {F : am_FT} {L : am_LT} {Q : am_QT} {t m h : Int32} (hn : F 1 2 = nI n) (hn2 : n < 2 ^ 31) : wc am_S0 (d + 2) mX5_coveredBy [.ref 1, .int t, .int m, .int h] F L Q = Q (some (.int (cvI F n t m h))) F L := by
  unfold cvI
  rw [eX5_coveredBy, kX5_coveredBy_0, s_read]
  simp only [Option.toList_some, List.cons_append, List.nil_append]
  rw [kX5_coveredBy_6, s_read]
  simp only [Option.toList_some, List.cons_append, List.nil_append]
  rw [kX5_coveredBy_15, s_read]
  simp only [Option.toList_some, List.cons_append, List.nil_append]
  rw [kX5_coveredBy_26]
  exact s_coveredBy_loop hn hn2 n 0 (by omega)
