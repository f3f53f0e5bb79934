/-! ===== months, most shaded, like shades ===== -/
theorem iI_leT {a b : Int} (h : a ≤ b) (h1 : -2147483648 ≤ a) (h2 : a < 2147483648) (h3 : -2147483648 ≤ b) (h4 : b < 2147483648) : iI a ≤ iI b := (iI_le h1 h2 h3 h4).mpr h
theorem iI_leF {a b : Int} (h : b < a) (h1 : -2147483648 ≤ a) (h2 : a < 2147483648) (h3 : -2147483648 ≤ b) (h4 : b < 2147483648) : ¬ iI a ≤ iI b := fun k => absurd ((iI_le h1 h2 h3 h4).mp k) (by omega)
theorem iI_ltT {a b : Int} (h : a < b) (h1 : -2147483648 ≤ a) (h2 : a < 2147483648) (h3 : -2147483648 ≤ b) (h4 : b < 2147483648) : iI a < iI b := (iI_lt h1 h2 h3 h4).mpr h
theorem iI_ltF {a b : Int} (h : b ≤ a) (h1 : -2147483648 ≤ a) (h2 : a < 2147483648) (h3 : -2147483648 ≤ b) (h4 : b < 2147483648) : ¬ iI a < iI b := fun k => absurd ((iI_lt h1 h2 h3 h4).mp k) (by omega)
/-- the most that f comes to below k (m0 ahead of all), and the first that has it (b0) -/
def mxI (f : Nat → Nat) (m0 : Int) : Nat → Int
  | 0 => m0
  | k + 1 => if mxI f m0 k < (f k : Int) then (f k : Int) else mxI f m0 k
def agI (f : Nat → Nat) (b0 : Int32) (m0 : Int) : Nat → Int32
  | 0 => b0
  | k + 1 => if mxI f m0 k < (f k : Int) then nI k else agI f b0 m0 k
theorem mxI_t {f : Nat → Nat} {m0 : Int} {k : Nat} (h : mxI f m0 k < (f k : Int)) : mxI f m0 (k + 1) = (f k : Int) := if_pos h
theorem mxI_f {f : Nat → Nat} {m0 : Int} {k : Nat} (h : ¬ mxI f m0 k < (f k : Int)) : mxI f m0 (k + 1) = mxI f m0 k := if_neg h
theorem agI_t {f : Nat → Nat} {b0 : Int32} {m0 : Int} {k : Nat} (h : mxI f m0 k < (f k : Int)) : agI f b0 m0 (k + 1) = nI k := if_pos h
theorem agI_f {f : Nat → Nat} {b0 : Int32} {m0 : Int} {k : Nat} (h : ¬ mxI f m0 k < (f k : Int)) : agI f b0 m0 (k + 1) = agI f b0 m0 k := if_neg h
theorem mxI_b {f : Nat → Nat} {m0 : Int} {B : Nat} (h0 : -1 ≤ m0) (h1 : m0 ≤ B) : ∀ k, (∀ i, i < k → f i ≤ B) → -1 ≤ mxI f m0 k ∧ mxI f m0 k ≤ B := by
  intro k
  induction k with
  | zero => intro _; exact ⟨h0, h1⟩
  | succ k ih =>
    intro h
    have h2 := ih fun i hi => h i (by omega)
    have h3 := h k (by omega)
    unfold mxI
    split <;> omega
theorem mxI_congr {f g : Nat → Nat} {m0 : Int} : ∀ k, (∀ i, i < k → f i = g i) → mxI f m0 k = mxI g m0 k := by
  intro k
  induction k with
  | zero => intro _; rfl
  | succ k ih => intro h; unfold mxI; rw [ih fun i hi => h i (by omega), h k (by omega)]
theorem agI_congr {f g : Nat → Nat} {b0 : Int32} {m0 : Int} : ∀ k, (∀ i, i < k → f i = g i) → agI f b0 m0 k = agI g b0 m0 k := by
  intro k
  induction k with
  | zero => intro _; rfl
  | succ k ih => intro h; unfold agI; rw [ih fun i hi => h i (by omega), h k (by omega), mxI_congr k fun i hi => h i (by omega)]
theorem pop_csit {v : am_V} (hv : wV v) (t m : Nat) : pop (csit v t m) ≤ 10 := pop_le (csit_lt hv t m) (by decide)
theorem c_deepest_loop {d : Nat} {F : am_FT} {L : am_LT} {Q : am_QT} {v : am_V} (h : RLand (F 1) (F 2) v) (hv : wV v) {t : Nat} (ht : t < vT v) : ∀ (j k : Nat) (l5 : Option Value), k + j = 12 → wt am_S0 (d + 4) mX9_deepestMonth 7 [some (.ref 12), some (.int (nI t)), some (.int (agI (fun m => pop (csit v t m)) 0 0 k)), some (.int (iI (mxI (fun m => pop (csit v t m)) 0 k))), some (.int (nI k)), l5] [] F L Q = Q (some (.int (agI (fun m => pop (csit v t m)) 0 0 12))) F L := by
  intro j
  induction j with
  | zero =>
    intro k l5 hk
    have : k = 12 := by omega
    subst this
    rw [kX9_deepestMonth_7, if_pos (by decide), kX9_deepestMonth_44]
  | succ j ih =>
    intro k l5 hk
    have hb := mxI_b (f := fun m => pop (csit v t m)) (m0 := 0) (B := 10) (by decide) (by decide) k fun i _ => pop_csit hv t i
    have hp := pop_csit hv t k
    rw [kX9_deepestMonth_7, if_neg (show ¬ (12 : Int32) ≤ nI k from nI_ge (b := 12) (by omega) (by decide)), kX9_deepestMonth_14, c_sittersIn h hv ht (by omega)]
    simp only [Option.toList_some, Option.toList_none, List.cons_append, List.nil_append]
    rw [kX9_deepestMonth_21, s_bitCount (Nat.lt_trans (csit_lt hv t k) (by decide))]
    simp only [Option.toList_some, Option.toList_none, List.cons_append, List.nil_append]
    rw [kX9_deepestMonth_24, show cnt (csit v t k).testBit 12 = pop (csit v t k) from rfl, iI_n (pop (csit v t k))]
    have ih1 := ih (k + 1) (some (.int (iI (pop (csit v t k) : Nat)))) (by omega)
    by_cases h1 : mxI (fun m => pop (csit v t m)) 0 k < (pop (csit v t k) : Int)
    · rw [if_neg (iI_leF h1 (by omega) (by omega) (by omega) (by omega)), kX9_deepestMonth_32, kX9_deepestMonth_38, nI_1]
      rw [agI_t h1, mxI_t h1] at ih1
      exact ih1
    · rw [if_pos (iI_leT (by omega) (by omega) (by omega) (by omega) (by omega)), kX9_deepestMonth_38, nI_1]
      rw [agI_f h1, mxI_f h1] at ih1
      exact ih1
theorem c_deepestMonth {d : Nat} {F : am_FT} {L : am_LT} {Q : am_QT} {v : am_V} (h : RLand (F 1) (F 2) v) (hv : wV v) {t : Nat} (ht : t < vT v) : wc am_S0 (d + 4) mX9_deepestMonth [.ref 12, .int (nI t)] F L Q = Q (some (.int (agI (fun m => pop (csit v t m)) 0 0 12))) F L := by
  rw [eX9_deepestMonth, kX9_deepestMonth_0]
  exact c_deepest_loop h hv ht 12 0 _ rfl
/-- in how many shades one lies -/
def sho (v : am_V) (p m : Nat) : Nat := cnt (fun t => vS v t && shd v t m (vN v 1 t) (vN v 4 p)) (vT v)
theorem sho_le {v : am_V} (hv : wV v) (p m : Nat) : sho v p m ≤ 6 := Nat.le_trans (cnt_le _ _) hv.1
theorem c_shadesOver_loop {d : Nat} {F : am_FT} {L : am_LT} {Q : am_QT} {v : am_V} (h : RLand (F 1) (F 2) v) (hv : wV v) {p m : Nat} (hp : p < vP v) (hm : m < 12) : ∀ (j k : Nat), k + j = vT v → wt am_S0 (d + 3) mX9_shadesOver 5 [some (.ref 12), some (.int (nI p)), some (.int (nI m)), some (.int (nI (cnt (fun t => vS v t && shd v t m (vN v 1 t) (vN v 4 p)) k))), some (.int (nI k))] [] F L Q = Q (some (.int (nI (sho v p m)))) F L := by
  have hT := hv.1
  intro j
  induction j with
  | zero =>
    intro k hk
    have : k = vT v := by omega
    subst this
    rw [kX9_shadesOver_5, h.1, if_pos (nI_le (Nat.le_refl _) (by omega)), kX9_shadesOver_48]
    rfl
  | succ j ih =>
    intro k hk
    have b4 := lb4 hv hp
    rw [kX9_shadesOver_5, h.1, if_neg (nI_ge (by omega) (by omega)), kX9_shadesOver_17, s_read, ld4 h hv hp]
    simp only [Option.toList_some, Option.toList_none, List.cons_append, List.nil_append]
    rw [kX9_shadesOver_33, c_shades h hv (by omega) hm (by omega)]
    have ih1 := ih (k + 1) (by omega)
    unfold cnt at ih1
    simp only [Option.toList_some, Option.toList_none, List.cons_append, List.nil_append]
    rw [kX9_shadesOver_36]
    cases hb : (vS v k && shd v k m (vN v 1 k) (vN v 4 p))
    · rw [if_pos bIf, kX9_shadesOver_42, nI_1]
      simp only [hb] at ih1
      exact ih1
    · rw [if_neg bIt, kX9_shadesOver_39, kX9_shadesOver_42, nI_1, nI_1]
      simp only [hb] at ih1
      exact ih1
theorem c_shadesOver {d : Nat} {F : am_FT} {L : am_LT} {Q : am_QT} {v : am_V} (h : RLand (F 1) (F 2) v) (hv : wV v) {p m : Nat} (hp : p < vP v) (hm : m < 12) : wc am_S0 (d + 3) mX9_shadesOver [.ref 12, .int (nI p), .int (nI m)] F L Q = Q (some (.int (nI (sho v p m)))) F L := by
  rw [eX9_shadesOver, kX9_shadesOver_0]
  exact c_shadesOver_loop h hv hp hm (vT v) 0 (by omega)
theorem c_shadiest_loop {d : Nat} {F : am_FT} {L : am_LT} {Q : am_QT} {v : am_V} (h : RLand (F 1) (F 2) v) (hv : wV v) {m : Nat} (hm : m < 12) : ∀ (j k : Nat) (l5 : Option Value), k + j = vP v → wt am_S0 (d + 4) mX9_shadiestOne 8 [some (.ref 12), some (.int (nI m)), some (.int (agI (fun p => sho v p m) (-2) 0 k)), some (.int (iI (mxI (fun p => sho v p m) 0 k))), some (.int (nI k)), l5] [] F L Q = Q (some (.int (agI (fun p => sho v p m) (-2) 0 (vP v)))) F L := by
  have hP := hv.2.1
  intro j
  induction j with
  | zero =>
    intro k l5 hk
    have : k = vP v := by omega
    subst this
    rw [kX9_shadiestOne_8, h.2.1, if_pos (nI_le (Nat.le_refl _) (by omega)), kX9_shadiestOne_47]
  | succ j ih =>
    intro k l5 hk
    have hb := mxI_b (f := fun p => sho v p m) (m0 := 0) (B := 6) (by decide) (by decide) k fun i _ => sho_le hv i m
    have hp := sho_le hv k m
    rw [kX9_shadiestOne_8, h.2.1, if_neg (nI_ge (by omega) (by omega)), kX9_shadiestOne_20, c_shadesOver h hv (by omega) hm]
    simp only [Option.toList_some, Option.toList_none, List.cons_append, List.nil_append]
    rw [kX9_shadiestOne_27, iI_n (sho v k m)]
    have ih1 := ih (k + 1) (some (.int (iI (sho v k m : Nat)))) (by omega)
    by_cases h1 : mxI (fun p => sho v p m) 0 k < (sho v k m : Int)
    · rw [if_neg (iI_leF h1 (by omega) (by omega) (by omega) (by omega)), kX9_shadiestOne_35, kX9_shadiestOne_41, nI_1]
      rw [agI_t h1, mxI_t h1] at ih1
      exact ih1
    · rw [if_pos (iI_leT (by omega) (by omega) (by omega) (by omega) (by omega)), kX9_shadiestOne_41, nI_1]
      rw [agI_f h1, mxI_f h1] at ih1
      exact ih1
theorem c_shadiestOne {d : Nat} {F : am_FT} {L : am_LT} {Q : am_QT} {v : am_V} (h : RLand (F 1) (F 2) v) (hv : wV v) {m : Nat} (hm : m < 12) : wc am_S0 (d + 4) mX9_shadiestOne [.ref 12, .int (nI m)] F L Q = Q (some (.int (agI (fun p => sho v p m) (-2) 0 (vP v)))) F L := by
  rw [eX9_shadiestOne, kX9_shadiestOne_0]
  exact c_shadiest_loop h hv hm (vP v) 0 _ (by omega)
/-- whether two trees shade the same of the j cells from k on -/
def sam (v : am_V) (a b m : Nat) : Nat → Nat → Bool
  | 0, _ => true
  | j + 1, k => if (vS v a && shd v a m (vN v 1 a) k) = (vS v b && shd v b m (vN v 1 b) k) then sam v a b m j (k + 1) else false
theorem bI_inj {a b : Bool} : (bI a = bI b) = (a = b) := by cases a <;> cases b <;> decide
theorem c_sameShade_loop {d : Nat} {F : am_FT} {L : am_LT} {Q : am_QT} {v : am_V} (h : RLand (F 1) (F 2) v) (hv : wV v) {a b m : Nat} (ha : a < vT v) (hb : b < vT v) (hm : m < 12) : ∀ (j k : Nat), k + j = 256 → wt am_S0 (d + 3) mX9_sameShade 3 [some (.ref 12), some (.int (nI a)), some (.int (nI b)), some (.int (nI m)), some (.int (nI k))] [] F L Q = Q (some (.int (bI (sam v a b m j k)))) F L := by
  intro j
  induction j with
  | zero =>
    intro k hk
    have : k = 256 := by omega
    subst this
    rw [kX9_sameShade_3, if_pos (by decide), kX9_sameShade_44]
    rfl
  | succ j ih =>
    intro k hk
    rw [kX9_sameShade_3, if_neg (show ¬ (256 : Int32) ≤ nI k from nI_ge (b := 256) (by omega) (by decide)), kX9_sameShade_11, c_shades h hv ha hm (by omega)]
    simp only [Option.toList_some, Option.toList_none, List.cons_append, List.nil_append]
    rw [kX9_sameShade_22, c_shades h hv hb hm (by omega)]
    simp only [Option.toList_some, Option.toList_none, List.cons_append, List.nil_append]
    rw [kX9_sameShade_33]
    unfold sam
    by_cases he : (vS v a && shd v a m (vN v 1 a) k) = (vS v b && shd v b m (vN v 1 b) k)
    · rw [if_pos he, if_pos (by rw [he]), kX9_sameShade_38, nI_1, ih (k + 1) (by omega)]
    · rw [if_neg he, if_neg (by rw [bI_inj]; exact he), kX9_sameShade_36]
      rfl
theorem c_sameShade {d : Nat} {F : am_FT} {L : am_LT} {Q : am_QT} {v : am_V} (h : RLand (F 1) (F 2) v) (hv : wV v) {a b m : Nat} (ha : a < vT v) (hb : b < vT v) (hm : m < 12) : wc am_S0 (d + 3) mX9_sameShade [.ref 12, .int (nI a), .int (nI b), .int (nI m)] F L Q = Q (some (.int (bI (sam v a b m 256 0)))) F L := by
  rw [eX9_sameShade, kX9_sameShade_0]
  exact c_sameShade_loop h hv ha hb hm 256 0 rfl
