/-! ===== the seat that saves, years by draws ===== -/
def SQ (F G : am_FT) : Prop := (∀ p, (p < 6 ∨ p = 7 ∨ 18 ≤ p) → G p = F p) ∧ G 6 2 = F 6 2
theorem SQ_rf (F : am_FT) : SQ F F := ⟨fun _ _ => rfl, rfl⟩
theorem SQ_tr {F G H : am_FT} (h : SQ F G) (k : SQ G H) : SQ F H := ⟨fun p a => (k.1 p a).trans (h.1 p a), k.2.trans h.2⟩
theorem SB_SQ {F G : am_FT} (h : SB F G) : SQ F G := ⟨fun p hp => h.1 p (by omega) (by omega) (by omega) (by omega) (by omega), h.2⟩
theorem SQ_CV {F G : am_FT} {v : am_V} (h : SQ F G) (k : CV F v) : CV G v := by
  unfold CV
  rw [h.1 1 (by decide), h.1 2 (by decide), h.1 7 (by decide), h.2]
  exact k
theorem SQ_up {F : am_FT} {p i : Nat} {x : Int32} (hp : p = 8 ∨ (9 ≤ p ∧ p ≤ 17)) : SQ F (am_upF F p i x) := ⟨fun q hq => up_o (by omega), by rw [up_o (by omega)]⟩
theorem ndf_lt {a b n : Nat} (h : a < 2 ^ n) : ndf a b < 2 ^ n := by
  apply Nat.lt_pow_two_of_testBit
  intro i hi
  rw [ndf_bit, Nat.testBit_lt_two_pow (Nat.lt_of_lt_of_le h (two_le hi))]
  rfl
theorem nI_ndf' (a b : Nat) : (nI b ^^^ (-1)) &&& nI a = nI (ndf a b) := by rw [Int32.and_comm, nI_ndf]
def svi (v : am_V) (t p m : Nat) : Bool := !(vS v t && pas v t m (vN v 1 t) (ndf (csit v t m) (2 ^ p) ||| 2 ^ p) (wsh v t))
def svo (v : am_V) (t p m : Nat) : Bool := !(vS v t && pas v t m (vN v 1 t) (ndf (csit v t m) (2 ^ p)) (wsh v t))
def svb (v : am_V) (t p c m : Nat) : Bool := if (vS v t && shd v t m (vN v 1 t) c) = true then svi v t p m else svo v t p m
def sav (v : am_V) (t p c : Nat) : Nat := cnt (svb v t p c) 12
theorem or_lt {a b : Nat} {n : Nat} (ha : a < 2 ^ n) (hb : b < 2 ^ n) : a ||| b < 2 ^ n := Nat.or_lt_two_pow ha hb
theorem c_findSeat_l1 {d : Nat} {L : am_LT} {Q : am_QT} {v : am_V} {t p : Nat} {l7 : Option Value} (ht : t < vT v) (hp : p < vP v) : ∀ (j k : Nat) (F : am_FT) (l6 : Option Value), k + j = 12 → CV F v → (∀ G, SB F G → ∀ l6', wt am_S0 (d + 8) mX9_findSeat 104 [some (.ref 12), some (.int (nI t)), some (.int (nI p)), some (.int (nI (bs (svi v t p) 12))), some (.int (nI (bs (svo v t p) 12))), some (.int (nI 12)), l6', l7] [] G L Q) → wt am_S0 (d + 8) mX9_findSeat 8 [some (.ref 12), some (.int (nI t)), some (.int (nI p)), some (.int (nI (bs (svi v t p) k))), some (.int (nI (bs (svo v t p) k))), some (.int (nI k)), l6, l7] [] F L Q := by
  intro j
  induction j with
  | zero =>
    intro k F l6 hk h hq
    have : k = 12 := by omega
    subst this
    rw [kX9_findSeat_8, if_pos (by decide)]
    exact hq F (SB_rf F) l6
  | succ j ih =>
    intro k F l6 hk h hq
    have hP := h.2.1.2.1
    have hw := wsh_lt h.2.1 t
    have hc := csit_lt h.2.1 t k
    have hn : ndf (csit v t k) (2 ^ p) < 1024 := ndf_lt (n := 10) hc
    have h2p : 2 ^ p < 1024 := Nat.pow_lt_pow_right (m := p) (n := 10) (by decide) (by omega)
    rw [kX9_findSeat_8, if_neg (show ¬ (12 : Int32) ≤ nI k from nI_ge (b := 12) (by omega) (by decide)), kX9_findSeat_15]
    apply c_open h ht (by omega)
    intro G g1 g2
    have hG := SB_CV g1 h
    simp only [Option.toList_some, Option.toList_none, List.cons_append, List.nil_append]
    rw [kX9_findSeat_25, g2.2.1, nI_sh p (by omega), nI_ndf, kX9_findSeat_49, nI_or, g2.2.2.1]
    apply c_passes hG g2 (or_lt (n := 10) hn h2p) hw
    intro H h1 h2
    have hH := SB_CV h1 hG
    have e1 : bs (svi v t p) (k + 1) = if svi v t p k = true then bs (svi v t p) k ||| 2 ^ k else bs (svi v t p) k := rfl
    have e2 : bs (svo v t p) (k + 1) = if svo v t p k = true then bs (svo v t p) k ||| 2 ^ k else bs (svo v t p) k := rfl
    simp only [Option.toList_some, Option.toList_none, List.cons_append, List.nil_append]
    rw [kX9_findSeat_60]
    have second : ∀ x3 : Nat, bs (svi v t p) (k + 1) = x3 → wt am_S0 (d + 8) mX9_findSeat 70 [some (.ref 12), some (.int (nI t)), some (.int (nI p)), some (.int (nI x3)), some (.int (nI (bs (svo v t p) k))), some (.int (nI k)), some (.int (nI (ndf (csit v t k) (2 ^ p)))), l7] [] H L Q := by
      intro x3 hx3
      subst hx3
      rw [kX9_findSeat_70, h2.2.2.1]
      apply c_passes hH h2 hn hw
      intro K k1 k2
      have ih1 := ih (k + 1) K (some (.int (nI (ndf (csit v t k) (2 ^ p))))) (by omega) (SB_CV k1 hH) fun M m1 => hq M (SB_tr g1 (SB_tr h1 (SB_tr k1 m1)))
      simp only [Option.toList_some, Option.toList_none, List.cons_append, List.nil_append]
      rw [kX9_findSeat_86]
      unfold svo at e2
      cases hs : (vS v t && pas v t k (vN v 1 t) (ndf (csit v t k) (2 ^ p)) (wsh v t))
      · rw [if_neg (by decide), kX9_findSeat_89, kX9_findSeat_98, nI_1, nI_sh k (by omega), nI_or]
        rw [hs] at e2
        rw [show bs (svo v t p) k ||| 2 ^ k = bs (svo v t p) (k + 1) from e2.symm]
        exact ih1
      · rw [if_pos bIt, kX9_findSeat_98, nI_1]
        rw [hs] at e2
        rw [show bs (svo v t p) k = bs (svo v t p) (k + 1) from e2.symm]
        exact ih1
    unfold svi at e1
    cases hs : (vS v t && pas v t k (vN v 1 t) (ndf (csit v t k) (2 ^ p) ||| 2 ^ p) (wsh v t))
    · rw [if_neg (by decide), kX9_findSeat_63, nI_sh k (by omega), nI_or]
      rw [hs] at e1
      exact second _ e1
    · rw [if_pos bIt]
      rw [hs] at e1
      exact second _ e1
theorem c_monthsOver_loop {d : Nat} {F : am_FT} {L : am_LT} {Q : am_QT} {v : am_V} (h : RLand (F 1) (F 2) v) (hv : wV v) {t c : Nat} (ht : t < vT v) (hc : c < 256) : ∀ (j k : Nat), k + j = 12 → wt am_S0 (d + 3) mX9_monthsOver 5 [some (.ref 12), some (.int (nI t)), some (.int (nI c)), some (.int (nI (bs (fun m => vS v t && shd v t m (vN v 1 t) c) k))), some (.int (nI k))] [] F L Q = Q (some (.int (nI (bs (fun m => vS v t && shd v t m (vN v 1 t) c) 12)))) F L := by
  intro j
  induction j with
  | zero =>
    intro k hk
    have : k = 12 := by omega
    subst this
    rw [kX9_monthsOver_5, if_pos (by decide), kX9_monthsOver_39]
  | succ j ih =>
    intro k hk
    rw [kX9_monthsOver_5, if_neg (show ¬ (12 : Int32) ≤ nI k from nI_ge (b := 12) (by omega) (by decide)), kX9_monthsOver_12, c_shades h hv ht (by omega) hc]
    have ih1 := ih (k + 1) (by omega)
    have e1 : bs (fun m => vS v t && shd v t m (vN v 1 t) c) (k + 1) = if (vS v t && shd v t k (vN v 1 t) c) = true then bs (fun m => vS v t && shd v t m (vN v 1 t) c) k ||| 2 ^ k else bs (fun m => vS v t && shd v t m (vN v 1 t) c) k := rfl
    simp only [Option.toList_some, Option.toList_none, List.cons_append, List.nil_append]
    rw [kX9_monthsOver_23]
    cases hb : (vS v t && shd v t k (vN v 1 t) c)
    · rw [if_pos bIf, kX9_monthsOver_33, nI_1]
      rw [e1, hb] at ih1
      exact ih1
    · rw [if_neg bIt, kX9_monthsOver_26, kX9_monthsOver_33, nI_1, nI_sh k (by omega), nI_or]
      rw [e1, hb] at ih1
      exact ih1
theorem c_monthsOver {d : Nat} {F : am_FT} {L : am_LT} {Q : am_QT} {v : am_V} (h : RLand (F 1) (F 2) v) (hv : wV v) {t c : Nat} (ht : t < vT v) (hc : c < 256) : wc am_S0 (d + 3) mX9_monthsOver [.ref 12, .int (nI t), .int (nI c)] F L Q = Q (some (.int (nI (bs (fun m => vS v t && shd v t m (vN v 1 t) c) 12)))) F L := by
  rw [eX9_monthsOver, kX9_monthsOver_0]
  exact c_monthsOver_loop h hv ht hc 12 0 rfl
theorem sav_pop (v : am_V) (t p c : Nat) : pop ((bs (fun m => vS v t && shd v t m (vN v 1 t) c) 12 &&& bs (svi v t p) 12) ||| (ndf (bs (svo v t p) 12) (bs (fun m => vS v t && shd v t m (vN v 1 t) c) 12) &&& 4095)) = sav v t p c := by
  unfold pop sav
  apply cnt_congr
  intro k hk
  unfold svb
  rw [Nat.testBit_or, Nat.testBit_and, Nat.testBit_and, ndf_bit, bs_bit, bs_bit, bs_bit, decide_eq_true hk, show (4095 : Nat) = 2 ^ 12 - 1 from rfl, Nat.testBit_two_pow_sub_one, decide_eq_true hk]
  cases (vS v t && shd v t k (vN v 1 t) c) <;> simp
theorem c_findSeat_l2 {d : Nat} {L : am_LT} {Q : am_QT} {v : am_V} (hv : wV v) {t p : Nat} (ht : t < vT v) : ∀ (j k : Nat) (F : am_FT) (l6 l7 : Option Value), k + j = 256 → RLand (F 1) (F 2) v → F 12 3 = agI (sav v t p) 0 (-1) k → F 12 4 = iI (mxI (sav v t p) (-1) k) → (∀ G : am_FT, (∀ q, q ≠ 12 → G q = F q) → G 12 3 = agI (sav v t p) 0 (-1) 256 → G 12 4 = iI (mxI (sav v t p) (-1) 256) → Q none G L) → wt am_S0 (d + 8) mX9_findSeat 117 [some (.ref 12), some (.int (nI t)), some (.int (nI p)), some (.int (nI (bs (svi v t p) 12))), some (.int (nI (bs (svo v t p) 12))), some (.int (nI k)), l6, l7] [] F L Q := by
  intro j
  induction j with
  | zero =>
    intro k F l6 l7 hk h h3 h4 hq
    have : k = 256 := by omega
    subst this
    rw [kX9_findSeat_117, if_pos (by decide), kX9_findSeat_182]
    exact hq F (fun _ _ => rfl) h3 h4
  | succ j ih =>
    intro k F l6 l7 hk h h3 h4 hq
    have hb := mxI_b (f := sav v t p) (m0 := -1) (B := 12) (by decide) (by decide) k fun i _ => cnt_le _ _
    have hs : sav v t p k ≤ 12 := cnt_le _ _
    have l1 : bs (fun m => vS v t && shd v t m (vN v 1 t) k) 12 < 4096 := bs_lt _ 12
    have l2 : bs (svi v t p) 12 < 4096 := bs_lt _ 12
    rw [kX9_findSeat_117, if_neg (show ¬ (256 : Int32) ≤ nI k from nI_ge (b := 256) (by omega) (by decide)), kX9_findSeat_125, c_monthsOver h hv ht (by omega)]
    simp only [Option.toList_some, Option.toList_none, List.cons_append, List.nil_append]
    rw [kX9_findSeat_132, nI_ndf', nI_and, show (4095 : Int32) = nI 4095 from rfl, nI_and, nI_or, s_bitCount (or_lt (n := 12) (Nat.lt_of_le_of_lt Nat.and_le_left l1) (Nat.lt_of_le_of_lt Nat.and_le_right (by decide)))]
    simp only [Option.toList_some, Option.toList_none, List.cons_append, List.nil_append]
    rw [kX9_findSeat_153, show ∀ s : Nat, cnt s.testBit 12 = pop s from fun _ => rfl, sav_pop, h4, iI_n (sav v t p k)]
    by_cases h1 : mxI (sav v t p) (-1) k < (sav v t p k : Int)
    · rw [if_neg (iI_leF h1 (by omega) (by omega) (by omega) (by omega)), kX9_findSeat_164, kX9_findSeat_176, nI_1]
      refine ih (k + 1) _ _ _ (by omega) ?_ ?_ ?_ ?_
      · rw [up_o (by decide), up_o (by decide), up_o (by decide), up_o (by decide)]; exact h
      · rw [up_s, agI_t h1]
      · rw [up_n (by decide), up_s, mxI_t h1]
      · intro G g1 g2 g3
        exact hq G (fun q hq => (g1 q hq).trans (by rw [up_o hq, up_o hq])) g2 g3
    · rw [if_pos (iI_leT (by omega) (by omega) (by omega) (by omega) (by omega)), kX9_findSeat_176, nI_1]
      exact ih (k + 1) F _ _ (by omega) h (by rw [agI_f h1]; exact h3) (by rw [mxI_f h1]; exact h4) hq
theorem c_findSeat {d : Nat} {F : am_FT} {L : am_LT} {Q : am_QT} {v : am_V} (h : CV F v) {t p : Nat} (ht : t < vT v) (hp : p < vP v) (hq : ∀ G, SQ F G → G 12 3 = agI (sav v t p) 0 (-1) 256 → G 12 4 = iI (mxI (sav v t p) (-1) 256) → Q none G L) : wc am_S0 (d + 8) mX9_findSeat [.ref 12, .int (nI t), .int (nI p)] F L Q := by
  rw [eX9_findSeat, kX9_findSeat_0]
  refine c_findSeat_l1 ht hp 12 0 F _ rfl h ?_
  intro G g1 l6
  rw [kX9_findSeat_104]
  have hG := SB_CV g1 h
  refine c_findSeat_l2 h.2.1 ht 256 0 _ _ _ rfl ?_ ?_ ?_ ?_
  · rw [up_o (by decide), up_o (by decide), up_o (by decide), up_o (by decide)]; exact hG.1
  · rw [up_n (by decide), up_s]; rfl
  · rw [up_s]; rfl
  · intro H h1 h2 h3
    apply hq H _ h2 h3
    refine SQ_tr (SB_SQ g1) ⟨fun q hq => ?_, ?_⟩
    · rw [h1 q (by omega), up_o (by omega), up_o (by omega)]
    · rw [h1 6 (by decide), up_o (by decide), up_o (by decide)]
