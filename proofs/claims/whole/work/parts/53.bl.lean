/-! ===== the ballot of the class ===== -/
def bc1 (x : Int32) : Int32 := x - ((Int32.toUInt32 x >>> (Int32.toUInt32 1 &&& Int32.toUInt32 31)).toInt32 &&& 1431655765)
def bc2 (a : Int32) : Int32 := (a &&& 858993459) + ((Int32.toUInt32 a >>> (Int32.toUInt32 2 &&& Int32.toUInt32 31)).toInt32 &&& 858993459)
def bc3 (b : Int32) : Int32 := (b + (Int32.toUInt32 b >>> (Int32.toUInt32 4 &&& Int32.toUInt32 31)).toInt32) &&& 252645135
def bc4 (c : Int32) : Int32 := c + (Int32.toUInt32 c >>> (Int32.toUInt32 8 &&& Int32.toUInt32 31)).toInt32
def bc5 (e : Int32) : Int32 := (e + (Int32.toUInt32 e >>> (Int32.toUInt32 16 &&& Int32.toUInt32 31)).toInt32) &&& 63
theorem bc_all : ∀ a : Nat, a < 64 → ∀ b : Nat, b < 64 → bc5 (bc4 (bc3 (bc2 (bc1 (nI (64 * a + b)))))) = nI (cnt (64 * a + b).testBit 12) := by decide +kernel
theorem s_bitCount {d : Nat} {F : am_FT} {L : am_LT} {Q : am_QT} {s : Nat} (hs : s < 4096) : wc am_S0 d mJ6_bitCount_0f7a4 [.int (nI s)] F L Q = Q (some (.int (nI (cnt s.testBit 12)))) F L := by
  rw [eJ6_bitCount_0f7a4, kJ6_bitCount_0f7a4_0, kJ6_bitCount_0f7a4_22, kJ6_bitCount_0f7a4_41]
  have h := bc_all (s / 64) (by omega) (s % 64) (by omega)
  rw [show 64 * (s / 64) + s % 64 = s by omega] at h
  rw [← h]
  rfl
def pop (s : Nat) : Nat := cnt s.testBit 12
theorem pop_le {s n : Nat} (h : s < 2 ^ n) (hn : n ≤ 12) : pop s ≤ n := by
  have : ∀ j, cnt s.testBit (n + j) = cnt s.testBit n := by
    intro j
    induction j with
    | zero => rfl
    | succ j ih =>
      show (if s.testBit (n + j) = true then _ else _) = _
      rw [Nat.testBit_lt_two_pow (Nat.lt_of_lt_of_le h (Nat.pow_le_pow_right (by omega) (by omega)))]
      exact ih
  have h1 := this (12 - n)
  rw [show n + (12 - n) = 12 by omega] at h1
  unfold pop
  rw [h1]
  exact cnt_le _ _
def RLaw (len : Int32) (code : Nat → Int32) (val : Int32 → Int32 → Int32 → Int32 → Int32 → Int32 → Int32) : Prop := ∀ (d : Nat) (F : am_FT) (L : am_LT) (Q : am_QT), F 6 2 = len → F 7 = code → (∀ G : am_FT, (∀ p, p ≠ 8 → G p = F p) → Q (some (.int (val (F 6 3) (F 6 4) (F 6 5) (F 6 6) (F 6 7) (F 6 8)))) G L) → wc am_S0 (d + 4) mX6_value [.ref 6] F L Q
def CV (F : am_FT) (v : am_V) : Prop := RLand (F 1) (F 2) v ∧ wV v ∧ RLaw (F 6 2) (F 7) (vL v)
/-- what the ballot's work leaves as it was -/
def SB (F G : am_FT) : Prop := (∀ p, p ≠ 6 → p ≠ 8 → p ≠ 9 → p ≠ 10 → p ≠ 11 → G p = F p) ∧ G 6 2 = F 6 2
theorem SB_rf (F : am_FT) : SB F F := ⟨fun _ _ _ _ _ _ => rfl, rfl⟩
theorem SB_tr {F G H : am_FT} (h : SB F G) (k : SB G H) : SB F H := ⟨fun p a b c d e => (k.1 p a b c d e).trans (h.1 p a b c d e), k.2.trans h.2⟩
theorem SB_CV {F G : am_FT} {v : am_V} (h : SB F G) (k : CV F v) : CV G v := by
  unfold CV
  rw [h.1 1 (by decide) (by decide) (by decide) (by decide) (by decide), h.1 2 (by decide) (by decide) (by decide) (by decide) (by decide), h.1 7 (by decide) (by decide) (by decide) (by decide) (by decide), h.2]
  exact k
def clp (x : Int32) : Nat := if x < 0 then 0 else if 9 < x then 9 else x.toNatClampNeg
theorem iI_tn {z : Int} (h : 0 ≤ z) : iI z = nI z.toNat := by
  show iI z = iI ((z.toNat : Nat) : Int)
  congr 1
  omega
theorem clp_le (x : Int32) : clp x ≤ 9 := by
  obtain ⟨z, h1, h2, rfl⟩ := iI_ex x
  unfold clp
  simp (disch := omega) only [iI_n, iI_l, iI_neg, iI_add, iI_sub, iI_mul, iI_div, iI_lt, iI_le, iI_eq]
  split
  · omega
  · split
    · omega
    · rw [iI_tn (by omega), nI_clamp (by omega)]; omega
theorem clp_mm (x : Int32) : (if 0 < (if x < 9 then x else 9) then (if x < 9 then x else 9) else 0) = nI (clp x) := by
  obtain ⟨z, h1, h2, rfl⟩ := iI_ex x
  unfold clp
  simp (disch := omega) only [iI_n, iI_l, iI_neg, iI_add, iI_sub, iI_mul, iI_div, iI_lt, iI_le, iI_eq]
  by_cases h3 : z < 0
  · rw [if_pos h3, if_pos (show z < 9 by omega)]
    simp (disch := omega) only [iI_n, iI_l, iI_neg, iI_add, iI_sub, iI_mul, iI_div, iI_lt, iI_le, iI_eq]
    rw [if_neg (by omega)]; rfl
  · rw [if_neg h3]
    by_cases h4 : z < 9
    · simp only [if_pos h4, if_neg (show ¬ 9 < z by omega)]
      simp (disch := omega) only [iI_n, iI_l, iI_neg, iI_add, iI_sub, iI_mul, iI_div, iI_lt, iI_le, iI_eq]
      by_cases h5 : 0 < z
      · rw [if_pos h5, iI_tn (by omega), nI_clamp (by omega)]
        rfl
      · rw [if_neg h5, show z = 0 by omega]; rfl
    · rw [if_neg h4]
      simp (disch := omega) only [iI_n, iI_l, iI_neg, iI_add, iI_sub, iI_mul, iI_div, iI_lt, iI_le, iI_eq]
      rw [if_pos (by omega)]
      by_cases h5 : 9 < z
      · rw [if_pos h5]; rfl
      · rw [if_neg h5, show z = 9 by omega]; rfl
def wor (v : am_V) (t m h p n : Nat) : Nat := clp (vL v (nI (vN v 6 p)) (nI h) (nI m) (nI n) (nI t) (nI p))
theorem wor_le (v : am_V) (t m h p n : Nat) : wor v t m h p n ≤ 9 := clp_le _
/-- the ballot is open on a tree, a month, a height; whether it stands, who sits -/
def BO (F : am_FT) (v : am_V) (t m h : Nat) (st : Bool) (S : Nat) : Prop := F 9 4 = bI st ∧ F 9 5 = nI S ∧ F 9 6 = nI (wsh v t) ∧ F 6 7 = nI t ∧ F 6 5 = nI m ∧ F 6 4 = nI h ∧ ∀ n, n < 11 → ∃ kn, F 11 n = nI kn ∧ kn < 1024 ∧ ∀ p, p < vP v → kn.testBit p = true → F 10 (10 * n + p) = nI (wor v t m h p n)
theorem rdA_n {F : am_FT} {p n i : Nat} (hi : i < n) (hn : n < 2 ^ 31) : rdA F p n (nI i) = F p i := by
  unfold rdA
  rw [if_neg (nI_pos (by omega)), if_neg (show ¬ Int32.ofNat n ≤ nI i from nI_ge hi hn), nI_clamp (by omega)]
theorem wrA_n {F : am_FT} {p n i : Nat} {x : Int32} (hi : i < n) (hn : n < 2 ^ 31) : wrA F p n (nI i) x = am_upF F p i x := by
  unfold wrA
  rw [if_neg (nI_pos (by omega)), if_neg (show ¬ Int32.ofNat n ≤ nI i from nI_ge hi hn), nI_clamp (by omega)]
theorem up_s {F : am_FT} {p k : Nat} {x : Int32} : am_upF F p k x p k = x := by simp [am_upF, upd]
theorem up_n {F : am_FT} {p k j : Nat} {x : Int32} (h : j ≠ k) : am_upF F p k x p j = F p j := by simp [am_upF, upd, h]
theorem up_o {F : am_FT} {p q k : Nat} {x : Int32} (h : q ≠ p) : am_upF F p k x q = F q := by simp [am_upF, h]
theorem c_worthOf {d : Nat} {F : am_FT} {L : am_LT} {Q : am_QT} {v : am_V} (h : CV F v) {t m hh S : Nat} {st : Bool} (hb : BO F v t m hh st S) {p n : Nat} (hp : p < vP v) (hn : n < 11) (hq : ∀ G, SB F G → BO G v t m hh st S → Q (some (.int (nI (wor v t m hh p n)))) G L) : wc am_S0 (d + 5) mX0_worthOf [.ref 9, .int (nI p), .int (nI n)] F L Q := by
  have hP := h.2.1.2.1
  obtain ⟨b1, b2, b3, b4, b5, b6, b7⟩ := hb
  obtain ⟨kn, k1, k2, k3⟩ := b7 n hn
  have e1 : (nI n * 10 + nI p : Int32) = nI (10 * n + p) := by
    rw [iI_l, iI_n, iI_n, iI_n, iI_mul, iI_add]; congr 1; omega
  rw [eX0_worthOf, kX0_worthOf_0, s_at (p := 11) (n := 11) rfl (by decide), rdA_n (by omega) (by decide), k1, e1]
  simp only [Option.toList_some, Option.toList_none, List.cons_append, List.nil_append]
  rw [kX0_worthOf_15, s_holds, bit_b (by omega) (by omega)]
  simp only [Option.toList_some, Option.toList_none, List.cons_append, List.nil_append]
  rw [kX0_worthOf_19]
  cases hk : kn.testBit p
  · rw [if_neg (by decide), kX0_worthOf_22, s_read, ld6 h.1 h.2.1 (n := p) hp]
    simp only [Option.toList_some, Option.toList_none, List.cons_append, List.nil_append]
    rw [kX0_worthOf_37, eX6_nameVoter, kX6_nameVoter_0]
    simp only [Option.toList_some, Option.toList_none, List.cons_append, List.nil_append]
    rw [kX0_worthOf_41]
    apply h.2.2
    · rfl
    · rfl
    intro G hG
    have g6 : G 6 = _ := hG 6 (by decide)
    have g9 : G 9 = F 9 := hG 9 (by decide)
    have g10 : G 10 = F 10 := hG 10 (by decide)
    have g11 : G 11 = F 11 := hG 11 (by decide)
    simp only [Option.toList_some, Option.toList_none, List.cons_append, List.nil_append]
    rw [kX0_worthOf_56, s_lay (p := 10) (n := 110) rfl (by decide), wrA_n (by omega) (by decide), clp_mm]
    simp only [Option.toList_some, Option.toList_none, List.cons_append, List.nil_append]
    rw [kX0_worthOf_65, s_at (p := 11) (n := 11) rfl (by decide), rdA_n (by omega) (by decide)]
    simp only [Option.toList_some, Option.toList_none, List.cons_append, List.nil_append]
    rw [kX0_worthOf_78, s_lay (p := 11) (n := 11) rfl (by decide), wrA_n (by omega) (by decide)]
    simp only [Option.toList_some, Option.toList_none, List.cons_append, List.nil_append]
    rw [kX0_worthOf_85, s_at (p := 10) (n := 110) rfl (by decide), rdA_n (by omega) (by decide)]
    simp only [Option.toList_some, Option.toList_none, List.cons_append, List.nil_append]
    rw [kX0_worthOf_93, up_o (by decide), up_s]
    have ew : clp (vL v (am_upF (am_upF (am_upF F 6 8 (nI p)) 6 3 (nI (vN v 6 p))) 6 6 (nI n) 6 3) (am_upF (am_upF (am_upF F 6 8 (nI p)) 6 3 (nI (vN v 6 p))) 6 6 (nI n) 6 4) (am_upF (am_upF (am_upF F 6 8 (nI p)) 6 3 (nI (vN v 6 p))) 6 6 (nI n) 6 5) (am_upF (am_upF (am_upF F 6 8 (nI p)) 6 3 (nI (vN v 6 p))) 6 6 (nI n) 6 6) (am_upF (am_upF (am_upF F 6 8 (nI p)) 6 3 (nI (vN v 6 p))) 6 6 (nI n) 6 7) (am_upF (am_upF (am_upF F 6 8 (nI p)) 6 3 (nI (vN v 6 p))) 6 6 (nI n) 6 8)) = wor v t m hh p n := by
      unfold wor
      rw [up_n (by decide), up_s, up_n (j := 4) (by decide), up_n (j := 4) (by decide), up_n (j := 4) (by decide), b6, up_n (j := 5) (by decide), up_n (j := 5) (by decide), up_n (j := 5) (by decide), b5, up_s, up_n (j := 7) (by decide), up_n (j := 7) (by decide), up_n (j := 7) (by decide), b4, up_n (j := 8) (by decide), up_n (j := 8) (by decide), up_s]
    rw [ew]
    apply hq
    · refine ⟨fun q q6 q8 q9 q10 q11 => ?_, ?_⟩
      · rw [up_o q11, up_o q10, hG q q8, up_o q6, up_o q6, up_o q6]
      · rw [up_o (by decide), up_o (by decide), g6, up_n (by decide), up_n (by decide), up_n (by decide)]
    · refine ⟨?_, ?_, ?_, ?_, ?_, ?_, ?_⟩
      · rw [up_o (by decide), up_o (by decide), g9]; exact b1
      · rw [up_o (by decide), up_o (by decide), g9]; exact b2
      · rw [up_o (by decide), up_o (by decide), g9]; exact b3
      · rw [up_o (by decide), up_o (by decide), g6, up_n (by decide), up_n (by decide), up_n (by decide)]; exact b4
      · rw [up_o (by decide), up_o (by decide), g6, up_n (by decide), up_n (by decide), up_n (by decide)]; exact b5
      · rw [up_o (by decide), up_o (by decide), g6, up_n (by decide), up_n (by decide), up_n (by decide)]; exact b6
      · intro n' hn'
        by_cases hnn : n' = n
        · subst hnn
          refine ⟨kn ||| 2 ^ p, ?_, ?_, ?_⟩
          · rw [up_s, up_o (by decide), g11, k1, nI_sh p (by omega), nI_or]
          · exact Nat.or_lt_two_pow (n := 10) k2 (Nat.pow_lt_pow_right (by decide) (by omega))
          · intro p' hp' hb'
            rw [up_o (by decide)]
            by_cases hpp : p' = p
            · subst hpp
              rw [up_s]
            · rw [up_n (by omega), g10]
              apply k3 p' hp'
              rw [Nat.testBit_or, Nat.testBit_two_pow, decide_eq_false (fun e => hpp e.symm), Bool.or_false] at hb'
              exact hb'
        · obtain ⟨kn', j1, j2, j3⟩ := b7 n' hn'
          refine ⟨kn', ?_, j2, ?_⟩
          · rw [up_n hnn, up_o (by decide), g11, j1]
          · intro p' hp' hb'
            rw [up_o (by decide), up_n (by omega), g10]
            exact j3 p' hp' hb'
  · rw [if_pos (by decide), kX0_worthOf_85, s_at (p := 10) (n := 110) rfl (by decide), rdA_n (by omega) (by decide)]
    simp only [Option.toList_some, Option.toList_none, List.cons_append, List.nil_append]
    rw [kX0_worthOf_93, k3 p hp hk]
    exact hq F (SB_rf F) ⟨b1, b2, b3, b4, b5, b6, b7⟩
/-! sums and falls -/
def pasA (v : am_V) (t m h a b n k : Nat) : Nat := sm (fun p => if (a.testBit p && b.testBit p) = true then wor v t m h p n else 0) k
def pasB (v : am_V) (t m h a b n k : Nat) : Nat := sm (fun p => if (a.testBit p && !(b.testBit p)) = true then wor v t m h p n else 0) k
/-- whether it falls, if those are there and those wish it -/
def pas (v : am_V) (t m h a b : Nat) : Bool := decide (pasB v t m h a b (pop a) (vP v) < pasA v t m h a b (pop a) (vP v))
def sfm (v : am_V) (t m h S a : Nat) : Nat := pasA v t m h a S (pop S) (vP v)
theorem pasA_le (v : am_V) (t m h a b n k : Nat) : pasA v t m h a b n k ≤ 9 * k := sm_le fun p _ => by
  split
  · exact wor_le v t m h p n
  · omega
theorem pasB_le (v : am_V) (t m h a b n k : Nat) : pasB v t m h a b n k ≤ 9 * k := sm_le fun p _ => by
  split
  · exact wor_le v t m h p n
  · omega
theorem c_sumOf_loop {d : Nat} {L : am_LT} {Q : am_QT} {v : am_V} {t m hh S a n : Nat} {st : Bool} (ha : a < 1024) (hn : n < 11) : ∀ (j k : Nat) (F : am_FT), k + j = vP v → CV F v → BO F v t m hh st S → (∀ G, SB F G → BO G v t m hh st S → Q (some (.int (nI (pasA v t m hh a S n (vP v))))) G L) → wt am_S0 (d + 6) mX0_sumOf 13 [some (.ref 9), some (.int (nI a)), some (.int (nI n)), some (.int (nI (pasA v t m hh a S n k))), some (.int (nI k))] [] F L Q := by
  intro j
  induction j with
  | zero =>
    intro k F hk h hb hq
    have hP := h.2.1.2.1
    have : k = vP v := by omega
    subst this
    rw [kX0_sumOf_13, h.1.2.1, if_pos (nI_le (Nat.le_refl _) (by omega)), kX0_sumOf_55]
    exact hq F (SB_rf F) hb
  | succ j ih =>
    intro k F hk h hb hq
    have hP := h.2.1.2.1
    have hl := pasA_le v t m hh a S n k
    rw [kX0_sumOf_13, h.1.2.1, if_neg (nI_ge (by omega) (by omega)), kX0_sumOf_25, hb.2.1, nI_and, s_holds, bit_b (Nat.lt_of_le_of_lt Nat.and_le_left (by omega)) (by omega), Nat.testBit_and]
    simp only [Option.toList_some, Option.toList_none, List.cons_append, List.nil_append]
    rw [kX0_sumOf_36]
    have es : pasA v t m hh a S n (k + 1) = pasA v t m hh a S n k + (if (a.testBit k && S.testBit k) = true then wor v t m hh k n else 0) := rfl
    cases hk2 : (a.testBit k && S.testBit k)
    · rw [if_pos bIf, kX0_sumOf_49, nI_1]
      rw [hk2, if_neg (by decide)] at es
      rw [show pasA v t m hh a S n k = pasA v t m hh a S n (k + 1) from es.symm]
      exact ih (k + 1) F (by omega) h hb hq
    · rw [if_neg bIt, kX0_sumOf_39]
      apply c_worthOf h hb (by omega) hn
      intro G g1 g2
      simp only [Option.toList_some, Option.toList_none, List.cons_append, List.nil_append]
      rw [kX0_sumOf_47, kX0_sumOf_49, nI_1]
      rw [hk2, if_pos rfl] at es
      rw [show (nI (pasA v t m hh a S n k) + nI (wor v t m hh k n) : Int32) = nI (pasA v t m hh a S n (k + 1)) by rw [es, iI_n, iI_n, iI_n, iI_add]; congr 1]
      exact ih (k + 1) G (by omega) (SB_CV g1 h) g2 fun H h1 h2 => hq H (SB_tr g1 h1) h2
theorem c_sumOf {d : Nat} {F : am_FT} {L : am_LT} {Q : am_QT} {v : am_V} (h : CV F v) {t m hh S a : Nat} {st : Bool} (hb : BO F v t m hh st S) (hS : S < 1024) (ha : a < 1024) (hq : ∀ G, SB F G → BO G v t m hh st S → Q (some (.int (nI (sfm v t m hh S a)))) G L) : wc am_S0 (d + 6) mX0_sumOf [.ref 9, .int (nI a)] F L Q := by
  rw [eX0_sumOf, kX0_sumOf_0, hb.2.1, s_bitCount (by omega)]
  simp only [Option.toList_some, Option.toList_none, List.cons_append, List.nil_append]
  rw [kX0_sumOf_7]
  exact c_sumOf_loop ha (Nat.lt_succ_of_le (pop_le (n := 10) hS (by decide))) (vP v) 0 F (by omega) h hb hq
theorem c_passes_loop {d : Nat} {L : am_LT} {Q : am_QT} {v : am_V} {t m hh S a b n : Nat} {st : Bool} (ha : a < 1024) (hbb : b < 1024) (hn : n < 11) : ∀ (j k : Nat) (F : am_FT) (l6 : Option Value), k + j = vP v → CV F v → BO F v t m hh st S → (∀ G, SB F G → BO G v t m hh st S → Q (some (.int (bI (decide (pasB v t m hh a b n (vP v) < pasA v t m hh a b n (vP v)))))) G L) → wt am_S0 (d + 6) mX0_passes 20 [some (.ref 9), some (.int (nI a)), some (.int (nI b)), some (.int (nI n)), some (.int (iI (pasA v t m hh a b n k - pasB v t m hh a b n k))), some (.int (nI k)), l6] [] F L Q := by
  intro j
  induction j with
  | zero =>
    intro k F l6 hk h hb hq
    have hP := h.2.1.2.1
    have : k = vP v := by omega
    subst this
    have l1 := pasA_le v t m hh a b n (vP v)
    have l2 := pasB_le v t m hh a b n (vP v)
    rw [kX0_passes_20, h.1.2.1, if_pos (nI_le (Nat.le_refl _) (by omega)), kX0_passes_81]
    have hq1 := hq F (SB_rf F) hb
    simp (disch := omega) only [iI_n, iI_l, iI_neg, iI_add, iI_sub, iI_mul, iI_div, iI_lt, iI_le, iI_eq]
    by_cases h1 : pasB v t m hh a b n (vP v) < pasA v t m hh a b n (vP v)
    · rw [if_neg (by omega), kX0_passes_86, kX0_passes_91 rfl]
      rw [decide_eq_true h1] at hq1
      exact hq1
    · rw [if_pos (by omega), kX0_passes_90, kX0_passes_91 rfl]
      rw [decide_eq_false h1] at hq1
      exact hq1
  | succ j ih =>
    intro k F l6 hk h hb hq
    have hP := h.2.1.2.1
    have eA : pasA v t m hh a b n (k + 1) = pasA v t m hh a b n k + (if (a.testBit k && b.testBit k) = true then wor v t m hh k n else 0) := rfl
    have eB : pasB v t m hh a b n (k + 1) = pasB v t m hh a b n k + (if (a.testBit k && !(b.testBit k)) = true then wor v t m hh k n else 0) := rfl
    rw [kX0_passes_20, h.1.2.1, if_neg (nI_ge (by omega) (by omega)), kX0_passes_32, s_holds, bit_b (by omega) (by omega)]
    simp only [Option.toList_some, Option.toList_none, List.cons_append, List.nil_append]
    rw [kX0_passes_38]
    cases h1 : a.testBit k
    · rw [if_neg (by decide), kX0_passes_41, kX0_passes_75, nI_1]
      rw [h1] at eA eB
      rw [show pasA v t m hh a b n k = pasA v t m hh a b n (k + 1) from eA.symm, show pasB v t m hh a b n k = pasB v t m hh a b n (k + 1) from eB.symm]
      exact ih (k + 1) F l6 (by omega) h hb hq
    · rw [if_pos bIt, kX0_passes_44]
      apply c_worthOf h hb (by omega) hn
      intro G g1 g2
      simp only [Option.toList_some, Option.toList_none, List.cons_append, List.nil_append]
      rw [kX0_passes_51, s_holds, bit_b (by omega) (by omega)]
      simp only [Option.toList_some, Option.toList_none, List.cons_append, List.nil_append]
      rw [kX0_passes_61]
      rw [h1] at eA eB
      cases h2 : b.testBit k
      · rw [if_pos bIf, kX0_passes_69, kX0_passes_72, kX0_passes_75, nI_1]
        rw [h2] at eA eB
        rw [show (iI (pasA v t m hh a b n k - pasB v t m hh a b n k) + -nI (wor v t m hh k n) : Int32) = iI (pasA v t m hh a b n (k + 1) - pasB v t m hh a b n (k + 1)) by
          rw [iI_n, iI_neg, iI_add]; congr 1; simp only [Bool.and_false, Bool.and_true, Bool.not_false, if_true] at eA eB; simp at eA; omega]
        exact ih (k + 1) G _ (by omega) (SB_CV g1 h) g2 fun H h1 h2 => hq H (SB_tr g1 h1) h2
      · rw [if_neg bIt, kX0_passes_64, kX0_passes_72, kX0_passes_75, nI_1]
        rw [h2] at eA eB
        rw [show (iI (pasA v t m hh a b n k - pasB v t m hh a b n k) + nI (wor v t m hh k n) : Int32) = iI (pasA v t m hh a b n (k + 1) - pasB v t m hh a b n (k + 1)) by
          rw [iI_n, iI_add]; congr 1; simp at eA eB; omega]
        exact ih (k + 1) G _ (by omega) (SB_CV g1 h) g2 fun H h1 h2 => hq H (SB_tr g1 h1) h2
theorem c_passes {d : Nat} {F : am_FT} {L : am_LT} {Q : am_QT} {v : am_V} (h : CV F v) {t m hh S a b : Nat} {st : Bool} (hb : BO F v t m hh st S) (ha : a < 1024) (hbb : b < 1024) (hq : ∀ G, SB F G → BO G v t m hh st S → Q (some (.int (bI (st && pas v t m hh a b)))) G L) : wc am_S0 (d + 6) mX0_passes [.ref 9, .int (nI a), .int (nI b)] F L Q := by
  rw [eX0_passes, kX0_passes_0, hb.1]
  cases st
  · rw [if_neg (by decide), kX0_passes_7]
    exact hq F (SB_rf F) hb
  · rw [if_pos bIt, kX0_passes_9, s_bitCount (by omega)]
    simp only [Option.toList_some, Option.toList_none, List.cons_append, List.nil_append]
    rw [kX0_passes_13]
    exact c_passes_loop ha hbb (Nat.lt_succ_of_le (pop_le (n := 10) ha (by decide))) (vP v) 0 F _ (by omega) h hb hq
