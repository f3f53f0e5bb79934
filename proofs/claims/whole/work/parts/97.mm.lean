/-! ===== the model's questions, 6: wishes, power ===== -/
def fstI (ok : Nat → Bool) (k : Nat) : Int32 := if cnt ok k = 0 then -2 else nI (lst ok k)
theorem crt_lt (ok : Nat → Bool) {a n : Nat} (h : a < 2 ^ n) : ∀ k, crt ok a k < 2 ^ n := by
  intro k
  induction k with
  | zero => exact h
  | succ k ih =>
    unfold crt
    split
    · exact Nat.lt_of_le_of_lt Nat.and_le_left ih
    · exact ih
def qWishes (v : am_V) (sh : am_Sh) (x y w : Int32) : Int32 := if ((inR x 6 && inR y (vT v)) && inR w 3) = true then (if sK sh x.toNatClampNeg = 0 then -11 else if sK sh x.toNatClampNeg = 51 then (if w = 0 then nI (fwO v y.toNatClampNeg (sE sh x.toNatClampNeg) (sM sh x.toNatClampNeg)).1 else if (fwO v y.toNatClampNeg (sE sh x.toNatClampNeg) (sM sh x.toNatClampNeg)).1 = 0 then (if w = 1 then -2 else 0) else if w = 1 then nI (fwO v y.toNatClampNeg (sE sh x.toNatClampNeg) (sM sh x.toNatClampNeg)).2.1 else nI (fwO v y.toNatClampNeg (sE sh x.toNatClampNeg) (sM sh x.toNatClampNeg)).2.2) else -12) else -1
theorem m_wishes_loop {dd d n t : Nat} {L : am_LT} {Q : am_QT} {v : am_V} {sh : am_Sh} {w : Int32} (hd : d < 6) (hn : sM sh d = n) (hn60 : n ≤ 60) (ht : t < vT v) (hq : ∀ G l7, MV G v → RSm G L sh → (∀ F, qM F G → qM F G) → wt am_S0 (dd + 50) mX12_wishes 114 [some (.ref 45), some (.int (nI d)), some (.int (nI t)), some (.int w), some (.int (nI (cnt (okW v t (sE sh d) n) (2 ^ vP v)))), some (.int (fstI (okW v t (sE sh d) n) (2 ^ vP v))), some (.int (nI (crt (okW v t (sE sh d) n) (2 ^ vP v - 1) (2 ^ vP v)))), l7] [] G L Q → wt am_S0 (dd + 50) mX12_wishes 114 [some (.ref 45), some (.int (nI d)), some (.int (nI t)), some (.int w), some (.int (nI (cnt (okW v t (sE sh d) n) (2 ^ vP v)))), some (.int (fstI (okW v t (sE sh d) n) (2 ^ vP v))), some (.int (nI (crt (okW v t (sE sh d) n) (2 ^ vP v - 1) (2 ^ vP v)))), l7] [] G L Q) : ∀ (j k : Nat) (F : am_FT), k + j = 2 ^ vP v → MV F v → RSm F L sh → (∀ G l7, qM F G → wt am_S0 (dd + 50) mX12_wishes 114 [some (.ref 45), some (.int (nI d)), some (.int (nI t)), some (.int w), some (.int (nI (cnt (okW v t (sE sh d) n) (2 ^ vP v)))), some (.int (fstI (okW v t (sE sh d) n) (2 ^ vP v))), some (.int (nI (crt (okW v t (sE sh d) n) (2 ^ vP v - 1) (2 ^ vP v)))), l7] [] G L Q) → wt am_S0 (dd + 50) mX12_wishes 62 [some (.ref 45), some (.int (nI d)), some (.int (nI t)), some (.int w), some (.int (nI (cnt (okW v t (sE sh d) n) k))), some (.int (fstI (okW v t (sE sh d) n) k)), some (.int (nI (crt (okW v t (sE sh d) n) (2 ^ vP v - 1) k))), some (.int (nI k))] [] F L Q := by
  clear hq
  intro j
  induction j with
  | zero =>
    intro k F hk h hr hq
    have hP := h.2.1.2.1
    have hN : 2 ^ vP v ≤ 1024 := two_le (k := 10) hP
    have hN1 : 1 ≤ 2 ^ vP v := Nat.one_le_two_pow
    have : k = 2 ^ vP v := by omega
    subst this
    rw [kX12_wishes_62, eX12_everybody, kX12_everybody_0, h.1.2.1, nI_2m1 _ (by omega)]
    simp only [Option.toList_some, Option.toList_none, List.cons_append, List.nil_append]
    rw [kX12_wishes_68, if_pos (nI_lt (by omega) (by omega))]
    exact hq F _ (qM_rf F)
  | succ j ih =>
    intro k F hk h hr hq
    have hP := h.2.1.2.1
    have hN : 2 ^ vP v ≤ 1024 := two_le (k := 10) hP
    rw [kX12_wishes_62, eX12_everybody, kX12_everybody_0, h.1.2.1, nI_2m1 _ (by omega)]
    simp only [Option.toList_some, Option.toList_none, List.cons_append, List.nil_append]
    rw [kX12_wishes_68, if_neg (nI_nlt (by omega) (by omega)), kX12_wishes_71]
    apply m_firstFalse hd hn hn60 ht (by omega) h hr
    intro G g1
    have ih1 := ih (k + 1) G (by omega) (qM_MV g1 h) (RSm_qM hr g1) fun H l7 h1 => hq H l7 (qM_tr g1 h1)
    have e1 : cnt (okW v t (sE sh d) n) (k + 1) = if okW v t (sE sh d) n k = true then cnt (okW v t (sE sh d) n) k + 1 else cnt (okW v t (sE sh d) n) k := rfl
    have e2 : lst (okW v t (sE sh d) n) (k + 1) = if (okW v t (sE sh d) n k && decide (cnt (okW v t (sE sh d) n) k = 0)) = true then k else lst (okW v t (sE sh d) n) k := rfl
    have e3 : crt (okW v t (sE sh d) n) (2 ^ vP v - 1) (k + 1) = if okW v t (sE sh d) n k = true then crt (okW v t (sE sh d) n) (2 ^ vP v - 1) k &&& k else crt (okW v t (sE sh d) n) (2 ^ vP v - 1) k := rfl
    have e4 : fstI (okW v t (sE sh d) n) (k + 1) = if cnt (okW v t (sE sh d) n) (k + 1) = 0 then -2 else nI (lst (okW v t (sE sh d) n) (k + 1)) := rfl
    have hcl := cnt_le (okW v t (sE sh d) n) k
    simp only [Option.toList_some, Option.toList_none, List.cons_append, List.nil_append]
    rw [kX12_wishes_79]
    by_cases hok : fww v t (sE sh d) n k ((n + 1) / 2) 0 = -2
    · have hk2 : okW v t (sE sh d) n k = true := decide_eq_true hok
      rw [hk2, if_pos rfl] at e1 e3
      rw [hk2, Bool.true_and] at e2
      rw [e1, if_neg (by omega), e2] at e4
      rw [e1, e3, e4] at ih1
      rw [if_neg (fun hh => hh hok), kX12_wishes_84]
      by_cases h0 : cnt (okW v t (sE sh d) n) k = 0
      · rw [decide_eq_true h0, if_pos rfl] at ih1
        rw [if_neg (fun hh => hh (by rw [h0]; rfl)), kX12_wishes_89, kX12_wishes_96, kX12_wishes_108, nI_1, nI_1, nI_and]
        exact ih1
      · rw [decide_eq_false h0, if_neg (by decide)] at ih1
        rw [if_pos (by rw [nI0' (by omega)]; exact h0), kX12_wishes_94, kX12_wishes_96, kX12_wishes_108, nI_1, nI_1, nI_and]
        rw [show fstI (okW v t (sE sh d) n) k = nI (lst (okW v t (sE sh d) n) k) from if_neg h0]
        exact ih1
    · have hk2 : okW v t (sE sh d) n k = false := decide_eq_false hok
      rw [hk2, if_neg (by decide)] at e1 e3
      rw [hk2, Bool.false_and, if_neg (by decide)] at e2
      rw [e1, e2] at e4
      rw [e1, e3, show fstI (okW v t (sE sh d) n) (k + 1) = fstI (okW v t (sE sh d) n) k from e4] at ih1
      rw [if_pos hok, kX12_wishes_108, nI_1]
      exact ih1
theorem m_wishes {d nb : Nat} {F : am_FT} {L : am_LT} {Q : am_QT} {v : am_V} {sh : am_Sh} {x y w : Int32} (h : MV F v) (hr : RSm F L sh) (hw : wS sh nb) (hq : ∀ G, qM F G → Q (some (.int (qWishes v sh x y w))) G L) : wc am_S0 (d + 50) mX12_wishes [.ref 45, .int x, .int y, .int w] F L Q := by
  have hT := h.2.1.1
  have hP := h.2.1.2.1
  have hN : 2 ^ vP v ≤ 1024 := two_le (k := 10) hP
  have hN1 : 1 ≤ 2 ^ vP v := Nat.one_le_two_pow
  unfold qWishes at hq
  rw [eX12_wishes, kX12_wishes_0, m_bytesIs hr hw]
  simp only [Option.toList_some, Option.toList_none, List.cons_append, List.nil_append]
  rw [kX12_wishes_5]
  cases hx : inR x 6
  · have e : bytI sh x = -1 := by
      unfold bytI
      rw [hx]; rfl
    rw [hx, Bool.false_and, Bool.false_and, if_neg (by decide)] at hq
    rw [if_pos e, kX12_wishes_30]
    exact hq F (qM_rf F)
  · rw [hx, Bool.true_and] at hq
    rw [if_neg (byt_ne hx), kX12_wishes_9, m_isTree h.1 h.2.1]
    simp only [Option.toList_some, Option.toList_none, List.cons_append, List.nil_append]
    rw [kX12_wishes_15]
    cases hy : inR y (vT v)
    · rw [hy, Bool.false_and, if_neg (by decide)] at hq
      rw [if_pos bIf, kX12_wishes_30]
      exact hq F (qM_rf F)
    · rw [hy, Bool.true_and] at hq
      rw [if_neg bIt, kX12_wishes_18, show (2 : Int64) = (nI 2).toInt64 from rfl, m_w (by decide)]
      simp only [Option.toList_some, Option.toList_none, List.cons_append, List.nil_append]
      rw [kX12_wishes_27]
      cases hw3 : inR w (2 + 1)
      · rw [show inR w 3 = false from hw3, if_neg (by decide)] at hq
        rw [if_neg (by decide), kX12_wishes_30]
        exact hq F (qM_rf F)
      · rw [show inR w 3 = true from hw3, if_pos rfl] at hq
        have eb : bytI sh x = if sK sh x.toNatClampNeg = 0 then -11 else if sK sh x.toNatClampNeg = 51 then 1 else -12 := by
          unfold bytI
          rw [hx, if_pos rfl]
        obtain ⟨k, k1, rfl⟩ := inR_ex hx (by decide)
        obtain ⟨t, t1, rfl⟩ := inR_ex hy (by omega)
        obtain ⟨u, u1, rfl⟩ := inR_ex hw3 (by decide)
        rw [nI_clamp (by omega)] at eb
        rw [nI_clamp (by omega), nI_clamp (by omega)] at hq
        rw [if_pos bIt, kX12_wishes_32, m_bytesIs hr hw, eb]
        simp only [Option.toList_some, Option.toList_none, List.cons_append, List.nil_append]
        rw [kX12_wishes_37]
        by_cases h0 : sK sh k = 0
        · rw [if_pos h0] at hq eb
          rw [if_pos h0, if_neg (by decide), kX12_wishes_40, m_bytesIs hr hw, eb]
          simp only [Option.toList_some, Option.toList_none, List.cons_append, List.nil_append]
          rw [kX12_wishes_45]
          exact hq F (qM_rf F)
        · rw [if_neg h0] at hq eb
          rw [if_neg h0]
          by_cases h51 : sK sh k = 51
          · rw [if_pos h51] at hq
            rw [if_pos h51, if_pos (by decide), kX12_wishes_46, eX12_everybody, kX12_everybody_0, h.1.2.1, nI_2m1 _ (by omega)]
            simp only [Option.toList_some, Option.toList_none, List.cons_append, List.nil_append]
            rw [kX12_wishes_57, show (some (.int 0) : Option Value) = some (.int (nI 0)) from rfl, show (some (.int (-2)) : Option Value) = some (.int (fstI (okW v t (sE sh k) (sM sh k)) 0)) from rfl]
            refine m_wishes_loop k1 rfl (hw k k1).2.1 t1 (fun _ _ _ _ _ z => z) (2 ^ vP v) 0 F (by omega) h hr ?_
            intro G l7 g1
            have hf := fwO_ok v t (sE sh k) (sM sh k) (hw k k1).2.1
            have hcl := cnt_le (okW v t (sE sh k) (sM sh k)) (2 ^ vP v)
            rw [hf.1] at hq
            have hq1 := hq G g1
            rw [kX12_wishes_114]
            rcases (by omega : u = 0 ∨ u = 1 ∨ u = 2) with rfl | rfl | rfl
            · rw [if_pos (by decide)] at hq1
              rw [if_neg (by decide), kX12_wishes_118, kX12_wishes_144]
              exact hq1
            · rw [if_neg (by decide), if_pos (show nI 1 = (1 : Int32) from rfl), if_pos (show nI 1 = (1 : Int32) from rfl)] at hq1
              rw [if_pos (by decide), kX12_wishes_123, if_neg (by decide), kX12_wishes_128, kX12_wishes_144]
              unfold fstI
              by_cases hc : cnt (okW v t (sE sh k) (sM sh k)) (2 ^ vP v) = 0
              · rw [if_pos hc] at hq1
                rw [if_pos hc]
                exact hq1
              · rw [if_neg hc, (hf.2 hc).1] at hq1
                rw [if_neg hc]
                exact hq1
            · rw [if_neg (by decide), if_neg (show ¬ nI 2 = (1 : Int32) by decide), if_neg (show ¬ nI 2 = (1 : Int32) by decide)] at hq1
              rw [if_pos (by decide), kX12_wishes_123, if_pos (by decide), kX12_wishes_133]
              by_cases hc : cnt (okW v t (sE sh k) (sM sh k)) (2 ^ vP v) = 0
              · rw [if_pos hc] at hq1
                rw [if_neg (fun hh => hh (by rw [hc]; rfl)), kX12_wishes_138, kX12_wishes_144]
                exact hq1
              · rw [if_neg hc, (hf.2 hc).2] at hq1
                rw [if_pos (by rw [nI0' (by omega)]; exact hc), kX12_wishes_142, kX12_wishes_144]
                exact hq1
          · rw [if_neg h51] at hq eb
            rw [if_neg h51, if_neg (by decide), kX12_wishes_40, m_bytesIs hr hw, eb]
            simp only [Option.toList_some, Option.toList_none, List.cons_append, List.nil_append]
            rw [kX12_wishes_45]
            exact hq F (qM_rf F)
/-! power -/
def lI (z : Int) : Int64 := Int64.ofInt z
theorem lI_toInt {z : Int} (h1 : -9223372036854775808 ≤ z) (h2 : z < 9223372036854775808) : (lI z).toInt = z := Int64.toInt_ofInt_of_le (by omega) (by omega)
theorem lI_add (a b : Int) : lI a + lI b = lI (a + b) := (Int64.ofInt_add a b).symm
theorem lI_sub (a b : Int) : lI a - lI b = lI (a - b) := (Int64.ofInt_sub a b).symm
theorem lI_mul (a b : Int) : lI a * lI b = lI (a * b) := (Int64.ofInt_mul a b).symm
theorem lI_div {a b : Int} (h1 : 0 ≤ a) (h2 : a < 2147483648) (h3 : 0 < b) (h4 : b < 2147483648) : lI a / lI b = lI (a / b) := by
  have e1 : Int64.minValue.toInt = -9223372036854775808 := by decide
  have e2 : Int64.maxValue.toInt = 9223372036854775807 := by decide
  have h := Int64.ofInt_tdiv (a := a) (b := b) (by omega) (by omega) (by omega) (by omega)
  unfold lI
  rw [← h, Int.tdiv_eq_ediv_of_nonneg h1]
theorem lI_inj {a b : Int} (h1 : -9223372036854775808 ≤ a) (h2 : a < 9223372036854775808) (h3 : -9223372036854775808 ≤ b) (h4 : b < 9223372036854775808) : (lI a = lI b) = (a = b) := propext (by rw [← Int64.toInt_inj, lI_toInt h1 h2, lI_toInt h3 h4])
theorem i2l_n {r : Nat} (h : r < 2 ^ 31) : (nI r).toInt64 = lI r := by
  rw [← Int64.toInt_inj, Int32.toInt_toInt64, nI_toInt h, lI_toInt (by omega) (by omega)]
theorem s_common_loop {d : Nat} {F : am_FT} {L : am_LT} {Q : am_QT} {l0 l1 l2 : Option Value} : ∀ (n a b : Nat) (l8 l9 : Option Value), b < n → a < 2 ^ 31 → b < 2 ^ 31 → wt am_S0 d mX12_common 6 [l0, l1, l2, none, some (.long (lI a)), none, some (.long (lI b)), none, l8, l9] [] F L Q = Q (some (.long (lI (Nat.gcd a b)))) F L := by
  intro n
  induction n with
  | zero => intro a b l8 l9 h; exact absurd h (by omega)
  | succ n ih =>
    intro a b l8 l9 hb ha hb2
    rw [kX12_common_6]
    by_cases h0 : b = 0
    · subst h0
      rw [if_pos (show lg_cmp (lI ((0 : Nat) : Int)) 0 = 0 from (lg_cmp_eq _ _).mpr rfl), kX12_common_31, Nat.gcd_zero_right]
    · have hne : ¬ lI b = 0 := by
        show ¬ lI b = lI 0
        rw [lI_inj (by omega) (by omega) (by omega) (by omega)]; omega
      have hm := Nat.mod_lt a (show b > 0 by omega)
      have e : lI a - lI a / lI b * lI b = lI ((a % b : Nat) : Int) := by
        rw [lI_div (by omega) (by omega) (by omega) (by omega), lI_mul, lI_sub]
        congr 1
        have := Int.emod_def (a : Int) (b : Int)
        rw [Int.natCast_emod, this, Int.mul_comm]
      rw [if_neg (fun hh => hne ((lg_cmp_eq _ _).mp hh)), kX12_common_13 hne, e, ih b (a % b) _ _ (by omega) (by omega) (by omega), Nat.gcd_comm a b, Nat.gcd_rec b a, Nat.gcd_comm]
theorem s_common {d a b : Nat} {F : am_FT} {L : am_LT} {Q : am_QT} (ha : a < 2 ^ 31) (hb : b < 2 ^ 31) : wc am_S0 d mX12_common [.long (lI a), .long (lI b)] F L Q = Q (some (.long (lI (Nat.gcd a b)))) F L := by
  rw [eX12_common, kX12_common_0]
  exact s_common_loop (b + 1) a b _ _ (by omega) ha hb
theorem hv_gcd : ∀ q, q < 11 → ∀ a, a < 1025 → a ≠ 0 → a ≤ 2 ^ q → hv 10 (a, 2 ^ q) = (a / Nat.gcd a (2 ^ q), 2 ^ q / Nat.gcd a (2 ^ q)) := by decide +kernel
theorem hv_0 : ∀ q, q < 11 → hv 10 (0, 2 ^ q) = (0, 1) := by decide +kernel
/-- how many sets of those of o -/
theorem subs_cnt (o : Nat) : ∀ P, cnt (fun y => decide (ndf y o = 0)) (2 ^ P) = 2 ^ cnt o.testBit P := by
  intro P
  induction P with
  | zero =>
    show (if decide (ndf 0 o = 0) = true then 0 + 1 else 0) = 1
    rw [decide_eq_true (show ndf 0 o = 0 by apply Nat.eq_of_testBit_eq; intro i; rw [ndf_bit, Nat.zero_testBit]; rfl)]
    rfl
  | succ P ih =>
    rw [Nat.pow_succ, Nat.mul_two, cnt_ad, ih]
    show _ = 2 ^ (if o.testBit P = true then cnt o.testBit P + 1 else cnt o.testBit P)
    have hb : ∀ y, y < 2 ^ P → (ndf (2 ^ P + y) o = 0 ↔ (ndf y o = 0 ∧ o.testBit P = true)) := by
      intro y hy
      have hbit : ∀ i, (2 ^ P + y).testBit i = (decide (i = P) || y.testBit i) := by
        intro i
        have e := Nat.two_pow_add_eq_or_of_lt hy 1
        rw [Nat.mul_one] at e
        rw [e, Nat.testBit_or, Nat.testBit_two_pow]
        congr 1
        exact decide_eq_decide.mpr ⟨fun h => h.symm, fun h => h.symm⟩
      constructor
      · intro h
        have hz : ∀ i, ((2 ^ P + y).testBit i && !o.testBit i) = false := fun i => by rw [← ndf_bit, h, Nat.zero_testBit]
        refine ⟨?_, ?_⟩
        · apply Nat.eq_of_testBit_eq
          intro i
          rw [ndf_bit, Nat.zero_testBit]
          have := hz i
          rw [hbit i] at this
          cases h1 : y.testBit i
          · rfl
          · rw [h1, Bool.or_true] at this; exact this
        · have := hz P
          rw [hbit P, decide_eq_true rfl, Bool.true_or, Bool.true_and] at this
          cases h1 : o.testBit P
          · rw [h1] at this; cases this
          · rfl
      · rintro ⟨h1, h2⟩
        apply Nat.eq_of_testBit_eq
        intro i
        rw [ndf_bit, Nat.zero_testBit, hbit i]
        have hz : (y.testBit i && !o.testBit i) = false := by rw [← ndf_bit, h1, Nat.zero_testBit]
        by_cases hi : i = P
        · subst hi
          rw [h2]
          rw [Bool.not_true, Bool.and_false]
        · rw [decide_eq_false hi, Bool.false_or]; exact hz
    by_cases h : o.testBit P = true
    · rw [if_pos h]
      have e : cnt (fun i => decide (ndf (2 ^ P + i) o = 0)) (2 ^ P) = cnt (fun y => decide (ndf y o = 0)) (2 ^ P) := by
        apply cnt_congr
        intro k hk
        show decide (ndf (2 ^ P + k) o = 0) = decide (ndf k o = 0)
        exact decide_eq_decide.mpr ⟨fun hh => ((hb k hk).mp hh).1, fun hh => (hb k hk).mpr ⟨hh, h⟩⟩
      rw [e, ih, Nat.pow_succ]
      omega
    · rw [if_neg h]
      have e : cnt (fun i => decide (ndf (2 ^ P + i) o = 0)) (2 ^ P) = 0 := by
        apply cnt_false
        intro k hk
        exact decide_eq_false fun hh => h ((hb k hk).mp hh).2
      rw [e]; rfl
theorem pop_P {o P : Nat} (h : o < 2 ^ P) (hP : P ≤ 12) : cnt o.testBit P = pop o := by
  unfold pop
  have : ∀ j, cnt o.testBit (P + j) = cnt o.testBit P := by
    intro j
    induction j with
    | zero => rfl
    | succ j ih =>
      show (if o.testBit (P + j) = true then _ else _) = _
      rw [Nat.testBit_lt_two_pow (Nat.lt_of_lt_of_le h (two_le (by omega)))]
      exact ih
  have h1 := this (12 - P)
  rw [show P + (12 - P) = 12 by omega] at h1
  exact h1.symm
def qPower (v : am_V) (x p w : Int32) : Int64 := if ((tmR v x && inR p (vP v)) && inR w 2) = true then (pwr v (tN x) (mN x) p.toNatClampNeg w).toInt64 else -9223372036854775808
theorem m_pow_loop {d t m p o : Nat} {L : am_LT} {Q : am_QT} {v : am_V} {x w : Int32} {l12 : Option Value} (hx : x - x / 100 * 100 = nI m) (ht : t < vT v) (hp : p < vP v) : ∀ (j k : Nat) (F : am_FT), k + j = 2 ^ vP v → MV F v → (∀ G, qM F G → wt am_S0 (d + 50) mX12_power 156 [some (.ref 45), some (.int x), some (.int (nI p)), some (.int w), some (.int (nI t)), some (.int (nI (csit v t m))), some (.int (nI o)), some (.long (lI (cnt (wyb v t m (csit v t m) p o) (2 ^ vP v)))), none, some (.long (lI (cnt (fun y => decide (ndf y o = 0)) (2 ^ vP v)))), none, some (.int (nI (2 ^ vP v))), l12] [] G L Q) → wt am_S0 (d + 50) mX12_power 80 [some (.ref 45), some (.int x), some (.int (nI p)), some (.int w), some (.int (nI t)), some (.int (nI (csit v t m))), some (.int (nI o)), some (.long (lI (cnt (wyb v t m (csit v t m) p o) k))), none, some (.long (lI (cnt (fun y => decide (ndf y o = 0)) k))), none, some (.int (nI k)), l12] [] F L Q := by
  intro j
  induction j with
  | zero =>
    intro k F hk h hq
    have hP := h.2.1.2.1
    have hN : 2 ^ vP v ≤ 1024 := two_le (k := 10) hP
    have hN1 : 1 ≤ 2 ^ vP v := Nat.one_le_two_pow
    have : k = 2 ^ vP v := by omega
    subst this
    rw [kX12_power_80, eX12_everybody, kX12_everybody_0, h.1.2.1, nI_2m1 _ (by omega)]
    simp only [Option.toList_some, Option.toList_none, List.cons_append, List.nil_append]
    rw [kX12_power_86, if_pos (nI_lt (by omega) (by omega))]
    exact hq F (qM_rf F)
  | succ j ih =>
    intro k F hk h hq
    have hP := h.2.1.2.1
    have hN : 2 ^ vP v ≤ 1024 := two_le (k := 10) hP
    have hc := csit_lt h.2.1 t m
    have h2p : 2 ^ p < 1024 := Nat.pow_lt_pow_right (m := p) (n := 10) (by decide) (by omega)
    have ih1 := fun G (g : qM F G) => ih (k + 1) G (by omega) (qM_MV g h) fun H h1 => hq H (qM_tr g h1)
    have e1 : cnt (wyb v t m (csit v t m) p o) (k + 1) = if wyb v t m (csit v t m) p o k = true then cnt (wyb v t m (csit v t m) p o) k + 1 else cnt (wyb v t m (csit v t m) p o) k := rfl
    have e2 : cnt (fun y => decide (ndf y o = 0)) (k + 1) = if decide (ndf k o = 0) = true then cnt (fun y => decide (ndf y o = 0)) k + 1 else cnt (fun y => decide (ndf y o = 0)) k := rfl
    have ew : wyb v t m (csit v t m) p o k = (decide (ndf k o = 0) && (pas v t m (vN v 1 t) (csit v t m) k != pas v t m (vN v 1 t) (csit v t m) (k ||| 2 ^ p))) := by
      unfold wyb
      rw [pas_sf, pas_sf]
    have hnl : ndf k o < 1024 := ndf_lt (n := 10) (by omega)
    rw [kX12_power_80, eX12_everybody, kX12_everybody_0, h.1.2.1, nI_2m1 _ (by omega)]
    simp only [Option.toList_some, Option.toList_none, List.cons_append, List.nil_append]
    rw [kX12_power_86, if_neg (nI_nlt (by omega) (by omega)), kX12_power_89, nI_ndf]
    by_cases h0 : ndf k o = 0
    · rw [decide_eq_true h0, Bool.true_and] at ew
      rw [decide_eq_true h0, if_pos rfl] at e2
      rw [if_neg (fun hh => hh (by rw [h0]; rfl)), kX12_power_99, hx]
      apply m_doesFall h ht hc (by omega)
      intro G g1
      simp only [Option.toList_some, Option.toList_none, List.cons_append, List.nil_append]
      rw [kX12_power_121, hx, nI_sh p (by omega), nI_or]
      apply m_doesFall (qM_MV g1 h) ht hc (or_lt (n := 10) (by omega) h2p)
      intro H h1
      have ih2 := ih1 H (qM_tr g1 h1)
      rw [e1, e2, ew] at ih2
      have l1 : ∀ a : Nat, lI (a : Int) + 1 = lI ((a + 1 : Nat) : Int) := fun a => lI_add a 1
      have l0 : ∀ a : Nat, lI (a : Int) + 0 = lI (a : Int) := fun a => by
        show lI (a : Int) + lI 0 = _
        rw [lI_add, Int.add_zero]
      simp only [Option.toList_some, Option.toList_none, List.cons_append, List.nil_append]
      rw [kX12_power_139]
      by_cases he : pas v t m (vN v 1 t) (csit v t m) k = pas v t m (vN v 1 t) (csit v t m) (k ||| 2 ^ p)
      · rw [show (pas v t m (vN v 1 t) (csit v t m) k != pas v t m (vN v 1 t) (csit v t m) (k ||| 2 ^ p)) = false by rw [he]; cases pas v t m (vN v 1 t) (csit v t m) (k ||| 2 ^ p) <;> rfl, if_neg (by decide)] at ih2
        rw [if_pos (by rw [he]), kX12_power_146, kX12_power_147, l0, l1, kX12_power_150, nI_1]
        exact ih2
      · rw [show (pas v t m (vN v 1 t) (csit v t m) k != pas v t m (vN v 1 t) (csit v t m) (k ||| 2 ^ p)) = true from bne_iff_ne.mpr he, if_pos rfl] at ih2
        rw [if_neg (by rw [bI_inj]; exact he), kX12_power_142, kX12_power_147, l1, l1, kX12_power_150, nI_1]
        exact ih2
    · rw [decide_eq_false h0, Bool.false_and] at ew
      rw [decide_eq_false h0, if_neg (by decide)] at e2
      have ih2 := ih1 F (qM_rf F)
      rw [e1, e2, ew, if_neg (by decide)] at ih2
      rw [if_pos (by rw [nI0' (by omega)]; exact h0), kX12_power_150, nI_1]
      exact ih2
theorem m_power {d : Nat} {F : am_FT} {L : am_LT} {Q : am_QT} {v : am_V} {x y w : Int32} (h : MV F v) (hq : ∀ G, qM F G → Q (some (.long (qPower v x y w))) G L) : wc am_S0 (d + 50) mX12_power [.ref 45, .int x, .int y, .int w] F L Q := by
  have hP := h.2.1.2.1
  have hN : 2 ^ vP v ≤ 1024 := two_le (k := 10) hP
  unfold qPower at hq
  rw [eX12_power, kX12_power_0, m_isTm h.1 h.2.1]
  simp only [Option.toList_some, Option.toList_none, List.cons_append, List.nil_append]
  rw [kX12_power_5]
  cases ht : tmR v x
  · rw [ht, Bool.false_and, Bool.false_and, if_neg (by decide)] at hq
    rw [if_pos bIf, kX12_power_27]
    exact hq F (qM_rf F)
  · obtain ⟨a1, a2, a3, a4⟩ := tm_ex h.2.1 ht
    rw [ht, Bool.true_and] at hq
    rw [if_neg bIt, kX12_power_8, m_isOne h.1 h.2.1]
    simp only [Option.toList_some, Option.toList_none, List.cons_append, List.nil_append]
    rw [kX12_power_14]
    cases hy : inR y (vP v)
    · rw [hy, Bool.false_and, if_neg (by decide)] at hq
      rw [if_pos bIf, kX12_power_27]
      exact hq F (qM_rf F)
    · rw [hy, Bool.true_and] at hq
      rw [if_neg bIt, kX12_power_17, show (1 : Int64) = (nI 1).toInt64 from rfl, m_w (by decide)]
      simp only [Option.toList_some, Option.toList_none, List.cons_append, List.nil_append]
      rw [kX12_power_24]
      cases hw : inR w (1 + 1)
      · rw [show inR w 2 = false from hw, if_neg (by decide)] at hq
        rw [if_neg (by decide), kX12_power_27]
        exact hq F (qM_rf F)
      · rw [show inR w 2 = true from hw, if_pos rfl] at hq
        obtain ⟨p, p1, rfl⟩ := inR_ex hy (by omega)
        obtain ⟨u, u1, rfl⟩ := inR_ex hw (by decide)
        have hc := csit_lt h.2.1 (tN x) (mN x)
        rw [nI_clamp (by omega)] at hq
        unfold pwr at hq
        rw [if_pos bIt, kX12_power_31, a3, a1, m_sittersNow h.1 h.2.1 a2 a4]
        simp only [Option.toList_some, Option.toList_none, List.cons_append, List.nil_append]
        rw [kX12_power_47, s_isIn (by omega) (by omega)]
        simp only [Option.toList_some, Option.toList_none, List.cons_append, List.nil_append]
        rw [kX12_power_55]
        cases hb : (csit v (tN x) (mN x)).testBit p
        · rw [hb, if_neg (by decide)] at hq
          rw [if_neg (by decide), kX12_power_58]
          exact hq F (qM_rf F)
        · rw [hb, if_pos rfl] at hq
          have hcP : csit v (tN x) (mN x) < 2 ^ vP v := by
            unfold csit
            split
            · exact bs_lt _ _
            · exact Nat.two_pow_pos _
          have hoP : ndf (csit v (tN x) (mN x)) (2 ^ p) < 2 ^ vP v := ndf_lt hcP
          have e0 : (0 : Int64) = lI ((0 : Nat) : Int) := rfl
          rw [if_pos bIt, kX12_power_61, nI_sh p (by omega), nI_ndf, e0, show (some (.int 0) : Option Value) = some (.int (nI 0)) from rfl]
          refine m_pow_loop a3 a2 p1 (2 ^ vP v) 0 F (by omega) h ?_
          intro G g1
          have hq1 := hq G g1
          have hsub := subs_cnt (ndf (csit v (tN x) (mN x)) (2 ^ p)) (vP v)
          rw [pop_P hoP (by omega)] at hsub
          have hpo := pop_le hoP (by omega : vP v ≤ 12)
          have hwl := cnt_le (wyb v (tN x) (mN x) (csit v (tN x) (mN x)) p (ndf (csit v (tN x) (mN x)) (2 ^ p))) (2 ^ vP v)
          have hws : cnt (wyb v (tN x) (mN x) (csit v (tN x) (mN x)) p (ndf (csit v (tN x) (mN x)) (2 ^ p))) (2 ^ vP v) ≤ 2 ^ pop (ndf (csit v (tN x) (mN x)) (2 ^ p)) := by
            rw [← hsub]
            have : ∀ n, cnt (wyb v (tN x) (mN x) (csit v (tN x) (mN x)) p (ndf (csit v (tN x) (mN x)) (2 ^ p))) n ≤ cnt (fun y => decide (ndf y (ndf (csit v (tN x) (mN x)) (2 ^ p)) = 0)) n := by
              intro n
              induction n with
              | zero => exact Nat.le_refl _
              | succ n ih =>
                unfold cnt
                by_cases hwy : wyb v (tN x) (mN x) (csit v (tN x) (mN x)) p (ndf (csit v (tN x) (mN x)) (2 ^ p)) n = true
                · have hwy2 := hwy
                  unfold wyb at hwy2
                  rw [Bool.and_eq_true] at hwy2
                  rw [if_pos hwy, if_pos hwy2.1]; omega
                · rw [if_neg hwy]; split <;> omega
            exact this _
          have hwys : wys v (tN x) (mN x) p = cnt (wyb v (tN x) (mN x) (csit v (tN x) (mN x)) p (ndf (csit v (tN x) (mN x)) (2 ^ p))) (2 ^ vP v) := rfl
          rw [hwys] at hq1
          have h2q : 2 ^ pop (ndf (csit v (tN x) (mN x)) (2 ^ p)) ≤ 1024 := two_le (k := 10) (by omega)
          have h2q0 : 1 ≤ 2 ^ pop (ndf (csit v (tN x) (mN x)) (2 ^ p)) := Nat.one_le_two_pow
          revert hq1 hws hwl
          rw [kX12_power_156, hsub]
          generalize cnt (wyb v (tN x) (mN x) (csit v (tN x) (mN x)) p (ndf (csit v (tN x) (mN x)) (2 ^ p))) (2 ^ vP v) = a
          intro hq1 hwl hws
          rw [s_common (by omega) (by omega)]
          simp only [Option.toList_some, Option.toList_none, List.cons_append, List.nil_append]
          rw [kX12_power_163]
          by_cases ha : a = 0
          · subst ha
            rw [hv_0 _ (by omega)] at hq1
            rw [if_neg (fun hh => hh ((lg_cmp_eq _ _).mpr rfl)), kX12_power_172, kX12_power_194]
            rcases (by omega : u = 0 ∨ u = 1) with rfl | rfl
            · exact hq1
            · exact hq1
          · have hg : 0 < Nat.gcd a (2 ^ pop (ndf (csit v (tN x) (mN x)) (2 ^ p))) := Nat.gcd_pos_of_pos_left _ (by omega)
            have hgl : Nat.gcd a (2 ^ pop (ndf (csit v (tN x) (mN x)) (2 ^ p))) ≤ 1024 := Nat.le_trans (Nat.gcd_le_left _ (by omega)) (by omega)
            have hne : ¬ lI (Nat.gcd a (2 ^ pop (ndf (csit v (tN x) (mN x)) (2 ^ p))) : Nat) = 0 := by
              show ¬ lI _ = lI 0
              rw [lI_inj (by omega) (by omega) (by omega) (by omega)]; omega
            rw [hv_gcd _ (by omega) a (by omega) ha hws] at hq1
            rw [if_pos (fun hh => ha (by
              have h3 := (lg_cmp_eq _ _).mp hh
              have h4 : lI (a : Int) = lI 0 := h3
              rw [lI_inj (by omega) (by omega) (by omega) (by omega)] at h4
              omega)), kX12_power_177]
            rcases (by omega : u = 0 ∨ u = 1) with rfl | rfl
            · rw [if_pos (by decide)] at hq1
              dsimp only at hq1
              have hdl : a / Nat.gcd a (2 ^ pop (ndf (csit v (tN x) (mN x)) (2 ^ p))) ≤ a := Nat.div_le_self _ _
              rw [i2l_n (by omega)] at hq1
              rw [if_neg (by decide), kX12_power_181 hne, kX12_power_194, lI_div (by omega) (by omega) (by omega) (by omega), ← Int.natCast_ediv]
              exact hq1
            · rw [if_neg (by decide)] at hq1
              dsimp only at hq1
              have hdl : 2 ^ pop (ndf (csit v (tN x) (mN x)) (2 ^ p)) / Nat.gcd a (2 ^ pop (ndf (csit v (tN x) (mN x)) (2 ^ p))) ≤ 2 ^ pop (ndf (csit v (tN x) (mN x)) (2 ^ p)) := Nat.div_le_self _ _
              rw [i2l_n (by omega)] at hq1
              rw [if_pos (by decide), kX12_power_189 hne, kX12_power_194, lI_div (by omega) (by omega) (by omega) (by omega), ← Int.natCast_ediv]
              exact hq1
