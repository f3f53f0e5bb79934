/-! ===== two sides that move by turns ===== -/
def anyP (f : Nat → Bool) : Nat → Nat → Bool
  | 0, _ => false
  | j + 1, k => if f k = true then true else anyP f j (k + 1)
/-- what comes of those who sit there, if j moves of n are left: P people, q at the end -/
def gvl (q : Nat → Bool) (P n : Nat) : Nat → Nat → Bool
  | 0, a => q a
  | j + 1, a => if (gvl q P n j a == decide ((n - (j + 1)) % 2 = 0) || anyP (fun p => gvl q P n j (a ^^^ 2 ^ p) == decide ((n - (j + 1)) % 2 = 0)) P 0) = true then decide ((n - (j + 1)) % 2 = 0) else !decide ((n - (j + 1)) % 2 = 0)
theorem anyP_t (f : Nat → Bool) : ∀ j k, anyP f j k = true ↔ ∃ i, k ≤ i ∧ i < k + j ∧ f i = true := by
  intro j
  induction j with
  | zero => intro k; exact ⟨fun h => Bool.noConfusion h, fun ⟨i, h1, h2, _⟩ => absurd h2 (by omega)⟩
  | succ j ih =>
    intro k
    have e : anyP f (j + 1) k = if f k = true then true else anyP f j (k + 1) := rfl
    rw [e]
    by_cases h : f k = true
    · rw [if_pos h]
      exact ⟨fun _ => ⟨k, Nat.le_refl _, by omega, h⟩, fun _ => rfl⟩
    · rw [if_neg h, ih (k + 1)]
      constructor
      · rintro ⟨i, h1, h2, h3⟩
        exact ⟨i, by omega, by omega, h3⟩
      · rintro ⟨i, h1, h2, h3⟩
        by_cases hi : i = k
        · subst hi; exact absurd h3 h
        · exact ⟨i, by omega, by omega, h3⟩
theorem c_bestOf_loop {d e : Nat} {F : am_FT} {L : am_LT} {Q : am_QT} {v : am_V} (h : F 1 2 = nI (vP v)) (hP : vP v ≤ 10) (he : am_S0[e]? = some (100, 1024, [])) {s : Nat} {w : Bool} {f : Nat → Bool} (hs : s < 2 ^ vP v) (hf : ∀ p, p < vP v → F e (s ^^^ 2 ^ p) = bI (f p)) : ∀ (j k : Nat), k + j = vP v → wt am_S0 (d + 1) mX4_bestOf 14 [some (.ref 16), some (.ref e), some (.int (nI s)), some (.int (bI w)), some (.int (nI k))] [] F L Q = Q (some (.int (bI (if anyP (fun p => f p == w) j k = true then w else !w)))) F L := by
  have h2 : 2 ^ vP v ≤ 1024 := two_le (k := 10) hP
  intro j
  induction j with
  | zero =>
    intro k hk
    have : k = vP v := by omega
    subst this
    rw [kX4_bestOf_14, h, if_pos (nI_le (Nat.le_refl _) (by omega)), kX4_bestOf_48, show (1 : Int32) - bI w = bI (!w) by cases w <;> decide]
    rfl
  | succ j ih =>
    intro k hk
    have h2p : 2 ^ k < 2 ^ vP v := Nat.pow_lt_pow_right (by decide) (by omega)
    have e1 : anyP (fun p => f p == w) (j + 1) k = if (f k == w) = true then true else anyP (fun p => f p == w) j (k + 1) := rfl
    rw [kX4_bestOf_14, h, if_neg (nI_ge (by omega) (by omega)), kX4_bestOf_26, nI_sh k (by omega), nI_xor, s_at he (by decide), rdA_n (Nat.lt_of_lt_of_le (xor_lt hs h2p) h2) (by decide), hf k (by omega)]
    simp only [Option.toList_some, Option.toList_none, List.cons_append, List.nil_append]
    rw [kX4_bestOf_36]
    by_cases hw : f k = w
    · rw [if_neg (by rw [hw]; exact fun hh => hh rfl), kX4_bestOf_40, show anyP (fun p => f p == w) (j + 1) k = true from if_pos (beq_iff_eq.mpr hw), if_pos rfl]
    · rw [if_pos (by rw [bI_inj]; exact hw), kX4_bestOf_42, nI_1, ih (k + 1) (by omega), show anyP (fun p => f p == w) (j + 1) k = anyP (fun p => f p == w) j (k + 1) from if_neg (fun hh => hw (beq_iff_eq.mp hh))]
theorem c_bestOf {d e : Nat} {F : am_FT} {L : am_LT} {Q : am_QT} {v : am_V} (h : F 1 2 = nI (vP v)) (hP : vP v ≤ 10) (he : am_S0[e]? = some (100, 1024, [])) {s : Nat} {w g : Bool} {f : Nat → Bool} (hs : s < 2 ^ vP v) (hg : F e s = bI g) (hf : ∀ p, p < vP v → F e (s ^^^ 2 ^ p) = bI (f p)) : wc am_S0 (d + 1) mX4_bestOf [.ref 16, .ref e, .int (nI s), .int (bI w)] F L Q = Q (some (.int (bI (if (g == w || anyP (fun p => f p == w) (vP v) 0) = true then w else !w)))) F L := by
  have h2 : 2 ^ vP v ≤ 1024 := two_le (k := 10) hP
  rw [eX4_bestOf, kX4_bestOf_0, s_at he (by decide), rdA_n (by omega) (by decide), hg]
  simp only [Option.toList_some, Option.toList_none, List.cons_append, List.nil_append]
  rw [kX4_bestOf_5]
  by_cases hw : g = w
  · rw [if_neg (by rw [hw]; exact fun hh => hh rfl), kX4_bestOf_9, hw, beq_self_eq_true, Bool.true_or, if_pos rfl]
  · rw [if_pos (by rw [bI_inj]; exact hw), kX4_bestOf_11, show (0 : Int32) = nI 0 from rfl, c_bestOf_loop h hP he hs hf (vP v) 0 (by omega), show (g == w) = false from beq_eq_false_iff_ne.mpr hw, Bool.false_or]
def lmv (f : Nat → Bool) (w : Bool) : Nat → Nat → Int32
  | 0, _ => 10
  | j + 1, k => if f k = w then nI k else lmv f w j (k + 1)
theorem c_leastMove_loop {d e : Nat} {F : am_FT} {L : am_LT} {Q : am_QT} {v : am_V} (h : F 1 2 = nI (vP v)) (hP : vP v ≤ 10) (he : am_S0[e]? = some (100, 1024, [])) {s : Nat} {w : Bool} {f : Nat → Bool} (hs : s < 2 ^ vP v) (hf : ∀ p, p < vP v → F e (s ^^^ 2 ^ p) = bI (f p)) : ∀ (j k : Nat), k + j = vP v → wt am_S0 (d + 1) mX4_leastMove 3 [some (.ref 16), some (.ref e), some (.int (nI s)), some (.int (bI w)), some (.int (nI k))] [] F L Q = Q (some (.int (lmv f w j k))) F L := by
  have h2 : 2 ^ vP v ≤ 1024 := two_le (k := 10) hP
  intro j
  induction j with
  | zero =>
    intro k hk
    have : k = vP v := by omega
    subst this
    rw [kX4_leastMove_3, h, if_pos (nI_le (Nat.le_refl _) (by omega)), kX4_leastMove_38]
    rfl
  | succ j ih =>
    intro k hk
    have h2p : 2 ^ k < 2 ^ vP v := Nat.pow_lt_pow_right (by decide) (by omega)
    have e1 : lmv f w (j + 1) k = if f k = w then nI k else lmv f w j (k + 1) := rfl
    rw [kX4_leastMove_3, h, if_neg (nI_ge (by omega) (by omega)), kX4_leastMove_15, nI_sh k (by omega), nI_xor, s_at he (by decide), rdA_n (Nat.lt_of_lt_of_le (xor_lt hs h2p) h2) (by decide), hf k (by omega)]
    simp only [Option.toList_some, Option.toList_none, List.cons_append, List.nil_append]
    rw [kX4_leastMove_25]
    by_cases hw : f k = w
    · rw [if_neg (by rw [hw]; exact fun hh => hh rfl), kX4_leastMove_29, e1, if_pos hw]
    · rw [if_pos (by rw [bI_inj]; exact hw), kX4_leastMove_32, nI_1, ih (k + 1) (by omega), e1, if_neg hw]
theorem cnt_flip (a p : Nat) : ∀ n, cnt (a ^^^ 2 ^ p).testBit n ≤ cnt a.testBit n + (if p < n then 1 else 0) := by
  intro n
  induction n with
  | zero => exact Nat.zero_le _
  | succ n ih =>
    have e1 : cnt (a ^^^ 2 ^ p).testBit (n + 1) = if (a ^^^ 2 ^ p).testBit n = true then cnt (a ^^^ 2 ^ p).testBit n + 1 else cnt (a ^^^ 2 ^ p).testBit n := rfl
    have e2 : cnt a.testBit (n + 1) = if a.testBit n = true then cnt a.testBit n + 1 else cnt a.testBit n := rfl
    by_cases hp : p = n
    · subst hp
      rw [if_neg (Nat.lt_irrefl _)] at ih
      have e3 : (a ^^^ 2 ^ p).testBit p = !(a.testBit p) := by
        rw [Nat.testBit_xor, Nat.testBit_two_pow, decide_eq_true rfl]
        cases a.testBit p <;> rfl
      rw [if_pos (Nat.lt_succ_self _), e1, e2, e3]
      cases a.testBit p
      · simp only [Bool.not_false, if_true, Bool.false_eq_true, if_false]; omega
      · simp only [Bool.not_true, if_true, Bool.false_eq_true, if_false]; omega
    · have e3 : (a ^^^ 2 ^ p).testBit n = a.testBit n := by
        rw [Nat.testBit_xor, Nat.testBit_two_pow, decide_eq_false hp, Bool.xor_false]
      have e4 : (if p < n + 1 then 1 else 0) = (if p < n then 1 else 0) := by
        by_cases hlt : p < n
        · rw [if_pos hlt, if_pos (by omega)]
        · rw [if_neg hlt, if_neg (by omega)]
      rw [e1, e2, e3, e4]
      cases a.testBit n
      · simp only [Bool.false_eq_true, if_false]; exact ih
      · simp only [if_true]; omega
theorem pop_flip (a p : Nat) : pop (a ^^^ 2 ^ p) ≤ pop a + 1 := by
  have h := cnt_flip a p 12
  unfold pop
  split at h <;> omega
theorem c_turn_l1 {d : Nat} {L : am_LT} {Q : am_QT} {v : am_V} {t m n : Nat} (ht : t < vT v) (hm : m < 12) (hn : n ≤ 4) {l1 l2 l9 : Option Value} : ∀ (j k : Nat) (F : am_FT), k + j = 2 ^ vP v → CV F v → BO F v t m (vN v 1 t) (vS v t) (csit v t m) → (∀ s, s < k → pop (s ^^^ csit v t m) ≤ n → F 14 s = bI (qq v t m s)) → (∀ G, SW F G → (∀ s, s < 2 ^ vP v → pop (s ^^^ csit v t m) ≤ n → G 14 s = bI (qq v t m s)) → wt am_S0 (d + 8) mX4_playTurns 100 [some (.ref 16), l1, l2, some (.int (nI n)), some (.int (nI (csit v t m))), some (.int (nI (2 ^ vP v))), some (.ref 14), some (.ref 15), some (.int (nI (2 ^ vP v))), l9] [] G L Q) → wt am_S0 (d + 8) mX4_playTurns 44 [some (.ref 16), l1, l2, some (.int (nI n)), some (.int (nI (csit v t m))), some (.int (nI (2 ^ vP v))), some (.ref 14), some (.ref 15), some (.int (nI k)), l9] [] F L Q := by
  intro j
  induction j with
  | zero =>
    intro k F hk h hb ha hq
    have h2 : 2 ^ vP v ≤ 1024 := two_le (k := 10) h.2.1.2.1
    have : k = 2 ^ vP v := by omega
    subst this
    rw [kX4_playTurns_44, if_pos (nI_le (Nat.le_refl _) (by omega))]
    exact hq F (SW_rf F) ha
  | succ j ih =>
    intro k F hk h hb ha hq
    have h2 : 2 ^ vP v ≤ 1024 := two_le (k := 10) h.2.1.2.1
    have hc := csit_lt h.2.1 t m
    have hx : k ^^^ csit v t m < 1024 := xor_lt (n := 10) (by omega) hc
    have hpx : pop (k ^^^ csit v t m) ≤ 10 := pop_le (n := 10) hx (by decide)
    rw [kX4_playTurns_44, if_neg (nI_ge (by omega) (by omega)), kX4_playTurns_51, nI_xor, s_bitCount (by omega)]
    simp only [Option.toList_some, Option.toList_none, List.cons_append, List.nil_append]
    rw [kX4_playTurns_59, show cnt (k ^^^ csit v t m).testBit 12 = pop (k ^^^ csit v t m) from rfl]
    by_cases hpn : pop (k ^^^ csit v t m) ≤ n
    · rw [if_neg (nI_nlt hpn (by omega)), kX4_playTurns_63, hb.2.2.1]
      apply c_passes h hb (by omega) (wsh_lt h.2.1 t)
      intro G g1 g2
      simp only [Option.toList_some, Option.toList_none, List.cons_append, List.nil_append]
      have fin : wt am_S0 (d + 8) mX4_playTurns 91 [some (.ref 16), l1, l2, some (.int (nI n)), some (.int (nI (csit v t m))), some (.int (nI (2 ^ vP v))), some (.ref 14), some (.ref 15), some (.int (nI k)), l9] [.int (bI (qq v t m k)), .int (nI k), .ref 14] G L Q := by
        rw [kX4_playTurns_91, s_lay (p := 14) (n := 1024) rfl (by decide), wrA_n (by omega) (by decide)]
        simp only [Option.toList_some, Option.toList_none, List.cons_append, List.nil_append]
        rw [kX4_playTurns_94, nI_1]
        have ho : ∀ q, q ≠ 14 → am_upF G 14 k (bI (qq v t m k)) q = G q := fun q hq => up_o hq
        have hw : SW F (am_upF G 14 k (bI (qq v t m k))) := SW_tr (SB_SW g1) (o14_SW ho)
        refine ih (k + 1) _ (by omega) (SW_CV hw h) (o14_BO ho g2) ?_ ?_
        · intro s hs hps
          by_cases hsk : s = k
          · subst hsk; rw [up_s]
          · rw [up_n hsk, g1.1 14 (by decide) (by decide) (by decide) (by decide) (by decide)]
            exact ha s (by omega) hps
        · intro H h1 h3
          exact hq H (SW_tr hw h1) h3
      rw [kX4_playTurns_83]
      unfold qq at fin
      cases hr : (vS v t && pas v t m (vN v 1 t) k (wsh v t))
      · rw [hr] at fin
        rw [if_pos bIf, kX4_playTurns_90]
        exact fin
      · rw [hr] at fin
        rw [if_neg bIt, kX4_playTurns_86]
        exact fin
    · rw [if_pos (nI_lt (by omega) (by omega)), kX4_playTurns_94, nI_1]
      refine ih (k + 1) F (by omega) h hb ?_ hq
      intro s hs hps
      by_cases hsk : s = k
      · subst hsk; exact absurd hps hpn
      · exact ha s (by omega) hps
theorem gvl_s (q : Nat → Bool) (P n j a : Nat) : gvl q P n (j + 1) a = if (gvl q P n j a == decide ((n - (j + 1)) % 2 = 0) || anyP (fun p => gvl q P n j (a ^^^ 2 ^ p) == decide ((n - (j + 1)) % 2 = 0)) P 0) = true then decide ((n - (j + 1)) % 2 = 0) else !decide ((n - (j + 1)) % 2 = 0) := rfl
/-- the two rows -/
def tw (e b : Nat) : Prop := (e = 14 ∧ b = 15) ∨ (e = 15 ∧ b = 14)
theorem tw_e {e b : Nat} (h : tw e b) : am_S0[e]? = some (100, 1024, []) := by rcases h with ⟨h, _⟩ | ⟨h, _⟩ <;> subst h <;> rfl
theorem tw_b {e b : Nat} (h : tw e b) : am_S0[b]? = some (100, 1024, []) := by rcases h with ⟨_, h⟩ | ⟨_, h⟩ <;> subst h <;> rfl
theorem c_turn_l3 {d e b : Nat} {L : am_LT} {Q : am_QT} {v : am_V} {q : Nat → Bool} {S n i : Nat} (hP : vP v ≤ 10) (hS : S < 2 ^ vP v) (he : tw e b) (hi : i < n) (hn : n ≤ 4) {l1 l2 l3 : Option Value} : ∀ (j k : Nat) (F : am_FT), k + j = 2 ^ vP v → F 1 2 = nI (vP v) → (∀ s, s < 2 ^ vP v → pop (s ^^^ S) ≤ n - i → F e s = bI (gvl q (vP v) n i s)) → (∀ s, s < k → pop (s ^^^ S) ≤ n - (i + 1) → F b s = bI (gvl q (vP v) n (i + 1) s)) → (∀ G : am_FT, (∀ p, p ≠ b → G p = F p) → (∀ s, s < 2 ^ vP v → pop (s ^^^ S) ≤ n - (i + 1) → G b s = bI (gvl q (vP v) n (i + 1) s)) → wt am_S0 (d + 2) mX4_playTurns 166 [some (.ref 16), l1, l2, l3, some (.int (nI S)), some (.int (nI (2 ^ vP v))), some (.ref e), some (.ref b), some (.int (nI (n - (i + 1)))), some (.int (nI (2 ^ vP v)))] [] G L Q) → wt am_S0 (d + 2) mX4_playTurns 113 [some (.ref 16), l1, l2, l3, some (.int (nI S)), some (.int (nI (2 ^ vP v))), some (.ref e), some (.ref b), some (.int (nI (n - (i + 1)))), some (.int (nI k))] [] F L Q := by
  have h2 : 2 ^ vP v ≤ 1024 := two_le (k := 10) hP
  have hne : e ≠ b := by rcases he with ⟨h, h'⟩ | ⟨h, h'⟩ <;> omega
  have hb1 : b ≠ 1 := by rcases he with ⟨_, h⟩ | ⟨_, h⟩ <;> omega
  intro j
  induction j with
  | zero =>
    intro k F hk hF ha hc hq
    have : k = 2 ^ vP v := by omega
    subst this
    rw [kX4_playTurns_113, if_pos (nI_le (Nat.le_refl _) (by omega))]
    exact hq F (fun _ _ => rfl) hc
  | succ j ih =>
    intro k F hk hF ha hc hq
    have hx : k ^^^ S < 1024 := xor_lt (n := 10) (by omega) (by omega)
    have hpx : pop (k ^^^ S) ≤ 10 := pop_le (n := 10) hx (by decide)
    rw [kX4_playTurns_113, if_neg (nI_ge (by omega) (by omega)), kX4_playTurns_120, nI_xor, s_bitCount (by omega)]
    simp only [Option.toList_some, Option.toList_none, List.cons_append, List.nil_append]
    rw [kX4_playTurns_128, show cnt (k ^^^ S).testBit 12 = pop (k ^^^ S) from rfl]
    by_cases hpn : pop (k ^^^ S) ≤ n - (i + 1)
    · rw [if_neg (nI_nlt hpn (by omega)), kX4_playTurns_133]
      have e3 : (nI (n - (i + 1)) - nI (n - (i + 1)) / 2 * 2 : Int32) = nI ((n - (i + 1)) % 2) := by
        simp (disch := omega) only [iI_n, iI_l, iI_neg, iI_add, iI_sub, iI_mul, iI_div, iI_lt, iI_le, iI_eq]
        congr 1
        omega
      have fin : ∀ w : Bool, decide ((n - (i + 1)) % 2 = 0) = w → wt am_S0 (d + 2) mX4_playTurns 154 [some (.ref 16), l1, l2, l3, some (.int (nI S)), some (.int (nI (2 ^ vP v))), some (.ref e), some (.ref b), some (.int (nI (n - (i + 1)))), some (.int (nI k))] [.int (bI w), .int (nI k), .ref e, .ref 16, .int (nI k), .ref b] F L Q := by
        intro w hw
        have hnb : ∀ p, p < vP v → F e (k ^^^ 2 ^ p) = bI (gvl q (vP v) n i (k ^^^ 2 ^ p)) := by
          intro p hp
          have hf := pop_flip (k ^^^ S) p
          apply ha _ (xor_lt (by omega) (Nat.pow_lt_pow_right (by decide) hp))
          rw [show k ^^^ 2 ^ p ^^^ S = k ^^^ S ^^^ 2 ^ p by rw [Nat.xor_assoc, Nat.xor_comm (2 ^ p) S, Nat.xor_assoc]]
          omega
        rw [kX4_playTurns_154, c_bestOf hF hP (tw_e he) (by omega) (ha k (by omega) (by omega)) hnb]
        have eg := gvl_s q (vP v) n i k
        rw [hw] at eg
        rw [← eg]
        simp only [Option.toList_some, Option.toList_none, List.cons_append, List.nil_append]
        rw [kX4_playTurns_157, s_lay (tw_b he) (by decide), wrA_n (by omega) (by decide)]
        simp only [Option.toList_some, Option.toList_none, List.cons_append, List.nil_append]
        rw [kX4_playTurns_160, nI_1]
        refine ih (k + 1) _ (by omega) ?_ ?_ ?_ ?_
        · rw [up_o (Ne.symm hb1)]; exact hF
        · intro s hs hps
          rw [up_o hne]; exact ha s hs hps
        · intro s hs hps
          by_cases hsk : s = k
          · subst hsk; rw [up_s]
          · rw [up_n hsk]; exact hc s (by omega) hps
        · intro G g1 g2
          exact hq G (fun p hp => (g1 p hp).trans (up_o hp)) g2
      rw [e3]
      by_cases h0 : (n - (i + 1)) % 2 = 0
      · rw [h0, if_neg (fun hh => hh nI_0), kX4_playTurns_149]
        exact fin true (decide_eq_true h0)
      · rw [if_pos (nI_ne0 (by omega) (by omega)), kX4_playTurns_153]
        exact fin false (decide_eq_false h0)
    · rw [if_pos (nI_lt (by omega) (by omega)), kX4_playTurns_160, nI_1]
      refine ih (k + 1) F (by omega) hF ha ?_ hq
      intro s hs hps
      by_cases hsk : s = k
      · subst hsk; exact absurd hps hpn
      · exact hc s (by omega) hps
theorem c_turn_l2 {d : Nat} {L : am_LT} {Q : am_QT} {v : am_V} {q : Nat → Bool} {S n : Nat} (hP : vP v ≤ 10) (hS : S < 2 ^ vP v) (hn : n ≤ 4) {l1 l2 l3 : Option Value} : ∀ (j i e b : Nat) (F : am_FT) (l9 : Option Value), i + 1 + j = n → tw e b → F 1 2 = nI (vP v) → (∀ s, s < 2 ^ vP v → pop (s ^^^ S) ≤ n - i → F e s = bI (gvl q (vP v) n i s)) → (∀ (G : am_FT) (e' b' : Nat) (l9' : Option Value), tw e' b' → (∀ p, p ≠ 14 → p ≠ 15 → G p = F p) → (∀ s, s < 2 ^ vP v → pop (s ^^^ S) ≤ 1 → G e' s = bI (gvl q (vP v) n (n - 1) s)) → wt am_S0 (d + 2) mX4_playTurns 184 [some (.ref 16), l1, l2, l3, some (.int (nI S)), some (.int (nI (2 ^ vP v))), some (.ref e'), some (.ref b'), some (.int (nI 0)), l9'] [] G L Q) → wt am_S0 (d + 2) mX4_playTurns 105 [some (.ref 16), l1, l2, l3, some (.int (nI S)), some (.int (nI (2 ^ vP v))), some (.ref e), some (.ref b), some (.int (nI (n - (i + 1)))), l9] [] F L Q := by
  have h2 : 2 ^ vP v ≤ 1024 := two_le (k := 10) hP
  intro j
  induction j with
  | zero =>
    intro i e b F l9 hi he hF ha hq
    have e0 : n - (i + 1) = 0 := by omega
    have e1 : n - 1 = i := by omega
    rw [kX4_playTurns_105, e0, if_pos (by decide)]
    apply hq F e b l9 he (fun _ _ _ => rfl)
    intro s hs hps
    rw [e1]
    exact ha s hs (by omega)
  | succ j ih =>
    intro i e b F l9 hi he hF ha hq
    rw [kX4_playTurns_105, if_neg (nI_nle (by omega) (by omega)), kX4_playTurns_110, show (0 : Int32) = nI 0 from rfl]
    refine c_turn_l3 hP hS he (by omega) hn (2 ^ vP v) 0 F (by omega) hF ha (fun s hs => absurd hs (by omega)) ?_
    intro G g1 g2
    have hb1 : (1 : Nat) ≠ b := by rcases he with ⟨_, h⟩ | ⟨_, h⟩ <;> omega
    rw [kX4_playTurns_166, show (nI (n - (i + 1)) + (-1) : Int32) = nI (n - (i + 1 + 1)) by
      simp (disch := omega) only [iI_n, iI_l, iI_neg, iI_add, iI_sub, iI_mul, iI_div, iI_lt, iI_le, iI_eq]
      congr 1
      omega]
    refine ih (i + 1) b e G _ (by omega) (he.elim (fun h => Or.inr ⟨h.2, h.1⟩) (fun h => Or.inl ⟨h.2, h.1⟩)) (by rw [g1 1 hb1]; exact hF) g2 ?_
    intro H e' b' l9' h1 h3 h4
    refine hq H e' b' l9' h1 (fun p p14 p15 => ?_) h4
    rw [h3 p p14 p15]
    exact g1 p (by rcases he with ⟨_, h⟩ | ⟨_, h⟩ <;> omega)
