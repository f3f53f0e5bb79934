/-! ===== books: the wishers ===== -/
theorem c_twosOf {d p e n : Nat} {F : am_FT} {L : am_LT} {Q : am_QT} (h : shP p e) (hl : F p 2 = nI n) (hn : n ≤ 60) : wc am_S0 (d + 1) mX1_twosOf [.ref p] F L Q = Q (some (.int (nI ((n + 1) / 2)))) F L := by
  rw [eX1_twosOf, kX1_twosOf_0 h.1, s_size h, hl]
  simp only [Option.toList_some, Option.toList_none, List.cons_append, List.nil_append]
  rw [kX1_twosOf_4, nI_1, show (nI (n + 1) / 2 : Int32) = nI ((n + 1) / 2) by
    simp (disch := omega) only [iI_n, iI_l, iI_neg, iI_add, iI_sub, iI_mul, iI_div, iI_lt, iI_le, iI_eq]
    congr 1]
theorem c_firstWrong {d p e n t : Nat} {F : am_FT} {L : am_LT} {Q : am_QT} {v : am_V} (hs : shP p e) (hp : 18 ≤ p) (hn : n ≤ 60) (ht : t < vT v) (h : CV F v) (hl : F p 2 = nI n) (hq : ∀ G, SB F G → Q (some (.int (fwr v t (L e) n ((n + 1) / 2) 0))) G L) : wc am_S0 (d + 7) mX1_firstWrong [.ref 17, .ref p, .int (nI t)] F L Q := by
  rw [eX1_firstWrong, kX1_firstWrong_0, c_twosOf hs hl hn]
  simp only [Option.toList_some, Option.toList_none, List.cons_append, List.nil_append]
  rw [kX1_firstWrong_4]
  exact c_firstWrong_loop hs hp hn ht ((n + 1) / 2) 0 F _ (by omega) h hl hq
/-- the months of the first k twos in which it fell (w), or not -/
def mbt (el : Nat → Int64) (w : Bool) : Nat → Nat
  | 0 => 0
  | k + 1 => if decide (el (2 * k + 1) = 1) = w then mbt el w k ||| 2 ^ moN el k else mbt el w k
def rlc (v : am_V) (t fb sb m s : Nat) : Bool := (fb ||| sb).testBit m && (decide (sfm v t m (vN v 1 t) (cov v t m (vN v 1 t)) (cov v t m (vN v 1 t)) < 2 * sfm v t m (vN v 1 t) (cov v t m (vN v 1 t)) s) != fb.testBit m)
/-- whether the months below k rule a set of wishers out -/
def rul (v : am_V) (t fb sb s : Nat) : Nat → Bool
  | 0 => false
  | k + 1 => rul v t fb sb s k || rlc v t fb sb k s
theorem c_rule_l0 {d : Nat} {L : am_LT} {Q : am_QT} {v : am_V} {l1 l2 l6 l7 : Option Value} {x3 : Int32} (hP : vP v ≤ 10) : ∀ (j k : Nat) (F : am_FT), k + j = 2 ^ vP v → (∀ s, s < k → F 15 s = bI false) → (∀ G : am_FT, (∀ q, q ≠ 15 → G q = F q) → (∀ s, s < 2 ^ vP v → G 15 s = bI false) → wt am_S0 (d + 1) mX1_ruleOut 37 [some (.ref 17), l1, l2, some (.int x3), some (.int (nI (2 ^ vP v))), some (.int (nI (2 ^ vP v))), l6, l7] [] G L Q) → wt am_S0 (d + 1) mX1_ruleOut 14 [some (.ref 17), l1, l2, some (.int x3), some (.int (nI (2 ^ vP v))), some (.int (nI k)), l6, l7] [] F L Q := by
  have h2 : 2 ^ vP v ≤ 1024 := two_le (k := 10) hP
  intro j
  induction j with
  | zero =>
    intro k F hk ha hq
    have : k = 2 ^ vP v := by omega
    subst this
    rw [kX1_ruleOut_14, if_pos (nI_le (Nat.le_refl _) (by omega))]
    exact hq F (fun _ _ => rfl) ha
  | succ j ih =>
    intro k F hk ha hq
    rw [kX1_ruleOut_14, if_neg (nI_ge (by omega) (by omega)), kX1_ruleOut_21, s_lay (p := 15) (n := 1024) rfl (by decide), wrA_n (by omega) (by decide)]
    simp only [Option.toList_some, Option.toList_none, List.cons_append, List.nil_append]
    rw [kX1_ruleOut_31, nI_1]
    refine ih (k + 1) _ (by omega) ?_ ?_
    · intro s hs
      by_cases hsk : s = k
      · subst hsk; rw [up_s]; rfl
      · rw [up_n hsk]; exact ha s (by omega)
    · intro G g1 g2
      exact hq G (fun q hq => (g1 q hq).trans (up_o hq)) g2
theorem c_rule_l1 {d : Nat} {L : am_LT} {Q : am_QT} {v : am_V} (hv : wV v) {t m fb sb : Nat} (hm : m < 12) (hfb : fb < 4096) (hin : (fb ||| sb).testBit m = true) {a1 a3 : Option Value} : ∀ (j k : Nat) (F : am_FT), k + j = 2 ^ vP v → (∀ s, s < 2 ^ vP v → F 14 s = nI (sfm v t m (vN v 1 t) (cov v t m (vN v 1 t)) s)) → (∀ s, s < k → F 15 s = bI (rul v t fb sb s (m + 1))) → (∀ s, k ≤ s → s < 2 ^ vP v → F 15 s = bI (rul v t fb sb s m)) → (∀ G : am_FT, (∀ q, q ≠ 15 → G q = F q) → (∀ s, s < 2 ^ vP v → G 15 s = bI (rul v t fb sb s (m + 1))) → wt am_S0 (d + 1) mX1_ruleOut 163 [some (.ref 17), a1, some (.int (nI fb)), a3, some (.int (nI (2 ^ vP v))), some (.int (nI m)), some (.int (nI (sfm v t m (vN v 1 t) (cov v t m (vN v 1 t)) (cov v t m (vN v 1 t))))), some (.int (nI (2 ^ vP v)))] [] G L Q) → wt am_S0 (d + 1) mX1_ruleOut 110 [some (.ref 17), a1, some (.int (nI fb)), a3, some (.int (nI (2 ^ vP v))), some (.int (nI m)), some (.int (nI (sfm v t m (vN v 1 t) (cov v t m (vN v 1 t)) (cov v t m (vN v 1 t))))), some (.int (nI k))] [] F L Q := by
  have hP := hv.2.1
  have h2 : 2 ^ vP v ≤ 1024 := two_le (k := 10) hP
  intro j
  induction j with
  | zero =>
    intro k F hk h14 ha hb hq
    have : k = 2 ^ vP v := by omega
    subst this
    rw [kX1_ruleOut_110, if_pos (nI_le (Nat.le_refl _) (by omega))]
    exact hq F (fun _ _ => rfl) ha
  | succ j ih =>
    intro k F hk h14 ha hb hq
    have hb1 := sfm_le v hv t m (vN v 1 t) (cov v t m (vN v 1 t)) (cov v t m (vN v 1 t))
    have hb2 := sfm_le v hv t m (vN v 1 t) (cov v t m (vN v 1 t)) k
    have er : rul v t fb sb k (m + 1) = (rul v t fb sb k m || rlc v t fb sb m k) := rfl
    rw [kX1_ruleOut_110, if_neg (nI_ge (by omega) (by omega)), kX1_ruleOut_117, s_at (p := 14) (n := 1024) rfl (by decide), rdA_n (by omega) (by decide), h14 k (by omega)]
    simp only [Option.toList_some, Option.toList_none, List.cons_append, List.nil_append]
    have fin : ∀ b : Bool, decide (sfm v t m (vN v 1 t) (cov v t m (vN v 1 t)) (cov v t m (vN v 1 t)) < 2 * sfm v t m (vN v 1 t) (cov v t m (vN v 1 t)) k) = b → wt am_S0 (d + 1) mX1_ruleOut 138 [some (.ref 17), a1, some (.int (nI fb)), a3, some (.int (nI (2 ^ vP v))), some (.int (nI m)), some (.int (nI (sfm v t m (vN v 1 t) (cov v t m (vN v 1 t)) (cov v t m (vN v 1 t))))), some (.int (nI k))] [.int (bI b)] F L Q := by
      intro b hbb
      have ec : rlc v t fb sb m k = (b != fb.testBit m) := by unfold rlc; rw [hin, hbb]; rfl
      rw [kX1_ruleOut_138, s_holds, bit_b (by omega) (by omega)]
      simp only [Option.toList_some, Option.toList_none, List.cons_append, List.nil_append]
      rw [kX1_ruleOut_144]
      by_cases hx : b = fb.testBit m
      · rw [hx, bne_self_eq_false] at ec
        rw [ec, Bool.or_false] at er
        rw [if_pos (by rw [hx]), kX1_ruleOut_157, nI_1]
        refine ih (k + 1) F (by omega) h14 ?_ (fun s hs1 hs2 => hb s (by omega) hs2) hq
        intro s hs
        by_cases hsk : s = k
        · subst hsk; rw [er]; exact hb s (Nat.le_refl _) (by omega)
        · exact ha s (by omega)
      · rw [bne_iff_ne.mpr hx] at ec
        rw [ec, Bool.or_true] at er
        rw [if_neg (by rw [bI_inj]; exact hx), kX1_ruleOut_147, s_lay (p := 15) (n := 1024) rfl (by decide), wrA_n (by omega) (by decide)]
        simp only [Option.toList_some, Option.toList_none, List.cons_append, List.nil_append]
        rw [kX1_ruleOut_157, nI_1]
        refine ih (k + 1) _ (by omega) ?_ ?_ ?_ ?_
        · intro s hs; rw [up_o (by decide)]; exact h14 s hs
        · intro s hs
          by_cases hsk : s = k
          · subst hsk; rw [up_s, er]; rfl
          · rw [up_n hsk]; exact ha s (by omega)
        · intro s hs1 hs2
          rw [up_n (by omega)]; exact hb s (by omega) hs2
        · intro G g1 g2
          exact hq G (fun q hq => (g1 q hq).trans (up_o hq)) g2
    rw [kX1_ruleOut_127, nI_2k]
    by_cases h3 : sfm v t m (vN v 1 t) (cov v t m (vN v 1 t)) (cov v t m (vN v 1 t)) < 2 * sfm v t m (vN v 1 t) (cov v t m (vN v 1 t)) k
    · rw [if_neg (nI_ge h3 (by omega)), kX1_ruleOut_133]
      exact fin true (decide_eq_true h3)
    · rw [if_pos (nI_le (by omega) (by omega)), kX1_ruleOut_137]
      exact fin false (decide_eq_false h3)
