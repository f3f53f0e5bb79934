/-! ===== sums over all sets, power ===== -/
def SW (F G : am_FT) : Prop := (∀ p, p ≠ 6 → p ≠ 8 → p ≠ 9 → p ≠ 10 → p ≠ 11 → p ≠ 14 → G p = F p) ∧ G 6 2 = F 6 2
theorem SW_rf (F : am_FT) : SW F F := ⟨fun _ _ _ _ _ _ _ => rfl, rfl⟩
theorem SW_tr {F G H : am_FT} (h : SW F G) (k : SW G H) : SW F H := ⟨fun p a b c d e f => (k.1 p a b c d e f).trans (h.1 p a b c d e f), k.2.trans h.2⟩
theorem SB_SW {F G : am_FT} (h : SB F G) : SW F G := ⟨fun p a b c d e _ => h.1 p a b c d e, h.2⟩
theorem SW_SQ {F G : am_FT} (h : SW F G) : SQ F G := ⟨fun p hp => h.1 p (by omega) (by omega) (by omega) (by omega) (by omega) (by omega), h.2⟩
theorem SW_CV {F G : am_FT} {v : am_V} (h : SW F G) (k : CV F v) : CV G v := SQ_CV (SW_SQ h) k
theorem o14_SW {F G : am_FT} (h : ∀ q, q ≠ 14 → G q = F q) : SW F G := ⟨fun p _ _ _ _ _ f => h p f, by rw [h 6 (by decide)]⟩
theorem o14_BO {F G : am_FT} {v : am_V} {t m hh S : Nat} {st : Bool} (h : ∀ q, q ≠ 14 → G q = F q) (hb : BO F v t m hh st S) : BO G v t m hh st S := by
  unfold BO
  rw [h 9 (by decide), h 6 (by decide), h 11 (by decide), h 10 (by decide)]
  exact hb
theorem c_sumSets_in {d : Nat} {L : am_LT} {Q : am_QT} {k w n : Nat} (hk9 : k < 10) {a : Nat → Nat} : ∀ (j i : Nat) (F : am_FT), i + j = 2 ^ k → (∀ s, s < 2 ^ k → F 14 s = nI (a s)) → (∀ s, s < i → F 14 (2 ^ k + s) = nI (a s + w)) → (∀ G : am_FT, (∀ q, q ≠ 14 → G q = F q) → (∀ s, s < 2 ^ k → G 14 s = nI (a s)) → (∀ s, s < 2 ^ k → G 14 (2 ^ k + s) = nI (a s + w)) → wt am_S0 (d + 6) mX0_sumSets 88 [some (.ref 9), some (.ref 14), some (.int (nI n)), some (.int (nI (2 ^ k))), some (.int (nI k)), some (.int (nI w)), some (.int (nI (2 ^ k)))] [] G L Q) → wt am_S0 (d + 6) mX0_sumSets 59 [some (.ref 9), some (.ref 14), some (.int (nI n)), some (.int (nI (2 ^ k))), some (.int (nI k)), some (.int (nI w)), some (.int (nI i))] [] F L Q := by
  have h2 : 2 ^ k ≤ 512 := two_le (k := 9) (by omega)
  intro j
  induction j with
  | zero =>
    intro i F hi ha hb hq
    have : i = 2 ^ k := by omega
    subst this
    rw [kX0_sumSets_59, if_pos (nI_le (Nat.le_refl _) (by omega))]
    exact hq F (fun _ _ => rfl) ha hb
  | succ j ih =>
    intro i F hi ha hb hq
    rw [kX0_sumSets_59, if_neg (nI_ge (by omega) (by omega)), kX0_sumSets_65, s_at (p := 14) (n := 1024) rfl (by decide), rdA_n (by omega) (by decide), ha i (by omega)]
    simp only [Option.toList_some, Option.toList_none, List.cons_append, List.nil_append]
    rw [kX0_sumSets_76, nI_add, nI_add, s_lay (p := 14) (n := 1024) rfl (by decide), wrA_n (by omega) (by decide)]
    simp only [Option.toList_some, Option.toList_none, List.cons_append, List.nil_append]
    rw [kX0_sumSets_82, nI_1]
    refine ih (i + 1) _ (by omega) ?_ ?_ ?_
    · intro s hs
      rw [up_n (by omega)]
      exact ha s hs
    · intro s hs
      by_cases hsi : s = i
      · subst hsi; rw [up_s]
      · rw [up_n (by omega)]; exact hb s (by omega)
    · intro G g1 g2 g3
      exact hq G (fun q hq => (g1 q hq).trans (up_o hq)) g2 g3
theorem pasA_lo (v : am_V) (t m h a b n k : Nat) (hk : ∀ p, p < k → a.testBit p = b.testBit p) (S : Nat) : pasA v t m h a S n k = pasA v t m h b S n k := sm_congr fun p hp => by rw [hk p hp]
theorem pasA_hi (v : am_V) (t m h s S n k : Nat) (hs : s < 2 ^ k) : pasA v t m h (2 ^ k + s) S n (k + 1) = pasA v t m h s S n k + (if S.testBit k = true then wor v t m h k n else 0) := by
  have e1 : pasA v t m h (2 ^ k + s) S n (k + 1) = pasA v t m h (2 ^ k + s) S n k + (if ((2 ^ k + s).testBit k && S.testBit k) = true then wor v t m h k n else 0) := rfl
  rw [e1, pasA_lo v t m h (2 ^ k + s) s n k (fun p hp => Nat.testBit_two_pow_add_gt hp s) S, Nat.testBit_two_pow_add_eq, Nat.testBit_lt_two_pow hs]
  rfl
theorem pasA_up (v : am_V) (t m h s S n k : Nat) (hs : s < 2 ^ k) : pasA v t m h s S n (k + 1) = pasA v t m h s S n k := by
  have e1 : pasA v t m h s S n (k + 1) = pasA v t m h s S n k + (if (s.testBit k && S.testBit k) = true then wor v t m h k n else 0) := rfl
  rw [e1, Nat.testBit_lt_two_pow hs]
  rfl
theorem c_sumSets_loop {d : Nat} {L : am_LT} {Q : am_QT} {v : am_V} {t m hh S n : Nat} {st : Bool} (hS : S < 1024) (hn : n < 11) : ∀ (j k : Nat) (F : am_FT) (l5 l6 : Option Value), k + j = vP v → CV F v → BO F v t m hh st S → (∀ s, s < 2 ^ k → F 14 s = nI (pasA v t m hh s S n k)) → (∀ G, SW F G → BO G v t m hh st S → (∀ s, s < 2 ^ vP v → G 14 s = nI (pasA v t m hh s S n (vP v))) → Q none G L) → wt am_S0 (d + 6) mX0_sumSets 19 [some (.ref 9), some (.ref 14), some (.int (nI n)), some (.int (nI (2 ^ k))), some (.int (nI k)), l5, l6] [] F L Q := by
  intro j
  induction j with
  | zero =>
    intro k F l5 l6 hk h hb ha hq
    have hP := h.2.1.2.1
    have : k = vP v := by omega
    subst this
    rw [kX0_sumSets_19, h.1.2.1, if_pos (nI_le (Nat.le_refl _) (by omega)), kX0_sumSets_98]
    exact hq F (SW_rf F) hb ha
  | succ j ih =>
    intro k F l5 l6 hk h hb ha hq
    have hP := h.2.1.2.1
    have fin : ∀ (G : am_FT), SB F G → BO G v t m hh st S → wt am_S0 (d + 6) mX0_sumSets 54 [some (.ref 9), some (.ref 14), some (.int (nI n)), some (.int (nI (2 ^ k))), some (.int (nI k)), l5, l6] [.int (nI (if S.testBit k = true then wor v t m hh k n else 0))] G L Q := by
      intro G g1 g2
      rw [kX0_sumSets_54]
      refine c_sumSets_in (a := fun s => pasA v t m hh s S n k) (by omega) (2 ^ k) 0 G (by omega) ?_ (fun s hs => absurd hs (by omega)) ?_
      · intro s hs
        rw [g1.1 14 (by decide) (by decide) (by decide) (by decide) (by decide)]
        exact ha s hs
      · intro H h1 h2 h3
        rw [kX0_sumSets_88, nI_add, nI_1, show 2 ^ k + 2 ^ k = 2 ^ (k + 1) by rw [Nat.pow_succ]; omega]
        have hw : SW F H := SW_tr (SB_SW g1) (o14_SW h1)
        refine ih (k + 1) H _ _ (by omega) (SW_CV hw h) (o14_BO h1 g2) ?_ ?_
        · intro s hs
          by_cases hsk : s < 2 ^ k
          · rw [pasA_up _ _ _ _ _ _ _ _ hsk]
            exact h2 s hsk
          · have e : s = 2 ^ k + (s - 2 ^ k) := by omega
            have hlt : s - 2 ^ k < 2 ^ k := by rw [Nat.pow_succ] at hs; omega
            rw [e, pasA_hi _ _ _ _ _ _ _ _ hlt]
            exact h3 _ hlt
        · intro M m1 m2 m3
          exact hq M (SW_tr hw m1) m2 m3
    rw [kX0_sumSets_19, h.1.2.1, if_neg (nI_ge (by omega) (by omega)), kX0_sumSets_31, hb.2.1, s_holds, bit_b (by omega) (by omega)]
    simp only [Option.toList_some, Option.toList_none, List.cons_append, List.nil_append]
    rw [kX0_sumSets_40]
    cases h1 : S.testBit k
    · have f1 := fin F (SB_rf F) hb
      rw [h1] at f1
      rw [if_pos bIf, kX0_sumSets_53]
      exact f1
    · rw [if_neg bIt, kX0_sumSets_43]
      apply c_worthOf h hb (by omega) hn
      intro G g1 g2
      have f1 := fin G g1 g2
      rw [h1] at f1
      simp only [Option.toList_some, Option.toList_none, List.cons_append, List.nil_append]
      rw [kX0_sumSets_50]
      exact f1
theorem c_sumSets {d : Nat} {F : am_FT} {L : am_LT} {Q : am_QT} {v : am_V} (h : CV F v) {t m hh S : Nat} {st : Bool} (hb : BO F v t m hh st S) (hS : S < 1024) (hq : ∀ G, SW F G → BO G v t m hh st S → (∀ s, s < 2 ^ vP v → G 14 s = nI (sfm v t m hh S s)) → Q none G L) : wc am_S0 (d + 6) mX0_sumSets [.ref 9, .ref 14] F L Q := by
  rw [eX0_sumSets, kX0_sumSets_0, hb.2.1, s_bitCount (by omega)]
  simp only [Option.toList_some, Option.toList_none, List.cons_append, List.nil_append]
  rw [kX0_sumSets_7, show (0 : Int32) = nI 0 from rfl, s_lay (p := 14) (n := 1024) rfl (by decide), wrA_n (by decide) (by decide)]
  simp only [Option.toList_some, Option.toList_none, List.cons_append, List.nil_append]
  rw [kX0_sumSets_16]
  have ho : ∀ q, q ≠ 14 → am_upF F 14 0 (nI 0) q = F q := fun q hq => up_o hq
  refine c_sumSets_loop (n := pop S) (k := 0) hS (Nat.lt_succ_of_le (pop_le (n := 10) hS (by decide))) (vP v) _ _ _ (by omega) (SW_CV (o14_SW ho) h) (o14_BO ho hb) ?_ ?_
  · intro s hs
    have : s = 0 := by omega
    subst this
    rw [up_s]; rfl
  · intro G g1 g2 g3
    exact hq G (SW_tr (o14_SW ho) g1) g2 g3
/-- whether one's word decides, if those wish it -/
def wyb (v : am_V) (t m S p o y : Nat) : Bool := decide (ndf y o = 0) && (decide (sfm v t m (vN v 1 t) S S < 2 * sfm v t m (vN v 1 t) S y) != decide (sfm v t m (vN v 1 t) S S < 2 * sfm v t m (vN v 1 t) S (y ||| 2 ^ p)))
theorem sfm_le (v : am_V) (hv : wV v) (t m h S a : Nat) : sfm v t m h S a ≤ 90 := by
  have h1 := pasA_le v t m h a S (pop S) (vP v)
  have := hv.2.1
  unfold sfm
  omega
theorem c_ways_loop {d : Nat} {F : am_FT} {L : am_LT} {Q : am_QT} {v : am_V} (hv : wV v) {t m S p o : Nat} (hp : p < vP v) (hs : ∀ s, s < 2 ^ vP v → F 14 s = nI (sfm v t m (vN v 1 t) S s)) : ∀ (j k : Nat) (l8 l9 : Option Value), k + j = 2 ^ vP v → wt am_S0 (d + 7) mX4_waysToDecide 46 [some (.ref 16), some (.int (nI p)), some (.int (nI o)), some (.ref 14), some (.int (nI (sfm v t m (vN v 1 t) S S))), some (.int (nI (2 ^ vP v))), some (.int (nI (cnt (wyb v t m S p o) k))), some (.int (nI k)), l8, l9] [] F L Q = Q (some (.int (nI (cnt (wyb v t m S p o) (2 ^ vP v))))) F L := by
  have hP := hv.2.1
  have h2 : 2 ^ vP v ≤ 1024 := two_le (k := 10) hP
  have h2p : 2 ^ p < 2 ^ vP v := Nat.pow_lt_pow_right (by decide) hp
  have e2 : ∀ x : Nat, (2 : Int32) * nI x = nI (2 * x) := by
    intro x
    rw [iI_l, iI_n, iI_n, iI_mul]; congr 1
  intro j
  induction j with
  | zero =>
    intro k l8 l9 hk
    have : k = 2 ^ vP v := by omega
    subst this
    rw [kX4_waysToDecide_46, if_pos (nI_le (Nat.le_refl _) (by omega)), kX4_waysToDecide_125]
  | succ j ih =>
    intro k l8 l9 hk
    have hb1 := sfm_le v hv t m (vN v 1 t) S S
    have hb2 := sfm_le v hv t m (vN v 1 t) S k
    have hb3 := sfm_le v hv t m (vN v 1 t) S (k ||| 2 ^ p)
    have e1 : cnt (wyb v t m S p o) (k + 1) = if wyb v t m S p o k = true then cnt (wyb v t m S p o) k + 1 else cnt (wyb v t m S p o) k := rfl
    rw [kX4_waysToDecide_46, if_neg (nI_ge (by omega) (by omega)), kX4_waysToDecide_53, nI_ndf]
    have hnl : ndf k o < 1024 := ndf_lt (n := 10) (by omega)
    by_cases h1 : ndf k o = 0
    · rw [h1, if_pos nI_0, kX4_waysToDecide_65, s_at (p := 14) (n := 1024) rfl (by decide), rdA_n (by omega) (by decide), hs k (by omega)]
      simp only [Option.toList_some, Option.toList_none, List.cons_append, List.nil_append]
      have fin : ∀ b : Bool, decide (sfm v t m (vN v 1 t) S S < 2 * sfm v t m (vN v 1 t) S k) = b → wt am_S0 (d + 7) mX4_waysToDecide 83 [some (.ref 16), some (.int (nI p)), some (.int (nI o)), some (.ref 14), some (.int (nI (sfm v t m (vN v 1 t) S S))), some (.int (nI (2 ^ vP v))), some (.int (nI (cnt (wyb v t m S p o) k))), some (.int (nI k)), l8, l9] [.int (bI b)] F L Q = Q (some (.int (nI (cnt (wyb v t m S p o) (2 ^ vP v))))) F L := by
        intro b hb
        rw [kX4_waysToDecide_83, nI_sh p (by omega), nI_or, s_at (p := 14) (n := 1024) rfl (by decide), rdA_n (Nat.lt_of_lt_of_le (or_lt (n := vP v) (by omega) h2p) h2) (by decide), hs _ (or_lt (n := vP v) (by omega) h2p)]
        simp only [Option.toList_some, Option.toList_none, List.cons_append, List.nil_append]
        have fin2 : ∀ c : Bool, decide (sfm v t m (vN v 1 t) S S < 2 * sfm v t m (vN v 1 t) S (k ||| 2 ^ p)) = c → wt am_S0 (d + 7) mX4_waysToDecide 107 [some (.ref 16), some (.int (nI p)), some (.int (nI o)), some (.ref 14), some (.int (nI (sfm v t m (vN v 1 t) S S))), some (.int (nI (2 ^ vP v))), some (.int (nI (cnt (wyb v t m S p o) k))), some (.int (nI k)), some (.int (bI b)), l9] [.int (bI c)] F L Q = Q (some (.int (nI (cnt (wyb v t m S p o) (2 ^ vP v))))) F L := by
          intro c hc
          have hw : wyb v t m S p o k = (b != c) := by unfold wyb; rw [decide_eq_true h1, hb, hc]; rfl
          rw [kX4_waysToDecide_107]
          by_cases hbc : c = b
          · rw [hbc, if_pos rfl, kX4_waysToDecide_119, nI_1]
            rw [hw, hbc, bne_self_eq_false] at e1
            rw [show cnt (wyb v t m S p o) k = cnt (wyb v t m S p o) (k + 1) from e1.symm]
            exact ih (k + 1) _ _ (by omega)
          · rw [if_neg (by rw [bI_inj]; exact hbc), kX4_waysToDecide_116, kX4_waysToDecide_119, nI_1, nI_1]
            rw [hw, bne_iff_ne.mpr (Ne.symm hbc)] at e1
            rw [show cnt (wyb v t m S p o) k + 1 = cnt (wyb v t m S p o) (k + 1) from e1.symm]
            exact ih (k + 1) _ _ (by omega)
        rw [kX4_waysToDecide_96, e2]
        by_cases h4 : sfm v t m (vN v 1 t) S S < 2 * sfm v t m (vN v 1 t) S (k ||| 2 ^ p)
        · rw [if_neg (nI_ge h4 (by omega)), kX4_waysToDecide_102]
          exact fin2 true (decide_eq_true h4)
        · rw [if_pos (nI_le (by omega) (by omega)), kX4_waysToDecide_106]
          exact fin2 false (decide_eq_false h4)
      rw [kX4_waysToDecide_72, e2]
      by_cases h3 : sfm v t m (vN v 1 t) S S < 2 * sfm v t m (vN v 1 t) S k
      · rw [if_neg (nI_ge h3 (by omega)), kX4_waysToDecide_78]
        exact fin true (decide_eq_true h3)
      · rw [if_pos (nI_le (by omega) (by omega)), kX4_waysToDecide_82]
        exact fin false (decide_eq_false h3)
    · have hw : wyb v t m S p o k = false := by unfold wyb; rw [decide_eq_false h1]; rfl
      rw [if_neg (nI_ne0 (by omega) (by omega)), kX4_waysToDecide_62, kX4_waysToDecide_119, nI_1]
      rw [hw] at e1
      rw [show cnt (wyb v t m S p o) k = cnt (wyb v t m S p o) (k + 1) from e1.symm]
      exact ih (k + 1) _ _ (by omega)
