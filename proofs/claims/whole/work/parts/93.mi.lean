/-! ===== the model's questions, 3: chairs, turns, lopping ===== -/
theorem csit_st {v : am_V} {t m p : Nat} (h : (csit v t m).testBit p = true) : vS v t = true := by
  unfold csit at h
  cases hs : vS v t
  · rw [hs, if_neg (by decide), Nat.zero_testBit] at h; cases h
  · rfl
theorem qq_st {v : am_V} {t m a : Nat} (h : vS v t = true) : qq v t m a = pas v t m (vN v 1 t) a (wsh v t) := by
  unfold qq
  rw [h, Bool.true_and]
def qChair (v : am_V) (x : Int32) : Int32 := if tmR v x = true then nI (hng v (tN x) (mN x)) else -1
theorem m_chair_loop {d t m : Nat} {L : am_LT} {Q : am_QT} {v : am_V} {x : Int32} (hx : x - x / 100 * 100 = nI m) (ht : t < vT v) (hm : m < 12) : ∀ (j k : Nat) (F : am_FT), k + j = vP v → MV F v → (∀ G, qM F G → Q (some (.int (nI (hng v t m)))) G L) → wt am_S0 (d + 50) mX12_chair 31 [some (.ref 45), some (.int x), some (.int (nI t)), some (.int (nI (csit v t m))), some (.int (nI (bs (fun p => (csit v t m).testBit p && (qq v t m (ndf (csit v t m) (2 ^ p)) != fal v t m)) k))), some (.int (nI k))] [] F L Q := by
  intro j
  induction j with
  | zero =>
    intro k F hk h hq
    have hP := h.2.1.2.1
    have : k = vP v := by omega
    subst this
    rw [kX12_chair_31, h.1.2.1, if_pos (nI_le (Nat.le_refl _) (by omega)), kX12_chair_98]
    exact hq F (qM_rf F)
  | succ j ih =>
    intro k F hk h hq
    have hP := h.2.1.2.1
    have hc := csit_lt h.2.1 t m
    have ih1 := fun G (g : qM F G) => ih (k + 1) G (by omega) (qM_MV g h) fun H h1 => hq H (qM_tr g h1)
    unfold bs at ih1
    rw [kX12_chair_31, h.1.2.1, if_neg (nI_ge (by omega) (by omega)), kX12_chair_40, s_isIn (by omega) (by omega)]
    simp only [Option.toList_some, Option.toList_none, List.cons_append, List.nil_append]
    rw [kX12_chair_46]
    cases hb : (csit v t m).testBit k
    · simp only [hb, Bool.false_and] at ih1
      rw [if_pos bIf, kX12_chair_92, nI_1]
      exact ih1 F (qM_rf F)
    · have hs := csit_st hb
      simp only [hb, Bool.true_and] at ih1
      rw [if_neg bIt, kX12_chair_49, m_wishers h.1 h.2.1 ht, hx, nI_sh k (by omega), nI_ndf]
      simp only [Option.toList_some, Option.toList_none, List.cons_append, List.nil_append]
      rw [kX12_chair_68]
      apply m_doesFall h ht (ndf_lt (n := 10) hc) (wsh_lt h.2.1 t)
      intro G g1
      simp only [Option.toList_some, Option.toList_none, List.cons_append, List.nil_append]
      rw [kX12_chair_71, hx]
      apply m_fallsNow (qM_MV g1 h) ht hm
      intro H h1
      have hH := qM_tr g1 h1
      have ih2 := ih1 H hH
      rw [qq_st hs] at ih2
      simp only [Option.toList_some, Option.toList_none, List.cons_append, List.nil_append]
      rw [kX12_chair_80]
      by_cases he : pas v t m (vN v 1 t) (ndf (csit v t m) (2 ^ k)) (wsh v t) = fal v t m
      · rw [if_pos (by rw [he]), kX12_chair_92, nI_1]
        rw [he, show (fal v t m != fal v t m) = false by cases fal v t m <;> rfl, if_neg (by decide)] at ih2
        exact ih2
      · rw [if_neg (by rw [bI_inj]; exact he), kX12_chair_83, kX12_chair_92, nI_1, nI_sh k (by omega), nI_or]
        rw [show (pas v t m (vN v 1 t) (ndf (csit v t m) (2 ^ k)) (wsh v t) != fal v t m) = true from bne_iff_ne.mpr he, if_pos rfl] at ih2
        exact ih2
theorem m_chair {d : Nat} {F : am_FT} {L : am_LT} {Q : am_QT} {v : am_V} {x : Int32} (h : MV F v) (hq : ∀ G, qM F G → Q (some (.int (qChair v x))) G L) : wc am_S0 (d + 50) mX12_chair [.ref 45, .int x] F L Q := by
  unfold qChair at hq
  rw [eX12_chair, kX12_chair_0, m_isTm h.1 h.2.1]
  simp only [Option.toList_some, Option.toList_none, List.cons_append, List.nil_append]
  rw [kX12_chair_5]
  cases ht : tmR v x
  · rw [ht, if_neg (by decide)] at hq
    rw [if_neg (by decide), kX12_chair_8]
    exact hq F (qM_rf F)
  · obtain ⟨a1, a2, a3, a4⟩ := tm_ex h.2.1 ht
    rw [ht, if_pos rfl] at hq
    rw [if_pos bIt, kX12_chair_10, a3, a1, m_sittersNow h.1 h.2.1 a2 a4]
    simp only [Option.toList_some, Option.toList_none, List.cons_append, List.nil_append]
    rw [kX12_chair_24]
    exact m_chair_loop a3 a2 a4 (vP v) 0 F (by omega) h hq
/-! the fewest -/
def bsN (g : Nat → Bool) : Nat → Nat
  | 0 => 0
  | k + 1 => if (decide (k ≠ 0) && (g k && (decide (bsN g k = 0) || decide (pop k < pop (bsN g k))))) = true then k else bsN g k
/-- the fewest, the least of like ones; 0: none -/
def bst (g : Nat → Bool) (N r : Nat) : Prop := (r = 0 ∧ ∀ s, 1 ≤ s → s < N → g s = false) ∨ (1 ≤ r ∧ r < N ∧ g r = true ∧ ∀ s, 1 ≤ s → s < N → g s = true → pop r < pop s ∨ (pop r = pop s ∧ r ≤ s))
theorem bst_un {g : Nat → Bool} {N r q : Nat} (h : bst g N r) (k : bst g N q) : r = q := by
  rcases h with ⟨h1, h2⟩ | ⟨h1, h2, h3, h4⟩
  · rcases k with ⟨k1, k2⟩ | ⟨k1, k2, k3, k4⟩
    · rw [h1, k1]
    · have := h2 q k1 k2; rw [k3] at this; cases this
  · rcases k with ⟨k1, k2⟩ | ⟨k1, k2, k3, k4⟩
    · have := k2 r h1 h2; rw [h3] at this; cases this
    · have a := h4 q k1 k2 k3
      have b := k4 r h1 h2 h3
      omega
theorem bsN_bst (g : Nat → Bool) : ∀ k, bst g k (bsN g k) := by
  intro k
  induction k with
  | zero => exact Or.inl ⟨rfl, fun s h1 h2 => absurd h2 (by omega)⟩
  | succ k ih =>
    unfold bsN
    by_cases h : (decide (k ≠ 0) && (g k && (decide (bsN g k = 0) || decide (pop k < pop (bsN g k))))) = true
    · rw [if_pos h]
      simp only [Bool.and_eq_true, Bool.or_eq_true, decide_eq_true_eq] at h
      refine Or.inr ⟨by omega, by omega, h.2.1, fun s s1 s2 s3 => ?_⟩
      by_cases hsk : s = k
      · subst hsk; exact Or.inr ⟨rfl, Nat.le_refl _⟩
      · rcases ih with ⟨i1, i2⟩ | ⟨i1, i2, i3, i4⟩
        · have := i2 s s1 (by omega); rw [s3] at this; cases this
        · have := i4 s s1 (by omega) s3
          rcases h.2.2 with h5 | h5 <;> omega
    · rw [if_neg h]
      have hk : 1 ≤ k → g k = true → bsN g k ≠ 0 ∧ pop (bsN g k) ≤ pop k := by
        intro k1 k2
        refine ⟨fun h0 => h ?_, ?_⟩
        · rw [k2, h0]; simp; omega
        · rcases Nat.lt_or_ge (pop k) (pop (bsN g k)) with h5 | h5
          · exact absurd (by rw [k2]; simp [h5]; omega) h
          · exact h5
      rcases ih with ⟨i1, i2⟩ | ⟨i1, i2, i3, i4⟩
      · refine Or.inl ⟨i1, fun s s1 s2 => ?_⟩
        by_cases hsk : s = k
        · subst hsk
          cases hg : g s
          · rfl
          · exact absurd i1 (hk s1 hg).1
        · exact i2 s s1 (by omega)
      · refine Or.inr ⟨i1, by omega, i3, fun s s1 s2 s3 => ?_⟩
        by_cases hsk : s = k
        · subst hsk
          have := (hk s1 s3).2
          omega
        · exact i4 s s1 (by omega) s3
theorem fsN_spec (g : Nat → Bool) : ∀ j k, 1 ≤ k → (fsN g j k = 0 ∧ ∀ s, k ≤ s → s < k + j → g s = false) ∨ (k ≤ fsN g j k ∧ fsN g j k < k + j ∧ g (fsN g j k) = true ∧ ∀ s, k ≤ s → s < fsN g j k → g s = false) := by
  intro j
  induction j with
  | zero => intro k hk; exact Or.inl ⟨rfl, fun s h1 h2 => absurd h2 (by omega)⟩
  | succ j ih =>
    intro k hk
    unfold fsN
    by_cases h : g k = true
    · rw [if_pos h]
      exact Or.inr ⟨Nat.le_refl _, by omega, h, fun s h1 h2 => absurd h2 (by omega)⟩
    · rw [if_neg h]
      have hf : g k = false := by cases hg : g k; rfl; exact absurd hg h
      rcases ih (k + 1) (by omega) with ⟨i1, i2⟩ | ⟨i1, i2, i3, i4⟩
      · refine Or.inl ⟨i1, fun s h1 h2 => ?_⟩
        by_cases hsk : s = k
        · rw [hsk]; exact hf
        · exact i2 s (by omega) (by omega)
      · refine Or.inr ⟨by omega, by omega, i3, fun s h1 h2 => ?_⟩
        by_cases hsk : s = k
        · rw [hsk]; exact hf
        · exact i4 s (by omega) h2
def gdT (v : am_V) (t m s : Nat) : Bool := qq v t m (csit v t m ^^^ s) != fal v t m
theorem ftw_spec (v : am_V) (t m : Nat) : ∀ j n, (ftw v t m j n = 0 ∧ ∀ s, 1 ≤ s → s < 2 ^ vP v → n ≤ pop s → pop s < n + j → gdT v t m s = false) ∨ (1 ≤ ftw v t m j n ∧ ftw v t m j n < 2 ^ vP v ∧ gdT v t m (ftw v t m j n) = true ∧ ∀ s, 1 ≤ s → s < 2 ^ vP v → n ≤ pop s → gdT v t m s = true → pop (ftw v t m j n) < pop s ∨ (pop (ftw v t m j n) = pop s ∧ ftw v t m j n ≤ s)) := by
  have h2 : 1 ≤ 2 ^ vP v := Nat.one_le_two_pow
  intro j
  induction j with
  | zero => intro n; exact Or.inl ⟨rfl, fun s _ _ h3 h4 => absurd h4 (by omega)⟩
  | succ j ih =>
    intro n
    unfold ftw
    rcases fsN_spec (ftg v t m n) (2 ^ vP v - 1) 1 (Nat.le_refl _) with ⟨i1, i2⟩ | ⟨i1, i2, i3, i4⟩
    · rw [if_pos i1]
      have hn : ∀ s, 1 ≤ s → s < 2 ^ vP v → pop s = n → gdT v t m s = false := by
        intro s s1 s2 s3
        have := i2 s s1 (by omega)
        unfold ftg at this
        rw [decide_eq_true s3, Bool.true_and] at this
        exact this
      rcases ih (n + 1) with ⟨k1, k2⟩ | ⟨k1, k2, k3, k4⟩
      · refine Or.inl ⟨k1, fun s s1 s2 s3 s4 => ?_⟩
        by_cases hs : pop s = n
        · exact hn s s1 s2 hs
        · exact k2 s s1 s2 (by omega) (by omega)
      · refine Or.inr ⟨k1, k2, k3, fun s s1 s2 s3 s4 => ?_⟩
        by_cases hs : pop s = n
        · have := hn s s1 s2 hs; rw [s4] at this; cases this
        · exact k4 s s1 s2 (by omega) s4
    · rw [if_neg (by omega)]
      have i3' : (decide (pop (fsN (ftg v t m n) (2 ^ vP v - 1) 1) = n) && gdT v t m (fsN (ftg v t m n) (2 ^ vP v - 1) 1)) = true := i3
      simp only [Bool.and_eq_true, decide_eq_true_eq] at i3'
      refine Or.inr ⟨i1, by omega, i3'.2, fun s s1 s2 s3 s4 => ?_⟩
      by_cases hs : pop s = n
      · refine Or.inr ⟨by rw [i3'.1, hs], ?_⟩
        rcases Nat.lt_or_ge s (fsN (ftg v t m n) (2 ^ vP v - 1) 1) with h5 | h5
        · have := i4 s s1 h5
          unfold ftg at this
          rw [decide_eq_true hs, Bool.true_and] at this
          have e : (qq v t m (csit v t m ^^^ s) != fal v t m) = true := s4
          rw [e] at this; cases this
        · exact h5
      · refine Or.inl ?_
        rw [i3'.1]; omega
theorem pop_pos {s : Nat} (h : s < 4096) (h1 : 1 ≤ s) : 1 ≤ pop s := by
  rcases Nat.eq_zero_or_pos (pop s) with h0 | h0
  · have : ∀ n, cnt s.testBit n = 0 → ∀ i, i < n → s.testBit i = false := by
      intro n
      induction n with
      | zero => intro _ i hi; exact absurd hi (by omega)
      | succ n ih =>
        intro hc i hi
        unfold cnt at hc
        by_cases hn : s.testBit n = true
        · rw [if_pos hn] at hc; omega
        · rw [if_neg hn] at hc
          by_cases hin : i = n
          · subst hin; cases hb : s.testBit i; rfl; exact absurd hb hn
          · exact ih hc i (by omega)
    have h2 := this 12 h0
    have : s = 0 := by
      apply Nat.eq_of_testBit_eq
      intro i
      rw [Nat.zero_testBit]
      by_cases hi : i < 12
      · exact h2 i hi
      · exact Nat.testBit_lt_two_pow (Nat.lt_of_lt_of_le h (two_le (n := 12) (by omega)))
    omega
  · exact h0
theorem ftw_bst {v : am_V} (hv : wV v) (t m : Nat) : bst (gdT v t m) (2 ^ vP v) (ftw v t m (vP v) 1) := by
  have hP := hv.2.1
  have hN : 2 ^ vP v ≤ 1024 := two_le (k := 10) hP
  rcases ftw_spec v t m (vP v) 1 with ⟨k1, k2⟩ | ⟨k1, k2, k3, k4⟩
  · exact Or.inl ⟨k1, fun s s1 s2 => k2 s s1 s2 (pop_pos (by omega) s1) (by have := pop_le s2 (by omega : vP v ≤ 12); omega)⟩
  · exact Or.inr ⟨k1, k2, k3, fun s s1 s2 s4 => k4 s s1 s2 (pop_pos (by omega) s1) s4⟩
theorem ftw_bsN {v : am_V} (hv : wV v) (t m : Nat) : ftw v t m (vP v) 1 = bsN (gdT v t m) (2 ^ vP v) := bst_un (ftw_bst hv t m) (bsN_bst _ _)
def n2I (r : Nat) : Int32 := if r = 0 then -2 else nI r
def qTurn (v : am_V) (x w : Int32) : Int32 := if (tmR v x && inR w 2) = true then (if ftw v (tN x) (mN x) (vP v) 1 = 0 then -2 else if w = 0 then nI (pop (ftw v (tN x) (mN x) (vP v) 1)) else nI (ftw v (tN x) (mN x) (vP v) 1)) else -1
theorem m_turn_loop {d t m : Nat} {L : am_LT} {Q : am_QT} {v : am_V} {x : Int32} {l2 : Option Value} (hx : x - x / 100 * 100 = nI m) (ht : t < vT v) (hm : m < 12) (hs : vS v t = true) : ∀ (j k : Nat) (F : am_FT), k + j = 2 ^ vP v → 1 ≤ k → MV F v → (∀ G l7, qM F G → wt am_S0 (d + 50) mX12_turn 129 [some (.ref 45), some (.int x), l2, some (.int (nI t)), some (.int (nI (csit v t m))), some (.int (bI (fal v t m))), some (.int (n2I (bsN (gdT v t m) (2 ^ vP v)))), l7] [] G L Q) → wt am_S0 (d + 50) mX12_turn 68 [some (.ref 45), some (.int x), l2, some (.int (nI t)), some (.int (nI (csit v t m))), some (.int (bI (fal v t m))), some (.int (n2I (bsN (gdT v t m) k))), some (.int (nI k))] [] F L Q := by
  intro j
  induction j with
  | zero =>
    intro k F hk h1 h hq
    have hP := h.2.1.2.1
    have hN : 2 ^ vP v ≤ 1024 := two_le (k := 10) hP
    have : k = 2 ^ vP v := by omega
    subst this
    rw [kX12_turn_68, eX12_everybody, kX12_everybody_0, h.1.2.1, nI_2m1 _ (by omega)]
    simp only [Option.toList_some, Option.toList_none, List.cons_append, List.nil_append]
    rw [kX12_turn_74, if_pos (nI_lt (by omega) (by omega))]
    exact hq F _ (qM_rf F)
  | succ j ih =>
    intro k F hk h1 h hq
    have hP := h.2.1.2.1
    have hN : 2 ^ vP v ≤ 1024 := two_le (k := 10) hP
    have hc := csit_lt h.2.1 t m
    have hr : bsN (gdT v t m) k < 1024 := by
      rcases bsN_bst (gdT v t m) k with ⟨b1, _⟩ | ⟨_, b2, _⟩ <;> omega
    have ih1 := fun G (g : qM F G) => ih (k + 1) G (by omega) (by omega) (qM_MV g h) fun H l7 h1 => hq H l7 (qM_tr g h1)
    have eb : bsN (gdT v t m) (k + 1) = if (decide (k ≠ 0) && (gdT v t m k && (decide (bsN (gdT v t m) k = 0) || decide (pop k < pop (bsN (gdT v t m) k))))) = true then k else bsN (gdT v t m) k := rfl
    rw [decide_eq_true (show k ≠ 0 by omega), Bool.true_and] at eb
    have hxk : csit v t m ^^^ k < 1024 := Nat.xor_lt_two_pow (n := 10) hc (by omega)
    -- to be tried
    have try1 : (decide (bsN (gdT v t m) k = 0) || decide (pop k < pop (bsN (gdT v t m) k))) = true → wt am_S0 (d + 50) mX12_turn 95 [some (.ref 45), some (.int x), l2, some (.int (nI t)), some (.int (nI (csit v t m))), some (.int (bI (fal v t m))), some (.int (n2I (bsN (gdT v t m) k))), some (.int (nI k))] [] F L Q := by
      intro hc2
      rw [hc2, Bool.and_true] at eb
      rw [kX12_turn_95, m_wishers h.1 h.2.1 ht, hx, nI_xor]
      simp only [Option.toList_some, Option.toList_none, List.cons_append, List.nil_append]
      rw [kX12_turn_111]
      apply m_doesFall h ht hxk (wsh_lt h.2.1 t)
      intro G g1
      have ih2 := ih1 G g1
      rw [eb] at ih2
      unfold gdT at ih2 ⊢
      rw [qq_st hs] at ih2
      simp only [Option.toList_some, Option.toList_none, List.cons_append, List.nil_append]
      rw [kX12_turn_114]
      by_cases he : pas v t m (vN v 1 t) (csit v t m ^^^ k) (wsh v t) = fal v t m
      · rw [he, show (fal v t m != fal v t m) = false by cases fal v t m <;> rfl, if_neg (by decide)] at ih2
        rw [if_pos (by rw [he]), kX12_turn_123, nI_1]
        exact ih2
      · rw [show (pas v t m (vN v 1 t) (csit v t m ^^^ k) (wsh v t) != fal v t m) = true from bne_iff_ne.mpr he, if_pos rfl, show n2I k = nI k from if_neg (by omega)] at ih2
        rw [if_neg (by rw [bI_inj]; exact he), kX12_turn_119, kX12_turn_123, nI_1]
        exact ih2
    rw [kX12_turn_68, eX12_everybody, kX12_everybody_0, h.1.2.1, nI_2m1 _ (by omega)]
    simp only [Option.toList_some, Option.toList_none, List.cons_append, List.nil_append]
    rw [kX12_turn_74, if_neg (nI_nlt (by omega) (by omega)), kX12_turn_77]
    by_cases h0 : bsN (gdT v t m) k = 0
    · rw [if_pos (show n2I (bsN (gdT v t m) k) < 0 by rw [h0]; decide)]
      exact try1 (by rw [decide_eq_true h0]; rfl)
    · have e2 : n2I (bsN (gdT v t m) k) = nI (bsN (gdT v t m) k) := if_neg h0
      rw [if_neg (show ¬ n2I (bsN (gdT v t m) k) < 0 by rw [e2]; exact nI_pos (by omega)), kX12_turn_82, s_bitsOf (by omega)]
      simp only [Option.toList_some, Option.toList_none, List.cons_append, List.nil_append]
      rw [kX12_turn_87, e2, s_bitsOf (by omega)]
      simp only [Option.toList_some, Option.toList_none, List.cons_append, List.nil_append]
      rw [kX12_turn_92]
      have p1 := pop_le (s := k) (n := 10) (by omega) (by decide)
      have p2 := pop_le (s := bsN (gdT v t m) k) (n := 10) (by omega) (by decide)
      by_cases hp : pop k < pop (bsN (gdT v t m) k)
      · rw [if_neg (nI_ge hp (by omega)), ← e2]
        exact try1 (by rw [decide_eq_true hp, Bool.or_true])
      · rw [decide_eq_false h0, decide_eq_false hp, Bool.or_false, Bool.and_false, if_neg (by decide)] at eb
        have ih2 := ih1 F (qM_rf F)
        rw [eb, e2] at ih2
        rw [if_pos (nI_le (by omega) (by omega)), kX12_turn_123, nI_1]
        exact ih2
theorem m_turn {d : Nat} {F : am_FT} {L : am_LT} {Q : am_QT} {v : am_V} {x w : Int32} (h : MV F v) (hq : ∀ G, qM F G → Q (some (.int (qTurn v x w))) G L) : wc am_S0 (d + 50) mX12_turn [.ref 45, .int x, .int w] F L Q := by
  have hP := h.2.1.2.1
  have hN : 2 ^ vP v ≤ 1024 := two_le (k := 10) hP
  have hN1 : 1 ≤ 2 ^ vP v := Nat.one_le_two_pow
  unfold qTurn at hq
  rw [eX12_turn, kX12_turn_0, m_isTm h.1 h.2.1]
  simp only [Option.toList_some, Option.toList_none, List.cons_append, List.nil_append]
  rw [kX12_turn_5]
  cases ht : tmR v x
  · rw [ht, Bool.false_and, if_neg (by decide)] at hq
    rw [if_pos bIf, kX12_turn_18]
    exact hq F (qM_rf F)
  · obtain ⟨a1, a2, a3, a4⟩ := tm_ex h.2.1 ht
    rw [ht, Bool.true_and] at hq
    rw [if_neg bIt, kX12_turn_8, show (1 : Int64) = (nI 1).toInt64 from rfl, m_w (by decide)]
    simp only [Option.toList_some, Option.toList_none, List.cons_append, List.nil_append]
    rw [kX12_turn_15]
    cases hw : inR w (1 + 1)
    · rw [show inR w 2 = false from hw, if_neg (by decide)] at hq
      rw [if_neg (by decide), kX12_turn_18]
      exact hq F (qM_rf F)
    · rw [show inR w 2 = true from hw, if_pos rfl] at hq
      obtain ⟨k, k1, rfl⟩ := inR_ex hw (by decide)
      rw [if_pos bIt, kX12_turn_20, a1, m_stands h.1 h.2.1 a2]
      simp only [Option.toList_some, Option.toList_none, List.cons_append, List.nil_append]
      rw [kX12_turn_33]
      rw [ftw_bsN h.2.1] at hq
      have hbb := bsN_bst (gdT v (tN x) (mN x)) (2 ^ vP v)
      cases hs : vS v (tN x)
      · have h0 : bsN (gdT v (tN x) (mN x)) (2 ^ vP v) = 0 := by
          rcases hbb with ⟨b1, _⟩ | ⟨_, _, b3, _⟩
          · exact b1
          · unfold gdT qq fal at b3
            rw [hs] at b3
            cases b3
        rw [if_pos h0] at hq
        rw [if_neg (by decide), kX12_turn_36]
        exact hq F (qM_rf F)
      · rw [if_pos bIt, kX12_turn_39, a3, m_sittersIn h.1 h.2.1 a2 a4]
        simp only [Option.toList_some, Option.toList_none, List.cons_append, List.nil_append]
        rw [kX12_turn_48, a3]
        apply m_fallsNow h a2 a4
        intro G g1
        have ec : csit v (tN x) (mN x) = cov v (tN x) (mN x) (vN v 1 (tN x)) := if_pos hs
        have eb1 : bsN (gdT v (tN x) (mN x)) 1 = 0 := rfl
        simp only [Option.toList_some, Option.toList_none, List.cons_append, List.nil_append]
        rw [kX12_turn_59, ← ec, show (some (.int (-2)) : Option Value) = some (.int (n2I (bsN (gdT v (tN x) (mN x)) 1))) by rw [eb1]; rfl, show (some (.int 1) : Option Value) = some (.int (nI 1)) from rfl]
        refine m_turn_loop a3 a2 a4 hs (2 ^ vP v - 1) 1 G (by omega) (Nat.le_refl _) (qM_MV g1 h) ?_
        intro H l7 h1
        have hq1 := hq H (qM_tr g1 h1)
        rw [kX12_turn_129]
        by_cases h0 : bsN (gdT v (tN x) (mN x)) (2 ^ vP v) = 0
        · rw [if_pos h0] at hq1
          rw [h0, if_pos (by decide), kX12_turn_139, kX12_turn_149]
          exact hq1
        · have hr : bsN (gdT v (tN x) (mN x)) (2 ^ vP v) < 1024 := by
            rcases hbb with ⟨b1, _⟩ | ⟨_, b2, _⟩ <;> omega
          have e2 : n2I (bsN (gdT v (tN x) (mN x)) (2 ^ vP v)) = nI (bsN (gdT v (tN x) (mN x)) (2 ^ vP v)) := if_neg h0
          rw [if_neg h0] at hq1
          rw [e2, if_neg (nI_pos (by omega)), kX12_turn_134]
          rcases (by omega : k = 0 ∨ k = 1) with rfl | rfl
          · rw [if_pos (by decide)] at hq1
            rw [if_pos (by decide), kX12_turn_144, s_bitsOf hr]
            simp only [Option.toList_some, Option.toList_none, List.cons_append, List.nil_append]
            rw [kX12_turn_149]
            exact hq1
          · rw [if_neg (by decide)] at hq1
            rw [if_neg (by decide), kX12_turn_139, kX12_turn_149]
            exact hq1
