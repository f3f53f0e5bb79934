/-! ===== findWishers ===== -/
theorem c_gather {d : Nat} {F : am_FT} {L : am_LT} {Q : am_QT} {v : am_V} {rl : Nat → Bool} (hP : vP v ≤ 10) (h : F 1 2 = nI (vP v)) (ha : ∀ s, s < 2 ^ vP v → F 15 s = bI (rl s)) (h4 : F 17 4 = nI 0) (h5 : F 17 5 = nI 0) (hq : ∀ G : am_FT, (∀ q, q ≠ 17 → G q = F q) → G 17 4 = nI (cnt (fun s => !(rl s)) (2 ^ vP v)) → G 17 5 = nI (lst (fun s => !(rl s)) (2 ^ vP v)) → G 17 6 = nI (crt (fun s => !(rl s)) (2 ^ vP v - 1) (2 ^ vP v)) → Q none G L) : wc am_S0 (d + 1) mX1_gather [.ref 17] F L Q := by
  have h1 : 1 ≤ 2 ^ vP v := Nat.one_le_two_pow
  have h2 : 2 ^ vP v ≤ 1024 := two_le (k := 10) hP
  rw [eX1_gather, kX1_gather_0, h, nI_sh _ (by omega), show (0 : Int32) = nI 0 from rfl, show (nI (2 ^ vP v) - 1 : Int32) = nI (2 ^ vP v - 1) by
    simp (disch := omega) only [iI_n, iI_l, iI_neg, iI_add, iI_sub, iI_mul, iI_div, iI_lt, iI_le, iI_eq]
    congr 1
    omega]
  refine c_gather_loop (rl := rl) hP (2 ^ vP v) 0 _ (by omega) ?_ ?_ ?_ ?_ ?_
  · intro s hs; rw [up_o (by decide)]; exact ha s hs
  · rw [up_n (by decide)]; exact h4
  · rw [up_n (by decide)]; exact h5
  · rw [up_s]; rfl
  · intro G g1 g2 g3 g4
    exact hq G (fun q hq => (g1 q hq).trans (up_o hq)) g2 g3 g4
/-- whether the twos from k on, j of them, are all well said -/
def wsA (el : Nat → Int64) (n : Nat) : Nat → Nat → Bool
  | 0, _ => true
  | j + 1, k => if wsd el n k = true then wsA el n j (k + 1) else false
theorem mbt_lt (el : Nat → Int64) (n : Nat) (w : Bool) : ∀ k, (∀ i, i < k → wsd el n i = true) → mbt el w k < 4096 := by
  intro k
  induction k with
  | zero => intro _; exact Nat.two_pow_pos 12
  | succ k ih =>
    intro h
    unfold mbt
    split
    · exact or_lt (n := 12) (ih fun i hi => h i (by omega)) (Nat.pow_lt_pow_right (by decide) (wsd_mo (h k (by omega))).1)
    · exact ih fun i hi => h i (by omega)
theorem wsA_t (el : Nat → Int64) (n : Nat) : ∀ j k, wsA el n j k = true ↔ ∀ i, k ≤ i → i < k + j → wsd el n i = true := by
  intro j
  induction j with
  | zero => intro k; exact ⟨fun _ i h1 h2 => absurd h2 (by omega), fun _ => rfl⟩
  | succ j ih =>
    intro k
    have e : wsA el n (j + 1) k = if wsd el n k = true then wsA el n j (k + 1) else false := rfl
    rw [e]
    by_cases h : wsd el n k = true
    · rw [if_pos h, ih (k + 1)]
      constructor
      · intro hh i h1 h2
        by_cases hi : i = k
        · subst hi; exact h
        · exact hh i (by omega) (by omega)
      · intro hh i h1 h2
        exact hh i (by omega) (by omega)
    · rw [if_neg h]
      exact ⟨fun hh => Bool.noConfusion hh, fun hh => absurd (hh k (Nat.le_refl _) (by omega)) h⟩
/-- what comes of it: how many sets of wishers, the least, what is certain -/
def fwO (v : am_V) (t : Nat) (el : Nat → Int64) (n : Nat) : Nat × Nat × Nat := if (wsA el n ((n + 1) / 2) 0 && decide (mbt el true ((n + 1) / 2) &&& mbt el false ((n + 1) / 2) = 0)) = true then (cnt (fun s => !(rul v t (mbt el true ((n + 1) / 2)) (mbt el false ((n + 1) / 2)) s 12)) (2 ^ vP v), lst (fun s => !(rul v t (mbt el true ((n + 1) / 2)) (mbt el false ((n + 1) / 2)) s 12)) (2 ^ vP v), crt (fun s => !(rul v t (mbt el true ((n + 1) / 2)) (mbt el false ((n + 1) / 2)) s 12)) (2 ^ vP v - 1) (2 ^ vP v)) else (0, 0, 0)
theorem c_fw_loop {d p e n t : Nat} {F : am_FT} {L : am_LT} {Q : am_QT} (hs : shP p e) (hn : n ≤ 60) (hl : F p 2 = nI n) : ∀ (j k : Nat) (l7 : Option Value), k + j = (n + 1) / 2 → (∀ i, i < k → wsd (L e) n i = true) → (wsA (L e) n j k = false → Q none F L) → (wsA (L e) n j k = true → ∀ l7 : Option Value, wt am_S0 (d + 8) mX1_findWishers 95 [some (.ref 17), some (.ref p), some (.int (nI t)), some (.int (nI (mbt (L e) true ((n + 1) / 2)))), some (.int (nI (mbt (L e) false ((n + 1) / 2)))), some (.int (nI ((n + 1) / 2))), some (.int (nI ((n + 1) / 2))), l7] [] F L Q) → wt am_S0 (d + 8) mX1_findWishers 29 [some (.ref 17), some (.ref p), some (.int (nI t)), some (.int (nI (mbt (L e) true k))), some (.int (nI (mbt (L e) false k))), some (.int (nI ((n + 1) / 2))), some (.int (nI k)), l7] [] F L Q := by
  intro j
  induction j with
  | zero =>
    intro k l7 hk hw hf ht
    have : k = (n + 1) / 2 := by omega
    subst this
    rw [kX1_findWishers_29, if_pos (nI_le (Nat.le_refl _) (by omega))]
    exact ht rfl l7
  | succ j ih =>
    intro k l7 hk hw hf ht
    have ea : wsA (L e) n (j + 1) k = if wsd (L e) n k = true then wsA (L e) n j (k + 1) else false := rfl
    rw [kX1_findWishers_29, if_neg (nI_ge (by omega) (by omega)), kX1_findWishers_36, c_isWellSaid hs hl hn (by omega)]
    simp only [Option.toList_some, Option.toList_none, List.cons_append, List.nil_append]
    rw [kX1_findWishers_42]
    cases h1 : wsd (L e) n k
    · rw [h1] at ea
      rw [if_neg (by decide), kX1_findWishers_45]
      exact hf ea
    · rw [h1, if_pos rfl] at ea
      rw [ea] at hf ht
      obtain ⟨m1, m2, m3⟩ := wsd_mo h1
      have hsh : (1 : Int32) <<< ((L e (2 * k)).toInt32 &&& 31) = nI (2 ^ moN (L e) k) := by rw [m2, nI_sh _ (by omega)]
      have et : mbt (L e) true (k + 1) = if decide (L e (2 * k + 1) = 1) = true then mbt (L e) true k ||| 2 ^ moN (L e) k else mbt (L e) true k := rfl
      have ef : mbt (L e) false (k + 1) = if decide (L e (2 * k + 1) = 1) = false then mbt (L e) false k ||| 2 ^ moN (L e) k else mbt (L e) false k := rfl
      have hw1 : ∀ i, i < k + 1 → wsd (L e) n i = true := by
        intro i hi
        by_cases hik : i = k
        · subst hik; exact h1
        · exact hw i (by omega)
      rw [if_pos bIt, kX1_findWishers_46 hs.1, nI_2k, s_valueAt hs (by omega)]
      simp only [Option.toList_some, Option.toList_none, List.cons_append, List.nil_append]
      rw [kX1_findWishers_55 hs.1, nI_2k, nI_1, s_valueAt hs (by omega), hsh]
      simp only [Option.toList_some, Option.toList_none, List.cons_append, List.nil_append]
      rw [kX1_findWishers_69]
      by_cases h5 : L e (2 * k + 1) = 1
      · rw [decide_eq_true h5, if_pos rfl] at et
        rw [decide_eq_true h5, if_neg (by decide)] at ef
        rw [if_neg (fun hh => hh ((lg_cmp_eq _ _).mpr h5)), kX1_findWishers_74, kX1_findWishers_89, nI_1, nI_or, ← et, show mbt (L e) false k = mbt (L e) false (k + 1) from ef.symm]
        exact ih (k + 1) _ (by omega) hw1 hf ht
      · rw [decide_eq_false h5, if_neg (by decide)] at et
        rw [decide_eq_false h5, if_pos rfl] at ef
        rw [if_pos (fun hh => h5 ((lg_cmp_eq _ _).mp hh)), kX1_findWishers_82, kX1_findWishers_89, nI_1, nI_or, ← ef, show mbt (L e) true k = mbt (L e) true (k + 1) from et.symm]
        exact ih (k + 1) _ (by omega) hw1 hf ht
theorem c_findWishers {d p e n t : Nat} {F : am_FT} {L : am_LT} {Q : am_QT} {v : am_V} (hs : shP p e) (hp : 18 ≤ p) (hn : n ≤ 60) (ht : t < vT v) (h : CV F v) (hl : F p 2 = nI n) (hq : ∀ G, SQ F G → G 17 4 = nI (fwO v t (L e) n).1 → G 17 5 = nI (fwO v t (L e) n).2.1 → G 17 6 = nI (fwO v t (L e) n).2.2 → Q none G L) : wc am_S0 (d + 8) mX1_findWishers [.ref 17, .ref p, .int (nI t)] F L Q := by
  have hsq : SQ F (am_upF (am_upF (am_upF F 17 4 0) 17 5 0) 17 6 0) := SQ_tr (SQ_up (by omega)) (SQ_tr (SQ_up (by omega)) (SQ_up (by omega)))
  have hCV := SQ_CV hsq h
  have hl1 : am_upF (am_upF (am_upF F 17 4 0) 17 5 0) 17 6 0 p 2 = nI n := by rw [hsq.1 p (by omega)]; exact hl
  have z4 : am_upF (am_upF (am_upF F 17 4 0) 17 5 0) 17 6 0 17 4 = nI 0 := by rw [up_n (by decide), up_n (by decide), up_s]; rfl
  have z5 : am_upF (am_upF (am_upF F 17 4 0) 17 5 0) 17 6 0 17 5 = nI 0 := by rw [up_n (by decide), up_s]; rfl
  have z6 : am_upF (am_upF (am_upF F 17 4 0) 17 5 0) 17 6 0 17 6 = nI 0 := by rw [up_s]; rfl
  rw [eX1_findWishers, kX1_findWishers_0, c_twosOf hs hl1 hn]
  simp only [Option.toList_some, Option.toList_none, List.cons_append, List.nil_append]
  rw [kX1_findWishers_24]
  generalize am_upF (am_upF (am_upF F 17 4 0) 17 5 0) 17 6 0 = F1 at *
  refine c_fw_loop hs hn hl1 ((n + 1) / 2) 0 _ (by omega) (fun i hi => absurd hi (by omega)) ?_ ?_
  · intro hf
    have e0 : fwO v t (L e) n = (0, 0, 0) := by unfold fwO; rw [hf]; rfl
    rw [e0] at hq
    exact hq F1 hsq z4 z5 z6
  · intro htr l7
    have hws := (wsA_t (L e) n _ _).mp htr
    have b1 := mbt_lt (L e) n true ((n + 1) / 2) fun i hi => hws i (by omega) (by omega)
    have b2 := mbt_lt (L e) n false ((n + 1) / 2) fun i hi => hws i (by omega) (by omega)
    have hab : mbt (L e) true ((n + 1) / 2) &&& mbt (L e) false ((n + 1) / 2) < 4096 := Nat.lt_of_le_of_lt Nat.and_le_left b1
    rw [kX1_findWishers_95, nI_and]
    by_cases hz : mbt (L e) true ((n + 1) / 2) &&& mbt (L e) false ((n + 1) / 2) = 0
    · rw [if_pos (by rw [hz]; rfl), kX1_findWishers_103]
      have e0 : fwO v t (L e) n = (cnt (fun s => !(rul v t (mbt (L e) true ((n + 1) / 2)) (mbt (L e) false ((n + 1) / 2)) s 12)) (2 ^ vP v), lst (fun s => !(rul v t (mbt (L e) true ((n + 1) / 2)) (mbt (L e) false ((n + 1) / 2)) s 12)) (2 ^ vP v), crt (fun s => !(rul v t (mbt (L e) true ((n + 1) / 2)) (mbt (L e) false ((n + 1) / 2)) s 12)) (2 ^ vP v - 1) (2 ^ vP v)) := by unfold fwO; rw [htr, decide_eq_true hz]; rfl
      rw [e0] at hq
      apply c_ruleOut ht b1 b2 hCV
      intro G g1 g2 g3
      simp only [Option.toList_some, Option.toList_none, List.cons_append, List.nil_append]
      rw [kX1_findWishers_111]
      refine c_gather (v := v) (rl := fun s => rul v t (mbt (L e) true ((n + 1) / 2)) (mbt (L e) false ((n + 1) / 2)) s 12) h.2.1.2.1 (SQ_CV g1 hCV).1.2.1 g3 (by rw [g2 17 (by decide) (by decide)]; exact z4) (by rw [g2 17 (by decide) (by decide)]; exact z5) ?_
      intro H h1 h4 h5 h6
      simp only [Option.toList_some, Option.toList_none, List.cons_append, List.nil_append]
      rw [kX1_findWishers_115]
      exact hq H (SQ_tr hsq (SQ_tr g1 ⟨fun p hp => h1 p (by omega), by rw [h1 6 (by decide)]⟩)) h4 h5 h6
    · have e0 : fwO v t (L e) n = (0, 0, 0) := by unfold fwO; rw [htr, decide_eq_false hz]; rfl
      rw [e0] at hq
      rw [if_neg (nI_ne0 (by omega) (by omega)), kX1_findWishers_102]
      exact hq F1 hsq z4 z5 z6
