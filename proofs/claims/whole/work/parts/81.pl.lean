/-! ===== lines, the whole text; the tape and the law of the class ===== -/
abbrev am_Ln : Type := Nat ⊕ (Nat × List Nat × ((Nat → Int32) → Bool) × ((Nat → Int32) → Int32))
def pLn (B : Nat → Nat) (q : Nat) : am_Ln := match pC B 42 0 0 q with
  | .inl f => .inl f
  | .inr s => if B s.1 = 63 then (match pC B 42 0 0 (s.1 + 1) with
      | .inl f => .inl f
      | .inr t => .inr (t.1, s.2.1 ++ (63 :: (t.2.1 ++ [59])), fun e => !decide (s.2.2 e = 0), t.2.2))
    else .inr (s.1, s.2.1 ++ [59], fun _ => true, s.2.2)
def pTx (B : Nat → Nat) (n : Nat) : Nat → Nat → Nat ⊕ (List Nat × ((Nat → Int32) → Int32))
  | 0, q => .inl q
  | k + 1, q => match pLn B q with
    | .inl f => .inl f
    | .inr s => if n ≤ s.1 then .inr (s.2.1, fun e => if s.2.2.1 e = true then s.2.2.2 e else 0)
      else if B s.1 = 59 then (match pTx B n k (s.1 + 1) with
        | .inl f => .inl f
        | .inr t => .inr (s.2.1 ++ t.1, fun e => if s.2.2.1 e = true then s.2.2.2 e else t.2 e))
      else .inl s.1
theorem pLn_ok {B : Nat → Nat} {n : Nat} (hB1 : ∀ q, B q < 257) (hB2 : ∀ q, B q ≠ 256 → q < n) {q : Nat} (hq : q ≤ n) {s : Nat × List Nat × ((Nat → Int32) → Bool) × ((Nat → Int32) → Int32)} (h : pLn B q = .inr s) : q < s.1 ∧ s.1 ≤ n ∧ s.2.1.length + q ≤ s.1 + 1 := by
  unfold pLn at h
  split at h
  next => cases h
  next s1 h1 =>
    have o1 := pC_ok hB1 hB2 42 0 0 q s1 hq h1
    have l1 := o1.2.2.1
    simp only [List.length_nil] at l1
    split at h
    next h63 =>
      have hlt := hB2 s1.1 (by omega)
      split at h
      next => cases h
      next t1 h2 =>
        cases h
        have o2 := pC_ok hB1 hB2 42 0 0 (s1.1 + 1) t1 hlt h2
        have l2 := o2.2.2.1
        simp only [List.length_nil] at l2
        have := o1.1
        have := o2.1
        refine ⟨by show q < t1.1; omega, o2.2.1, ?_⟩
        show (s1.2.1 ++ (63 :: (t1.2.1 ++ [59]))).length + q ≤ t1.1 + 1
        simp only [List.length_append, List.length_cons, List.length_nil]
        omega
    next =>
      cases h
      refine ⟨o1.1, o1.2.1, ?_⟩
      show (s1.2.1 ++ [59]).length + q ≤ s1.1 + 1
      simp only [List.length_append, List.length_cons, List.length_nil]
      omega
theorem c_readLine {d n q : Nat} {F : am_FT} {L : am_LT} {Q : am_QT} {b : Nat → Nat} {cs : List Nat} (hb : ∀ k, k < n → b k ≤ 255) (hn : n ≤ 120) (hqn : q ≤ n) (hlen : cs.length ≤ q) (h : PS F b n q cs) (hq0 : ∀ f, pLn (byt b n) q = .inl f → ∀ (G : am_FT) (cs' : List Nat), FP F G → f ≤ n → PS G b n f cs' → Q (some (.int 0)) G L) (hq1 : ∀ s, pLn (byt b n) q = .inr s → ∀ G : am_FT, FP F G → PS G b n s.1 (cs ++ s.2.1) → Q (some (.int 1)) G L) : wc am_S0 (d + 88) mX7_readLine [.ref 3] F L Q := by
  have hB1 := byt_le hb
  have hB2 : ∀ q, byt b n q ≠ 256 → q < n := fun q h => byt_lt h
  have e : pLn (byt b n) q = match pC (byt b n) 42 0 0 q with
  | .inl f => .inl f
  | .inr s => if byt b n s.1 = 63 then (match pC (byt b n) 42 0 0 (s.1 + 1) with
      | .inl f => .inl f
      | .inr t => .inr (t.1, s.2.1 ++ (63 :: (t.2.1 ++ [59])), fun e => !decide (s.2.2 e = 0), t.2.2))
    else .inr (s.1, s.2.1 ++ [59], fun _ => true, s.2.2) := rfl
  rw [eX7_readLine, kX7_readLine_0, show (0 : Int32) = nI 0 from rfl]
  apply (c_parse hb hn 42).2 0 0 q cs _ _ _ (by omega) (by omega) (by omega) (by omega) hqn hlen h
  rcases hs : pC (byt b n) 42 0 0 q with f | s
  · rw [hs] at e
    intro G cs' g1 g2 g3
    simp only [Option.toList_some, Option.toList_none, List.cons_append, List.nil_append]
    rw [kX7_readLine_6, if_neg (by decide), kX7_readLine_9]
    exact hq0 f e G cs' g1 g2 g3
  · rw [hs] at e
    dsimp only at e
    have o1 := pC_ok hB1 hB2 42 0 0 q s hqn hs
    have l1 := o1.2.2.1
    simp only [List.length_nil] at l1
    have o12 := o1.2.1
    have hl1 : (cs ++ s.2.1).length ≤ s.1 := by rw [List.length_append]; omega
    intro G g1 g2
    simp only [Option.toList_some, Option.toList_none, List.cons_append, List.nil_append]
    rw [kX7_readLine_6, if_pos (by decide), kX7_readLine_11, s_next g2 hb hn o1.2.1]
    simp only [Option.toList_some, Option.toList_none, List.cons_append, List.nil_append]
    rw [kX7_readLine_15]
    by_cases h63 : byt b n s.1 = 63
    · rw [if_pos h63] at e
      have hlt := hB2 s.1 (by omega)
      rw [if_neg (fun hh => hh ((ce_c _ (hB1 s.1)).2.2.2.2.1.mpr h63)), kX7_readLine_20, show (63 : Int32) = nI 63 from rfl]
      apply s_emit (PS_nx g2) (by omega)
      intro H h1 h2
      simp only [Option.toList_some, Option.toList_none, List.cons_append, List.nil_append]
      rw [kX7_readLine_36, show (0 : Int32) = nI 0 from rfl]
      have hl2 : (cs ++ s.2.1 ++ [63]).length ≤ s.1 + 1 := by rw [List.length_append]; show _ + 1 ≤ _; omega
      apply (c_parse hb hn 42).2 0 0 (s.1 + 1) (cs ++ s.2.1 ++ [63]) _ _ _ (by omega) (by omega) (by omega) (by omega) hlt hl2 h2
      rcases ht : pC (byt b n) 42 0 0 (s.1 + 1) with f | t
      · rw [ht] at e
        intro K cs' k1 k2 k3
        simp only [Option.toList_some, Option.toList_none, List.cons_append, List.nil_append]
        rw [kX7_readLine_42, if_neg (by decide), kX7_readLine_45]
        exact hq0 f e K cs' (FP_tr g1 (FP_tr FP_up (FP_tr h1 k1))) k2 k3
      · rw [ht] at e
        have o2 := pC_ok hB1 hB2 42 0 0 (s.1 + 1) t hlt ht
        have l2 := o2.2.2.1
        simp only [List.length_nil] at l2
        have o22 := o2.2.1
        intro K k1 k2
        simp only [Option.toList_some, Option.toList_none, List.cons_append, List.nil_append]
        rw [kX7_readLine_42, if_pos (by decide), kX7_readLine_47, show (59 : Int32) = nI 59 from rfl]
        apply s_emit k2 (by rw [List.length_append]; omega)
        intro M m1 m2
        simp only [Option.toList_some, Option.toList_none, List.cons_append, List.nil_append]
        rw [kX7_readLine_53]
        apply hq1 _ e M (FP_tr g1 (FP_tr FP_up (FP_tr h1 (FP_tr k1 m1))))
        show PS M b n t.1 (cs ++ (s.2.1 ++ (63 :: (t.2.1 ++ [59]))))
        rw [show cs ++ (s.2.1 ++ (63 :: (t.2.1 ++ [59]))) = cs ++ s.2.1 ++ [63] ++ t.2.1 ++ [59] by simp only [List.append_assoc, List.cons_append, List.nil_append]]
        exact m2
    · rw [if_neg h63] at e
      rw [if_pos (fun hh => h63 ((ce_c _ (hB1 s.1)).2.2.2.2.1.mp hh)), kX7_readLine_47, show (59 : Int32) = nI 59 from rfl]
      apply s_emit g2 (by omega)
      intro M m1 m2
      simp only [Option.toList_some, Option.toList_none, List.cons_append, List.nil_append]
      rw [kX7_readLine_53]
      apply hq1 _ e M (FP_tr g1 m1)
      show PS M b n s.1 (cs ++ (s.2.1 ++ [59]))
      rw [← List.append_assoc]
      exact m2
theorem c_find_loop {d n : Nat} {L : am_LT} {Q : am_QT} {b : Nat → Nat} (hb : ∀ k, k < n → b k ≤ 255) (hn : n ≤ 120) : ∀ (k j q : Nat) (cs : List Nat) (F : am_FT), j + k = 121 → q ≤ n → cs.length ≤ q → PS F b n q cs → (∀ f, pTx (byt b n) n k q = .inl f → ∀ (G : am_FT) (cs' : List Nat), FP F G → f ≤ n → PS G b n f cs' → Q (some (.int (nI f))) G L) → (∀ t, pTx (byt b n) n k q = .inr t → ∀ (G : am_FT) (q' : Nat), FP F G → PS G b n q' (cs ++ t.1) → (cs ++ t.1).length ≤ 121 → Q (some (.int (-1))) G L) → wt am_S0 (d + 89) mX7_findFault 12 [some (.ref 3), some (.int (nI j))] [] F L Q := by
  have hB1 := byt_le hb
  have hB2 : ∀ q, byt b n q ≠ 256 → q < n := fun q h => byt_lt h
  intro k
  induction k with
  | zero =>
    intro j q cs F hj hqn hlen h hq0 hq1
    have : j = 121 := by omega
    subst this
    rw [kX7_findFault_12, if_pos (by decide), kX7_findFault_73, h.2.1]
    exact hq0 q rfl F cs (FP_rf F) hqn h
  | succ k ih =>
    intro j q cs F hj hqn hlen h hq0 hq1
    have e : pTx (byt b n) n (k + 1) q = match pLn (byt b n) q with
    | .inl f => .inl f
    | .inr s => if n ≤ s.1 then .inr (s.2.1, fun e => if s.2.2.1 e = true then s.2.2.2 e else 0)
      else if byt b n s.1 = 59 then (match pTx (byt b n) n k (s.1 + 1) with
        | .inl f => .inl f
        | .inr t => .inr (s.2.1 ++ t.1, fun e => if s.2.2.1 e = true then s.2.2.2 e else t.2 e))
      else .inl s.1 := rfl
    rw [kX7_findFault_12, if_neg (show ¬ (120 : Int32) < nI j from nI_nlt (a := 120) (by omega) (by decide)), kX7_findFault_18]
    apply c_readLine hb hn hqn hlen h
    · intro f hf G cs' g1 g2 g3
      simp only [Option.toList_some, Option.toList_none, List.cons_append, List.nil_append]
      rw [kX7_findFault_22, if_neg (by decide), kX7_findFault_25, g3.2.1]
      rw [hf] at e
      exact hq0 f e G cs' g1 g2 g3
    · intro s hs G g1 g2
      have o := pLn_ok hB1 hB2 hqn hs
      have o2 := o.2.1
      have o3 := o.2.2
      have hl : (cs ++ s.2.1).length ≤ s.1 + 1 := by rw [List.length_append]; omega
      rw [hs] at e
      dsimp only at e
      simp only [Option.toList_some, Option.toList_none, List.cons_append, List.nil_append]
      rw [kX7_findFault_22, if_pos (by decide), kX7_findFault_30, g2.1, g2.2.1]
      by_cases hns : n ≤ s.1
      · rw [if_pos hns] at e
        rw [if_neg (nI_nlt hns (by omega)), kX7_findFault_41]
        exact hq1 _ e G s.1 g1 g2 (by show (cs ++ s.2.1).length ≤ 121; omega)
      · rw [if_neg hns] at e
        rw [if_pos (nI_lt (by omega) (by omega)), kX7_findFault_43, s_next g2 hb hn o.2.1]
        simp only [Option.toList_some, Option.toList_none, List.cons_append, List.nil_append]
        rw [kX7_findFault_47]
        by_cases h59 : byt b n s.1 = 59
        · rw [if_pos h59] at e
          rw [if_pos ((ce_c _ (hB1 s.1)).2.2.2.2.2.mpr h59), kX7_findFault_57, nI_1]
          refine ih (j + 1) (s.1 + 1) (cs ++ s.2.1) _ (by omega) (by omega) hl (PS_nx g2) ?_ ?_
          · intro f hf H cs' h1 h2 h3
            rw [hf] at e
            exact hq0 f e H cs' (FP_tr g1 (FP_tr FP_up h1)) h2 h3
          · intro t ht H q' h1 h2 h3
            rw [ht] at e
            rw [List.append_assoc] at h2 h3
            exact hq1 _ e H q' (FP_tr g1 (FP_tr FP_up h1)) h2 h3
        · rw [if_neg h59] at e
          rw [if_neg (fun hh => h59 ((ce_c _ (hB1 s.1)).2.2.2.2.2.mp hh)), kX7_findFault_52, g2.2.1]
          exact hq0 _ e G _ g1 o.2.1 g2
theorem c_findFault {d n : Nat} {F : am_FT} {L : am_LT} {Q : am_QT} {b : Nat → Nat} (hb : ∀ k, k < n → b k ≤ 255) (hn : n ≤ 120) (h2 : F 3 2 = nI n) (h4 : ∀ k, k < n → F 4 k = nI (b k)) (hq0 : ∀ f, pTx (byt b n) n 121 0 = .inl f → ∀ (G : am_FT) (cs' : List Nat), FP F G → f ≤ n → PS G b n f cs' → Q (some (.int (nI f))) G L) (hq1 : ∀ t, pTx (byt b n) n 121 0 = .inr t → ∀ (G : am_FT) (q' : Nat), FP F G → PS G b n q' t.1 → t.1.length ≤ 121 → Q (some (.int (-1))) G L) : wc am_S0 (d + 89) mX7_findFault [.ref 3] F L Q := by
  have hfp : FP F (am_upF (am_upF F 3 3 0) 3 4 0) := FP_tr FP_up FP_up
  rw [eX7_findFault, kX7_findFault_0, show (some (.int 0) : Option Value) = some (.int (nI 0)) from rfl]
  refine c_find_loop hb hn 121 0 0 [] _ rfl (Nat.zero_le _) (Nat.zero_le _) ⟨?_, ?_, ?_, fun k hk => ?_, fun i hi => absurd hi (by simp)⟩ ?_ ?_
  · rw [up_n (by decide), up_n (by decide)]; exact h2
  · rw [up_n (by decide), up_s]; rfl
  · rw [up_s]; rfl
  · rw [up_o (by decide), up_o (by decide)]; exact h4 k hk
  · intro f hf G cs' g1 g2 g3
    exact hq0 f hf G cs' (FP_tr hfp g1) g2 g3
  · intro t ht G q' g1 g2 g3
    exact hq1 t ht G q' (FP_tr hfp g1) g2 g3
theorem c_become_loop {d len : Nat} {L : am_LT} {Q : am_QT} {l2 : Option Value} {f : Nat → Int32} (hl : len ≤ 121) : ∀ (j k : Nat) (F : am_FT), k + j = len → F 6 2 = nI len → (∀ i, i < len → F 5 i = f i) → (∀ i, i < k → F 7 i = f i) → (∀ G : am_FT, (∀ p, p ≠ 7 → G p = F p) → (∀ i, i < len → G 7 i = f i) → Q none G L) → (∀ x, l2 = some (.int x) → wt am_S0 (d + 1) mX6_become 15 [some (.ref 6), some (.ref 5), l2, some (.int (nI k))] [] F L Q) := by
  intro j
  induction j with
  | zero =>
    intro k F hk h2 h5 h7 hq x hx
    have : k = len := by omega
    subst this
    rw [kX6_become_15, h2, if_pos (nI_le (Nat.le_refl _) (by omega)), kX6_become_42]
    exact hq F (fun _ _ => rfl) h7
  | succ j ih =>
    intro k F hk h2 h5 h7 hq x hx
    subst hx
    rw [kX6_become_15, h2, if_neg (nI_ge (by omega) (by omega)), kX6_become_23, s_at (p := 5) (n := 121) rfl (by decide), rdA_n (by omega) (by decide), h5 k (by omega)]
    simp only [Option.toList_some, Option.toList_none, List.cons_append, List.nil_append]
    rw [kX6_become_33, s_lay (p := 7) (n := 121) rfl (by decide), wrA_n (by omega) (by decide)]
    simp only [Option.toList_some, Option.toList_none, List.cons_append, List.nil_append]
    rw [kX6_become_36, nI_1]
    refine ih (k + 1) _ (by omega) ?_ ?_ ?_ ?_ x rfl
    · rw [up_o (by decide)]; exact h2
    · intro i hi
      rw [up_o (by decide)]; exact h5 i hi
    · intro i hi
      by_cases hik : i = k
      · subst hik; rw [up_s]
      · rw [up_n hik]; exact h7 i (by omega)
    · intro G g1 g2
      exact hq G (fun p hp => (g1 p hp).trans (up_o hp)) g2
theorem c_become {d len : Nat} {F : am_FT} {L : am_LT} {Q : am_QT} (hl : len ≤ 121) (hq : ∀ G : am_FT, (∀ p, p ≠ 7 → p ≠ 6 → G p = F p) → G 6 = am_upF F 6 2 (nI len) 6 → (∀ i, i < len → G 7 i = F 5 i) → Q none G L) : wc am_S0 (d + 1) mX6_become [.ref 6, .ref 5, .int (nI len)] F L Q := by
  rw [eX6_become, kX6_become_0, show (if (121 : Int32) < nI len then (121 : Int32) else nI len) = nI len from if_neg (show ¬ (121 : Int32) < nI len from nI_nlt (a := 121) (by omega) (by decide)), show (some (.int 0) : Option Value) = some (.int (nI 0)) from rfl]
  refine c_become_loop (f := F 5) hl len 0 _ (by omega) ?_ ?_ (fun i hi => absurd hi (by omega)) ?_ _ rfl
  · rw [up_s]
  · intro i hi
    rw [up_o (by decide)]
  · intro G g1 g2
    exact hq G (fun p p7 p6 => (g1 p p7).trans (up_o p6)) (g1 6 (by decide)) g2
