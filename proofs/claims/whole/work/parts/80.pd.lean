/-! ===== operands and chains, by how much is left to open ===== -/
theorem c_parse {n : Nat} {L : am_LT} {b : Nat → Nat} (hb : ∀ k, k < n → b k ≤ 255) (hn : n ≤ 120) : ∀ d : Nat, (∀ (o q : Nat) (cs : List Nat) (F : am_FT) (Q : am_QT) (D : Nat), o ≤ 6 → (6 - o) * 6 + 1 ≤ d → 2 * d + 2 ≤ D → q ≤ n → cs.length ≤ q → PS F b n q cs → rdP F b n cs L Q (pC (byt b n) d 5 o q) → wc am_S0 D mX7_readOperand [.ref 3, .int (nI o)] F L Q) ∧ (∀ (l o q : Nat) (cs : List Nat) (F : am_FT) (Q : am_QT) (D : Nat), l ≤ 5 → o ≤ 6 → (6 - o) * 6 + (6 - l) ≤ d → 2 * d + 3 ≤ D → q ≤ n → cs.length ≤ q → PS F b n q cs → rdP F b n cs L Q (pC (byt b n) d l o q) → wc am_S0 D mX7_readChain [.ref 3, .int (nI l), .int (nI o)] F L Q) := by
  have hB1 := byt_le hb
  have hB2 : ∀ q, byt b n q ≠ 256 → q < n := fun q h => byt_lt h
  intro d
  induction d with
  | zero => exact ⟨fun o q cs F Q D h1 h2 => absurd h2 (by omega), fun l o q cs F Q D h0 h1 h2 => absurd h2 (by omega)⟩
  | succ d ih =>
    have op : ∀ (o q : Nat) (cs : List Nat) (F : am_FT) (Q : am_QT) (D : Nat), o ≤ 6 → (6 - o) * 6 + 1 ≤ d + 1 → 2 * (d + 1) + 2 ≤ D → q ≤ n → cs.length ≤ q → PS F b n q cs → rdP F b n cs L Q (pC (byt b n) (d + 1) 5 o q) → wc am_S0 D mX7_readOperand [.ref 3, .int (nI o)] F L Q := by
      intro o q cs F Q D ho hf hD2 hqn hlen h hq
      obtain ⟨D', rfl⟩ : ∃ D', D = D' + 4 := ⟨D - 4, by omega⟩
      have hc := hB1 q
      have e : pC (byt b n) (d + 1) 5 o q = pOp (byt b n) (pC (byt b n) d 5 (o + 1)) (pC (byt b n) d 0 (o + 1)) o q := if_neg (by decide)
      unfold pOp at e
      rw [eX7_readOperand, kX7_readOperand_0, s_next h hb hn hqn]
      simp only [Option.toList_some, Option.toList_none, List.cons_append, List.nil_append]
      rw [kX7_readOperand_4, s_within, wi_c _ hc]
      simp only [Option.toList_some, Option.toList_none, List.cons_append, List.nil_append]
      rw [kX7_readOperand_13]
      cases hD : isD (byt b n q)
      · rw [hD, if_neg (by decide)] at e
        rw [if_pos bIf, kX7_readOperand_21, s_isName, nm_c _ hc]
        simp only [Option.toList_some, Option.toList_none, List.cons_append, List.nil_append]
        rw [kX7_readOperand_25]
        by_cases hN : nmN (byt b n q) < 6
        · rw [if_pos hN] at e
          rw [decide_eq_true hN, if_neg bIt, kX7_readOperand_28, cI_n (nm_b _ hc hN)]
          apply s_emit (PS_nx h) (by omega)
          intro G g1 g2
          simp only [Option.toList_some, Option.toList_none, List.cons_append, List.nil_append]
          rw [kX7_readOperand_43]
          exact rdP_r hq e G (FP_tr FP_up g1) g2
        · rw [if_neg hN] at e
          rw [decide_eq_false hN, if_pos bIf, kX7_readOperand_45]
          by_cases ho6 : 6 ≤ o
          · rw [if_pos ho6] at e
            rw [if_neg (show ¬ nI o < (6 : Int32) from nI_nlt (b := 6) ho6 (by omega)), kX7_readOperand_51]
            exact rdP_l hq e F cs (FP_rf F) hqn h
          · rw [if_neg ho6] at e
            rw [if_pos (show nI o < (6 : Int32) from nI_lt (b := 6) (by omega) (by decide)), kX7_readOperand_53]
            have un : (byt b n q = 33 ∨ byt b n q = 45) → wt am_S0 (D' + 4) mX7_readOperand 65 [some (.ref 3), some (.int (nI o)), some (.int (cI (byt b n q)))] [] F L Q := by
              intro hu
              rw [if_pos hu] at e
              have hlt : q < n := hB2 q (by omega)
              rw [kX7_readOperand_65, nI_1]
              apply ih.1 (o + 1) (q + 1) cs _ _ _ (by omega) (by omega) (by omega) hlt (by omega) (PS_nx h)
              rcases hs : pC (byt b n) d 5 (o + 1) (q + 1) with f | s
              · rw [hs] at e
                intro G cs' g1 g2 g3
                simp only [Option.toList_some, Option.toList_none, List.cons_append, List.nil_append]
                rw [kX7_readOperand_82, if_neg (by decide), kX7_readOperand_85]
                exact rdP_l hq e G cs' (FP_tr FP_up g1) g2 g3
              · rw [hs] at e
                intro G g1 g2
                have hok := pC_ok hB1 hB2 d 5 (o + 1) (q + 1) s hlt hs
                have h3 := hok.2.2.1
                have h4 := hok.2.1
                simp only [List.length_nil] at h3
                have hl2 : (cs ++ s.2.1).length < 121 := by rw [List.length_append]; omega
                simp only [Option.toList_some, Option.toList_none, List.cons_append, List.nil_append]
                rw [kX7_readOperand_82, if_pos (by decide), kX7_readOperand_87]
                dsimp only at e
                have fin : ∀ x : Nat, (if byt b n q = 33 then 33 else 256) = x → wt am_S0 (D' + 4) mX7_readOperand 102 [some (.ref 3), some (.int (nI o)), some (.int (cI (byt b n q)))] [.int (nI x), .ref 3] G L Q := by
                  intro x hx
                  rw [kX7_readOperand_102]
                  apply s_emit g2 hl2
                  intro H h1 h2
                  simp only [Option.toList_some, Option.toList_none, List.cons_append, List.nil_append]
                  rw [kX7_readOperand_105]
                  apply rdP_r hq e H (FP_tr FP_up (FP_tr g1 h1))
                  show PS H b n s.1 (cs ++ (s.2.1 ++ [if byt b n q = 33 then 33 else 256]))
                  rw [hx, ← List.append_assoc]
                  exact h2
                by_cases h33 : byt b n q = 33
                · rw [if_neg (fun hh => hh ((ce_c _ hc).1.mpr h33)), kX7_readOperand_94]
                  exact fin 33 (if_pos h33)
                · rw [if_pos (fun hh => h33 ((ce_c _ hc).1.mp hh)), kX7_readOperand_99]
                  exact fin 256 (if_neg h33)
            by_cases h33 : byt b n q = 33
            · rw [if_pos ((ce_c _ hc).1.mpr h33)]
              exact un (Or.inl h33)
            · rw [if_neg (fun hh => h33 ((ce_c _ hc).1.mp hh)), kX7_readOperand_59]
              by_cases h45 : byt b n q = 45
              · rw [if_neg (fun hh => hh ((ce_c _ hc).2.1.mpr h45))]
                exact un (Or.inr h45)
              · rw [if_pos (fun hh => h45 ((ce_c _ hc).2.1.mp hh)), kX7_readOperand_107]
                rw [if_neg (show ¬ (byt b n q = 33 ∨ byt b n q = 45) by omega)] at e
                by_cases h40 : byt b n q = 40
                · rw [if_pos h40] at e
                  have hlt : q < n := hB2 q (by omega)
                  rw [if_pos ((ce_c _ hc).2.2.1.mpr h40), kX7_readOperand_115, nI_1, show (0 : Int32) = nI 0 from rfl]
                  apply ih.2 0 (o + 1) (q + 1) cs _ _ _ (by omega) (by omega) (by omega) (by omega) hlt (by omega) (PS_nx h)
                  rcases hs : pC (byt b n) d 0 (o + 1) (q + 1) with f | s
                  · rw [hs] at e
                    intro G cs' g1 g2 g3
                    simp only [Option.toList_some, Option.toList_none, List.cons_append, List.nil_append]
                    rw [kX7_readOperand_133, if_pos rfl, kX7_readOperand_145]
                    exact rdP_l hq e G cs' (FP_tr FP_up g1) g2 g3
                  · rw [hs] at e
                    intro G g1 g2
                    have hok := pC_ok hB1 hB2 d 0 (o + 1) (q + 1) s hlt hs
                    simp only [Option.toList_some, Option.toList_none, List.cons_append, List.nil_append]
                    rw [kX7_readOperand_133, if_neg (by decide), kX7_readOperand_136, s_next g2 hb hn hok.2.1]
                    simp only [Option.toList_some, Option.toList_none, List.cons_append, List.nil_append]
                    rw [kX7_readOperand_140]
                    dsimp only at e
                    by_cases h41 : byt b n s.1 = 41
                    · rw [if_pos h41] at e
                      rw [if_pos ((ce_c _ (hB1 s.1)).2.2.2.1.mpr h41), kX7_readOperand_147]
                      exact rdP_r hq e _ (FP_tr FP_up (FP_tr g1 FP_up)) (PS_nx g2)
                    · rw [if_neg h41] at e
                      rw [if_neg (fun hh => h41 ((ce_c _ (hB1 s.1)).2.2.2.1.mp hh)), kX7_readOperand_145]
                      exact rdP_l hq e G _ (FP_tr FP_up g1) hok.2.1 g2
                · rw [if_neg h40] at e
                  rw [if_neg (fun hh => h40 ((ce_c _ hc).2.2.1.mp hh)), kX7_readOperand_113]
                  exact rdP_l hq e F cs (FP_rf F) hqn h
      · rw [hD, if_pos rfl] at e
        rw [if_neg bIt, kX7_readOperand_16]
        apply c_readNumber hb hn hqn h (by omega)
        intro G g1 g2
        simp only [Option.toList_some, Option.toList_none, List.cons_append, List.nil_append]
        rw [kX7_readOperand_20 rfl]
        exact rdP_r hq e G g1 g2
    refine ⟨op, ?_⟩
    intro l o q cs F Q D hl ho hf hD2 hqn hlen h hq
    obtain ⟨D', rfl⟩ : ∃ D', D = D' + 5 := ⟨D - 5, by omega⟩
    rw [eX7_readChain, kX7_readChain_0]
    by_cases hl5 : l < 5
    · rw [if_pos (show nI l < (5 : Int32) from nI_lt (b := 5) hl5 (by decide)), kX7_readChain_11, nI_1]
      have e : pC (byt b n) (d + 1) l o q = match pC (byt b n) d (l + 1) o q with
        | .inl f => .inl f
        | .inr s => lpC (byt b n) (pC (byt b n) d (l + 1) o) l 120 s := if_pos hl5
      apply ih.2 (l + 1) o q cs _ _ _ (by omega) ho (by omega) (by omega) hqn hlen h
      rcases hs : pC (byt b n) d (l + 1) o q with f | s
      · rw [hs] at e
        intro G cs' g1 g2 g3
        simp only [Option.toList_some, Option.toList_none, List.cons_append, List.nil_append]
        rw [kX7_readChain_19, if_neg (by decide), kX7_readChain_22]
        exact rdP_l hq e G cs' g1 g2 g3
      · rw [hs] at e
        have hok := pC_ok hB1 hB2 d (l + 1) o q s hqn hs
        have h3 := hok.2.2.1
        simp only [List.length_nil] at h3
        intro G g1 g2
        simp only [Option.toList_some, Option.toList_none, List.cons_append, List.nil_append]
        rw [kX7_readChain_19, if_pos (by decide), kX7_readChain_24, show (0 : Int32) = nI 0 from rfl]
        refine c_chain_loop (D := D' + 3) (cs0 := cs) hb hn hl5 (fun q t hq ht => pC_ok hB1 hB2 d (l + 1) o q t hq ht) (fun q cs F Q h1 h2 h3 h4 => ih.2 (l + 1) o q cs F Q _ (by omega) ho (by omega) (by omega) h1 h2 h3 h4) 120 0 s G _ rfl hok.2.1 (by rw [List.length_append]; omega) g2 ?_
        rw [e] at hq
        revert hq
        dsimp only
        rcases lpC (byt b n) (pC (byt b n) d (l + 1) o) l 120 s with f | r
        · intro hq G' cs' g1' g2' g3'
          exact hq G' cs' (FP_tr g1 g1') g2' g3'
        · intro hq G' g1' g2'
          exact hq G' (FP_tr g1 g1') g2'
    · have : l = 5 := by omega
      subst this
      rw [if_neg (by decide), kX7_readChain_5]
      apply op o q cs F _ _ ho (by omega) (by omega) hqn hlen h
      revert hq
      rcases pC (byt b n) (d + 1) 5 o q with f | r
      · intro hq G cs' g1 g2 g3
        simp only [Option.toList_some, Option.toList_none, List.cons_append, List.nil_append]
        rw [kX7_readChain_10 rfl]
        exact hq G cs' g1 g2 g3
      · intro hq G g1 g2
        simp only [Option.toList_some, Option.toList_none, List.cons_append, List.nil_append]
        rw [kX7_readChain_10 rfl]
        exact hq G g1 g2
