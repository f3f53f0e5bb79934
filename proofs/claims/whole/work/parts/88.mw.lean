/-! ===== the model: the law worked out, the tape taken ===== -/
/-- what workOut leaves -/
def FW (F G : am_FT) : Prop := (∀ p, p ≠ 45 → G p = F p) ∧ ∀ k, (k < 13 ∨ 17 < k) → G 45 k = F 45 k
theorem FW_rf (F : am_FT) : FW F F := ⟨fun _ _ => rfl, fun _ _ => rfl⟩
theorem FW_tr {F G H : am_FT} (h : FW F G) (k : FW G H) : FW F H := ⟨fun p a => (k.1 p a).trans (h.1 p a), fun i a => (k.2 i a).trans (h.2 i a)⟩
theorem FM_FW {F G : am_FT} (h : FM F G) : FW F G := ⟨h.1, fun k hk => h.2 k (by omega) (by omega) (by omega)⟩
theorem FW_up {F : am_FT} {k : Nat} {x : Int32} (hk : 13 ≤ k ∧ k ≤ 17) : FW F (am_upF F 45 k x) := ⟨fun _ a => up_o a, fun i a => up_n (by omega)⟩
theorem pTx_s {B : Nat → Nat} {n k q : Nat} : pTx B n (k + 1) q = match pLn B q with
    | .inl f => .inl f
    | .inr s => if n ≤ s.1 then .inr (s.2.1, fun e => if s.2.2.1 e = true then s.2.2.2 e else 0)
      else if B s.1 = 59 then (match pTx B n k (s.1 + 1) with
        | .inl f => .inl f
        | .inr t => .inr (s.2.1 ++ t.1, fun e => if s.2.2.1 e = true then s.2.2.2 e else t.2 e))
      else .inl s.1 := rfl
theorem pLn_s {B : Nat → Nat} {q : Nat} : pLn B q = match pC B 42 0 0 q with
  | .inl f => .inl f
  | .inr s => if B s.1 = 63 then (match pC B 42 0 0 (s.1 + 1) with
      | .inl f => .inl f
      | .inr t => .inr (t.1, s.2.1 ++ (63 :: (t.2.1 ++ [59])), fun e => !decide (s.2.2 e = 0), t.2.2))
    else .inr (s.1, s.2.1 ++ [59], fun _ => true, s.2.2) := rfl
theorem m_work_loop {d n : Nat} {L : am_LT} {Q : am_QT} {b : Nat → Nat} {e : Nat → Int32} (hb : ∀ k, k < n → b k ≤ 255) (hn : n ≤ 120) {x1 x2 : Int32} : ∀ (k q : Nat) (F : am_FT) (g y : Int32) (l6 l7 : Option Value), n + 1 ≤ q + k → q ≤ n → MS F b n e q 0 → (g = 0 ∨ g = 1) → (g = 0 → y = 0) → (∀ f, pTx (byt b n) n k q = .inl f → ∀ (G : am_FT) (x : Int32), FM F G → f ≤ n → MF G b n e f → Q (some (.int x)) G L) → (∀ t, pTx (byt b n) n k q = .inr t → ∀ (G : am_FT) (q' : Nat), FM F G → MS G b n e q' 0 → Q (some (.int (if g = 0 then t.2 e else y))) G L) → wt am_S0 (d + 45) mX12_workOut 33 [some (.ref 45), some (.int x1), some (.int x2), some (.int g), some (.int y), some (.int 1), l6, l7] [] F L Q := by
  have hB1 := byt_le hb
  have hB2 : ∀ q, byt b n q ≠ 256 → q < n := fun q h => byt_lt h
  have sub : subM b n e 0 L (d + 44) mX12_either (pC (byt b n) 42 0 0) := m_parse hb hn 42 0 0 (d + 44) (by omega) (by omega) (by omega) (by omega)
  intro k
  induction k with
  | zero => intro q F g y l6 l7 hk hqn; exact absurd hk (by omega)
  | succ k ih =>
    intro q F g y l6 l7 hk hqn h hg hgy hq0 hq1
    have er := pTx_s (B := byt b n) (n := n) (k := k) (q := q)
    have el := pLn_s (B := byt b n) (q := q)
    -- a fault behind a reading
    have bad : ∀ (G : am_FT) (f : Nat) (g' y' : Int32) (l5 l6 l7 : Option Value), pLn (byt b n) q = .inl f → FM F G → f ≤ n → MF G b n e f → wt am_S0 (d + 45) mX12_workOut 74 [some (.ref 45), some (.int x1), some (.int x2), some (.int g'), some (.int y'), some (.int 1), l6, l7] [] G L Q := by
      intro G f g' y' l5 l6 l7 hf g1 g2 g3
      rw [hf] at er
      rw [kX12_workOut_74, g3.2.2, if_pos (nlt0 (by omega)), kX12_workOut_96, s_takesF g3.2.2 (by omega)]
      simp only [Option.toList_some, Option.toList_none, List.cons_append, List.nil_append]
      rw [kX12_workOut_102, kX12_workOut_33, if_pos rfl, kX12_workOut_107, g3.2.2, if_pos (nlt0 (by omega)), kX12_workOut_130]
      exact hq0 f er G _ g1 g2 g3
    -- behind a line
    have good : ∀ (G : am_FT) (s : Nat × List Nat × ((Nat → Int32) → Bool) × ((Nat → Int32) → Int32)) (l7 : Int32), pLn (byt b n) q = .inr s → FM F G → MS G b n e s.1 0 → (l7 = if s.2.2.1 e = true then 1 else 0) → wt am_S0 (d + 45) mX12_workOut 74 [some (.ref 45), some (.int x1), some (.int x2), some (.int g), some (.int y), some (.int 1), some (.int (s.2.2.2 e)), some (.int l7)] [] G L Q := by
      intro G s l7 hs g1 g2 hl7
      have o := pLn_ok hB1 hB2 hqn hs
      rw [hs] at er
      dsimp only at er
      -- from 96 on
      have tail : ∀ (g' y' : Int32) (m6 m7 : Option Value), (g' = 0 ∨ g' = 1) → (g' = 0 → y' = 0) → (g' = 0 → g = 0 ∧ s.2.2.1 e = false) → (g' ≠ 0 → y' = if g = 0 then s.2.2.2 e else y) → (g' ≠ 0 → g = 0 → s.2.2.1 e = true) → wt am_S0 (d + 45) mX12_workOut 96 [some (.ref 45), some (.int x1), some (.int x2), some (.int g'), some (.int y'), some (.int 1), m6, m7] [] G L Q := by
        intro g' y' m6 m7 t1 t2 t3 t4 t5
        rw [kX12_workOut_96, show (59 : Int32) = nI 59 from rfl, s_takes g2 hb hn o.2.1 (by decide)]
        by_cases h59 : byt b n s.1 = 59
        · have hlt : s.1 < n := byt_s h59 (by decide)
          rw [if_neg (by omega), if_pos h59] at er
          rw [if_pos h59]
          simp only [Option.toList_some, Option.toList_none, List.cons_append, List.nil_append]
          rw [kX12_workOut_102]
          have fm : FM F (am_upF G 45 14 (nI (s.1 + 1))) := FM_tr g1 (FM_up (by omega))
          refine ih (s.1 + 1) _ g' y' _ _ (by omega) hlt (MS_q g2) t1 t2 ?_ ?_
          · intro f hf H x h1 h2 h3
            rw [hf] at er
            exact hq0 f er H x (FM_tr fm h1) h2 h3
          · intro t ht H q' h1 h2
            rw [ht] at er
            have := hq1 _ er H q' (FM_tr fm h1) h2
            have e2 : (if g = 0 then (if s.2.2.1 e = true then s.2.2.2 e else t.2 e) else y) = if g' = 0 then t.2 e else y' := by
              by_cases h0 : g' = 0
              · obtain ⟨a1, a2⟩ := t3 h0
                rw [if_pos h0, if_pos a1, a2, if_neg (by decide)]
              · rw [if_neg h0, t4 h0]
                by_cases hg0 : g = 0
                · rw [if_pos hg0, if_pos hg0, if_pos (t5 h0 hg0)]
                · rw [if_neg hg0, if_neg hg0]
            rw [← e2]
            exact this
        · rw [if_neg h59]
          simp only [Option.toList_some, Option.toList_none, List.cons_append, List.nil_append]
          rw [kX12_workOut_102, kX12_workOut_33, if_pos rfl, kX12_workOut_107, g2.2.2.1, if_neg (by decide), kX12_workOut_114, g2.1.1, g2.2.1]
          by_cases hns : n ≤ s.1
          · rw [if_pos hns] at er
            have := hq1 _ er G s.1 g1 g2
            have e2 : (if g = 0 then (if s.2.2.1 e = true then s.2.2.2 e else 0) else y) = y' := by
              by_cases h0 : g' = 0
              · obtain ⟨a1, a2⟩ := t3 h0
                rw [if_pos a1, a2, if_neg (by decide), t2 h0]
              · rw [t4 h0]
                by_cases hg0 : g = 0
                · rw [if_pos hg0, if_pos hg0, if_pos (t5 h0 hg0)]
                · rw [if_neg hg0, if_neg hg0]
            rw [if_pos (nI_le hns (by omega)), kX12_workOut_130, ← e2]
            exact this
          · rw [if_neg hns, if_neg h59] at er
            rw [if_neg (nI_ge (by omega) (by omega)), kX12_workOut_125, s_wrong g2.2.2.1 g2.2.1]
            simp only [Option.toList_some, Option.toList_none, List.cons_append, List.nil_append]
            rw [kX12_workOut_129]
            exact hq0 _ er _ _ (FM_tr g1 (FM_up (by omega))) o.2.1 (MF_16 g2.1 g2.2.1)
      rw [kX12_workOut_74, g2.2.2.1, if_neg (by decide), kX12_workOut_81]
      cases hc : s.2.2.1 e
      · rw [hc, if_neg (by decide)] at hl7
        rw [if_pos hl7]
        refine tail g y _ _ hg hgy (fun h0 => ⟨h0, hc⟩) (fun h0 => ?_) (fun h0 h1 => absurd h1 h0)
        rw [if_neg h0]
      · rw [hc, if_pos rfl] at hl7
        rw [if_neg (by rw [hl7]; decide), kX12_workOut_86]
        by_cases h0 : g = 0
        · rw [if_neg (fun hh => hh h0), kX12_workOut_90]
          refine tail 1 _ _ _ (Or.inr rfl) (fun hh => absurd hh (by decide)) (fun hh => absurd hh (by decide)) (fun _ => ?_) (fun _ _ => hc)
          rw [if_pos h0]
        · rw [if_pos h0]
          refine tail g y _ _ hg hgy (fun hh => absurd hh h0) (fun _ => ?_) (fun _ hh => absurd hh h0)
          rw [if_neg h0]
    rw [kX12_workOut_33, if_neg (by decide), kX12_workOut_38]
    apply sub q F _ hqn h
    rcases hs : pC (byt b n) 42 0 0 q with f | s
    · rw [hs] at el
      intro G x g1 g2 g3
      simp only [Option.toList_some, Option.toList_none, List.cons_append, List.nil_append]
      rw [kX12_workOut_42, s_takesF g3.2.2 (by omega)]
      simp only [Option.toList_some, Option.toList_none, List.cons_append, List.nil_append]
      rw [kX12_workOut_53, if_pos rfl]
      exact bad G f g y none _ _ el g1 g2 g3
    · rw [hs] at el
      dsimp only at el
      have o1 := pC_ok hB1 hB2 42 0 0 q s hqn hs
      intro G g1 g2
      simp only [Option.toList_some, Option.toList_none, List.cons_append, List.nil_append]
      rw [kX12_workOut_42, show (63 : Int32) = nI 63 from rfl, s_takes g2 hb hn o1.2.1 (by decide)]
      by_cases h63 : byt b n s.1 = 63
      · have hlt : s.1 < n := byt_s h63 (by decide)
        rw [if_pos h63] at el
        rw [if_pos h63]
        simp only [Option.toList_some, Option.toList_none, List.cons_append, List.nil_append]
        rw [kX12_workOut_53, if_neg (by decide), kX12_workOut_56]
        have hold : ∀ hx : Int32, (hx = if (!decide (s.2.2 e = 0)) = true then 1 else 0) → wt am_S0 (d + 45) mX12_workOut 66 [some (.ref 45), some (.int x1), some (.int x2), some (.int g), some (.int y), some (.int 1), some (.int (s.2.2 e)), some (.int 1)] [.int hx] (am_upF G 45 14 (nI (s.1 + 1))) L Q := by
          intro hx hhx
          rw [kX12_workOut_66]
          apply sub (s.1 + 1) _ _ hlt (MS_q g2)
          have fm : FM F (am_upF G 45 14 (nI (s.1 + 1))) := FM_tr g1 (FM_up (by omega))
          rcases ht : pC (byt b n) 42 0 0 (s.1 + 1) with f | t
          · rw [ht] at el
            intro H x h1 h2 h3
            simp only [Option.toList_some, Option.toList_none, List.cons_append, List.nil_append]
            rw [kX12_workOut_72]
            exact bad H f g y none _ _ el (FM_tr fm h1) h2 h3
          · rw [ht] at el
            dsimp only at el
            intro H h1 h2
            simp only [Option.toList_some, Option.toList_none, List.cons_append, List.nil_append]
            rw [kX12_workOut_72]
            exact good H _ hx el (FM_tr fm h1) h2 hhx
        by_cases h0 : s.2.2 e = 0
        · rw [if_pos h0, kX12_workOut_65]
          exact hold 0 (by rw [decide_eq_true h0]; rfl)
        · rw [if_neg h0, kX12_workOut_61]
          exact hold 1 (by rw [decide_eq_false h0]; rfl)
      · rw [if_neg h63] at el
        rw [if_neg h63]
        simp only [Option.toList_some, Option.toList_none, List.cons_append, List.nil_append]
        rw [kX12_workOut_53, if_pos rfl]
        exact good G _ 1 el g1 g2 (by rw [if_pos rfl])
theorem m_workOut {d n : Nat} {F : am_FT} {L : am_LT} {Q : am_QT} {b : Nat → Nat} {x : Int32} {e : Nat → Int32} (he : ∀ k, k < 6 → F 52 k = e k) (hb : ∀ k, k < n → b k ≤ 255) (hn : n ≤ 120) (hx : (x = -1 ∧ ∀ k, k < n → F 50 k = nI (b k)) ∨ (x = 0 ∧ ∀ k, k < n → F 51 k = nI (b k))) (hq0 : ∀ f, pTx (byt b n) n 121 0 = .inl f → ∀ (G : am_FT) (x : Int32), FW F G → f ≤ n → G 45 16 = nI f → Q (some (.int x)) G L) (hq1 : ∀ t, pTx (byt b n) n 121 0 = .inr t → ∀ G : am_FT, FW F G → G 45 16 = -1 → Q (some (.int (t.2 e))) G L) : wc am_S0 (d + 45) mX12_workOut [.ref 45, .int x, .int (nI n)] F L Q := by
  have fw : FW F (am_upF (am_upF (am_upF (am_upF (am_upF F 45 13 x) 45 14 0) 45 15 (nI n)) 45 16 (-1)) 45 17 0) := FW_tr (FW_up (by omega)) (FW_tr (FW_up (by omega)) (FW_tr (FW_up (by omega)) (FW_tr (FW_up (by omega)) (FW_up (by omega)))))
  rw [eX12_workOut, kX12_workOut_0, kX12_workOut_26]
  refine m_work_loop (e := e) hb hn 121 0 _ 0 0 _ _ (by omega) (Nat.zero_le _) ⟨⟨?_, ?_, ?_⟩, ?_, ?_, ?_⟩ (Or.inl rfl) (fun _ => rfl) ?_ ?_
  · rw [up_n (by decide), up_n (by decide), up_s]
  · rw [up_n (by decide), up_n (by decide), up_n (by decide), up_n (by decide), up_s, fw.1 50 (by decide), fw.1 51 (by decide)]
    exact hx
  · intro k hk
    rw [fw.1 52 (by decide)]
    exact he k hk
  · rw [up_n (by decide), up_n (by decide), up_n (by decide), up_s]; rfl
  · rw [up_n (by decide), up_s]
  · rw [up_s]; rfl
  · intro f hf G x g1 g2 g3
    exact hq0 f hf G x (FW_tr fw (FM_FW g1)) g2 g3.2.2
  · intro t ht G q' g1 g2
    rw [if_pos rfl]
    exact hq1 t ht G (FW_tr fw (FM_FW g1)) g2.2.2.1
theorem m_law_loop {d n : Nat} {L : am_LT} {Q : am_QT} {b : Nat → Nat} {x1 : Option Value} (hn : n ≤ 120) : ∀ (j k : Nat) (F : am_FT), k + j = n → (∀ i, i < n → F 50 i = nI (b i)) → (∀ i, i < k → F 51 i = nI (b i)) → (∀ G : am_FT, (∀ p, p ≠ 51 → G p = F p) → (∀ i, i < n → G 51 i = nI (b i)) → Q (some (.int 1)) (am_upF G 45 12 (nI n)) L) → wt am_S0 d mX12_law 37 [some (.ref 45), x1, some (.int (nI n)), some (.int (nI k))] [] F L Q := by
  intro j
  induction j with
  | zero =>
    intro k F hk h50 h51 hq
    have : k = n := by omega
    subst this
    rw [kX12_law_37, if_pos (nI_le (Nat.le_refl _) (by omega)), kX12_law_60]
    exact hq F (fun _ _ => rfl) h51
  | succ j ih =>
    intro k F hk h50 h51 hq
    rw [kX12_law_37, if_neg (nI_ge (by omega) (by omega)), kX12_law_42 (oobN (by omega) (by decide)), nI_clamp (by omega), h50 k (by omega), nI_1]
    refine ih (k + 1) _ (by omega) ?_ ?_ ?_
    · intro i hi
      rw [up_o (by decide)]; exact h50 i hi
    · intro i hi
      by_cases hik : i = k
      · subst hik; rw [up_s]
      · rw [up_n hik]; exact h51 i (by omega)
    · intro G g1 g2
      exact hq G (fun p hp => (g1 p hp).trans (up_o hp)) g2
theorem m_law {d n : Nat} {F : am_FT} {L : am_LT} {Q : am_QT} {b : Nat → Nat} (hb : ∀ k, k < n → b k ≤ 255) (hn : n ≤ 120) (h10 : F 45 10 = nI n) (h50 : ∀ k, k < n → F 50 k = nI (b k)) (hq0 : ∀ f, pTx (byt b n) n 121 0 = .inl f → f ≤ n → ∀ G : am_FT, FW F G → Q (some (.int (-100 - nI f))) (am_upF G 45 10 0) L) (hq1 : ∀ t, pTx (byt b n) n 121 0 = .inr t → ∀ G : am_FT, (∀ p, p ≠ 45 → p ≠ 51 → G p = F p) → (∀ k, (k < 13 ∨ 17 < k) → k ≠ 10 → k ≠ 12 → G 45 k = F 45 k) → G 45 10 = 0 → G 45 12 = nI n → (∀ i, i < n → G 51 i = nI (b i)) → Q (some (.int 1)) G L) : wc am_S0 (d + 46) mX12_law [.ref 45] F L Q := by
  rw [eX12_law, kX12_law_0, h10]
  apply m_workOut (e := F 52) (fun _ _ => rfl) hb hn (Or.inl ⟨rfl, h50⟩)
  · intro f hf G x g1 g2 g3
    simp only [Option.toList_some, Option.toList_none, List.cons_append, List.nil_append]
    rw [kX12_law_9, g3, if_neg (nI_pos (by omega)), kX12_law_27, up_n (by decide), g3]
    exact hq0 f hf g2 G g1
  · intro t ht G g1 g3
    simp only [Option.toList_some, Option.toList_none, List.cons_append, List.nil_append]
    rw [kX12_law_9, g3, if_pos (by decide), g1.2 10 (by omega), h10, kX12_law_35, show (some (.int 0) : Option Value) = some (.int (nI 0)) from rfl]
    refine m_law_loop (b := b) hn n 0 _ (by omega) ?_ (fun i hi => absurd hi (by omega)) ?_
    · intro i hi
      rw [up_o (by decide), g1.1 50 (by decide)]; exact h50 i hi
    · intro H h1 h2
      apply hq1 t ht
      · intro p p45 p51
        rw [up_o p45, h1 p p51, up_o p45, g1.1 p p45]
      · intro k hk k10 k12
        rw [up_n k12, h1 45 (by decide), up_n k10, g1.2 k hk]
      · rw [up_n (by decide), h1 45 (by decide), up_s]
      · rw [up_s]
      · intro i hi
        rw [up_o (by decide)]; exact h2 i hi
