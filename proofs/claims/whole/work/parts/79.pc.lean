/-! ===== the law's text, read by the class ===== -/
def PS (F : am_FT) (b : Nat → Nat) (n q : Nat) (cs : List Nat) : Prop := F 3 2 = nI n ∧ F 3 3 = nI q ∧ F 3 4 = nI cs.length ∧ (∀ k, k < n → F 4 k = nI (b k)) ∧ ∀ i, i < cs.length → F 5 i = nI (cs.getD i 0)
def FP (F G : am_FT) : Prop := ∀ p, p ≠ 3 → p ≠ 5 → G p = F p
def cI (c : Nat) : Int32 := if c = 256 then -1 else nI c
theorem FP_rf (F : am_FT) : FP F F := fun _ _ _ => rfl
theorem FP_tr {F G H : am_FT} (h : FP F G) (k : FP G H) : FP F H := fun p a b => (k p a b).trans (h p a b)
theorem FP_up {F : am_FT} {k : Nat} {x : Int32} : FP F (am_upF F 3 k x) := fun _ a _ => up_o a
theorem gd_l {l r : List Nat} {i : Nat} (h : i < l.length) : (l ++ r).getD i 0 = l.getD i 0 := by
  rw [List.getD_eq_getElem?_getD, List.getD_eq_getElem?_getD, List.getElem?_append_left h]
theorem gd_r {l r : List Nat} {j : Nat} : (l ++ r).getD (l.length + j) 0 = r.getD j 0 := by
  rw [List.getD_eq_getElem?_getD, List.getD_eq_getElem?_getD, List.getElem?_append_right (by omega), Nat.add_sub_cancel_left]
theorem PS_pl {F : am_FT} {b : Nat → Nat} {n q q' : Nat} {cs : List Nat} (h : PS F b n q cs) : PS (am_upF F 3 3 (nI q')) b n q' cs :=
  ⟨by rw [up_n (by decide)]; exact h.1, by rw [up_s], by rw [up_n (by decide)]; exact h.2.2.1, fun k hk => by rw [up_o (by decide)]; exact h.2.2.2.1 k hk, fun i hi => by rw [up_o (by decide)]; exact h.2.2.2.2 i hi⟩
theorem PS_nx {F : am_FT} {b : Nat → Nat} {n q : Nat} {cs : List Nat} (h : PS F b n q cs) : PS (am_upF F 3 3 (F 3 3 + 1)) b n (q + 1) cs := by
  rw [h.2.1, nI_1]
  exact PS_pl h
theorem cI_n {c : Nat} (h : c ≠ 256) : cI c = nI c := if_neg h
theorem s_next {d : Nat} {F : am_FT} {L : am_LT} {Q : am_QT} {b : Nat → Nat} {n q : Nat} {cs : List Nat} (h : PS F b n q cs) (hb : ∀ k, k < n → b k ≤ 255) (hn : n ≤ 120) (hq : q ≤ n) : wc am_S0 (d + 1) mX7_next [.ref 3] F L Q = Q (some (.int (cI (byt b n q)))) F L := by
  rw [eX7_next, kX7_next_0, h.1, h.2.1]
  by_cases hqn : q < n
  · have h1 := hb q hqn
    rw [if_neg (nI_ge hqn (by omega)), kX7_next_11, h.2.1, s_at (p := 4) (n := 120) rfl (by decide), rdA_n (by omega) (by decide), h.2.2.2.1 q hqn]
    simp only [Option.toList_some, Option.toList_none, List.cons_append, List.nil_append]
    rw [kX7_next_22, kX7_next_26]
    unfold byt
    rw [if_pos hqn, cI_n (by omega)]
  · rw [if_pos (nI_le (by omega) (by omega)), kX7_next_25, kX7_next_26]
    unfold byt
    rw [if_neg hqn]
    rfl
theorem s_emit {d x : Nat} {F : am_FT} {L : am_LT} {Q : am_QT} {b : Nat → Nat} {n q : Nat} {cs : List Nat} (h : PS F b n q cs) (hl : cs.length < 121) (hq : ∀ G, FP F G → PS G b n q (cs ++ [x]) → Q none G L) : wc am_S0 (d + 1) mX7_emit [.ref 3, .int (nI x)] F L Q := by
  rw [eX7_emit, kX7_emit_0, h.2.2.1, s_lay (p := 5) (n := 121) rfl (by decide), wrA_n (by omega) (by decide)]
  simp only [Option.toList_some, Option.toList_none, List.cons_append, List.nil_append]
  rw [kX7_emit_12, up_o (q := 3) (by decide), h.2.2.1, nI_1]
  apply hq
  · intro p p3 p5
    rw [up_o p3, up_o p5]
  · refine ⟨?_, ?_, ?_, fun k hk => ?_, fun i hi => ?_⟩
    · rw [up_n (by decide), up_o (by decide)]; exact h.1
    · rw [up_n (by decide), up_o (by decide)]; exact h.2.1
    · rw [up_s, List.length_append]; rfl
    · rw [up_o (by decide), up_o (by decide)]; exact h.2.2.2.1 k hk
    · rw [List.length_append] at hi
      have hi' : i < cs.length + 1 := hi
      rw [up_o (by decide)]
      by_cases hx : i = cs.length
      · subst hx
        rw [up_s, show cs.length = cs.length + 0 from rfl, gd_r]; rfl
      · rw [up_n hx, gd_l (by omega)]; exact h.2.2.2.2 i (by omega)
def lvI (x : Int32) : Int32 := if x = 37 then 4 else if x = 38 then 1 else if x = 42 then 4 else if x = 43 then 3 else if x = 45 then 3 else if x = 47 then 4 else if x = 60 then 2 else if x = 61 then 2 else if x = 62 then 2 else if x = 124 then 0 else -1
theorem s_levelOf {d : Nat} {F : am_FT} {L : am_LT} {Q : am_QT} {x : Int32} : wc am_S0 d mX7_levelOf [.int x] F L Q = Q (some (.int (lvI x))) F L := by
  unfold lvI
  simp only [eX7_levelOf, kX7_levelOf_0, kX7_levelOf_92, kX7_levelOf_94, kX7_levelOf_96, kX7_levelOf_98, kX7_levelOf_100, kX7_levelOf_102]
  repeat (split; rfl)
  rfl
theorem lv_c : ∀ c, c < 257 → lvI (cI c) = if lvl c = 9 then -1 else nI (lvl c) := by decide +kernel
theorem lv_e : ∀ c, c < 257 → ∀ l, l < 5 → ((if lvl c = 9 then (-1 : Int32) else nI (lvl c)) = nI l ↔ lvl c = l) := by decide +kernel
def inmI (x : Int32) : Int32 := if x = 104 then 1 else if x = 105 then 0 else if x = 106 then 0 else if x = 107 then 0 else if x = 108 then 0 else if x = 109 then 1 else if x = 110 then 1 else if x = 111 then 0 else if x = 112 then 1 else if x = 113 then 0 else if x = 114 then 0 else if x = 115 then 0 else if x = 116 then 1 else if x = 117 then 0 else if x = 118 then 0 else if x = 119 then 1 else 0
theorem s_isName {d : Nat} {F : am_FT} {L : am_LT} {Q : am_QT} {x : Int32} : wc am_S0 d mX7_isName [.int x] F L Q = Q (some (.int (inmI x))) F L := by
  unfold inmI
  rw [eX7_isName, kX7_isName_0]
  by_cases h104 : x = 104
  · rw [if_pos h104, if_pos h104, kX7_isName_80]
  rw [if_neg h104, if_neg h104]
  by_cases h105 : x = 105
  · rw [if_pos h105, if_pos h105, kX7_isName_82]
  rw [if_neg h105, if_neg h105]
  by_cases h106 : x = 106
  · rw [if_pos h106, if_pos h106, kX7_isName_82]
  rw [if_neg h106, if_neg h106]
  by_cases h107 : x = 107
  · rw [if_pos h107, if_pos h107, kX7_isName_82]
  rw [if_neg h107, if_neg h107]
  by_cases h108 : x = 108
  · rw [if_pos h108, if_pos h108, kX7_isName_82]
  rw [if_neg h108, if_neg h108]
  by_cases h109 : x = 109
  · rw [if_pos h109, if_pos h109, kX7_isName_80]
  rw [if_neg h109, if_neg h109]
  by_cases h110 : x = 110
  · rw [if_pos h110, if_pos h110, kX7_isName_80]
  rw [if_neg h110, if_neg h110]
  by_cases h111 : x = 111
  · rw [if_pos h111, if_pos h111, kX7_isName_82]
  rw [if_neg h111, if_neg h111]
  by_cases h112 : x = 112
  · rw [if_pos h112, if_pos h112, kX7_isName_80]
  rw [if_neg h112, if_neg h112]
  by_cases h113 : x = 113
  · rw [if_pos h113, if_pos h113, kX7_isName_82]
  rw [if_neg h113, if_neg h113]
  by_cases h114 : x = 114
  · rw [if_pos h114, if_pos h114, kX7_isName_82]
  rw [if_neg h114, if_neg h114]
  by_cases h115 : x = 115
  · rw [if_pos h115, if_pos h115, kX7_isName_82]
  rw [if_neg h115, if_neg h115]
  by_cases h116 : x = 116
  · rw [if_pos h116, if_pos h116, kX7_isName_80]
  rw [if_neg h116, if_neg h116]
  by_cases h117 : x = 117
  · rw [if_pos h117, if_pos h117, kX7_isName_82]
  rw [if_neg h117, if_neg h117]
  by_cases h118 : x = 118
  · rw [if_pos h118, if_pos h118, kX7_isName_82]
  rw [if_neg h118, if_neg h118]
  by_cases h119 : x = 119
  · rw [if_pos h119, if_pos h119, kX7_isName_80]
  rw [if_neg h119, if_neg h119]
  rw [kX7_isName_82]
theorem nm_c : ∀ c, c < 257 → inmI (cI c) = bI (decide (nmN c < 6)) := by decide +kernel
theorem nm_b : ∀ c, c < 257 → nmN c < 6 → c ≠ 256 := by decide +kernel
theorem wi_c : ∀ c, c < 257 → wiI (cI c) 48 57 = bI (isD c) := by decide +kernel
theorem isD_b {c : Nat} (h : isD c = true) : 48 ≤ c ∧ c ≤ 57 := by
  unfold isD at h
  simp only [Bool.and_eq_true, decide_eq_true_eq] at h
  exact h
theorem ce_c : ∀ c, c < 257 → (cI c = 33 ↔ c = 33) ∧ (cI c = 45 ↔ c = 45) ∧ (cI c = 40 ↔ c = 40) ∧ (cI c = 41 ↔ c = 41) ∧ (cI c = 63 ↔ c = 63) ∧ (cI c = 59 ↔ c = 59) := by decide +kernel
theorem c_num_loop {d n : Nat} {L : am_LT} {Q : am_QT} {b : Nat → Nat} {cs : List Nat} (hb : ∀ k, k < n → b k ≤ 255) (hn : n ≤ 120) : ∀ (k j q x : Nat) (F : am_FT), j + k = 4 → q ≤ n → PS F b n q cs → x < 10 ^ j → (∀ G l2, FP F G → PS G b n (dgs (byt b n) k q x).1 cs → wt am_S0 (d + 2) mX7_readNumber 52 [some (.ref 3), some (.int (nI (dgs (byt b n) k q x).2)), l2] [] G L Q) → wt am_S0 (d + 2) mX7_readNumber 4 [some (.ref 3), some (.int (nI x)), some (.int (nI j))] [] F L Q := by
  intro k
  induction k with
  | zero =>
    intro j q x F hj hqn h hx hq
    have : j = 4 := by omega
    subst this
    rw [kX7_readNumber_4, if_pos (by decide)]
    exact hq F _ (FP_rf F) h
  | succ k ih =>
    intro j q x F hj hqn h hx hq
    have hc := byt_le hb q
    rw [kX7_readNumber_4, if_neg (show ¬ (4 : Int32) ≤ nI j from nI_ge (b := 4) (by omega) (by decide)), kX7_readNumber_9, s_next h hb hn hqn]
    simp only [Option.toList_some, Option.toList_none, List.cons_append, List.nil_append]
    rw [kX7_readNumber_13, s_within, wi_c _ hc]
    simp only [Option.toList_some, Option.toList_none, List.cons_append, List.nil_append]
    rw [kX7_readNumber_20]
    have e : dgs (byt b n) (k + 1) q x = if isD (byt b n q) = true then dgs (byt b n) k (q + 1) (10 * x + (byt b n q - 48)) else (q, x) := rfl
    cases hD : isD (byt b n q)
    · rw [if_pos bIf]
      rw [e, hD, if_neg (by decide)] at hq
      exact hq F _ (FP_rf F) h
    · have hd := isD_b hD
      have h10 : 10 ^ j ≤ 10 ^ 4 := Nat.pow_le_pow_right (by decide) (by omega)
      have h10' : (10 : Nat) ^ 4 = 10000 := by decide
      rw [if_neg bIt, kX7_readNumber_23, s_next h hb hn hqn, cI_n (by omega)]
      simp only [Option.toList_some, Option.toList_none, List.cons_append, List.nil_append]
      rw [kX7_readNumber_31, nI_1, show (nI x * 10 + nI (byt b n q) - 48 : Int32) = nI (10 * x + (byt b n q - 48)) by
        simp (disch := omega) only [iI_n, iI_l, iI_neg, iI_add, iI_sub, iI_mul, iI_div, iI_lt, iI_le, iI_eq]
        congr 1
        omega]
      rw [e, hD, if_pos rfl] at hq
      have hqn2 : q < n := byt_s rfl (show byt b n q < 256 by omega)
      refine ih (j + 1) (q + 1) _ _ (by omega) (by omega) (PS_nx h) ?_ fun G l2 g1 g2 => hq G l2 (FP_tr FP_up g1) g2
      rw [Nat.pow_succ]
      omega
theorem c_readNumber {d n q : Nat} {F : am_FT} {L : am_LT} {Q : am_QT} {b : Nat → Nat} {cs : List Nat} (hb : ∀ k, k < n → b k ≤ 255) (hn : n ≤ 120) (hqn : q ≤ n) (h : PS F b n q cs) (hl : cs.length < 121) (hq : ∀ G, FP F G → PS G b n (dgs (byt b n) 4 q 0).1 (cs ++ [1000 + (dgs (byt b n) 4 q 0).2]) → Q (some (.int 1)) G L) : wc am_S0 (d + 2) mX7_readNumber [.ref 3] F L Q := by
  rw [eX7_readNumber, kX7_readNumber_0]
  refine c_num_loop hb hn 4 0 q 0 F rfl hqn h (by decide) ?_
  intro G l2 g1 g2
  rw [kX7_readNumber_52, show (1000 + nI (dgs (byt b n) 4 q 0).2 : Int32) = nI (1000 + (dgs (byt b n) 4 q 0).2) by
    rw [iI_l, iI_n, iI_n, iI_add]; congr 1]
  apply s_emit g2 hl
  intro H h1 h2
  simp only [Option.toList_some, Option.toList_none, List.cons_append, List.nil_append]
  rw [kX7_readNumber_61]
  exact hq H (FP_tr g1 h1) h2
def rdP (F : am_FT) (b : Nat → Nat) (n : Nat) (cs : List Nat) (L : am_LT) (Q : am_QT) (r : am_P) : Prop := match r with
  | .inl f => ∀ (G : am_FT) (cs' : List Nat), FP F G → f ≤ n → PS G b n f cs' → Q (some (.int 0)) G L
  | .inr s => ∀ G : am_FT, FP F G → PS G b n s.1 (cs ++ s.2.1) → Q (some (.int 1)) G L
theorem rdP_l {F : am_FT} {b : Nat → Nat} {n f : Nat} {cs : List Nat} {L : am_LT} {Q : am_QT} {r : am_P} (h : rdP F b n cs L Q r) (e : r = .inl f) : ∀ (G : am_FT) (cs' : List Nat), FP F G → f ≤ n → PS G b n f cs' → Q (some (.int 0)) G L := by subst e; exact h
theorem rdP_r {F : am_FT} {b : Nat → Nat} {n : Nat} {s : Nat × List Nat × ((Nat → Int32) → Int32)} {cs : List Nat} {L : am_LT} {Q : am_QT} {r : am_P} (h : rdP F b n cs L Q r) (e : r = .inr s) : ∀ G : am_FT, FP F G → PS G b n s.1 (cs ++ s.2.1) → Q (some (.int 1)) G L := by subst e; exact h
theorem c_chain_loop {D l o n : Nat} {L : am_LT} {Q : am_QT} {b : Nat → Nat} {cs0 : List Nat} {sub : Nat → am_P} (hb : ∀ k, k < n → b k ≤ 255) (hn : n ≤ 120) (hl : l < 5) (hok : ∀ q t, q ≤ n → sub q = .inr t → pOk n q [] t) (hsub : ∀ (q : Nat) (cs : List Nat) (F : am_FT) (Q : am_QT), q ≤ n → cs.length ≤ q → PS F b n q cs → rdP F b n cs L Q (sub q) → wc am_S0 (D + 1) mX7_readChain [.ref 3, .int (nI (l + 1)), .int (nI o)] F L Q) : ∀ (k j : Nat) (s : Nat × List Nat × ((Nat → Int32) → Int32)) (F : am_FT) (l4 : Option Value), j + k = 120 → s.1 ≤ n → (cs0 ++ s.2.1).length ≤ s.1 → PS F b n s.1 (cs0 ++ s.2.1) → rdP F b n cs0 L Q (lpC (byt b n) sub l k s) → wt am_S0 (D + 2) mX7_readChain 26 [some (.ref 3), some (.int (nI l)), some (.int (nI o)), some (.int (nI j)), l4] [] F L Q := by
  intro k
  induction k with
  | zero =>
    intro j s F l4 hj hs hlen h hq
    have : j = 120 := by omega
    subst this
    rw [kX7_readChain_26, if_pos (by decide), kX7_readChain_91]
    exact rdP_r hq rfl F (FP_rf F) h
  | succ k ih =>
    intro j s F l4 hj hs hlen h hq
    have hc := byt_le hb s.1
    have e : lpC (byt b n) sub l (k + 1) s = if lvl (byt b n s.1) = l then (match sub (s.1 + 1) with
      | .inl f => .inl f
      | .inr t => if l = 2 then .inr (lpJ (byt b n) s t) else lpC (byt b n) sub l k (lpJ (byt b n) s t)) else .inr s := rfl
    rw [kX7_readChain_26, if_neg (show ¬ (120 : Int32) ≤ nI j from nI_ge (b := 120) (by omega) (by decide)), kX7_readChain_32, s_next h hb hn hs]
    simp only [Option.toList_some, Option.toList_none, List.cons_append, List.nil_append]
    rw [kX7_readChain_36, s_levelOf, lv_c _ hc]
    simp only [Option.toList_some, Option.toList_none, List.cons_append, List.nil_append]
    rw [kX7_readChain_43]
    by_cases hv : lvl (byt b n s.1) = l
    · have hbb := lvl_b _ hc (by omega)
      have hlt : s.1 < n := byt_s rfl hbb.1
      rw [if_pos ((lv_e _ hc l hl).mpr hv), kX7_readChain_49, nI_1, cI_n (by omega)]
      apply hsub (s.1 + 1) (cs0 ++ s.2.1) _ _ hlt (by omega) (PS_nx h)
      rw [if_pos hv] at e
      rcases hsb : sub (s.1 + 1) with f | t
      · rw [hsb] at e
        intro G cs' g1 g2 g3
        simp only [Option.toList_some, Option.toList_none, List.cons_append, List.nil_append]
        rw [kX7_readChain_67, if_neg (by decide), kX7_readChain_70]
        exact rdP_l hq e G cs' (FP_tr FP_up g1) g2 g3
      · rw [hsb] at e
        have ht := hok (s.1 + 1) t hlt hsb
        intro G g1 g2
        have hlen2 : (cs0 ++ s.2.1 ++ t.2.1).length ≤ t.1 := by
          have h3 := ht.2.2.1
          rw [List.length_append]
          simp only [List.length_nil] at h3
          omega
        have ht1 := ht.2.1
        simp only [Option.toList_some, Option.toList_none, List.cons_append, List.nil_append]
        rw [kX7_readChain_67, if_pos (by decide), kX7_readChain_72]
        apply s_emit g2 (by omega)
        intro H h1 h2
        have h3 : PS H b n (lpJ (byt b n) s t).1 (cs0 ++ (lpJ (byt b n) s t).2.1) := by
          show PS H b n t.1 (cs0 ++ (s.2.1 ++ (t.2.1 ++ [byt b n s.1])))
          rw [show cs0 ++ (s.2.1 ++ (t.2.1 ++ [byt b n s.1])) = cs0 ++ s.2.1 ++ t.2.1 ++ [byt b n s.1] by simp only [List.append_assoc]]
          exact h2
        have hfp : FP F H := FP_tr FP_up (FP_tr g1 h1)
        simp only [Option.toList_some, Option.toList_none, List.cons_append, List.nil_append]
        rw [kX7_readChain_78]
        dsimp only at e
        by_cases hl2 : l = 2
        · rw [if_pos hl2] at e
          rw [if_neg (by rw [hl2]; decide), kX7_readChain_83]
          exact rdP_r hq e H hfp h3
        · rw [if_neg hl2] at e
          rw [if_pos (by rw [show (2 : Int32) = nI 2 from rfl, nI_inj (by omega) (by decide)]; exact hl2), kX7_readChain_85, nI_1]
          refine ih (j + 1) (lpJ (byt b n) s t) H _ (by omega) ht1 ?_ h3 ?_
          · show (cs0 ++ (s.2.1 ++ (t.2.1 ++ [byt b n s.1]))).length ≤ t.1
            have h4 := ht.2.2.1
            simp only [List.length_append, List.length_cons, List.length_nil] at h4 hlen ⊢
            omega
          · rw [e] at hq
            revert hq
            rcases lpC (byt b n) sub l k (lpJ (byt b n) s t) with f | r
            · intro hq G cs' g1 g2 g3
              exact hq G cs' (FP_tr hfp g1) g2 g3
            · intro hq G g1 g2
              exact hq G (FP_tr hfp g1) g2
    · rw [if_neg (fun hh => hv ((lv_e _ hc l hl).mp hh)), kX7_readChain_47]
      rw [if_neg hv] at e
      exact rdP_r hq e F (FP_rf F) h
