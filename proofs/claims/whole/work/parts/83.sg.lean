/-! ===== what the signs of a text give ===== -/
def Seg (cl : Nat → Nat) (len : Nat) (e : Nat → Int32) (c : List Nat) (v : Int32) : Prop := ∀ (d i k : Nat) (F : am_FT) (L : am_LT) (Q : am_QT) (l4 l5 : Option Value), XS F cl len e → (∀ j, j < c.length → cl (i + j) = c.getD j 0) → i + c.length ≤ len → k + c.length ≤ 120 → (∀ (G : am_FT) (l4' l5' : Option Value), (∀ p, p ≠ 8 → G p = F p) → (∀ j, j < k → G 8 j = F 8 j) → G 8 k = v → wt am_S0 (d + 3) mX6_value 18 [some (.ref 6), some (.int (nI (k + 1))), some (.int 0), some (.int (nI (i + c.length))), l4', l5'] [] G L Q) → wt am_S0 (d + 3) mX6_value 18 [some (.ref 6), some (.int (nI k)), some (.int 0), some (.int (nI i)), l4, l5] [] F L Q
theorem seg_one {cl : Nat → Nat} {len x : Nat} {e : Nat → Int32} {v : Int32} (hl : len ≤ 121) (h1 : x < 20000) (h2 : x ≠ 59) (h3 : x ≠ 63) (h4 : x ≠ 33) (h5 : x ≠ 256) (h6 : lvI (nI x) = -1) (h7 : ∀ F : am_FT, XS F cl len e → opI F (nI x) = v) : Seg cl len e [x] v := by
  intro d i k F L Q l4 l5 h hc hi hk hq
  have hi' : i + 1 ≤ len := hi
  have hk' : k + 1 ≤ 120 := hk
  have hx : cl i = x := hc 0 (Nat.zero_lt_succ _)
  rw [x_push (v := v) h hl (by omega) (by omega) (by rw [hx]; exact h1) (by rw [hx]; exact h2) (by rw [hx]; exact h3) (by rw [hx]; exact h4) (by rw [hx]; exact h5) (by rw [hx]; exact h6) (by rw [hx]; exact h7 F h)]
  exact hq _ _ _ (fun p hp => up_o hp) (fun j hj => up_n (by omega)) up_s
theorem seg_num {cl : Nat → Nat} {len y : Nat} {e : Nat → Int32} (hl : len ≤ 121) (hy : y < 10000) : Seg cl len e [1000 + y] (nI y) := seg_one hl (by omega) (by omega) (by omega) (by omega) (by omega) (lv_big (by omega) (by omega)) fun _ _ => op_big hy
theorem lv_nm2 : ∀ c, c < 257 → nmN c < 6 → lvI (nI c) = -1 := by decide +kernel
theorem seg_nm {cl : Nat → Nat} {len c : Nat} {e : Nat → Int32} (hl : len ≤ 121) (hc : c < 257) (hN : nmN c < 6) : Seg cl len e [c] (e (nmN c)) := by
  have h := lv_nm c hc hN
  exact seg_one hl (by omega) h.2.1 h.2.2.1 h.2.2.2.1 h.2.2.2.2 (lv_nm2 c hc hN) fun F hF => op_nm hF hc hN
theorem seg_un {cl : Nat → Nat} {len x : Nat} {e : Nat → Int32} {c : List Nat} {v : Int32} (hl : len ≤ 121) (hs : Seg cl len e c v) (hx : x = 33 ∨ x = 256) : Seg cl len e (c ++ [x]) (if x = 33 then (if v = 0 then 1 else 0) else -v) := by
  intro d i k F L Q l4 l5 h hc hi hk hq
  have hle : (c ++ [x]).length = c.length + 1 := by rw [List.length_append]; rfl
  rw [hle] at hc hi hk hq
  apply hs d i k F L Q l4 l5 h (fun j hj => (hc j (by omega)).trans (gd_l hj)) (by omega) (by omega)
  intro G m4 m5 g1 g2 g3
  have hx2 : cl (i + c.length) = x := by
    have := (hc (c.length + 0) (by omega)).trans gd_r
    exact this
  rw [x_un (v := v) (XS_8 h g1) hl (by omega) (by omega) (by rw [hx2]; exact hx) g3, hx2]
  exact hq _ _ _ (fun p hp => (up_o hp).trans (g1 p hp)) (fun j hj => (up_n (by omega)).trans (g2 j hj)) up_s
theorem seg_bin {cl : Nat → Nat} {len s : Nat} {e : Nat → Int32} {c1 c2 : List Nat} {v1 v2 : Int32} (hl : len ≤ 121) (h1 : Seg cl len e c1 v1) (h2 : Seg cl len e c2 v2) (hs : s < 257) (hs2 : lvl s ≠ 9) : Seg cl len e (c1 ++ (c2 ++ [s])) (op2 s v1 v2) := by
  intro d i k F L Q l4 l5 h hc hi hk hq
  have hle : (c1 ++ (c2 ++ [s])).length = c1.length + c2.length + 1 := by
    simp only [List.length_append, List.length_cons, List.length_nil]; omega
  rw [hle] at hc hi hk hq
  rw [show i + (c1.length + c2.length + 1) = i + c1.length + c2.length + 1 by omega] at hq
  apply h1 d i k F L Q l4 l5 h (fun j hj => (hc j (by omega)).trans (gd_l hj)) (by omega) (by omega)
  intro G m4 m5 g1 g2 g3
  have hr : ∀ j, j < c2.length + 1 → cl (i + c1.length + j) = (c2 ++ [s]).getD j 0 := by
    intro j hj
    have := (hc (c1.length + j) (by omega)).trans gd_r
    rw [← Nat.add_assoc] at this
    exact this
  apply h2 d (i + c1.length) (k + 1) G L Q m4 m5 (XS_8 h g1) (fun j hj => (hr j (by omega)).trans (gd_l hj)) (by omega) (by omega)
  intro H n4 n5 k1 k2 k3
  have hF : ∀ p, p ≠ 8 → H p = F p := fun p hp => (k1 p hp).trans (g1 p hp)
  have hx : cl (i + c1.length + c2.length) = s := (hr (c2.length + 0) (by omega)).trans gd_r
  have e1 := x_bin (d := d) (k := k) (i := i + c1.length + c2.length) (L := L) (Q := Q) (l4 := n4) (l5 := n5) (a := v1) (b := v2) (XS_8 h hF) hl (by omega) (by omega) (by rw [hx]; exact hs) (by rw [hx]; exact hs2) ((k2 k (by omega)).trans g3) k3
  rw [hx] at e1
  refine e1.mpr ?_
  exact hq _ _ _ (fun p hp => (up_o hp).trans (hF p hp)) (fun j hj => (up_n (by omega)).trans ((k2 j (by omega)).trans (g2 j hj))) up_s
theorem seg_lpC {B : Nat → Nat} {sub : Nat → am_P} {n l : Nat} {cl : Nat → Nat} {len : Nat} {e : Nat → Int32} (hl : len ≤ 121) (hB1 : ∀ q, B q < 257) (hB2 : ∀ q, B q ≠ 256 → q < n) (hs : ∀ q t, q ≤ n → sub q = .inr t → Seg cl len e t.2.1 (t.2.2 e)) (hl9 : l ≠ 9) : ∀ k s, Seg cl len e s.2.1 (s.2.2 e) → ∀ r, lpC B sub l k s = .inr r → Seg cl len e r.2.1 (r.2.2 e) := by
  intro k
  induction k with
  | zero => intro s h r er; cases er; exact h
  | succ k ih =>
    intro s h r er
    unfold lpC at er
    by_cases h1 : lvl (B s.1) = l
    · rw [if_pos h1] at er
      have hb := lvl_b _ (hB1 s.1) (by rw [h1]; exact hl9)
      have hlt := hB2 s.1 (by omega)
      have key : ∀ t, sub (s.1 + 1) = .inr t → Seg cl len e (lpJ B s t).2.1 ((lpJ B s t).2.2 e) := fun t ht => seg_bin hl h (hs (s.1 + 1) t hlt ht) (hB1 s.1) (by rw [h1]; exact hl9)
      split at er
      next => cases er
      next t ht =>
        split at er
        · cases er; exact key t ht
        · exact ih _ (key t ht) r er
    · rw [if_neg h1] at er
      cases er; exact h
theorem seg_pC {B : Nat → Nat} {n : Nat} {cl : Nat → Nat} {len : Nat} {e : Nat → Int32} (hl : len ≤ 121) (hB1 : ∀ q, B q < 257) (hB2 : ∀ q, B q ≠ 256 → q < n) : ∀ d l o q r, q ≤ n → pC B d l o q = .inr r → Seg cl len e r.2.1 (r.2.2 e) := by
  intro d
  induction d with
  | zero => intro l o q r _ er; cases er
  | succ d ih =>
    intro l o q r hq er
    unfold pC at er
    by_cases hl5 : l < 5
    · rw [if_pos hl5] at er
      split at er
      next => cases er
      next s hs => exact seg_lpC hl hB1 hB2 (fun q t hq ht => ih (l + 1) o q t hq ht) (by omega) 120 s (ih _ _ _ _ hq hs) r er
    · rw [if_neg hl5] at er
      have hD : ∀ q, isD (B q) = true → q < n := fun q h => hB2 q (by
        unfold isD at h
        simp only [Bool.and_eq_true, decide_eq_true_eq] at h
        omega)
      unfold pOp at er
      by_cases h1 : isD (B q) = true
      · rw [if_pos h1] at er
        cases er
        exact seg_num hl (by have := (dgs_ok hD 4 q 0 hq).2.2; omega)
      · rw [if_neg h1] at er
        by_cases h2 : nmN (B q) < 6
        · rw [if_pos h2] at er
          cases er
          exact seg_nm hl (hB1 q) h2
        · rw [if_neg h2] at er
          by_cases h3 : 6 ≤ o
          · rw [if_pos h3] at er; cases er
          · rw [if_neg h3] at er
            by_cases h4 : B q = 33 ∨ B q = 45
            · rw [if_pos h4] at er
              have hlt := hB2 q (by omega)
              split at er
              next => cases er
              next s hs =>
                cases er
                have h5 := ih 5 (o + 1) (q + 1) s hlt hs
                by_cases h33 : B q = 33
                · have h6 := seg_un (x := 33) hl h5 (Or.inl rfl)
                  show Seg cl len e (s.2.1 ++ [if B q = 33 then 33 else 256]) (if B q = 33 then (if s.2.2 e = 0 then 1 else 0) else - s.2.2 e)
                  rw [if_pos h33, if_pos h33]
                  rw [if_pos rfl] at h6
                  exact h6
                · have h6 := seg_un (x := 256) hl h5 (Or.inr rfl)
                  show Seg cl len e (s.2.1 ++ [if B q = 33 then 33 else 256]) (if B q = 33 then (if s.2.2 e = 0 then 1 else 0) else - s.2.2 e)
                  rw [if_neg h33, if_neg h33]
                  rw [if_neg (by decide)] at h6
                  exact h6
            · rw [if_neg h4] at er
              by_cases h5 : B q = 40
              · rw [if_pos h5] at er
                have hlt := hB2 q (by omega)
                split at er
                next => cases er
                next s hs =>
                  split at er
                  next => cases er; exact ih 0 (o + 1) (q + 1) s hlt hs
                  next => cases er
              · rw [if_neg h5] at er; cases er
/-! lines -/
theorem x_semi {d k i len : Nat} {F : am_FT} {L : am_LT} {Q : am_QT} {cl : Nat → Nat} {e : Nat → Int32} {l4 l5 : Option Value} {v : Int32} (h : XS F cl len e) (hl : len ≤ 121) (hi : i < len) (hk : k < 121) (hc : cl i = 59) (hv : F 8 k = v) : wt am_S0 (d + 3) mX6_value 18 [some (.ref 6), some (.int (nI (k + 1))), some (.int 0), some (.int (nI i)), l4, l5] [] F L Q = Q (some (.int v)) F L := by
  rw [x_head h hl hi, hc, kX6_value_56, if_neg (fun hh => hh (show nI 59 = (59 : Int32) from rfl)), kX6_value_63, nI_m1 (by omega), Nat.add_sub_cancel, s_at (p := 8) (n := 121) rfl (by decide), rdA_n hk (by decide), hv]
  simp only [Option.toList_some, Option.toList_none, List.cons_append, List.nil_append]
  rw [kX6_value_73]
theorem x_q {d k i len : Nat} {F : am_FT} {L : am_LT} {Q : am_QT} {cl : Nat → Nat} {e : Nat → Int32} {l4 l5 : Option Value} {v : Int32} (h : XS F cl len e) (hl : len ≤ 121) (hi : i < len) (hk : k < 121) (hc : cl i = 63) (hv : F 8 k = v) : wt am_S0 (d + 3) mX6_value 18 [some (.ref 6), some (.int (nI (k + 1))), some (.int 0), some (.int (nI i)), l4, l5] [] F L Q = wt am_S0 (d + 3) mX6_value 18 [some (.ref 6), some (.int (nI k)), some (.int (if v = 0 then 1 else 0)), some (.int (nI (i + 1))), some (.int (nI 63)), l5] [] F L Q := by
  have e1 : (nI (k + 1) + (-1) : Int32) = nI k := by
    rw [iI_n, show (-1 : Int32) = iI (-1) from rfl, iI_add, iI_n]; congr 1; omega
  rw [x_head h hl hi, hc, kX6_value_56, if_pos (by decide), kX6_value_74, if_neg (fun hh => hh (show nI 63 = (63 : Int32) from rfl)), kX6_value_81, e1, s_at (p := 8) (n := 121) rfl (by decide), rdA_n hk (by decide), hv]
  simp only [Option.toList_some, Option.toList_none, List.cons_append, List.nil_append]
  rw [kX6_value_92]
  by_cases h0 : v = 0
  · rw [if_neg (fun hh => hh h0), kX6_value_95, kX6_value_100, kX6_value_232, nI_1, if_pos h0]
  · rw [if_pos h0, kX6_value_99, kX6_value_100, kX6_value_232, nI_1, if_neg h0]
theorem x_sk {d k i len : Nat} {F : am_FT} {L : am_LT} {Q : am_QT} {cl : Nat → Nat} {e : Nat → Int32} {l4 l5 : Option Value} (h : XS F cl len e) (hl : len ≤ 121) (hi : i < len) (hc : cl i < 20000) : wt am_S0 (d + 3) mX6_value 18 [some (.ref 6), some (.int (nI k)), some (.int 1), some (.int (nI i)), l4, l5] [] F L Q = wt am_S0 (d + 3) mX6_value 18 [some (.ref 6), some (.int (nI k)), some (.int (if cl i = 59 then 0 else 1)), some (.int (nI (i + 1))), some (.int (nI (cl i))), l5] [] F L Q := by
  rw [kX6_value_18, h.1, if_neg (nI_ge hi (by omega)), kX6_value_26, s_at (p := 7) (n := 121) rfl (by decide), rdA_n (by omega) (by decide), h.2.1 i hi]
  simp only [Option.toList_some, Option.toList_none, List.cons_append, List.nil_append]
  rw [kX6_value_34, if_neg (by decide), kX6_value_40]
  by_cases h59 : cl i = 59
  · rw [if_pos (show nI (cl i) = (59 : Int32) by rw [h59]; rfl), kX6_value_51, kX6_value_52, kX6_value_232, nI_1, if_pos h59]
  · rw [if_neg (show ¬ nI (cl i) = (59 : Int32) from nI_ne (x := 59) (by omega) (by decide) h59), kX6_value_47, kX6_value_52, kX6_value_232, nI_1, if_neg h59]
theorem x_skip {d k len : Nat} {F : am_FT} {L : am_LT} {Q : am_QT} {cl : Nat → Nat} {e : Nat → Int32} {l5 : Option Value} (h : XS F cl len e) (hl : len ≤ 121) : ∀ (c : List Nat) (i : Nat) (l4 : Option Value), (∀ x, x ∈ c → x ≠ 59 ∧ x < 20000) → (∀ j, j < c.length → cl (i + j) = c.getD j 0) → cl (i + c.length) = 59 → i + c.length < len → (∀ l4' : Option Value, wt am_S0 (d + 3) mX6_value 18 [some (.ref 6), some (.int (nI k)), some (.int 0), some (.int (nI (i + c.length + 1))), l4', l5] [] F L Q) → wt am_S0 (d + 3) mX6_value 18 [some (.ref 6), some (.int (nI k)), some (.int 1), some (.int (nI i)), l4, l5] [] F L Q := by
  intro c
  induction c with
  | nil =>
    intro i l4 h1 h2 h3 h4 hq
    have h3' : cl i = 59 := h3
    have h4' : i < len := h4
    rw [x_sk h hl h4' (by omega), h3', if_pos rfl]
    exact hq _
  | cons x c ih =>
    intro i l4 h1 h2 h3 h4 hq
    have hx := h1 x (List.mem_cons_self ..)
    have hc : cl i = x := h2 0 (by simp)
    rw [List.length_cons] at h3 h4 hq
    rw [x_sk h hl (by omega) (by omega), hc, if_neg hx.1]
    refine ih (i + 1) _ (fun y hy => h1 y (List.mem_cons_of_mem _ hy)) ?_ ?_ (by omega) ?_
    · intro j hj
      have := h2 (j + 1) (by rw [List.length_cons]; omega)
      rw [show i + 1 + j = i + (j + 1) by omega]
      exact this
    · rw [show i + 1 + c.length = i + (c.length + 1) by omega]; exact h3
    · intro l4'
      rw [show i + 1 + c.length + 1 = i + (c.length + 1) + 1 by omega]
      exact hq l4'
theorem x_line {B : Nat → Nat} {n q : Nat} (hB1 : ∀ q, B q < 257) (hB2 : ∀ q, B q ≠ 256 → q < n) (hqn : q ≤ n) {s : Nat × List Nat × ((Nat → Int32) → Bool) × ((Nat → Int32) → Int32)} (hs : pLn B q = .inr s) {d i len : Nat} {F : am_FT} {L : am_LT} {Q : am_QT} {cl : Nat → Nat} {e : Nat → Int32} {l4 l5 : Option Value} (h : XS F cl len e) (hl : len ≤ 121) (hc : ∀ j, j < s.2.1.length → cl (i + j) = s.2.1.getD j 0) (hi : i + s.2.1.length ≤ len) (hq1 : s.2.2.1 e = true → ∀ G : am_FT, (∀ p, p ≠ 8 → G p = F p) → Q (some (.int (s.2.2.2 e))) G L) (hq2 : s.2.2.1 e = false → ∀ (G : am_FT) (l4' l5' : Option Value), (∀ p, p ≠ 8 → G p = F p) → wt am_S0 (d + 3) mX6_value 18 [some (.ref 6), some (.int (nI 0)), some (.int 0), some (.int (nI (i + s.2.1.length))), l4', l5'] [] G L Q) : wt am_S0 (d + 3) mX6_value 18 [some (.ref 6), some (.int (nI 0)), some (.int 0), some (.int (nI i)), l4, l5] [] F L Q := by
  unfold pLn at hs
  split at hs
  next => cases hs
  next s1 h1 =>
    have o1 := pC_ok hB1 hB2 42 0 0 q s1 hqn h1
    have g1 := seg_pC (cl := cl) (e := e) hl hB1 hB2 42 0 0 q s1 hqn h1
    split at hs
    next h63 =>
      have hlt := hB2 s1.1 (by omega)
      split at hs
      next => cases hs
      next t1 h2 =>
        cases hs
        have o2 := pC_ok hB1 hB2 42 0 0 (s1.1 + 1) t1 hlt h2
        have g2 := seg_pC (cl := cl) (e := e) hl hB1 hB2 42 0 0 (s1.1 + 1) t1 hlt h2
        dsimp only at hc hi hq1 hq2
        have hle : (s1.2.1 ++ 63 :: (t1.2.1 ++ [59])).length = s1.2.1.length + 1 + t1.2.1.length + 1 := by
          simp only [List.length_append, List.length_cons, List.length_nil]; omega
        rw [hle] at hc hi hq2
        rw [show i + (s1.2.1.length + 1 + t1.2.1.length + 1) = i + s1.2.1.length + 1 + t1.2.1.length + 1 by omega] at hq2
        have hr : ∀ j, j < 1 + t1.2.1.length + 1 → cl (i + s1.2.1.length + j) = (63 :: (t1.2.1 ++ [59])).getD j 0 := by
          intro j hj
          have := (hc (s1.2.1.length + j) (by omega)).trans gd_r
          rw [← Nat.add_assoc] at this
          exact this
        have hr2 : ∀ j, j < t1.2.1.length + 1 → cl (i + s1.2.1.length + 1 + j) = (t1.2.1 ++ [59]).getD j 0 := by
          intro j hj
          have := hr (j + 1) (by omega)
          rw [show i + s1.2.1.length + 1 + j = i + s1.2.1.length + (j + 1) by omega]
          exact this
        apply g1 d i 0 F L Q l4 l5 h (fun j hj => (hc j (by omega)).trans (gd_l hj)) (by omega) (by omega)
        intro G m4 m5 k1 k2 k3
        rw [x_q (v := s1.2.2 e) (XS_8 h k1) hl (by omega) (by decide) (show cl (i + s1.2.1.length) = 63 from hr 0 (by omega)) k3]
        by_cases h0 : s1.2.2 e = 0
        · rw [if_pos h0]
          refine x_skip (XS_8 h k1) hl t1.2.1 (i + s1.2.1.length + 1) _ ?_ (fun j hj => (hr2 j (by omega)).trans (gd_l hj)) ((hr2 (t1.2.1.length + 0) (by omega)).trans gd_r) (by omega) ?_
          · intro x hx
            rcases o2.2.2.2 x hx with h9 | h9
            · exact absurd h9 (by simp)
            · exact h9
          · intro l4'
            exact hq2 (by rw [h0]; rfl) G l4' m5 k1
        · rw [if_neg h0]
          apply g2 d (i + s1.2.1.length + 1) 0 G L Q _ _ (XS_8 h k1) (fun j hj => (hr2 j (by omega)).trans (gd_l hj)) (by omega) (by omega)
          intro H n4 n5 p1 p2 p3
          have hF : ∀ p, p ≠ 8 → H p = F p := fun p hp => (p1 p hp).trans (k1 p hp)
          rw [x_semi (v := t1.2.2 e) (XS_8 h hF) hl (by omega) (by decide) (show cl (i + s1.2.1.length + 1 + t1.2.1.length) = 59 from (hr2 (t1.2.1.length + 0) (by omega)).trans gd_r) p3]
          exact hq1 (by rw [decide_eq_false h0]; rfl) H hF
    next =>
      cases hs
      dsimp only at hc hi hq1 hq2
      have hle : (s1.2.1 ++ [59]).length = s1.2.1.length + 1 := by rw [List.length_append]; rfl
      rw [hle] at hc hi
      apply g1 d i 0 F L Q l4 l5 h (fun j hj => (hc j (by omega)).trans (gd_l hj)) (by omega) (by omega)
      intro G m4 m5 k1 k2 k3
      rw [x_semi (v := s1.2.2 e) (XS_8 h k1) hl (by omega) (by decide) (show cl (i + s1.2.1.length) = 59 from (hc (s1.2.1.length + 0) (by omega)).trans gd_r) k3]
      exact hq1 rfl G k1
theorem x_txt {B : Nat → Nat} {n : Nat} (hB1 : ∀ q, B q < 257) (hB2 : ∀ q, B q ≠ 256 → q < n) {d len : Nat} {L : am_LT} {Q : am_QT} {cl : Nat → Nat} {e : Nat → Int32} (hl : len ≤ 121) : ∀ (K q : Nat) (t : List Nat × ((Nat → Int32) → Int32)), q ≤ n → pTx B n K q = .inr t → ∀ (i : Nat) (F : am_FT) (l4 l5 : Option Value), XS F cl len e → (∀ j, j < t.1.length → cl (i + j) = t.1.getD j 0) → i + t.1.length = len → (∀ G : am_FT, (∀ p, p ≠ 8 → G p = F p) → Q (some (.int (t.2 e))) G L) → wt am_S0 (d + 3) mX6_value 18 [some (.ref 6), some (.int (nI 0)), some (.int 0), some (.int (nI i)), l4, l5] [] F L Q := by
  intro K
  induction K with
  | zero => intro q t _ ht; cases ht
  | succ K ih =>
    intro q t hqn ht i F l4 l5 h hc hi hq
    unfold pTx at ht
    split at ht
    next => cases ht
    next s hs =>
      have o := pLn_ok hB1 hB2 hqn hs
      split at ht
      next hns =>
        cases ht
        dsimp only at hc hi hq
        refine x_line hB1 hB2 hqn hs h hl hc (by omega) ?_ ?_
        · intro h1 G g1
          rw [h1] at hq
          exact hq G g1
        · intro h1 G l4' l5' g1
          rw [h1] at hq
          rw [kX6_value_18, (XS_8 h g1).1, hi, if_pos (nI_le (Nat.le_refl _) (by omega)), kX6_value_238]
          exact hq G g1
      next hns =>
        split at ht
        next h59 =>
          split at ht
          next => cases ht
          next t' ht' =>
            cases ht
            dsimp only at hc hi hq
            rw [List.length_append] at hc hi
            refine x_line hB1 hB2 hqn hs h hl (fun j hj => (hc j (by omega)).trans (gd_l hj)) (by omega) ?_ ?_
            · intro h1 G g1
              rw [h1] at hq
              exact hq G g1
            · intro h1 G m4 m5 g1
              rw [h1] at hq
              refine ih (s.1 + 1) t' (by omega) ht' (i + s.2.1.length) G m4 m5 (XS_8 h g1) ?_ (by omega) ?_
              · intro j hj
                have := (hc (s.2.1.length + j) (by omega)).trans gd_r
                rw [← Nat.add_assoc] at this
                exact this
              · intro H h1
                exact hq H (fun p hp => (h1 p hp).trans (g1 p hp))
        next => cases ht
/-- the names as a row -/
def en6 (w h m n t p : Int32) : Nat → Int32 := fun k => if k = 0 then w else if k = 1 then h else if k = 2 then m else if k = 3 then n else if k = 4 then t else p
def txV (t : List Nat × ((Nat → Int32) → Int32)) : Int32 → Int32 → Int32 → Int32 → Int32 → Int32 → Int32 := fun w h m n t' p => t.2 (en6 w h m n t' p)
theorem txt_len {B : Nat → Nat} {n : Nat} : ∀ (K q : Nat) (t : List Nat × ((Nat → Int32) → Int32)), pTx B n K q = .inr t → 0 < t.1.length := by
  intro K
  induction K with
  | zero => intro q t ht; cases ht
  | succ K ih =>
    intro q t ht
    have hl0 : ∀ s, pLn B q = .inr s → 0 < s.2.1.length := by
      intro s hs
      unfold pLn at hs
      split at hs
      next => cases hs
      next s1 _ =>
        split at hs
        next =>
          split at hs
          next => cases hs
          next t1 _ =>
            cases hs
            show 0 < (s1.2.1 ++ 63 :: (t1.2.1 ++ [59])).length
            simp only [List.length_append, List.length_cons]; omega
        next =>
          cases hs
          show 0 < (s1.2.1 ++ [59]).length
          simp only [List.length_append, List.length_cons]; omega
    unfold pTx at ht
    split at ht
    next => cases ht
    next s hs =>
      have := hl0 s hs
      split at ht
      next => cases ht; exact this
      next =>
        split at ht
        next =>
          split at ht
          next => cases ht
          next t' ht' =>
            cases ht
            show 0 < (s.2.1 ++ t'.1).length
            rw [List.length_append]; omega
        next => cases ht
theorem RLaw_txt {b : Nat → Nat} {n : Nat} (hb : ∀ k, k < n → b k ≤ 255) {t : List Nat × ((Nat → Int32) → Int32)} (ht : pTx (byt b n) n 121 0 = .inr t) (hl : t.1.length ≤ 121) {code : Nat → Int32} (hc : ∀ i, i < t.1.length → code i = nI (t.1.getD i 0)) : RLaw (nI t.1.length) code (txV t) := by
  intro d F L Q h2 h7 hq
  have hpos := txt_len _ _ _ ht
  have hX : XS F (fun i => t.1.getD i 0) t.1.length (en6 (F 6 3) (F 6 4) (F 6 5) (F 6 6) (F 6 7) (F 6 8)) := by
    refine ⟨h2, fun i hi => by rw [h7]; exact hc i hi, fun k hk => ?_⟩
    rcases (by omega : k = 0 ∨ k = 1 ∨ k = 2 ∨ k = 3 ∨ k = 4 ∨ k = 5) with rfl | rfl | rfl | rfl | rfl | rfl <;> rfl
  rw [eX6_value, kX6_value_0, h2, if_pos (by rw [nI0' (by omega)]; omega), kX6_value_12]
  refine x_txt (byt_le hb) (fun q h => byt_lt h) hl 121 0 t (Nat.zero_le _) ht 0 F _ _ hX (fun j hj => by rw [Nat.zero_add]) (Nat.zero_add _) hq
theorem RLaw_0 {code : Nat → Int32} : RLaw 0 code (fun w _ _ _ _ _ => w) := by
  intro d F L Q h2 h7 hq
  rw [eX6_value, kX6_value_0, h2, if_neg (fun hh => hh rfl), kX6_value_7]
  exact hq F fun _ _ => rfl
