/-! ===== the law's text, worked out by the model ===== -/
/-- the model reads: bytes, how many, the names; where it is, what is wrong (-1: nothing), how much is open -/
def MSb (F : am_FT) (b : Nat → Nat) (n : Nat) (e : Nat → Int32) : Prop := F 45 15 = nI n ∧ ((F 45 13 = -1 ∧ ∀ k, k < n → F 50 k = nI (b k)) ∨ (F 45 13 = 0 ∧ ∀ k, k < n → F 51 k = nI (b k))) ∧ ∀ k, k < 6 → F 52 k = e k
def MS (F : am_FT) (b : Nat → Nat) (n : Nat) (e : Nat → Int32) (q o : Nat) : Prop := MSb F b n e ∧ F 45 14 = nI q ∧ F 45 16 = -1 ∧ F 45 17 = nI o
def MF (F : am_FT) (b : Nat → Nat) (n : Nat) (e : Nat → Int32) (f : Nat) : Prop := MSb F b n e ∧ F 45 14 = nI f ∧ F 45 16 = nI f
/-- what the working out leaves -/
def FM (F G : am_FT) : Prop := (∀ p, p ≠ 45 → G p = F p) ∧ ∀ k, k ≠ 14 → k ≠ 16 → k ≠ 17 → G 45 k = F 45 k
theorem FM_rf (F : am_FT) : FM F F := ⟨fun _ _ => rfl, fun _ _ _ _ => rfl⟩
theorem FM_tr {F G H : am_FT} (h : FM F G) (k : FM G H) : FM F H := ⟨fun p a => (k.1 p a).trans (h.1 p a), fun i a b c => (k.2 i a b c).trans (h.2 i a b c)⟩
theorem FM_up {F : am_FT} {k : Nat} {x : Int32} (hk : k = 14 ∨ k = 16 ∨ k = 17) : FM F (am_upF F 45 k x) := ⟨fun _ a => up_o a, fun i a b c => up_n (by omega)⟩
theorem MSb_FM {F G : am_FT} {b : Nat → Nat} {n : Nat} {e : Nat → Int32} (h : MSb F b n e) (g : FM F G) : MSb G b n e := by
  unfold MSb
  rw [g.2 15 (by decide) (by decide) (by decide), g.2 13 (by decide) (by decide) (by decide), g.1 50 (by decide), g.1 51 (by decide), g.1 52 (by decide)]
  exact h
def mI (c : Nat) : Int32 := if c = 256 then 0 else nI c
theorem oobN {i n : Nat} (h : i < n) (hn : n < 2 ^ 31) : am_oob (nI i) n = false := decide_eq_false (vp_in_nI h hn)
theorem s_byteAt {d n q : Nat} {F : am_FT} {L : am_LT} {Q : am_QT} {b : Nat → Nat} {e : Nat → Int32} (h : MSb F b n e) (hq : F 45 14 = nI q) (hb : ∀ k, k < n → b k ≤ 255) (hn : n ≤ 120) (hqn : q ≤ n) : wc am_S0 d mX12_byteAt [.ref 45] F L Q = Q (some (.int (mI (byt b n q)))) F L := by
  rw [eX12_byteAt, kX12_byteAt_0, h.1, hq]
  by_cases hlt : q < n
  · have h1 := hb q hlt
    have e1 : mI (byt b n q) = nI (b q) := by
      unfold mI byt
      rw [if_pos hlt, if_neg (by omega)]
    rw [if_neg (nI_ge hlt (by omega)), kX12_byteAt_11, e1]
    rcases h.2.1 with h2 | h2
    · rw [h2.1, if_neg (by decide), kX12_byteAt_18 (by rw [hq]; exact oobN (by omega) (by decide)), hq, nI_clamp (by omega), h2.2 q hlt, kX12_byteAt_48]
    · have e2 : F 45 13 + F 45 14 = nI q := by rw [h2.1, hq]; exact Int32.zero_add _
      rw [h2.1, if_pos (by decide), kX12_byteAt_30 (by rw [e2]; exact oobN (by omega) (by decide)), e2, nI_clamp (by omega), h2.2 q hlt, kX12_byteAt_48]
  · rw [if_pos (nI_le (by omega) (by omega)), kX12_byteAt_47, kX12_byteAt_48]
    unfold mI byt
    rw [if_neg hlt, if_pos rfl]
theorem nlt0 {f : Nat} (h : f < 2 ^ 31) : (0 : Int32) ≤ nI f := nI_le (a := 0) (Nat.zero_le _) h
theorem s_wrong {d q : Nat} {F : am_FT} {L : am_LT} {Q : am_QT} (h : F 45 16 = -1) (hq : F 45 14 = nI q) : wc am_S0 d mX12_wrong [.ref 45] F L Q = Q (some (.int 0)) (am_upF F 45 16 (nI q)) L := by
  rw [eX12_wrong, kX12_wrong_0, h, if_neg (by decide), kX12_wrong_8, kX12_wrong_19, hq]
theorem s_wrongF {d f : Nat} {F : am_FT} {L : am_LT} {Q : am_QT} (h : F 45 16 = nI f) (hf : f < 2 ^ 31) : wc am_S0 d mX12_wrong [.ref 45] F L Q = Q (some (.int 0)) (am_upF F 45 16 (nI f)) L := by
  rw [eX12_wrong, kX12_wrong_0, h, if_pos (nlt0 hf), kX12_wrong_15, kX12_wrong_19, h]
theorem s_takesF {d f : Nat} {F : am_FT} {L : am_LT} {Q : am_QT} {c : Int32} (h : F 45 16 = nI f) (hf : f < 2 ^ 31) : wc am_S0 d mX12_takes [.ref 45, .int c] F L Q = Q (some (.int 0)) F L := by
  rw [eX12_takes, kX12_takes_0, h, if_pos (nlt0 hf), kX12_takes_15]
theorem me_c : ∀ c, c < 257 → (mI c = 124 ↔ c = 124) ∧ (mI c = 38 ↔ c = 38) ∧ (mI c = 60 ↔ c = 60) ∧ (mI c = 61 ↔ c = 61) ∧ (mI c = 62 ↔ c = 62) ∧ (mI c = 43 ↔ c = 43) ∧ (mI c = 45 ↔ c = 45) ∧ (mI c = 42 ↔ c = 42) ∧ (mI c = 47 ↔ c = 47) ∧ (mI c = 37 ↔ c = 37) ∧ (mI c = 33 ↔ c = 33) ∧ (mI c = 40 ↔ c = 40) ∧ (mI c = 41 ↔ c = 41) ∧ (mI c = 63 ↔ c = 63) ∧ (mI c = 59 ↔ c = 59) := by decide +kernel
theorem me_1 {c x : Nat} (hc : c < 257) (hx : 0 < x ∧ x < 256) : (mI c = nI x ↔ c = x) := by
  unfold mI
  by_cases h : c = 256
  · rw [if_pos h, show (0 : Int32) = nI 0 from rfl, nI_inj (by omega) (by omega)]
    omega
  · rw [if_neg h, nI_inj (by omega) (by omega)]
/-- a sign is taken, if it is there -/
theorem s_takes {d n q o x : Nat} {F : am_FT} {L : am_LT} {Q : am_QT} {b : Nat → Nat} {e : Nat → Int32} (h : MS F b n e q o) (hb : ∀ k, k < n → b k ≤ 255) (hn : n ≤ 120) (hqn : q ≤ n) (hx : 0 < x ∧ x < 256) : wc am_S0 (d + 1) mX12_takes [.ref 45, .int (nI x)] F L Q = if byt b n q = x then Q (some (.int 1)) (am_upF F 45 14 (nI (q + 1))) L else Q (some (.int 0)) F L := by
  have hc := byt_le hb q
  rw [eX12_takes, kX12_takes_0, h.2.2.1, if_neg (by decide), kX12_takes_7, s_byteAt h.1 h.2.1 hb hn hqn]
  simp only [Option.toList_some, Option.toList_none, List.cons_append, List.nil_append]
  rw [kX12_takes_11]
  by_cases hx2 : byt b n q = x
  · rw [if_pos ((me_1 hc hx).mpr hx2), if_pos hx2, kX12_takes_17, h.2.1, nI_1]
  · rw [if_neg (fun hh => hx2 ((me_1 hc hx).mp hh)), if_neg hx2, kX12_takes_15]
theorem MS_q {F : am_FT} {b : Nat → Nat} {n : Nat} {e : Nat → Int32} {q q' o : Nat} (h : MS F b n e q o) : MS (am_upF F 45 14 (nI q')) b n e q' o :=
  ⟨MSb_FM h.1 (FM_up (by omega)), up_s, by rw [up_n (by decide)]; exact h.2.2.1, by rw [up_n (by decide)]; exact h.2.2.2⟩
theorem MS_1 {F : am_FT} {b : Nat → Nat} {n : Nat} {e : Nat → Int32} {q o : Nat} (h : MS F b n e q o) : MS (am_upF F 45 14 (F 45 14 + 1)) b n e (q + 1) o := by
  rw [h.2.1, nI_1]
  exact MS_q h
/-- what a reading by the model ends in -/
def mdP (F : am_FT) (b : Nat → Nat) (n : Nat) (e : Nat → Int32) (o : Nat) (L : am_LT) (Q : am_QT) (r : am_P) : Prop := match r with
  | .inl f => ∀ (G : am_FT) (x : Int32), FM F G → f ≤ n → MF G b n e f → Q (some (.int x)) G L
  | .inr s => ∀ G : am_FT, FM F G → MS G b n e s.1 o → Q (some (.int (s.2.2 e))) G L
theorem mdP_l {F : am_FT} {b : Nat → Nat} {n f : Nat} {e : Nat → Int32} {o : Nat} {L : am_LT} {Q : am_QT} {r : am_P} (h : mdP F b n e o L Q r) (er : r = .inl f) : ∀ (G : am_FT) (x : Int32), FM F G → f ≤ n → MF G b n e f → Q (some (.int x)) G L := by subst er; exact h
theorem mdP_r {F : am_FT} {b : Nat → Nat} {n : Nat} {s : Nat × List Nat × ((Nat → Int32) → Int32)} {e : Nat → Int32} {o : Nat} {L : am_LT} {Q : am_QT} {r : am_P} (h : mdP F b n e o L Q r) (er : r = .inr s) : ∀ G : am_FT, FM F G → MS G b n e s.1 o → Q (some (.int (s.2.2 e))) G L := by subst er; exact h
theorem mdP_FM {F G : am_FT} {b : Nat → Nat} {n : Nat} {e : Nat → Int32} {o : Nat} {L : am_LT} {Q : am_QT} {r : am_P} (h : mdP F b n e o L Q r) (g : FM F G) : mdP G b n e o L Q r := by
  revert h
  rcases r with f | s
  · intro h H x h1 h2 h3
    exact h H x (FM_tr g h1) h2 h3
  · intro h H h1 h2
    exact h H (FM_tr g h1) h2
/-- the method of a level, called -/
def lvM (l : Nat) : am_M := if l = 0 then mX12_either else if l = 1 then mX12_both else if l = 2 then mX12_compared else if l = 3 then mX12_sums else if l = 4 then mX12_product else mX12_one
def subM (b : Nat → Nat) (n : Nat) (e : Nat → Int32) (o : Nat) (L : am_LT) (D : Nat) (m : am_M) (sub : Nat → am_P) : Prop := ∀ (q : Nat) (F : am_FT) (Q : am_QT), q ≤ n → MS F b n e q o → mdP F b n e o L Q (sub q) → wc am_S0 D m [.ref 45] F L Q
theorem lp_s {B : Nat → Nat} {sub : Nat → am_P} {l k : Nat} {s : Nat × List Nat × ((Nat → Int32) → Int32)} : lpC B sub l (k + 1) s = if lvl (B s.1) = l then (match sub (s.1 + 1) with
      | .inl f => .inl f
      | .inr t => if l = 2 then .inr (lpJ B s t) else lpC B sub l k (lpJ B s t)) else .inr s := rfl
/-- behind enough signs the text is at its end -/
theorem lp_end {b : Nat → Nat} {n q : Nat} (h : n ≤ q) : byt b n q = 256 := if_neg (by omega)
theorem lv_sg : ∀ c, c < 257 → (lvl c = 0 ↔ c = 124) ∧ (lvl c = 1 ↔ c = 38) ∧ (lvl c = 2 ↔ c = 60 ∨ c = 61 ∨ c = 62) ∧ (lvl c = 3 ↔ c = 43 ∨ c = 45) ∧ (lvl c = 4 ↔ c = 42 ∨ c = 47 ∨ c = 37) := by decide +kernel
theorem m_either_loop {D n o : Nat} {L : am_LT} {Q : am_QT} {b : Nat → Nat} {e : Nat → Int32} {sub : Nat → am_P} (hb : ∀ k, k < n → b k ≤ 255) (hn : n ≤ 120) (hok : ∀ q t, q ≤ n → sub q = .inr t → pOk n q [] t) (hsub : subM b n e o L (D + 1) mX12_both sub) : ∀ (k : Nat) (s : Nat × List Nat × ((Nat → Int32) → Int32)) (F : am_FT) (l2 : Option Value), n ≤ s.1 + k → s.1 ≤ n → MS F b n e s.1 o → mdP F b n e o L Q (lpC (byt b n) sub 0 k s) → wt am_S0 (D + 2) mX12_either 5 [some (.ref 45), some (.int (s.2.2 e)), l2] [] F L Q := by
  intro k
  induction k with
  | zero =>
    intro s F l2 hk hs h hq
    rw [kX12_either_5, show (124 : Int32) = nI 124 from rfl, s_takes h hb hn hs (by decide), lp_end (by omega), if_neg (by decide)]
    simp only [Option.toList_some, Option.toList_none, List.cons_append, List.nil_append]
    rw [kX12_either_11, if_pos rfl, kX12_either_36]
    exact mdP_r hq rfl F (FM_rf F) h
  | succ k ih =>
    intro s F l2 hk hs h hq
    have hc := byt_le hb s.1
    have er := lp_s (B := byt b n) (sub := sub) (l := 0) (k := k) (s := s)
    rw [kX12_either_5, show (124 : Int32) = nI 124 from rfl, s_takes h hb hn hs (by decide)]
    by_cases hx : byt b n s.1 = 124
    · have hlt : s.1 < n := byt_s hx (by decide)
      rw [if_pos (((lv_sg _ hc).1).mpr hx)] at er
      rw [if_pos hx]
      simp only [Option.toList_some, Option.toList_none, List.cons_append, List.nil_append]
      rw [kX12_either_11, if_neg (by decide), kX12_either_14]
      apply hsub (s.1 + 1) _ _ hlt (MS_q h)
      rcases hsb : sub (s.1 + 1) with f | t
      · rw [hsb] at er
        intro G x g1 g2 g3
        have g16 := g3.2.2
        have fin : ∀ y : Int32, ∀ l2 : Option Value, wt am_S0 (D + 2) mX12_either 32 [some (.ref 45), some (.int (s.2.2 e)), l2] [.int y] G L Q := by
          intro y l2
          rw [kX12_either_32, kX12_either_5, s_takesF g16 (by omega)]
          simp only [Option.toList_some, Option.toList_none, List.cons_append, List.nil_append]
          rw [kX12_either_11, if_pos rfl, kX12_either_36]
          exact mdP_l hq er G _ (FM_tr (FM_up (by omega)) g1) g2 g3
        simp only [Option.toList_some, Option.toList_none, List.cons_append, List.nil_append]
        rw [kX12_either_18]
        by_cases h0 : s.2.2 e = 0
        · rw [if_neg (fun hh => hh h0), kX12_either_23]
          by_cases hy : x = 0
          · rw [if_pos hy, kX12_either_31]; exact fin _ _
          · rw [if_neg hy, kX12_either_27]; exact fin _ _
        · rw [if_pos h0, kX12_either_27]; exact fin _ _
      · rw [hsb] at er
        dsimp only at er
        rw [if_neg (by decide)] at er
        have ht := hok (s.1 + 1) t hlt hsb
        intro G g1 g2
        have e1 : (lpJ (byt b n) s t).2.2 e = if s.2.2 e = 0 then (if t.2.2 e = 0 then 0 else 1) else 1 := by
          show op2 (byt b n s.1) (s.2.2 e) (t.2.2 e) = _
          rw [hx]; rfl
        have fin : ∀ y : Int32, (lpJ (byt b n) s t).2.2 e = y → ∀ l2 : Option Value, wt am_S0 (D + 2) mX12_either 32 [some (.ref 45), some (.int (s.2.2 e)), l2] [.int y] G L Q := by
          intro y hy l2
          rw [kX12_either_32, ← hy]
          have h1 := ht.1
          rw [er] at hq
          exact ih (lpJ (byt b n) s t) G l2 (by show n ≤ t.1 + k; omega) ht.2.1 g2 (mdP_FM hq (FM_tr (FM_up (by omega)) g1))
        simp only [Option.toList_some, Option.toList_none, List.cons_append, List.nil_append]
        rw [kX12_either_18]
        by_cases h0 : s.2.2 e = 0
        · rw [if_pos h0] at e1
          rw [if_neg (fun hh => hh h0), kX12_either_23]
          by_cases hy : t.2.2 e = 0
          · rw [if_pos hy] at e1
            rw [if_pos hy, kX12_either_31]; exact fin _ e1 _
          · rw [if_neg hy] at e1
            rw [if_neg hy, kX12_either_27]; exact fin _ e1 _
        · rw [if_neg h0] at e1
          rw [if_pos h0, kX12_either_27]; exact fin _ e1 _
    · rw [if_neg (fun hh => hx (((lv_sg _ hc).1).mp hh))] at er
      rw [if_neg hx]
      simp only [Option.toList_some, Option.toList_none, List.cons_append, List.nil_append]
      rw [kX12_either_11, if_pos rfl, kX12_either_36]
      exact mdP_r hq er F (FM_rf F) h
theorem m_both_loop {D n o : Nat} {L : am_LT} {Q : am_QT} {b : Nat → Nat} {e : Nat → Int32} {sub : Nat → am_P} (hb : ∀ k, k < n → b k ≤ 255) (hn : n ≤ 120) (hok : ∀ q t, q ≤ n → sub q = .inr t → pOk n q [] t) (hsub : subM b n e o L (D + 1) mX12_compared sub) : ∀ (k : Nat) (s : Nat × List Nat × ((Nat → Int32) → Int32)) (F : am_FT) (l2 : Option Value), n ≤ s.1 + k → s.1 ≤ n → MS F b n e s.1 o → mdP F b n e o L Q (lpC (byt b n) sub 1 k s) → wt am_S0 (D + 2) mX12_both 5 [some (.ref 45), some (.int (s.2.2 e)), l2] [] F L Q := by
  intro k
  induction k with
  | zero =>
    intro s F l2 hk hs h hq
    rw [kX12_both_5, show (38 : Int32) = nI 38 from rfl, s_takes h hb hn hs (by decide), lp_end (by omega), if_neg (by decide)]
    simp only [Option.toList_some, Option.toList_none, List.cons_append, List.nil_append]
    rw [kX12_both_11, if_pos rfl, kX12_both_36]
    exact mdP_r hq rfl F (FM_rf F) h
  | succ k ih =>
    intro s F l2 hk hs h hq
    have hc := byt_le hb s.1
    have er := lp_s (B := byt b n) (sub := sub) (l := 1) (k := k) (s := s)
    rw [kX12_both_5, show (38 : Int32) = nI 38 from rfl, s_takes h hb hn hs (by decide)]
    by_cases hx : byt b n s.1 = 38
    · have hlt : s.1 < n := byt_s hx (by decide)
      rw [if_pos (((lv_sg _ hc).2.1).mpr hx)] at er
      rw [if_pos hx]
      simp only [Option.toList_some, Option.toList_none, List.cons_append, List.nil_append]
      rw [kX12_both_11, if_neg (by decide), kX12_both_14]
      apply hsub (s.1 + 1) _ _ hlt (MS_q h)
      rcases hsb : sub (s.1 + 1) with f | t
      · rw [hsb] at er
        intro G x g1 g2 g3
        have g16 := g3.2.2
        have fin : ∀ y : Int32, ∀ l2 : Option Value, wt am_S0 (D + 2) mX12_both 32 [some (.ref 45), some (.int (s.2.2 e)), l2] [.int y] G L Q := by
          intro y l2
          rw [kX12_both_32, kX12_both_5, s_takesF g16 (by omega)]
          simp only [Option.toList_some, Option.toList_none, List.cons_append, List.nil_append]
          rw [kX12_both_11, if_pos rfl, kX12_both_36]
          exact mdP_l hq er G _ (FM_tr (FM_up (by omega)) g1) g2 g3
        simp only [Option.toList_some, Option.toList_none, List.cons_append, List.nil_append]
        rw [kX12_both_18]
        by_cases h0 : s.2.2 e = 0
        · rw [if_pos h0, kX12_both_31]; exact fin _ _
        · rw [if_neg h0, kX12_both_23]
          by_cases hy : x = 0
          · rw [if_pos hy, kX12_both_31]; exact fin _ _
          · rw [if_neg hy, kX12_both_27]; exact fin _ _
      · rw [hsb] at er
        dsimp only at er
        rw [if_neg (by decide)] at er
        have ht := hok (s.1 + 1) t hlt hsb
        intro G g1 g2
        have e1 : (lpJ (byt b n) s t).2.2 e = if s.2.2 e = 0 then 0 else if t.2.2 e = 0 then 0 else 1 := by
          show op2 (byt b n s.1) (s.2.2 e) (t.2.2 e) = _
          rw [hx]; rfl
        have fin : ∀ y : Int32, (lpJ (byt b n) s t).2.2 e = y → ∀ l2 : Option Value, wt am_S0 (D + 2) mX12_both 32 [some (.ref 45), some (.int (s.2.2 e)), l2] [.int y] G L Q := by
          intro y hy l2
          rw [kX12_both_32, ← hy]
          have h1 := ht.1
          rw [er] at hq
          exact ih (lpJ (byt b n) s t) G l2 (by show n ≤ t.1 + k; omega) ht.2.1 g2 (mdP_FM hq (FM_tr (FM_up (by omega)) g1))
        simp only [Option.toList_some, Option.toList_none, List.cons_append, List.nil_append]
        rw [kX12_both_18]
        by_cases h0 : s.2.2 e = 0
        · rw [if_pos h0] at e1
          rw [if_pos h0, kX12_both_31]; exact fin _ e1 _
        · rw [if_neg h0] at e1
          rw [if_neg h0, kX12_both_23]
          by_cases hy : t.2.2 e = 0
          · rw [if_pos hy] at e1
            rw [if_pos hy, kX12_both_31]; exact fin _ e1 _
          · rw [if_neg hy] at e1
            rw [if_neg hy, kX12_both_27]; exact fin _ e1 _
    · rw [if_neg (fun hh => hx (((lv_sg _ hc).2.1).mp hh))] at er
      rw [if_neg hx]
      simp only [Option.toList_some, Option.toList_none, List.cons_append, List.nil_append]
      rw [kX12_both_11, if_pos rfl, kX12_both_36]
      exact mdP_r hq er F (FM_rf F) h
