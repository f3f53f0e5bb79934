/-! ===== one more tree, one more person ===== -/
def vaT (v : am_V) (c h : Nat) : am_V := (vT v + 1, vP v, fun w n => if n = vT v ∧ w < 3 then [c, h, 1].getD w 0 else vN v w n, fun t => if t = vT v then true else vS v t, vL v)
def vaP (v : am_V) (c w g : Nat) : am_V := (vT v, vP v + 1, fun x n => if n = vP v ∧ 4 ≤ x ∧ x < 7 then [c, w, g].getD (x - 4) 0 else vN v x n, vS v, vL v)
theorem c_addTree {d : Nat} {F : am_FT} {L : am_LT} {Q : am_QT} {v : am_V} (h : RLand (F 1) (F 2) v) (hv : wV v) {c hh : Nat} (hq0 : vT v = 6 → Q (some (.int (-3))) F L) (hq : vT v < 6 → ∀ G : am_FT, (∀ p, p ≠ 1 → p ≠ 2 → G p = F p) → RLand (G 1) (G 2) (vaT v c hh) → Q (some (.int (nI (vT v)))) G L) : wc am_S0 (d + 2) mX5_addTree [.ref 1, .int (nI c), .int (nI hh)] F L Q := by
  have hT := hv.1
  have hP := hv.2.1
  rw [eX5_addTree, kX5_addTree_0, h.1]
  by_cases h6 : vT v < 6
  · have w1 : ∀ {d : Nat} {F : am_FT} {L : am_LT} {Q : am_QT} {x : Int32}, F 1 1 = nI (vT v) → wc am_S0 (d + 1) mX5_write [.ref 1, .int (nI (vT v)), .int 0, .int x] F L Q = Q none (am_upF F 2 (12 * 0 + vT v) x) L := fun _ => s_write_n (w := 0) (by omega) (by decide)
    have w2 : ∀ {d : Nat} {F : am_FT} {L : am_LT} {Q : am_QT} {x : Int32}, wc am_S0 (d + 1) mX5_write [.ref 1, .int (nI (vT v)), .int 1, .int x] F L Q = Q none (am_upF F 2 (12 * 1 + vT v) x) L := s_write_n (w := 1) (by omega) (by decide)
    have w3 : ∀ {d : Nat} {F : am_FT} {L : am_LT} {Q : am_QT} {x : Int32}, wc am_S0 (d + 1) mX5_write [.ref 1, .int (nI (vT v)), .int 2, .int x] F L Q = Q none (am_upF F 2 (12 * 2 + vT v) x) L := s_write_n (w := 2) (by omega) (by decide)
    have w4 : ∀ {d : Nat} {F : am_FT} {L : am_LT} {Q : am_QT} {x : Int32}, wc am_S0 (d + 1) mX5_write [.ref 1, .int (nI (vT v)), .int 7, .int x] F L Q = Q none (am_upF F 2 (12 * 7 + vT v) x) L := s_write_n (w := 7) (by omega) (by decide)
    have e1 : ∀ (F : am_FT) (k : Nat) (x : Int32), F 1 1 = nI (vT v) → am_upF F 2 k x 1 1 = nI (vT v) := fun F k x hh => by rw [up_o (by decide)]; exact hh
    rw [if_pos (show nI (vT v) < (6 : Int32) from nI_lt (b := 6) h6 (by decide)), kX5_addTree_12, h.1, w1 h.1]
    simp only [Option.toList_some, Option.toList_none, List.cons_append, List.nil_append]
    rw [kX5_addTree_22, e1 _ _ _ h.1, w2]
    simp only [Option.toList_some, Option.toList_none, List.cons_append, List.nil_append]
    rw [kX5_addTree_32, e1 _ _ _ (e1 _ _ _ h.1), w3]
    simp only [Option.toList_some, Option.toList_none, List.cons_append, List.nil_append]
    rw [kX5_addTree_42, e1 _ _ _ (e1 _ _ _ (e1 _ _ _ h.1)), w4]
    simp only [Option.toList_some, Option.toList_none, List.cons_append, List.nil_append]
    rw [kX5_addTree_53, e1 _ _ _ (e1 _ _ _ (e1 _ _ _ (e1 _ _ _ h.1)))]
    apply hq h6
    · intro p p1 p2
      rw [up_o p1, up_o p2, up_o p2, up_o p2, up_o p2]
    · refine ⟨?_, ?_, ?_, ?_⟩
      · rw [up_s, nI_1]; rfl
      · rw [up_n (by decide), up_o (by decide), up_o (by decide), up_o (by decide), up_o (by decide)]; exact h.2.1
      · intro w n hw hn
        rw [up_o (by decide)]
        show _ = nI (if n = vT v ∧ w < 3 then [c, hh, 1].getD w 0 else vN v w n)
        by_cases hx : n = vT v ∧ w < 3
        · rw [if_pos hx]
          obtain ⟨rfl, hx2⟩ := hx
          rcases (by omega : w = 0 ∨ w = 1 ∨ w = 2) with rfl | rfl | rfl
          · rw [up_n (by omega), up_n (by omega), up_n (by omega), up_s]; rfl
          · rw [up_n (by omega), up_n (by omega), up_s]; rfl
          · rw [up_n (by omega), up_s]; rfl
        · have hn2 : n < vO v w := by
            unfold vO at hn ⊢
            by_cases hw3 : w < 3
            · rw [if_pos hw3] at hn ⊢
              have : n < vT v + 1 := hn
              omega
            · rw [if_neg hw3] at hn ⊢
              exact hn
          have hn3 := vO_le hv w
          have hne : w < 3 → n ≠ vT v := fun h3 he => hx ⟨he, h3⟩
          rw [if_neg hx, up_n (by omega), up_n (by omega), up_n (by omega), up_n (by omega)]
          exact h.2.2.1 w n hw hn2
      · intro t ht
        have ht' : t < vT v + 1 := ht
        rw [up_o (by decide)]
        show _ = nI (if (if t = vT v then true else vS v t) = true then 1 else 0)
        by_cases hx : t = vT v
        · rw [hx, if_pos rfl, show 84 + vT v = 12 * 7 + vT v by omega, up_s]; rfl
        · rw [if_neg hx, up_n (by omega), up_n (by omega), up_n (by omega), up_n (by omega)]
          exact h.2.2.2 t (by omega)
  · rw [if_neg (show ¬ nI (vT v) < (6 : Int32) from nI_nlt (b := 6) (by omega) (by omega)), kX5_addTree_9]
    exact hq0 (by omega)
theorem wV_aT {v : am_V} (hv : wV v) (h6 : vT v < 6) {c hh : Nat} (hc : c ≤ 255) (h1 : 1 ≤ hh) (h9 : hh ≤ 9) : wV (vaT v c hh) := by
  refine ⟨h6, hv.2.1, fun w n hw hn => ?_⟩
  show vLo w ≤ (if n = vT v ∧ w < 3 then [c, hh, 1].getD w 0 else vN v w n) ∧ (if n = vT v ∧ w < 3 then [c, hh, 1].getD w 0 else vN v w n) ≤ vHi w
  by_cases hx : n = vT v ∧ w < 3
  · rw [if_pos hx]
    rcases (by omega : w = 0 ∨ w = 1 ∨ w = 2) with rfl | rfl | rfl
    · exact ⟨Nat.zero_le _, hc⟩
    · exact ⟨h1, h9⟩
    · exact ⟨Nat.zero_le _, by show 1 ≤ 3; decide⟩
  · rw [if_neg hx]
    apply hv.2.2 w n hw
    unfold vO at hn ⊢
    by_cases hw3 : w < 3
    · rw [if_pos hw3] at hn ⊢
      have : n < vT v + 1 := hn
      have hne : n ≠ vT v := fun he => hx ⟨he, hw3⟩
      omega
    · rw [if_neg hw3] at hn ⊢
      exact hn
theorem wV_aP {v : am_V} (hv : wV v) (h6 : vP v < 10) {c w g : Nat} (hc : c ≤ 255) (h1 : w ≤ 63) (h9 : g ≤ 3) : wV (vaP v c w g) := by
  refine ⟨hv.1, h6, fun x n hw hn => ?_⟩
  show vLo x ≤ (if n = vP v ∧ 4 ≤ x ∧ x < 7 then [c, w, g].getD (x - 4) 0 else vN v x n) ∧ (if n = vP v ∧ 4 ≤ x ∧ x < 7 then [c, w, g].getD (x - 4) 0 else vN v x n) ≤ vHi x
  by_cases hx : n = vP v ∧ 4 ≤ x ∧ x < 7
  · rw [if_pos hx]
    rcases (by omega : x = 4 ∨ x = 5 ∨ x = 6) with rfl | rfl | rfl
    · exact ⟨Nat.zero_le _, hc⟩
    · exact ⟨Nat.zero_le _, h1⟩
    · exact ⟨Nat.zero_le _, h9⟩
  · rw [if_neg hx]
    apply hv.2.2 x n hw
    unfold vO at hn ⊢
    by_cases hw3 : x < 3
    · rw [if_pos hw3] at hn ⊢
      exact hn
    · rw [if_neg hw3] at hn ⊢
      by_cases hw4 : x = 3
      · rw [if_pos hw4] at hn ⊢
        exact hn
      · rw [if_neg hw4, if_pos hw] at hn ⊢
        have : n < vP v + 1 := hn
        have hne : n ≠ vP v := fun he => hx ⟨he, by omega, hw⟩
        omega
theorem c_addPerson {d : Nat} {F : am_FT} {L : am_LT} {Q : am_QT} {v : am_V} (h : RLand (F 1) (F 2) v) (hv : wV v) {c w g : Nat} (hq0 : vP v = 10 → Q (some (.int (-3))) F L) (hq : vP v < 10 → ∀ G : am_FT, (∀ p, p ≠ 1 → p ≠ 2 → G p = F p) → RLand (G 1) (G 2) (vaP v c w g) → Q (some (.int (nI (vP v)))) G L) : wc am_S0 (d + 2) mX5_addPerson [.ref 1, .int (nI c), .int (nI w), .int (nI g)] F L Q := by
  have hT := hv.1
  have hP := hv.2.1
  rw [eX5_addPerson, kX5_addPerson_0, h.2.1]
  by_cases h6 : vP v < 10
  · have w1 : ∀ {d : Nat} {F : am_FT} {L : am_LT} {Q : am_QT} {x : Int32}, wc am_S0 (d + 1) mX5_write [.ref 1, .int (nI (vP v)), .int 4, .int x] F L Q = Q none (am_upF F 2 (12 * 4 + vP v) x) L := s_write_n (w := 4) (by omega) (by decide)
    have w2 : ∀ {d : Nat} {F : am_FT} {L : am_LT} {Q : am_QT} {x : Int32}, wc am_S0 (d + 1) mX5_write [.ref 1, .int (nI (vP v)), .int 5, .int x] F L Q = Q none (am_upF F 2 (12 * 5 + vP v) x) L := s_write_n (w := 5) (by omega) (by decide)
    have w3 : ∀ {d : Nat} {F : am_FT} {L : am_LT} {Q : am_QT} {x : Int32}, wc am_S0 (d + 1) mX5_write [.ref 1, .int (nI (vP v)), .int 6, .int x] F L Q = Q none (am_upF F 2 (12 * 6 + vP v) x) L := s_write_n (w := 6) (by omega) (by decide)
    have e1 : ∀ (F : am_FT) (k : Nat) (x : Int32), F 1 2 = nI (vP v) → am_upF F 2 k x 1 2 = nI (vP v) := fun F k x hh => by rw [up_o (by decide)]; exact hh
    rw [if_pos (show nI (vP v) < (10 : Int32) from nI_lt (b := 10) h6 (by decide)), kX5_addPerson_12, h.2.1, w1]
    simp only [Option.toList_some, Option.toList_none, List.cons_append, List.nil_append]
    rw [kX5_addPerson_22, e1 _ _ _ h.2.1, w2]
    simp only [Option.toList_some, Option.toList_none, List.cons_append, List.nil_append]
    rw [kX5_addPerson_32, e1 _ _ _ (e1 _ _ _ h.2.1), w3]
    simp only [Option.toList_some, Option.toList_none, List.cons_append, List.nil_append]
    rw [kX5_addPerson_43, e1 _ _ _ (e1 _ _ _ (e1 _ _ _ h.2.1))]
    apply hq h6
    · intro p p1 p2
      rw [up_o p1, up_o p2, up_o p2, up_o p2]
    · refine ⟨?_, ?_, ?_, ?_⟩
      · rw [up_n (by decide), up_o (by decide), up_o (by decide), up_o (by decide)]; exact h.1
      · rw [up_s, nI_1]; rfl
      · intro x n hw hn
        rw [up_o (by decide)]
        show _ = nI (if n = vP v ∧ 4 ≤ x ∧ x < 7 then [c, w, g].getD (x - 4) 0 else vN v x n)
        by_cases hx : n = vP v ∧ 4 ≤ x ∧ x < 7
        · rw [if_pos hx]
          obtain ⟨rfl, hx2⟩ := hx
          rcases (by omega : x = 4 ∨ x = 5 ∨ x = 6) with rfl | rfl | rfl
          · rw [up_n (by omega), up_n (by omega), up_s]; rfl
          · rw [up_n (by omega), up_s]; rfl
          · rw [up_s]; rfl
        · have hn2 : n < vO v x := by
            unfold vO at hn ⊢
            by_cases hw3 : x < 3
            · rw [if_pos hw3] at hn ⊢
              exact hn
            · rw [if_neg hw3] at hn ⊢
              by_cases hw4 : x = 3
              · rw [if_pos hw4] at hn ⊢
                exact hn
              · rw [if_neg hw4, if_pos hw] at hn ⊢
                have : n < vP v + 1 := hn
                have hne : n ≠ vP v := fun he => hx ⟨he, by omega, hw⟩
                omega
          have hn3 := vO_le hv x
          have hne : 4 ≤ x → n ≠ vP v := fun h3 he => hx ⟨he, h3, hw⟩
          rw [if_neg hx, up_n (by omega), up_n (by omega), up_n (by omega)]
          exact h.2.2.1 x n hw hn2
      · intro t ht
        have ht' : t < vT v := ht
        rw [up_o (by decide), up_n (by omega), up_n (by omega), up_n (by omega)]
        exact h.2.2.2 t ht'
  · rw [if_neg (show ¬ nI (vP v) < (10 : Int32) from nI_nlt (b := 10) (by omega) (by omega)), kX5_addPerson_9]
    exact hq0 (by omega)
