/-! ===== a noon in deed ===== -/
def vfl (v : am_V) (b : Nat) (k : Nat) : am_V := vstd v (fun t => if b.testBit t = true ∧ t < k then false else vS v t)
theorem c_fell_loop {d b : Nat} {L : am_LT} {Q : am_QT} {v : am_V} (hv : wV v) (hb : b < 64) : ∀ (j k : Nat) (F : am_FT), k + j = vT v → RLand (F 1) (F 2) (vfl v b k) → (∀ G : am_FT, (∀ p, p ≠ 2 → G p = F p) → RLand (G 1) (G 2) (vfl v b (vT v)) → wt am_S0 (d + 3) mX3_fell 38 [some (.ref 18), some (.int (nI b)), some (.int (nI (vT v)))] [] G L Q) → wt am_S0 (d + 3) mX3_fell 2 [some (.ref 18), some (.int (nI b)), some (.int (nI k))] [] F L Q := by
  have hT := hv.1
  intro j
  induction j with
  | zero =>
    intro k F hk h hq
    have : k = vT v := by omega
    subst this
    rw [kX3_fell_2, show F 1 1 = nI (vT v) from h.1, if_pos (nI_le (Nat.le_refl _) (by omega))]
    exact hq F (fun _ _ => rfl) h
  | succ j ih =>
    intro k F hk h hq
    rw [kX3_fell_2, show F 1 1 = nI (vT v) from h.1, if_neg (nI_ge (by omega) (by omega)), kX3_fell_13, s_holds, bit_b (by omega) (by omega)]
    simp only [Option.toList_some, Option.toList_none, List.cons_append, List.nil_append]
    rw [kX3_fell_18]
    cases hbk : b.testBit k
    · rw [if_pos bIf, kX3_fell_32, nI_1]
      refine ih (k + 1) F (by omega) ?_ hq
      refine ⟨h.1, h.2.1, h.2.2.1, fun t ht => ?_⟩
      have h3 := h.2.2.2 t ht
      rw [h3]
      show nI (if (if b.testBit t = true ∧ t < k then false else vS v t) = true then 1 else 0) = nI (if (if b.testBit t = true ∧ t < k + 1 then false else vS v t) = true then 1 else 0)
      have e : (b.testBit t = true ∧ t < k) = (b.testBit t = true ∧ t < k + 1) := by
        apply propext
        constructor
        · rintro ⟨a, c⟩; exact ⟨a, by omega⟩
        · rintro ⟨a, c⟩
          refine ⟨a, ?_⟩
          by_cases htk : t = k
          · subst htk; rw [hbk] at a; cases a
          · omega
      simp only [e]
    · rw [if_neg bIt, kX3_fell_21, show (7 : Int32) = nI 7 from rfl, s_write_n (by omega) (by decide)]
      simp only [Option.toList_some, Option.toList_none, List.cons_append, List.nil_append]
      rw [kX3_fell_32, nI_1]
      have hw : wV (vfl v b k) := hv
      have hr := RL_std (n := k) (b := false) h hw (show k < vT v by omega)
      refine ih (k + 1) _ (by omega) ?_ ?_
      · refine ⟨hr.1, hr.2.1, hr.2.2.1, fun t ht => ?_⟩
        have h3 := hr.2.2.2 t ht
        refine h3.trans ?_
        show nI (if (if t = k then false else if b.testBit t = true ∧ t < k then false else vS v t) = true then 1 else 0) = nI (if (if b.testBit t = true ∧ t < k + 1 then false else vS v t) = true then 1 else 0)
        by_cases htk : t = k
        · subst htk
          rw [if_pos (show t = t from rfl), if_pos (show b.testBit t = true ∧ t < t + 1 from ⟨hbk, by omega⟩)]
        · have e : (b.testBit t = true ∧ t < k) = (b.testBit t = true ∧ t < k + 1) := by
            apply propext
            exact ⟨fun hh => ⟨hh.1, by omega⟩, fun hh => ⟨hh.1, by omega⟩⟩
          rw [if_neg htk]
          simp only [e]
      · intro G g1 g2
        exact hq G (fun p hp => (g1 p hp).trans (up_o hp)) g2
theorem c_fell {d b : Nat} {F : am_FT} {L : am_LT} {Q : am_QT} {v : am_V} (h : RLand (F 1) (F 2) v) (hv : wV v) (hb : b < 64) (hq : ∀ G : am_FT, (∀ p, p ≠ 2 → p ≠ 19 → G p = F p) → RLand (G 1) (G 2) (vfl v b (vT v)) → G 19 0 = F 19 0 + 1 → G 19 1 = F 19 1 + nI (pop b) → G 19 2 = F 19 2 → G 19 3 = F 19 3 → G 19 4 = (F 19 4 + 1) - (F 19 4 + 1) / 12 * 12 → Q none G L) : wc am_S0 (d + 3) mX3_fell [.ref 18, .int (nI b)] F L Q := by
  have hT := hv.1
  rw [eX3_fell, kX3_fell_0, show (0 : Int32) = nI 0 from rfl]
  refine c_fell_loop hv hb (vT v) 0 F (by omega) ?_ ?_
  · refine ⟨h.1, h.2.1, h.2.2.1, fun t ht => ?_⟩
    refine (h.2.2.2 t ht).trans ?_
    show _ = nI (if (if b.testBit t = true ∧ t < 0 then false else vS v t) = true then 1 else 0)
    rw [if_neg (fun hh : b.testBit t = true ∧ t < 0 => absurd hh.2 (by omega))]
  · intro G g1 g2
    have g19 : G 19 = F 19 := g1 19 (by decide)
    rw [kX3_fell_38, s_bitCount (by omega)]
    simp only [Option.toList_some, Option.toList_none, List.cons_append, List.nil_append]
    rw [kX3_fell_44, show (1 : Int32) = nI 1 from rfl, s_countOn (by decide)]
    simp only [Option.toList_some, Option.toList_none, List.cons_append, List.nil_append]
    rw [kX3_fell_47, show (0 : Int32) = nI 0 from rfl, s_countOn (by decide)]
    simp only [Option.toList_some, Option.toList_none, List.cons_append, List.nil_append]
    rw [kX3_fell_53, show (4 : Int32) = nI 4 from rfl, s_at (p := 19) (n := 5) rfl (by decide), rdA_n (by decide) (by decide)]
    simp only [Option.toList_some, Option.toList_none, List.cons_append, List.nil_append]
    rw [kX3_fell_66, s_lay (p := 19) (n := 5) rfl (by decide), wrA_n (by decide) (by decide)]
    simp only [Option.toList_some, Option.toList_none, List.cons_append, List.nil_append]
    rw [kX3_fell_74]
    apply hq
    · intro p p2 p19
      rw [up_o p19, up_o p19, up_o p19, g1 p p2]
    · rw [up_o (by decide), up_o (by decide), up_o (by decide), up_o (by decide), up_o (by decide), up_o (by decide)]; exact g2
    · rw [up_n (by decide), up_s, up_n (by decide), g19]
    · rw [up_n (by decide), up_n (by decide), up_s, g19]; rfl
    · rw [up_n (by decide), up_n (by decide), up_n (by decide), g19]
    · rw [up_n (by decide), up_n (by decide), up_n (by decide), g19]
    · rw [up_s, up_n (by decide), up_n (by decide), g19]
