/-! ===== the ballot opened ===== -/
def csit (v : am_V) (t m : Nat) : Nat := if vS v t = true then cov v t m (vN v 1 t) else 0
theorem two_le {n k : Nat} (h : n ≤ k) : 2 ^ n ≤ 2 ^ k := Nat.pow_le_pow_right (by omega) h
theorem cov_lt {v : am_V} (hv : wV v) (t m h : Nat) : cov v t m h < 1024 := Nat.lt_of_lt_of_le (bs_lt _ _) (two_le (k := 10) hv.2.1)
theorem wsh_lt {v : am_V} (hv : wV v) (t : Nat) : wsh v t < 1024 := Nat.lt_of_lt_of_le (bs_lt _ _) (two_le (k := 10) hv.2.1)
theorem csit_lt {v : am_V} (hv : wV v) (t m : Nat) : csit v t m < 1024 := by
  unfold csit
  split
  · exact cov_lt hv _ _ _
  · decide
theorem c_openAsIf_loop {d : Nat} {L : am_LT} {Q : am_QT} {l1 l2 l3 : Option Value} : ∀ (j k : Nat) (F : am_FT), k + j = 11 → (∀ n, n < k → F 11 n = 0) → (∀ G : am_FT, (∀ p, p ≠ 11 → G p = F p) → (∀ n, n < 11 → G 11 n = 0) → wt am_S0 d mX0_openAsIf 37 [some (.ref 9), l1, l2, l3, some (.int 11)] [] G L Q) → (∀ x, l3 = some (.int x) → wt am_S0 d mX0_openAsIf 13 [some (.ref 9), l1, l2, l3, some (.int (nI k))] [] F L Q) := by
  intro j
  induction j with
  | zero =>
    intro k F hk h0 hq x hx
    have : k = 11 := by omega
    subst this hx
    rw [kX0_openAsIf_13, if_pos (by decide)]
    exact hq F (fun _ _ => rfl) h0
  | succ j ih =>
    intro k F hk h0 hq x hx
    subst hx
    rw [kX0_openAsIf_13, if_neg (show ¬ (11 : Int32) ≤ nI k from nI_ge (b := 11) (by omega) (by decide)), kX0_openAsIf_23 (decide_eq_false (vp_in_nI (by omega) (by decide))), nI_1, nI_clamp (by omega)]
    refine ih (k + 1) _ (by omega) ?_ ?_ x rfl
    · intro n hn
      by_cases hnk : n = k
      · subst hnk; rw [up_s]
      · rw [up_n hnk]; exact h0 n (by omega)
    · intro G g1 g2
      exact hq G (fun p hp => (g1 p hp).trans (up_o hp)) g2
theorem c_openAsIf {d : Nat} {F : am_FT} {L : am_LT} {Q : am_QT} {v : am_V} (h : CV F v) {t m hh : Nat} (ht : t < vT v) (hm : m < 12) (hc : hh ≤ 9) (hq : ∀ G, SB F G → BO G v t m hh true (cov v t m hh) → Q none G L) : wc am_S0 (d + 6) mX0_openAsIf [.ref 9, .int (nI t), .int (nI m), .int (nI hh)] F L Q := by
  rw [eX0_openAsIf, kX0_openAsIf_0, eX6_nameTree, kX6_nameTree_0]
  simp only [Option.toList_some, Option.toList_none, List.cons_append, List.nil_append]
  rw [kX0_openAsIf_10]
  refine c_openAsIf_loop 11 0 _ rfl (fun n hn => absurd hn (by omega)) ?_ _ rfl
  intro G g1 g2
  have r1 : G 1 = F 1 := (g1 1 (by decide)).trans (by rw [up_o (by decide), up_o (by decide), up_o (by decide)])
  have r2 : G 2 = F 2 := (g1 2 (by decide)).trans (by rw [up_o (by decide), up_o (by decide), up_o (by decide)])
  rw [kX0_openAsIf_37, c_coveredBy (v := v) (by rw [up_o (by decide), up_o (by decide), r1, r2]; exact h.1) h.2.1 ht hm hc]
  simp only [Option.toList_some, Option.toList_none, List.cons_append, List.nil_append]
  rw [kX0_openAsIf_53, c_wishersOf (v := v) (by rw [up_o (by decide), up_o (by decide), up_o (by decide), up_o (by decide), r1, r2]; exact h.1) h.2.1 ht]
  simp only [Option.toList_some, Option.toList_none, List.cons_append, List.nil_append]
  rw [kX0_openAsIf_65]
  have g6 := g1 6 (by decide)
  apply hq
  · refine ⟨fun q q6 q8 q9 q10 q11 => ?_, ?_⟩
    · rw [up_o q9, up_o q9, up_o q9, g1 q q11, up_o q6, up_o q6, up_o q6]
    · rw [up_o (by decide), up_o (by decide), up_o (by decide), g6, up_n (by decide), up_n (by decide), up_n (by decide)]
  · refine ⟨?_, ?_, ?_, ?_, ?_, ?_, ?_⟩
    · rw [up_n (by decide), up_n (by decide), up_s]; rfl
    · rw [up_n (by decide), up_s]
    · rw [up_s]
    · rw [up_o (by decide), up_o (by decide), up_o (by decide), g6, up_n (by decide), up_n (by decide), up_s]
    · rw [up_o (by decide), up_o (by decide), up_o (by decide), g6, up_n (by decide), up_s]
    · rw [up_o (by decide), up_o (by decide), up_o (by decide), g6, up_s]
    · intro n hn
      refine ⟨0, ?_, by decide, fun p _ hb => absurd hb (by simp)⟩
      rw [up_o (by decide), up_o (by decide), up_o (by decide), g2 n hn]; rfl
theorem c_open {d : Nat} {F : am_FT} {L : am_LT} {Q : am_QT} {v : am_V} (h : CV F v) {t m : Nat} (ht : t < vT v) (hm : m < 12) (hq : ∀ G, SB F G → BO G v t m (vN v 1 t) (vS v t) (csit v t m) → Q none G L) : wc am_S0 (d + 7) mX0_open [.ref 9, .int (nI t), .int (nI m)] F L Q := by
  rw [eX0_open, kX0_open_0, s_read, ld1 h.1 h.2.1 ht]
  simp only [Option.toList_some, Option.toList_none, List.cons_append, List.nil_append]
  rw [kX0_open_12]
  apply c_openAsIf h ht hm (lb1 h.2.1 ht)
  intro G g1 g2
  have hG := SB_CV g1 h
  simp only [Option.toList_some, Option.toList_none, List.cons_append, List.nil_append]
  rw [kX0_open_15, s_stands, ld7 hG.1 hG.2.1 ht]
  simp only [Option.toList_some, Option.toList_none, List.cons_append, List.nil_append]
  rw [kX0_open_23, show (if bI (vS v t) = 1 then (1 : Int32) else 0) = bI (vS v t) by cases vS v t <;> decide]
  unfold csit at hq
  cases hs : vS v t
  · rw [if_neg (by decide), kX0_open_26, kX0_open_36]
    rw [hs] at hq
    apply hq
    · refine SB_tr g1 ⟨fun q q6 q8 q9 q10 q11 => ?_, ?_⟩
      · rw [up_o q9, up_o q9]
      · rw [up_o (by decide), up_o (by decide)]
    · obtain ⟨b1, b2, b3, b4, b5, b6, b7⟩ := g2
      refine ⟨?_, ?_, ?_, ?_, ?_, ?_, ?_⟩
      · rw [up_n (by decide), up_s]; rfl
      · rw [up_s]; rfl
      · rw [up_n (by decide), up_n (by decide)]; exact b3
      · rw [up_o (by decide), up_o (by decide)]; exact b4
      · rw [up_o (by decide), up_o (by decide)]; exact b5
      · rw [up_o (by decide), up_o (by decide)]; exact b6
      · intro n hn
        rw [up_o (by decide), up_o (by decide), up_o (by decide), up_o (by decide)]
        exact b7 n hn
  · rw [if_pos bIt, kX0_open_36]
    rw [hs] at hq
    exact hq G g1 g2
