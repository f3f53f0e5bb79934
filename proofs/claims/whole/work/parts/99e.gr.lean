/-! ===== the model's shelves ===== -/
def shS (sh : am_Sh) (d : Nat) (x : Nat × Nat × (Nat → Int64)) : am_Sh := fun k => if k = d then x else sh k
theorem shS_s {sh : am_Sh} {d : Nat} {x : Nat × Nat × (Nat → Int64)} : shS sh d x d = x := if_pos rfl
theorem shS_n {sh : am_Sh} {d e : Nat} {x : Nat × Nat × (Nat → Int64)} (h : e ≠ d) : shS sh d x e = sh e := if_neg h
/-- M is L with the row of d at 61 written over by el -/
def LSr (L M : am_LT) (d : Nat) (el : Nat → Int64) : Prop := (∀ p, p < 45 → M p = L p) ∧ (∀ i, i < 60 → M 61 (60 * d + i) = el i) ∧ ∀ e, e < 6 → e ≠ d → ∀ i, i < 60 → M 61 (60 * e + i) = L 61 (60 * e + i)
theorem upl_s {L : am_LT} {p k : Nat} {x : Int64} : am_upL L p k x p k = x := by simp [am_upL, vp_updL]
theorem upl_n {L : am_LT} {p k j : Nat} {x : Int64} (h : j ≠ k) : am_upL L p k x p j = L p j := by simp [am_upL, vp_updL, h]
theorem upl_o {L : am_LT} {p q k : Nat} {x : Int64} (h : q ≠ p) : am_upL L p k x q = L q := by simp [am_upL, h]
theorem Mdl_sh {F G : am_FT} {L M : am_LT} {g : am_G} (hm : Mdl F L g) {d k m : Nat} {el : Nat → Int64} (hd : d < 6) (ho : ∀ p, p ≠ 59 → p ≠ 60 → G p = F p) (h59 : G 59 d = skI k) (n59 : ∀ e, e ≠ d → G 59 e = F 59 e) (h60 : G 60 d = nI m) (n60 : ∀ e, e ≠ d → G 60 e = F 60 e) (hL : LSr L M d el) : Mdl G M (sS g (shS (gS g) d (k, m, el))) := by
  obtain ⟨h1, h2, h3, h4, h5, h6, h7⟩ := hm
  have o := ho
  have e45 : G 45 = F 45 := o 45 (by decide) (by decide)
  refine ⟨MV_fr h1 (by rw [e45]) (by rw [e45]) (by rw [e45]) (by rw [e45]) (o 46 (by decide) (by decide)) (o 51 (by decide) (by decide)), ?_, ?_, ?_, ?_, ?_, ?_⟩
  · rw [e45, o 50 (by decide) (by decide)]; exact h2
  · rw [e45, o 47 (by decide) (by decide), o 48 (by decide) (by decide), o 49 (by decide) (by decide)]; exact h3
  · rw [e45, o 53 (by decide) (by decide), o 54 (by decide) (by decide), o 55 (by decide) (by decide), o 56 (by decide) (by decide)]; exact h4
  · rw [e45, o 57 (by decide) (by decide)]; exact h5
  · rw [e45, o 58 (by decide) (by decide)]; exact h6
  · intro e he
    show G 59 e = skI (shS (gS g) d (k, m, el) e).1 ∧ G 60 e = nI (shS (gS g) d (k, m, el) e).2.1 ∧ ∀ i, i < 60 → M 61 (60 * e + i) = (shS (gS g) d (k, m, el) e).2.2 i
    by_cases hed : e = d
    · rw [hed, shS_s]
      exact ⟨h59, h60, hL.2.1⟩
    · rw [shS_n hed]
      obtain ⟨a, b, c⟩ := h7 e he
      exact ⟨(n59 e hed).trans a, (n60 e hed).trans b, fun i hi => (hL.2.2 e he hed i hi).trans (c i hi)⟩
theorem LSr_r {L : am_LT} {d : Nat} {el : Nat → Int64} (h : ∀ i, i < 60 → L 61 (60 * d + i) = el i) : LSr L L d el := ⟨fun _ _ => rfl, h, fun _ _ _ _ _ => rfl⟩
/-! keep -/
def gKeep (g : am_G) (x y : Int32) : Int32 × am_G := if inR x 6 = true then (if y = -1 then (1, sS g (shS (gS g) x.toNatClampNeg (0, 0, sE (gS g) x.toNatClampNeg))) else if inR y (gB g).1 = true then (1, sS g (shS (gS g) x.toNatClampNeg (y.toNatClampNeg + 1, 0, sE (gS g) x.toNatClampNeg))) else (-1, g)) else (-1, g)
theorem mc_keep (g : am_G) (hg : wG g) (x y : Int32) : MC mX12_keep [.ref 45, .int x, .int y] g (.int (gKeep g x y).1) (gKeep g x y).2 := by
  intro F L Q hm hq
  have hB1 := hg.2.2.2.2.1.1
  have e29 : F 45 29 = nI (gB g).1 := hm.2.2.2.2.1.1
  unfold gKeep at hq
  rw [eX12_keep, kX12_keep_0, m_isShelf]
  simp only [Option.toList_some, Option.toList_none, List.cons_append, List.nil_append]
  rw [kX12_keep_4]
  cases hx : inR x 6
  · rw [hx, if_neg (by decide)] at hq
    rw [if_pos bIf, kX12_keep_20]
    exact hq F L (fun _ _ => rfl) (fun _ _ => rfl) hm
  · rw [hx, if_pos rfl] at hq
    obtain ⟨k, k1, rfl⟩ := inR_ex hx (by decide)
    rw [nI_clamp (by omega)] at hq
    rw [if_neg bIt, kX12_keep_7]
    have fin : ∀ (z : Int32) (s : Nat), z = skI s → (∀ (G : am_FT) (K : am_LT), (∀ p, p < 45 → G p = F p) → (∀ p, p < 45 → K p = L p) → Mdl G K (sS g (shS (gS g) k (s, 0, sE (gS g) k))) → Q (some (.int 1)) G K) → wt am_S0 2047 mX12_keep 22 [some (.ref 45), some (.int (nI k)), some (.int z)] [] F L Q := by
      intro z s hz h
      rw [kX12_keep_22 (oobN k1 (by decide)), nI_clamp (by omega)]
      apply h
      · intro p hp; rw [up_o (by omega), up_o (by omega)]
      · intro p _; rfl
      · apply Mdl_sh hm k1
        · intro p a b; rw [up_o b, up_o a]
        · rw [up_o (by decide), up_s]; exact hz
        · intro e he; rw [up_o (by decide), up_n he]
        · exact up_s
        · intro e he; rw [up_n he, up_o (by decide)]
        · exact LSr_r (hm.2.2.2.2.2.2 k k1).2.2
    by_cases h1 : y = -1
    · rw [if_pos h1] at hq
      rw [if_pos h1]
      exact fin y 0 h1 hq
    · rw [if_neg h1] at hq
      rw [if_neg h1, kX12_keep_12, m_isBody e29 hB1]
      simp only [Option.toList_some, Option.toList_none, List.cons_append, List.nil_append]
      rw [kX12_keep_17]
      cases hy : inR y (gB g).1
      · rw [hy, if_neg (by decide)] at hq
        rw [if_neg (by decide), kX12_keep_20]
        exact hq F L (fun _ _ => rfl) (fun _ _ => rfl) hm
      · rw [hy, if_pos rfl] at hq
        obtain ⟨b, b1, rfl⟩ := inR_ex hy (by omega)
        rw [nI_clamp (by omega)] at hq
        rw [if_pos bIt]
        exact fin (nI b) (b + 1) (skI_s b).symm hq
/-! row -/
def gRow (g : am_G) (x s n : Int32) : Int32 × am_G := if (inR x 6 && (inR s 5 && decide (n ≤ 60))) = true then (if 0 ≤ n then (1, sS g (shS (gS g) x.toNatClampNeg (51 + s.toNatClampNeg, n.toNatClampNeg, fun _ => 0))) else (-14, g)) else (-1, g)
theorem m_row_loop {dd d : Nat} {F : am_FT} {Q : am_QT} {l2 : Option Value} {x3 : Int32} (hd : d < 6) : ∀ (j k : Nat) (L : am_LT), k + j = 60 → (∀ i, i < k → L 61 (60 * d + i) = 0) → (∀ M : am_LT, LSr L M d (fun _ => 0) → Q (some (.int 1)) F M) → wt am_S0 dd mX12_row 57 [some (.ref 45), some (.int (nI d)), l2, some (.int x3), some (.int (nI (60 * d + k)))] [] F L Q := by
  have e60 : (60 * nI d + 60 : Int32) = nI (60 * d + 60) := by
    rw [iI_l, iI_n, iI_n, iI_mul, iI_add]; congr 1
  intro j
  induction j with
  | zero =>
    intro k L hk hz hq
    have : k = 60 := by omega
    subst this
    rw [kX12_row_57, e60, if_pos (nI_le (Nat.le_refl _) (by omega)), kX12_row_83]
    exact hq L (LSr_r hz)
  | succ j ih =>
    intro k L hk hz hq
    rw [kX12_row_57, e60, if_neg (nI_ge (by omega) (by omega)), kX12_row_69 (oobN (by omega) (by decide)), nI_clamp (by omega), nI_1]
    refine ih (k + 1) _ (by omega) ?_ ?_
    · intro i hi
      by_cases hik : i = k
      · rw [hik]; exact upl_s
      · rw [upl_n (by omega)]; exact hz i (by omega)
    · intro M m
      refine hq M ⟨fun p hp => (m.1 p hp).trans (upl_o (by omega)), m.2.1, fun e he hed i hi => (m.2.2 e he hed i hi).trans (upl_n (by omega))⟩
theorem mc_row (g : am_G) (x s n : Int32) : MC mX12_row [.ref 45, .int x, .int s, .int n] g (.int (gRow g x s n).1) (gRow g x s n).2 := by
  intro F L Q hm hq
  unfold gRow at hq
  rw [eX12_row, kX12_row_0, m_isShelf]
  simp only [Option.toList_some, Option.toList_none, List.cons_append, List.nil_append]
  rw [kX12_row_4]
  cases hx : inR x 6
  · rw [hx, Bool.false_and, if_neg (by decide)] at hq
    rw [if_pos bIf, kX12_row_25]
    exact hq F L (fun _ _ => rfl) (fun _ _ => rfl) hm
  · rw [hx, Bool.true_and] at hq
    rw [if_neg bIt, kX12_row_7, show (4 : Int64) = (nI 4).toInt64 from rfl, m_w (by decide)]
    simp only [Option.toList_some, Option.toList_none, List.cons_append, List.nil_append]
    rw [kX12_row_16]
    cases hs : inR s 5
    · rw [hs, Bool.false_and, if_neg (by decide)] at hq
      rw [if_pos bIf, kX12_row_25]
      exact hq F L (fun _ _ => rfl) (fun _ _ => rfl) hm
    · rw [hs, Bool.true_and] at hq
      rw [if_neg bIt, kX12_row_19]
      by_cases hn : n ≤ 60
      · rw [decide_eq_true hn, if_pos rfl] at hq
        rw [if_pos hn, kX12_row_27]
        by_cases h0 : 0 ≤ n
        · rw [if_pos h0] at hq
          obtain ⟨k, k1, rfl⟩ := inR_ex hx (by decide)
          obtain ⟨t, t1, rfl⟩ := inR_ex hs (by decide)
          obtain ⟨m, m1, rfl⟩ := nI_of (show ¬ n < 0 from by
            obtain ⟨z, z1, z2, rfl⟩ := iI_ex n
            revert h0
            simp (disch := omega) only [iI_n, iI_l, iI_neg, iI_add, iI_sub, iI_mul, iI_div, iI_lt, iI_le, iI_eq]
            intro h0
            omega)
          rw [nI_clamp (by omega), nI_clamp (by omega), nI_clamp m1] at hq
          have e0 : (60 * nI k : Int32) = nI (60 * k + 0) := by
            rw [iI_l, iI_n, iI_n, iI_mul]; congr 1
          have e5 : (50 + nI t : Int32) = nI (50 + t) := by
            rw [iI_l, iI_n, iI_n, iI_add]; congr 1
          rw [if_pos h0, kX12_row_34 (oobN k1 (by decide)), nI_clamp (by omega), e0, e5]
          apply m_row_loop k1 60 0 L (by decide) (fun i hi => absurd hi (by omega))
          intro M hM
          apply hq
          · intro p hp; rw [up_o (by omega), up_o (by omega)]
          · exact hM.1
          · apply Mdl_sh hm k1
            · intro p a b; rw [up_o b, up_o a]
            · rw [up_o (by decide), up_s, show 51 + t = 50 + t + 1 by omega, skI_s]
            · intro e he; rw [up_o (by decide), up_n he]
            · exact up_s
            · intro e he; rw [up_n he, up_o (by decide)]
            · exact hM
        · rw [if_neg h0] at hq
          rw [if_neg h0, kX12_row_31]
          exact hq F L (fun _ _ => rfl) (fun _ _ => rfl) hm
      · rw [decide_eq_false hn, if_neg (by decide)] at hq
        rw [if_neg hn, kX12_row_25]
        exact hq F L (fun _ _ => rfl) (fun _ _ => rfl) hm
/-! put, element -/
def refI (sh : am_Sh) (x y : Int32) : Int32 := if inR x 6 = true then (if sK sh x.toNatClampNeg = 0 then -11 else if sK sh x.toNatClampNeg ≤ 50 then -12 else if y < 0 then -13 else if nI (sM sh x.toNatClampNeg) ≤ y then -13 else 0) else -1
theorem refI_ex {sh : am_Sh} {nb : Nat} (hw : wS sh nb) {x y : Int32} (h : refI sh x y = 0) : ∃ d i, d < 6 ∧ x = nI d ∧ 50 < sK sh d ∧ i < sM sh d ∧ y = nI i := by
  unfold refI at h
  by_cases h1 : inR x 6 = true
  · obtain ⟨d, d1, rfl⟩ := inR_ex h1 (by decide)
    rw [if_pos h1, nI_clamp (by omega)] at h
    by_cases h2 : sK sh d = 0
    · rw [if_pos h2] at h; exact absurd h (by decide)
    · rw [if_neg h2] at h
      by_cases h3 : sK sh d ≤ 50
      · rw [if_pos h3] at h; exact absurd h (by decide)
      · rw [if_neg h3] at h
        by_cases h4 : y < 0
        · rw [if_pos h4] at h; exact absurd h (by decide)
        · rw [if_neg h4] at h
          by_cases h5 : nI (sM sh d) ≤ y
          · rw [if_pos h5] at h; exact absurd h (by decide)
          · obtain ⟨i, i1, rfl⟩ := nI_of h4
            refine ⟨d, i, d1, rfl, by omega, ?_, rfl⟩
            apply Nat.lt_of_not_le
            intro hh
            exact h5 (nI_le hh i1)
  · rw [if_neg h1] at h; exact absurd h (by decide)
theorem m_refusal {d nb : Nat} {F : am_FT} {L : am_LT} {Q : am_QT} {sh : am_Sh} {x y : Int32} (h : RSm F L sh) (hw : wS sh nb) : wc am_S0 (d + 2) mX12_refusal [.ref 45, .int x, .int y] F L Q = Q (some (.int (refI sh x y))) F L := by
  unfold refI
  rw [eX12_refusal, kX12_refusal_0, m_isShelf]
  simp only [Option.toList_some, Option.toList_none, List.cons_append, List.nil_append]
  rw [kX12_refusal_4]
  cases hx : inR x 6
  · rw [if_neg (by decide), kX12_refusal_7]; rfl
  · obtain ⟨k, k1, rfl⟩ := inR_ex hx (by decide)
    obtain ⟨a, b, _⟩ := h k k1
    have hk := hw k k1
    rw [if_pos bIt, if_pos rfl, nI_clamp (by omega), kX12_refusal_9 (oobN k1 (by decide)), nI_clamp (by omega), a]
    by_cases h0 : sK sh k = 0
    · rw [if_pos h0, h0, if_neg (by decide), kX12_refusal_18]
    · rw [if_neg h0]
      obtain ⟨s, hs⟩ : ∃ s, sK sh k = s + 1 := ⟨sK sh k - 1, by omega⟩
      rw [hs, skI_s, if_pos (show (0 : Int32) ≤ nI s from nI_le (a := 0) (Nat.zero_le _) (by omega)), kX12_refusal_21 (oobN k1 (by decide)), nI_clamp (by omega), a, hs, skI_s]
      by_cases h5 : s + 1 ≤ 50
      · rw [if_pos h5, if_neg (show ¬ (50 : Int32) ≤ nI s from nI_ge (b := 50) (by omega) (by decide)), kX12_refusal_32]
      · rw [if_neg h5, if_pos (show (50 : Int32) ≤ nI s from nI_le (a := 50) (by omega) (by omega)), kX12_refusal_35]
        by_cases hy : y < 0
        · rw [if_pos hy, if_pos hy, kX12_refusal_53, kX12_refusal_55]
        · rw [if_neg hy, if_neg hy, kX12_refusal_39 (oobN k1 (by decide)), nI_clamp (by omega), b]
          by_cases hM : nI (sM sh k) ≤ y
          · rw [if_pos hM, if_pos hM, kX12_refusal_53, kX12_refusal_55]
          · rw [if_neg hM, if_neg hM, kX12_refusal_49, kX12_refusal_55]
theorem m_asSort {d : Nat} {F : am_FT} {L : am_LT} {Q : am_QT} {s : Int32} {x : Int64} : wc am_S0 d mX12_asSort [.int s, .long x] F L Q = Q (some (.long (nrw s x))) F L := by
  unfold nrw
  rw [eX12_asSort, kX12_asSort_0]
  by_cases h0 : s = 0
  · rw [if_neg (fun hh => hh h0), if_pos h0, kX12_asSort_4, kX12_asSort_54]
  · rw [if_pos h0, if_neg h0, kX12_asSort_11]
    by_cases h1 : s = 1
    · rw [if_neg (fun hh => hh h1), if_pos h1, kX12_asSort_16, kX12_asSort_54]
    · rw [if_pos h1, if_neg h1, kX12_asSort_23]
      by_cases h2 : s = 2
      · rw [if_neg (fun hh => hh h2), if_pos h2, kX12_asSort_28, kX12_asSort_54]
      · rw [if_pos h2, if_neg h2, kX12_asSort_34]
        by_cases h3 : s = 4
        · have h3' : ¬ s = 3 := by rw [h3]; decide
          rw [if_neg (fun hh => hh h3), if_neg h3', if_pos h3, kX12_asSort_39]
          by_cases h4 : lg_cmp x 0 = 0
          · rw [if_pos h4, if_pos h4, kX12_asSort_49, kX12_asSort_54]
          · rw [if_neg h4, if_neg h4, kX12_asSort_45, kX12_asSort_54]
        · rw [if_pos h3, kX12_asSort_53, kX12_asSort_54]
          by_cases h5 : s = 3
          · rw [if_pos h5]
          · rw [if_neg h5, if_neg h3]
def gPut (g : am_G) (x y : Int32) (z : Int64) : Int32 × am_G := if refI (gS g) x y = 0 then (1, sS g (shS (gS g) x.toNatClampNeg (sK (gS g) x.toNatClampNeg, sM (gS g) x.toNatClampNeg, fun i => if i = y.toNatClampNeg then nrw (nI (sK (gS g) x.toNatClampNeg - 51)) z else sE (gS g) x.toNatClampNeg i))) else (refI (gS g) x y, g)
theorem mc_put (g : am_G) (hg : wG g) (x y : Int32) (z : Int64) : MC mX12_put [.ref 45, .int x, .int y, .long z] g (.int (gPut g x y z).1) (gPut g x y z).2 := by
  intro F L Q hm hq
  unfold gPut at hq
  have hS := hg.2.2.2.2.2.2
  have h7 := hm.2.2.2.2.2.2
  rw [eX12_put, kX12_put_0, m_refusal h7 hS]
  simp only [Option.toList_some, Option.toList_none, List.cons_append, List.nil_append]
  rw [kX12_put_6]
  by_cases hr : refI (gS g) x y = 0
  · rw [if_pos hr] at hq
    obtain ⟨d, i, d1, rfl, k5, i1, rfl⟩ := refI_ex hS hr
    have hd := hS d d1
    obtain ⟨a, b, c⟩ := h7 d d1
    obtain ⟨s, hs⟩ : ∃ s, sK (gS g) d = 51 + s := ⟨sK (gS g) d - 51, by omega⟩
    have e5 : (F 59 d - 50 : Int32) = nI s := by
      rw [a, hs, show 51 + s = 50 + s + 1 by omega, skI_s, iI_l, iI_n, iI_n, iI_sub]; congr 1; show ((50 + s : Nat) : Int) - 50 = s; omega
    have ek : (60 * nI d + nI i : Int32) = nI (60 * d + i) := by
      rw [iI_l, iI_n, iI_n, iI_n, iI_mul, iI_add]; congr 1
    rw [nI_clamp (by omega), nI_clamp (by omega), hs, Nat.add_sub_cancel_left, ← hs] at hq
    rw [hr, if_neg (fun hh => hh rfl), kX12_put_13 (oobN d1 (by decide)), nI_clamp (by omega), e5, ek, m_asSort]
    simp only [Option.toList_some, Option.toList_none, List.cons_append, List.nil_append]
    rw [kX12_put_36 (oobN (by omega) (by decide)), nI_clamp (by omega), kX12_put_37, if_neg (fun hh => hh rfl), kX12_put_42, kX12_put_48]
    apply hq F _ (fun _ _ => rfl) (fun p hp => upl_o (by omega))
    apply Mdl_sh hm d1 (fun _ _ _ => rfl) a (fun _ _ => rfl) b (fun _ _ => rfl)
    refine ⟨fun p hp => upl_o (by omega), fun j hj => ?_, fun e he hed j hj => upl_n (by omega)⟩
    show am_upL L 61 (60 * d + i) (nrw (nI s) z) 61 (60 * d + j) = (if j = i then nrw (nI s) z else sE (gS g) d j)
    by_cases hij : j = i
    · rw [if_pos hij, hij]; exact upl_s
    · rw [if_neg hij, upl_n (by omega)]; exact c j hj
  · rw [if_neg hr] at hq
    rw [if_pos hr, kX12_put_37, if_pos hr, kX12_put_46, kX12_put_48]
    exact hq F L (fun _ _ => rfl) (fun _ _ => rfl) hm
def qElement (g : am_G) (x y : Int32) : Int64 := if refI (gS g) x y = 0 then sE (gS g) x.toNatClampNeg y.toNatClampNeg else -9223372036854775808
theorem mc_element (g : am_G) (hg : wG g) (x y : Int32) : MC mX12_element [.ref 45, .int x, .int y] g (.long (qElement g x y)) g := by
  intro F L Q hm hq
  have hq' := hq F L (fun _ _ => rfl) (fun _ _ => rfl) hm
  clear hq
  unfold qElement at hq'
  have hS := hg.2.2.2.2.2.2
  have h7 := hm.2.2.2.2.2.2
  rw [eX12_element, kX12_element_0, m_refusal h7 hS]
  simp only [Option.toList_some, Option.toList_none, List.cons_append, List.nil_append]
  rw [kX12_element_6]
  by_cases hr : refI (gS g) x y = 0
  · rw [if_pos hr] at hq'
    obtain ⟨d, i, d1, rfl, k5, i1, rfl⟩ := refI_ex hS hr
    have hd := hS d d1
    obtain ⟨a, b, c⟩ := h7 d d1
    have ek : (60 * nI d + nI i : Int32) = nI (60 * d + i) := by
      rw [iI_l, iI_n, iI_n, iI_n, iI_mul, iI_add]; congr 1
    rw [nI_clamp (by omega), nI_clamp (by omega)] at hq'
    rw [hr, if_pos rfl, kX12_element_15 (by rw [ek]; exact oobN (by omega) (by decide)), ek, nI_clamp (by omega), kX12_element_26, c i (by omega)]
    exact hq'
  · rw [if_neg hr] at hq'
    rw [if_neg hr, kX12_element_9, kX12_element_26]
    exact hq'
