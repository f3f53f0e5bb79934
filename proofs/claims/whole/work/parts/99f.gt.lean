/-! ===== the model's shelves 2, counts, questions as calls ===== -/
theorem nI_ltT {a b : Nat} (h : a < b) (hb : b < 2 ^ 31) : nI a < nI b := by
  simp (disch := omega) only [iI_n, iI_l, iI_neg, iI_add, iI_sub, iI_mul, iI_div, iI_lt, iI_le, iI_eq]
  omega
theorem nI_ltF {a b : Nat} (h : b ≤ a) (ha : a < 2 ^ 31) : ¬ nI a < nI b := by
  simp (disch := omega) only [iI_n, iI_l, iI_neg, iI_add, iI_sub, iI_mul, iI_div, iI_lt, iI_le, iI_eq]
  omega
def shiR (sh : am_Sh) (x i y j n : Int32) : Int32 := if (inR x 6 && inR y 6) = true then (if sK sh x.toNatClampNeg = 0 ∨ sK sh y.toNatClampNeg = 0 then -11 else if sK sh x.toNatClampNeg ≤ 50 ∨ sK sh x.toNatClampNeg ≠ sK sh y.toNatClampNeg then -12 else if n < 0 then -13 else if i < 0 then -13 else if j < 0 then -13 else if nI (sM sh x.toNatClampNeg) - n < i then -13 else if j ≤ nI (sM sh y.toNatClampNeg) - n then 0 else -13) else -1
def mvE (ex ey : Nat → Int64) (i j n : Nat) : Nat → Int64 := fun q => if j ≤ q ∧ q < j + n then ex (i + (q - j)) else ey q
def gShift (g : am_G) (x i y j n : Int32) : Int32 × am_G := if shiR (gS g) x i y j n = 0 then (n, sS g (shS (gS g) y.toNatClampNeg (sK (gS g) y.toNatClampNeg, sM (gS g) y.toNatClampNeg, mvE (sE (gS g) x.toNatClampNeg) (sE (gS g) y.toNatClampNeg) i.toNatClampNeg j.toNatClampNeg n.toNatClampNeg))) else (shiR (gS g) x i y j n, g)
theorem shiR_ex {sh : am_Sh} {nb : Nat} (hw : wS sh nb) {x i y j n : Int32} (h : shiR sh x i y j n = 0) : ∃ a p b q m, a < 6 ∧ b < 6 ∧ x = nI a ∧ i = nI p ∧ y = nI b ∧ j = nI q ∧ n = nI m ∧ 50 < sK sh a ∧ sK sh a = sK sh b ∧ p + m ≤ sM sh a ∧ q + m ≤ sM sh b := by
  unfold shiR at h
  cases hx : inR x 6
  · rw [hx, Bool.false_and, if_neg (by decide)] at h; exact absurd h (by decide)
  cases hy : inR y 6
  · rw [hx, hy, if_neg (by decide)] at h; exact absurd h (by decide)
  rw [hx, hy, if_pos (by decide)] at h
  obtain ⟨a, a1, rfl⟩ := inR_ex hx (by decide)
  obtain ⟨b, b1, rfl⟩ := inR_ex hy (by decide)
  rw [nI_clamp (by omega), nI_clamp (by omega)] at h
  have ha := hw a a1
  have hb := hw b b1
  by_cases h1 : sK sh a = 0 ∨ sK sh b = 0
  · rw [if_pos h1] at h; exact absurd h (by decide)
  rw [if_neg h1] at h
  by_cases h2 : sK sh a ≤ 50 ∨ sK sh a ≠ sK sh b
  · rw [if_pos h2] at h; exact absurd h (by decide)
  rw [if_neg h2] at h
  by_cases h3 : n < 0
  · rw [if_pos h3] at h; exact absurd h (by decide)
  rw [if_neg h3] at h
  by_cases h4 : i < 0
  · rw [if_pos h4] at h; exact absurd h (by decide)
  rw [if_neg h4] at h
  by_cases h5 : j < 0
  · rw [if_pos h5] at h; exact absurd h (by decide)
  rw [if_neg h5] at h
  obtain ⟨m, m1, rfl⟩ := nI_of h3
  obtain ⟨p, p1, rfl⟩ := nI_of h4
  obtain ⟨q, q1, rfl⟩ := nI_of h5
  by_cases h6 : nI (sM sh a) - nI m < nI p
  · rw [if_pos h6] at h; exact absurd h (by decide)
  rw [if_neg h6] at h
  by_cases h7 : nI q ≤ nI (sM sh b) - nI m
  · refine ⟨a, p, b, q, m, a1, b1, rfl, rfl, rfl, rfl, rfl, by omega, ?_, ?_, ?_⟩
    · apply Classical.byContradiction
      intro hh
      exact h2 (Or.inr hh)
    · revert h6
      simp (disch := omega) only [iI_n, iI_l, iI_neg, iI_add, iI_sub, iI_mul, iI_div, iI_lt, iI_le, iI_eq]
      intro h6
      omega
    · revert h7
      simp (disch := omega) only [iI_n, iI_l, iI_neg, iI_add, iI_sub, iI_mul, iI_div, iI_lt, iI_le, iI_eq]
      intro h7
      omega
  · rw [if_neg h7] at h; exact absurd h (by decide)
theorem m_shi1 {dd a p m M : Nat} {F : am_FT} {Q : am_QT} {l3 l4 : Option Value} {L0 : am_LT} (ha : a < 6) (hM : M ≤ 60) (hp : p + m ≤ M) (hq : ∀ L : am_LT, (∀ r, r ≠ 62 → L r = L0 r) → (∀ k, k < m → L 62 k = L0 61 (60 * a + (p + k))) → wt am_S0 dd mX12_shift 147 [some (.ref 45), some (.int (nI a)), some (.int (nI p)), l3, l4, some (.int (nI m)), some (.int (nI m))] [] F L Q) : ∀ (f k : Nat) (L : am_LT), k + f = m → (∀ r, r ≠ 62 → L r = L0 r) → (∀ c, c < k → L 62 c = L0 61 (60 * a + (p + c))) → wt am_S0 dd mX12_shift 113 [some (.ref 45), some (.int (nI a)), some (.int (nI p)), l3, l4, some (.int (nI m)), some (.int (nI k))] [] F L Q := by
  intro f
  induction f with
  | zero =>
    intro k L hk h1 h2
    have : k = m := by omega
    subst this
    rw [kX12_shift_113, if_pos (nI_le (Nat.le_refl _) (by omega))]
    exact hq L h1 h2
  | succ f ih =>
    intro k L hk h1 h2
    have ek : (60 * nI a + nI p + nI k : Int32) = nI (60 * a + (p + k)) := by
      rw [iI_l, iI_n, iI_n, iI_n, iI_n, iI_mul, iI_add, iI_add]; congr 1; omega
    rw [kX12_shift_113, if_neg (nI_ge (by omega) (by omega)), kX12_shift_120 (by rw [ek]; exact oobN (by omega) (by decide)) (oobN (by omega) (by decide)), ek, nI_clamp (by omega), nI_clamp (by omega), nI_1, h1 61 (by decide)]
    apply ih (k + 1) _ (by omega)
    · intro r hr; rw [upl_o hr]; exact h1 r hr
    · intro c hc
      by_cases hck : c = k
      · rw [hck]; exact upl_s
      · rw [upl_n hck]; exact h2 c (by omega)
theorem m_shi2 {dd b q m M : Nat} {F : am_FT} {Q : am_QT} {l1 l2 : Option Value} {L0 : am_LT} {ex : Nat → Int64} (hb : b < 6) (hM : M ≤ 60) (hp : q + m ≤ M) (hx : ∀ k, k < m → L0 62 k = ex k) (hq : ∀ L : am_LT, (∀ r, r ≠ 61 → L r = L0 r) → (∀ c, ¬ (60 * b + q ≤ c ∧ c < 60 * b + q + m) → L 61 c = L0 61 c) → (∀ k, k < m → L 61 (60 * b + (q + k)) = ex k) → Q (some (.int (nI m))) F L) : ∀ (f k : Nat) (L : am_LT), k + f = m → (∀ r, r ≠ 61 → L r = L0 r) → (∀ c, ¬ (60 * b + q ≤ c ∧ c < 60 * b + q + k) → L 61 c = L0 61 c) → (∀ c, c < k → L 61 (60 * b + (q + c)) = ex c) → wt am_S0 dd mX12_shift 150 [some (.ref 45), l1, l2, some (.int (nI b)), some (.int (nI q)), some (.int (nI m)), some (.int (nI k))] [] F L Q := by
  intro f
  induction f with
  | zero =>
    intro k L hk h1 h2 h3
    have : k = m := by omega
    subst this
    rw [kX12_shift_150, if_pos (nI_le (Nat.le_refl _) (by omega)), kX12_shift_185]
    exact hq L h1 h2 h3
  | succ f ih =>
    intro k L hk h1 h2 h3
    have ek : (60 * nI b + nI q + nI k : Int32) = nI (60 * b + (q + k)) := by
      rw [iI_l, iI_n, iI_n, iI_n, iI_n, iI_mul, iI_add, iI_add]; congr 1; omega
    rw [kX12_shift_150, if_neg (nI_ge (by omega) (by omega)), kX12_shift_157 (oobN (by omega) (by decide)) (by rw [ek]; exact oobN (by omega) (by decide)), ek, nI_clamp (by omega), nI_clamp (by omega), nI_1, h1 62 (by decide), hx k (by omega)]
    apply ih (k + 1) _ (by omega)
    · intro r hr; rw [upl_o hr]; exact h1 r hr
    · intro c hc
      rw [upl_n (by omega)]
      exact h2 c (by omega)
    · intro c hc
      by_cases hck : c = k
      · rw [hck]; exact upl_s
      · rw [upl_n (by omega)]; exact h3 c (by omega)
theorem mc_shift (g : am_G) (hg : wG g) (x i y j n : Int32) : MC mX12_shift [.ref 45, .int x, .int i, .int y, .int j, .int n] g (.int (gShift g x i y j n).1) (gShift g x i y j n).2 := by
  intro F L Q hm hq
  unfold gShift at hq
  have hS := hg.2.2.2.2.2.2
  have h7 := hm.2.2.2.2.2.2
  by_cases h0 : shiR (gS g) x i y j n = 0
  · rw [if_pos h0] at hq
    obtain ⟨a, p, b, q, m, a1, b1, rfl, rfl, rfl, rfl, rfl, k5, ke, m1, m2⟩ := shiR_ex hS h0
    have ha := hS a a1
    have hb := hS b b1
    obtain ⟨s, hs⟩ : ∃ s, sK (gS g) a = s + 1 := ⟨sK (gS g) a - 1, by omega⟩
    have e59a : F 59 a = nI s := by rw [(h7 a a1).1, hs, skI_s]
    have e59b : F 59 b = nI s := by rw [(h7 b b1).1, ← ke, hs, skI_s]
    have e60a := (h7 a a1).2.1
    have e60b := (h7 b b1).2.1
    rw [nI_clamp (by omega), nI_clamp (by omega), nI_clamp (by omega), nI_clamp (by omega), nI_clamp (by omega)] at hq
    have c1 : ¬ nI (sM (gS g) a) - nI m < nI p := by
      simp (disch := omega) only [iI_n, iI_l, iI_neg, iI_add, iI_sub, iI_mul, iI_div, iI_lt, iI_le, iI_eq]
      omega
    have c2 : nI q ≤ nI (sM (gS g) b) - nI m := by
      simp (disch := omega) only [iI_n, iI_l, iI_neg, iI_add, iI_sub, iI_mul, iI_div, iI_lt, iI_le, iI_eq]
      omega
    rw [eX12_shift, kX12_shift_0, m_isShelf, inR_n a1 (by decide)]
    simp only [Option.toList_some, Option.toList_none, List.cons_append, List.nil_append]
    rw [kX12_shift_4, if_neg bIt, kX12_shift_7, m_isShelf, inR_n b1 (by decide)]
    simp only [Option.toList_some, Option.toList_none, List.cons_append, List.nil_append]
    rw [kX12_shift_11, if_pos bIt, kX12_shift_16 (oobN a1 (by decide)), nI_clamp (by omega), e59a, if_neg (nI_pos (by omega)), kX12_shift_25 (oobN b1 (by decide)), nI_clamp (by omega), e59b, if_pos (show (0 : Int32) ≤ nI s from nI_le (a := 0) (Nat.zero_le _) (by omega)), kX12_shift_37 (oobN a1 (by decide)), nI_clamp (by omega), e59a, if_neg (show ¬ nI s < (50 : Int32) from nI_ltF (b := 50) (by omega) (by omega)), kX12_shift_48 (oobN a1 (by decide)) (oobN b1 (by decide)), nI_clamp (by omega), nI_clamp (by omega), e59a, e59b, if_pos rfl, kX12_shift_66, if_neg (nI_pos (by omega)), kX12_shift_71, if_neg (nI_pos (by omega)), kX12_shift_75, if_neg (nI_pos (by omega)), kX12_shift_80 (oobN a1 (by decide)), nI_clamp (by omega), e60a, if_neg c1, kX12_shift_93 (oobN b1 (by decide)), nI_clamp (by omega), e60b, if_pos c2, kX12_shift_110]
    refine m_shi1 (M := sM (gS g) a) a1 ha.2.1 m1 ?_ m 0 L (by omega) (fun _ _ => rfl) (fun c hc => absurd hc (Nat.not_lt_zero c))
    intro K k1 k2
    rw [kX12_shift_147]
    refine m_shi2 (M := sM (gS g) b) (ex := fun k => sE (gS g) a (p + k)) b1 hb.2.1 m2 (fun k hk => by rw [k2 k hk, (h7 a a1).2.2 (p + k) (by omega)]) ?_ m 0 K (by omega) (fun _ _ => rfl) (fun _ _ => rfl) (fun c hc => absurd hc (Nat.not_lt_zero c))
    intro M j1 j2 j3
    apply hq F M (fun _ _ => rfl) (fun r hr => (j1 r (by omega)).trans (k1 r (by omega)))
    apply Mdl_sh hm b1 (fun _ _ _ => rfl) (h7 b b1).1 (fun _ _ => rfl) e60b (fun _ _ => rfl)
    refine ⟨fun r hr => (j1 r (by omega)).trans (k1 r (by omega)), fun c hc => ?_, fun e he hed c hc => ?_⟩
    · show M 61 (60 * b + c) = (if q ≤ c ∧ c < q + m then sE (gS g) a (p + (c - q)) else sE (gS g) b c)
      by_cases hh : q ≤ c ∧ c < q + m
      · rw [if_pos hh, show 60 * b + c = 60 * b + (q + (c - q)) by omega]
        exact j3 (c - q) (by omega)
      · rw [if_neg hh, j2 _ (by omega), k1 61 (by decide)]
        exact (h7 b b1).2.2 c hc
    · rw [j2 _ (by omega), k1 61 (by decide)]
  · rw [if_neg h0] at hq
    have hq' := hq F L (fun _ _ => rfl) (fun _ _ => rfl) hm
    clear hq
    unfold shiR at hq' h0
    rw [eX12_shift, kX12_shift_0, m_isShelf]
    simp only [Option.toList_some, Option.toList_none, List.cons_append, List.nil_append]
    rw [kX12_shift_4]
    cases hx : inR x 6
    · rw [hx, Bool.false_and, if_neg (by decide)] at hq'
      rw [if_pos bIf, kX12_shift_14]; exact hq'
    rw [if_neg bIt, kX12_shift_7, m_isShelf]
    simp only [Option.toList_some, Option.toList_none, List.cons_append, List.nil_append]
    rw [kX12_shift_11]
    cases hy : inR y 6
    · rw [hx, hy, if_neg (by decide)] at hq'
      rw [if_neg (by decide), kX12_shift_14]; exact hq'
    rw [hx, hy, if_pos (by decide)] at hq' h0
    obtain ⟨a, a1, rfl⟩ := inR_ex hx (by decide)
    obtain ⟨b, b1, rfl⟩ := inR_ex hy (by decide)
    rw [nI_clamp (by omega), nI_clamp (by omega)] at hq' h0
    have ha := hS a a1
    have hb := hS b b1
    rw [if_pos bIt, kX12_shift_16 (oobN a1 (by decide)), nI_clamp (by omega), (h7 a a1).1]
    by_cases ka : sK (gS g) a = 0
    · rw [if_pos (Or.inl ka)] at hq'
      rw [ka, if_pos (by decide), kX12_shift_34]; exact hq'
    obtain ⟨s, hs⟩ : ∃ s, sK (gS g) a = s + 1 := ⟨sK (gS g) a - 1, by omega⟩
    rw [hs, skI_s, if_neg (nI_pos (by omega)), kX12_shift_25 (oobN b1 (by decide)), nI_clamp (by omega), (h7 b b1).1]
    by_cases kb : sK (gS g) b = 0
    · rw [if_pos (Or.inr kb)] at hq'
      rw [kb, if_neg (by decide), kX12_shift_34]; exact hq'
    obtain ⟨t, ht⟩ : ∃ t, sK (gS g) b = t + 1 := ⟨sK (gS g) b - 1, by omega⟩
    rw [if_neg (by omega)] at hq' h0
    rw [ht, skI_s, if_pos (show (0 : Int32) ≤ nI t from nI_le (a := 0) (Nat.zero_le _) (by omega)), kX12_shift_37 (oobN a1 (by decide)), nI_clamp (by omega), (h7 a a1).1, hs, skI_s]
    by_cases k5 : s < 50
    · rw [if_pos (Or.inl (by omega))] at hq'
      rw [if_pos (show nI s < (50 : Int32) from nI_ltT (b := 50) k5 (by decide)), kX12_shift_63]; exact hq'
    rw [if_neg (show ¬ nI s < (50 : Int32) from nI_ltF (b := 50) (by omega) (by omega)), kX12_shift_48 (oobN a1 (by decide)) (oobN b1 (by decide)), nI_clamp (by omega), nI_clamp (by omega), (h7 a a1).1, (h7 b b1).1, hs, ht, skI_s, skI_s]
    by_cases kk : s = t
    · rw [if_neg (by omega)] at hq' h0
      rw [if_pos (by rw [kk]), kX12_shift_66]
      by_cases h3 : n < 0
      · rw [if_pos h3] at hq'
        rw [if_pos h3, kX12_shift_107]; exact hq'
      rw [if_neg h3] at hq' h0
      rw [if_neg h3, kX12_shift_71]
      by_cases h4 : i < 0
      · rw [if_pos h4] at hq'
        rw [if_pos h4, kX12_shift_107]; exact hq'
      rw [if_neg h4] at hq' h0
      rw [if_neg h4, kX12_shift_75]
      by_cases h5 : j < 0
      · rw [if_pos h5] at hq'
        rw [if_pos h5, kX12_shift_107]; exact hq'
      rw [if_neg h5] at hq' h0
      rw [if_neg h5, kX12_shift_80 (oobN a1 (by decide)), nI_clamp (by omega), (h7 a a1).2.1]
      by_cases h6 : nI (sM (gS g) a) - n < i
      · rw [if_pos h6] at hq'
        rw [if_pos h6, kX12_shift_107]; exact hq'
      rw [if_neg h6] at hq' h0
      rw [if_neg h6, kX12_shift_93 (oobN b1 (by decide)), nI_clamp (by omega), (h7 b b1).2.1]
      by_cases h7' : j ≤ nI (sM (gS g) b) - n
      · rw [if_pos h7'] at h0
        exact absurd rfl h0
      · rw [if_neg h7'] at hq'
        rw [if_neg h7', kX12_shift_107]; exact hq'
    · rw [if_pos (Or.inr (by omega))] at hq'
      rw [if_neg (show ¬ nI s = nI t by rw [nI_inj (by omega) (by omega)]; exact kk), kX12_shift_63]; exact hq'
/-! take, by kind -/
def rkN (u : Nat) : Nat := [0, 1, 1, 2, 2, 3, 1, 3].getD u 0
def undN (k : Nat) : Nat → Nat → Nat
  | 0, u => u
  | f + 1, u => if u = k ∨ u = 0 then u else undN k f (abv u)
theorem rk_abv : ∀ u, u < 8 → u ≠ 0 → rkN (abv u) < rkN u ∧ abv u < 8 := by decide
theorem m_above {d u : Nat} {F : am_FT} {L : am_LT} {Q : am_QT} (hu : u < 8) : wc am_S0 d mX12_above [.int (nI u)] F L Q = Q (some (.int (nI (abv u)))) F L := by
  rw [eX12_above, kX12_above_0]
  rcases (by omega : u = 0 ∨ u = 1 ∨ u = 2 ∨ u = 3 ∨ u = 4 ∨ u = 5 ∨ u = 6 ∨ u = 7) with rfl | rfl | rfl | rfl | rfl | rfl | rfl | rfl
  · rw [if_pos (by decide), kX12_above_9, if_pos (by decide), kX12_above_18, if_pos (by decide), kX12_above_27, if_pos (by decide), kX12_above_37, kX12_above_38]; rfl
  · rw [if_pos (by decide), kX12_above_9, if_pos (by decide), kX12_above_18, if_pos (by decide), kX12_above_27, if_pos (by decide), kX12_above_37, kX12_above_38]; rfl
  · rw [if_pos (by decide), kX12_above_9, if_pos (by decide), kX12_above_18, if_pos (by decide), kX12_above_27, if_pos (by decide), kX12_above_37, kX12_above_38]; rfl
  · rw [if_neg (by decide), kX12_above_5, kX12_above_38]; rfl
  · rw [if_pos (by decide), kX12_above_9, if_neg (by decide), kX12_above_14, kX12_above_38]; rfl
  · rw [if_pos (by decide), kX12_above_9, if_pos (by decide), kX12_above_18, if_neg (by decide), kX12_above_23, kX12_above_38]; rfl
  · rw [if_pos (by decide), kX12_above_9, if_pos (by decide), kX12_above_18, if_pos (by decide), kX12_above_27, if_pos (by decide), kX12_above_37, kX12_above_38]; rfl
  · rw [if_pos (by decide), kX12_above_9, if_pos (by decide), kX12_above_18, if_pos (by decide), kX12_above_27, if_neg (by decide), kX12_above_33, kX12_above_38]; rfl
theorem m_tak_loop {d k : Nat} {F : am_FT} {L : am_LT} {Q : am_QT} {l0 l1 : Option Value} (hk : k < 8) : ∀ (f u : Nat), u < 8 → rkN u ≤ f → wt am_S0 (d + 1) mX12_taken 58 [l0, l1, some (.int (nI k)), some (.int (nI u))] [] F L Q = wt am_S0 (d + 1) mX12_taken 75 [l0, l1, some (.int (nI k)), some (.int (nI (undN k f u)))] [] F L Q := by
  intro f
  induction f with
  | zero =>
    intro u hu hr
    have h0 : u = 0 := by
      apply Classical.byContradiction
      intro h
      have := rk_abv u hu h
      omega
    subst h0
    rw [kX12_taken_58]
    by_cases h : k = 0
    · subst h; rw [if_pos rfl]; rfl
    · rw [if_neg (show ¬ nI 0 = nI k from nI_ne (by decide) (by omega) (fun e => h e.symm)), kX12_taken_63, if_pos (by decide)]; rfl
  | succ f ih =>
    intro u hu hr
    have e : undN k (f + 1) u = if u = k ∨ u = 0 then u else undN k f (abv u) := rfl
    rw [kX12_taken_58]
    by_cases h : u = k
    · rw [e, if_pos (Or.inl h), if_pos (by rw [h])]
    · rw [if_neg (show ¬ nI u = nI k from nI_ne (by omega) (by omega) h), kX12_taken_63]
      by_cases h0 : u = 0
      · rw [e, if_pos (Or.inr h0), if_pos (by rw [h0]; decide)]
      · have hh := rk_abv u hu h0
        rw [e, if_neg (show ¬ (u = k ∨ u = 0) from fun x => x.elim h h0), if_neg (show ¬ nI u ≤ (0 : Int32) from nI_ge (b := u) (a := 0) (by omega) (by omega)), kX12_taken_67, m_above hu]
        simp only [Option.toList_some, Option.toList_none, List.cons_append, List.nil_append]
        rw [kX12_taken_71]
        exact ih (abv u) hh.2 (by omega)
def qTaken (g : am_G) (x k : Int32) : Int32 := if (inR x 6 && inR k 8) = true then (if sK (gS g) x.toNatClampNeg = 0 then -11 else if 50 < sK (gS g) x.toNatClampNeg then -12 else if undN k.toNatClampNeg 3 ((gB g).2 (sK (gS g) x.toNatClampNeg - 1)) = k.toNatClampNeg then nI ((gB g).2 (sK (gS g) x.toNatClampNeg - 1)) else -12) else -1
theorem rk_3 : ∀ u, u < 8 → rkN u ≤ 3 := by decide
theorem und_8 : ∀ u, u < 8 → ∀ k, k < 8 → undN k 3 u < 8 := by decide
theorem mc_taken (g : am_G) (hg : wG g) (x k : Int32) : MC mX12_taken [.ref 45, .int x, .int k] g (.int (qTaken g x k)) g := by
  intro F L Q hm hq
  have hq' := hq F L (fun _ _ => rfl) (fun _ _ => rfl) hm
  clear hq
  unfold qTaken at hq'
  have hS := hg.2.2.2.2.2.2
  have hB := hg.2.2.2.2.1
  have h7 := hm.2.2.2.2.2.2
  have h5 := hm.2.2.2.2.1
  rw [eX12_taken, kX12_taken_0, m_isShelf]
  simp only [Option.toList_some, Option.toList_none, List.cons_append, List.nil_append]
  rw [kX12_taken_4]
  cases hx : inR x 6
  · rw [hx, Bool.false_and, if_neg (by decide)] at hq'
    rw [if_pos bIf, kX12_taken_19]; exact hq'
  rw [if_neg bIt, kX12_taken_7, show (7 : Int64) = (nI 7).toInt64 from rfl, m_w (by decide)]
  simp only [Option.toList_some, Option.toList_none, List.cons_append, List.nil_append]
  rw [kX12_taken_16]
  cases hk : inR k 8
  · rw [hx, hk, if_neg (by decide)] at hq'
    rw [if_neg (by decide), kX12_taken_19]; exact hq'
  rw [hx, hk, if_pos (by decide)] at hq'
  obtain ⟨a, a1, rfl⟩ := inR_ex hx (by decide)
  obtain ⟨c, c1, rfl⟩ := inR_ex hk (by decide)
  rw [nI_clamp (by omega), nI_clamp (by omega)] at hq'
  have ha := hS a a1
  rw [if_pos bIt, kX12_taken_21 (oobN a1 (by decide)), nI_clamp (by omega), (h7 a a1).1]
  by_cases ka : sK (gS g) a = 0
  · rw [if_pos ka] at hq'
    rw [ka, if_neg (by decide), kX12_taken_30]; exact hq'
  rw [if_neg ka] at hq'
  obtain ⟨s, hs⟩ : ∃ s, sK (gS g) a = s + 1 := ⟨sK (gS g) a - 1, by omega⟩
  rw [hs, skI_s, if_pos (show (0 : Int32) ≤ nI s from nI_le (a := 0) (Nat.zero_le _) (by omega)), kX12_taken_33 (oobN a1 (by decide)), nI_clamp (by omega), (h7 a a1).1, hs, skI_s]
  by_cases k5 : 50 < sK (gS g) a
  · rw [if_pos k5] at hq'
    rw [if_neg (show ¬ nI s < (50 : Int32) from nI_ltF (b := 50) (by omega) (by omega)), kX12_taken_44]; exact hq'
  rw [if_neg k5, hs, Nat.add_sub_cancel] at hq'
  have hsn : s < (gB g).1 := by have := ha.2.2.2 (by omega) (by omega); omega
  have hu := hB.2 s hsn
  have e57 := h5.2 s hsn
  have hb1 := hB.1
  rw [if_pos (show nI s < (50 : Int32) from nI_ltT (b := 50) (by omega) (by decide)), kX12_taken_47 (oobN a1 (by decide)), nI_clamp (by omega), (h7 a a1).1, hs, skI_s, eX12_kindOf, kX12_kindOf_0 (oobN (by omega) (by decide)), nI_clamp (by omega), e57]
  simp only [Option.toList_some, Option.toList_none, List.cons_append, List.nil_append]
  rw [kX12_taken_57, m_tak_loop c1 3 _ hu (rk_3 _ hu), kX12_taken_75]
  by_cases hh : undN c 3 ((gB g).2 s) = c
  · rw [if_pos hh] at hq'
    rw [hh, if_neg (fun h => h rfl), kX12_taken_80 (oobN a1 (by decide)), nI_clamp (by omega), (h7 a a1).1, hs, skI_s, eX12_kindOf, kX12_kindOf_0 (oobN (by omega) (by decide)), nI_clamp (by omega), e57]
    simp only [Option.toList_some, Option.toList_none, List.cons_append, List.nil_append]
    rw [kX12_taken_90, kX12_taken_95]; exact hq'
  · rw [if_neg hh] at hq'
    have h8 := und_8 _ hu c c1
    rw [if_pos (nI_ne (by omega) (by omega) hh), kX12_taken_93, kX12_taken_95]; exact hq'
/-! count -/
def qCount (g : am_G) (x : Int32) : Int32 := if x = 0 then nI (vT (gV g)) else if x = 1 then nI (vP (gV g)) else if x = 2 then nI (gT g).1 else if x = 3 then nI (gC g).1 else if x = 4 then nI (gB g).1 else if x = 5 then nI (gL g).length else -1
theorem mc_count (g : am_G) (x : Int32) : MC mX12_count [.ref 45, .int x] g (.int (qCount g x)) g := by
  intro F L Q hm hq
  have hq' := hq F L (fun _ _ => rfl) (fun _ _ => rfl) hm
  clear hq
  unfold qCount at hq'
  rw [eX12_count, kX12_count_0]
  by_cases h0 : x = 0
  · rw [if_pos h0] at hq' ⊢
    rw [kX12_count_40, hm.1.1.1]; exact hq'
  rw [if_neg h0] at hq' ⊢
  by_cases h1 : x = 1
  · rw [if_pos h1] at hq' ⊢
    rw [kX12_count_45, hm.1.1.2.1]; exact hq'
  rw [if_neg h1] at hq' ⊢
  by_cases h2 : x = 2
  · rw [if_pos h2] at hq' ⊢
    rw [kX12_count_50, hm.2.1.1]; exact hq'
  rw [if_neg h2] at hq' ⊢
  by_cases h3 : x = 3
  · rw [if_pos h3] at hq' ⊢
    rw [kX12_count_55, hm.2.2.1.1]; exact hq'
  rw [if_neg h3] at hq' ⊢
  by_cases h4 : x = 4
  · rw [if_pos h4] at hq' ⊢
    rw [kX12_count_60, hm.2.2.2.2.1.1]; exact hq'
  rw [if_neg h4] at hq' ⊢
  by_cases h5 : x = 5
  · rw [if_pos h5] at hq' ⊢
    rw [kX12_count_65, hm.2.2.2.2.2.1.1]; exact hq'
  rw [if_neg h5] at hq' ⊢
  rw [kX12_count_70]; exact hq'
/-! the questions as calls -/
theorem mc_shade (g : am_G) (hg : wG g) (x : Int32) : MC mX12_shade [.ref 45, .int x] g (.int (qShade (gV g) x)) g := MC_q fun F L Q hm hq => m_shade hm.1 (hq F (qM_rf F))
theorem mc_votes (g : am_G) (hg : wG g) (x w : Int32) : MC mX12_votes [.ref 45, .int x, .int w] g (.int (qVotes (gV g) x w)) g := MC_q fun F L Q hm hq => m_votes hm.1 hq
theorem mc_falls (g : am_G) (hg : wG g) (x : Int32) : MC mX12_falls [.ref 45, .int x] g (.int (qFalls (gV g) x)) g := MC_q fun F L Q hm hq => m_falls hm.1 hq
theorem mc_first (g : am_G) (hg : wG g) (x : Int32) : MC mX12_first [.ref 45, .int x] g (.int (qFirst (gV g) x)) g := MC_q fun F L Q hm hq => m_first hm.1 hq
theorem mc_left (g : am_G) (hg : wG g) (x n : Int32) : MC mX12_left [.ref 45, .int x, .int n] g (.int (qLeft (gV g) x n)) g := MC_q fun F L Q hm hq => m_left hm.1 hq
theorem mc_deepest (g : am_G) (hg : wG g) (x w : Int32) : MC mX12_deepest [.ref 45, .int x, .int w] g (.int (qDeepest (gV g) x w)) g := MC_q fun F L Q hm hq => m_deepest hm.1 (hq F (qM_rf F))
theorem mc_shadiest (g : am_G) (hg : wG g) (x w : Int32) : MC mX12_shadiest [.ref 45, .int x, .int w] g (.int (qShadiest (gV g) x w)) g := MC_q fun F L Q hm hq => m_shadiest hm.1 (hq F (qM_rf F))
theorem mc_alike (g : am_G) (hg : wG g) (x y : Int32) : MC mX12_alike [.ref 45, .int x, .int y] g (.int (qAlike (gV g) x y)) g := MC_q fun F L Q hm hq => m_alike hm.1 (hq F (qM_rf F))
theorem mc_chair (g : am_G) (hg : wG g) (x : Int32) : MC mX12_chair [.ref 45, .int x] g (.int (qChair (gV g) x)) g := MC_q fun F L Q hm hq => m_chair hm.1 hq
theorem mc_turn (g : am_G) (hg : wG g) (x w : Int32) : MC mX12_turn [.ref 45, .int x, .int w] g (.int (qTurn (gV g) x w)) g := MC_q fun F L Q hm hq => m_turn hm.1 hq
theorem mc_lop (g : am_G) (hg : wG g) (x w : Int32) : MC mX12_lop [.ref 45, .int x, .int w] g (.int (qLop (gV g) x w)) g := MC_q fun F L Q hm hq => m_lop hm.1 hq
theorem mc_byTurns (g : am_G) (hg : wG g) (x y : Int32) : MC mX12_byTurns [.ref 45, .int x, .int y] g (.int (qByT (gV g) x y)) g := MC_q fun F L Q hm hq => m_byTurns hm.1 hq
theorem mc_save (g : am_G) (hg : wG g) (x w : Int32) : MC mX12_save [.ref 45, .int x, .int w] g (.int (qSave (gV g) x w)) g := MC_q fun F L Q hm hq => m_save hm.1 hq
theorem mc_drawn (g : am_G) (hg : wG g) (s y x : Int32) : MC mX12_drawn [.ref 45, .int s, .int y, .int x] g (.int (qDrawn (gV g) s y x)) g := MC_q fun F L Q hm hq => m_drawn hm.1 hq
theorem mc_judge (g : am_G) (hg : wG g) (x y : Int32) : MC mX12_judge [.ref 45, .int x, .int y] g (.int (qJudge (gV g) (gS g) x y)) g := MC_q fun F L Q hm hq => m_judge hm.1 hm.2.2.2.2.2.2 hg.2.2.2.2.2.2 hq
theorem mc_wishes (g : am_G) (hg : wG g) (x y w : Int32) : MC mX12_wishes [.ref 45, .int x, .int y, .int w] g (.int (qWishes (gV g) (gS g) x y w)) g := MC_q fun F L Q hm hq => m_wishes hm.1 hm.2.2.2.2.2.2 hg.2.2.2.2.2.2 hq
theorem mc_power (g : am_G) (hg : wG g) (x y w : Int32) : MC mX12_power [.ref 45, .int x, .int y, .int w] g (.long (qPower (gV g) x y w)) g := MC_q fun F L Q hm hq => m_power hm.1 hq
