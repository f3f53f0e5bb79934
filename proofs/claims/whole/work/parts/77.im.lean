/-! ===== the image ===== -/
/-- what is led (4: the month), whether an image is kept, its trees, people, who stood, heights, seats, what was led -/
abbrev am_D : Type := (Nat → Int32) × Bool × Nat × Nat × (Nat → Bool) × (Nat → Nat) × (Nat → Nat) × (Nat → Int32)
def dL (d : am_D) : Nat → Int32 := d.1
def dK (d : am_D) : Bool := d.2.1
def dT (d : am_D) : Nat := d.2.2.1
def dP (d : am_D) : Nat := d.2.2.2.1
def dS (d : am_D) : Nat → Bool := d.2.2.2.2.1
def dH (d : am_D) : Nat → Nat := d.2.2.2.2.2.1
def dC (d : am_D) : Nat → Nat := d.2.2.2.2.2.2.1
def dI (d : am_D) : Nat → Int32 := d.2.2.2.2.2.2.2
def RD (F : am_FT) (d : am_D) : Prop := (∀ k, k < 5 → F 19 k = dL d k) ∧ F 18 8 = bI (dK d) ∧ (dK d = true → F 18 6 = nI (dT d) ∧ F 18 7 = nI (dP d) ∧ (∀ t, t < dT d → F 21 t = bI (dS d t)) ∧ (∀ t, t < dT d → F 22 t = nI (dH d t)) ∧ (∀ t, t < dP d → F 23 t = nI (dC d t)) ∧ ∀ k, k < 5 → F 20 k = dI d k)
def wD (v : am_V) (d : am_D) : Prop := (∃ m, m < 12 ∧ dL d 4 = nI m) ∧ (dK d = true → dT d ≤ vT v ∧ dP d ≤ vP v ∧ (∀ t, t < dT d → 1 ≤ dH d t ∧ dH d t ≤ 9) ∧ (∀ t, t < dP d → dC d t ≤ 255) ∧ ∃ m, m < 12 ∧ dI d 4 = nI m)
def dimg (v : am_V) (d : am_D) : am_D := (dL d, true, vT v, vP v, vS v, vN v 1, vN v 4, dL d)
theorem c_img_l1 {d : Nat} {L : am_LT} {Q : am_QT} {v : am_V} (hv : wV v) : ∀ (j k : Nat) (F : am_FT), k + j = vT v → RLand (F 1) (F 2) v → F 18 6 = nI (vT v) → (∀ t, t < k → F 21 t = bI (vS v t) ∧ F 22 t = nI (vN v 1 t)) → (∀ G : am_FT, (∀ p, p ≠ 21 → p ≠ 22 → G p = F p) → (∀ t, t < vT v → G 21 t = bI (vS v t) ∧ G 22 t = nI (vN v 1 t)) → wt am_S0 (d + 1) mX3_keepImage 78 [some (.ref 18), some (.int (nI (vT v)))] [] G L Q) → wt am_S0 (d + 1) mX3_keepImage 29 [some (.ref 18), some (.int (nI k))] [] F L Q := by
  have hT := hv.1
  intro j
  induction j with
  | zero =>
    intro k F hk h h6 hi hq
    have : k = vT v := by omega
    subst this
    rw [kX3_keepImage_29, h6, if_pos (nI_le (Nat.le_refl _) (by omega))]
    exact hq F (fun _ _ _ => rfl) hi
  | succ j ih =>
    intro k F hk h h6 hi hq
    rw [kX3_keepImage_29, h6, if_neg (nI_ge (by omega) (by omega)), kX3_keepImage_37, s_read, ld7 h hv (by omega)]
    simp only [Option.toList_some, Option.toList_none, List.cons_append, List.nil_append]
    rw [kX3_keepImage_52, s_lay (p := 21) (n := 6) rfl (by decide), wrA_n (by omega) (by decide)]
    simp only [Option.toList_some, Option.toList_none, List.cons_append, List.nil_append]
    rw [kX3_keepImage_55, s_read, ld1 (v := v) (by rw [up_o (by decide), up_o (by decide)]; exact h) hv (by omega)]
    simp only [Option.toList_some, Option.toList_none, List.cons_append, List.nil_append]
    rw [kX3_keepImage_69, s_lay (p := 22) (n := 6) rfl (by decide), wrA_n (by omega) (by decide)]
    simp only [Option.toList_some, Option.toList_none, List.cons_append, List.nil_append]
    rw [kX3_keepImage_72, nI_1]
    refine ih (k + 1) _ (by omega) ?_ ?_ ?_ ?_
    · rw [up_o (by decide), up_o (by decide), up_o (by decide), up_o (by decide)]; exact h
    · rw [up_o (by decide), up_o (by decide)]; exact h6
    · intro t ht
      by_cases htk : t = k
      · subst htk
        exact ⟨by rw [up_o (by decide), up_s], by rw [up_s]⟩
      · exact ⟨by rw [up_o (by decide), up_n htk]; exact (hi t (by omega)).1, by rw [up_n htk, up_o (by decide)]; exact (hi t (by omega)).2⟩
    · intro G g1 g2
      exact hq G (fun p p1 p2 => (g1 p p1 p2).trans (by rw [up_o p2, up_o p1])) g2
theorem c_img_l2 {d : Nat} {L : am_LT} {Q : am_QT} {v : am_V} (hv : wV v) : ∀ (j k : Nat) (F : am_FT), k + j = vP v → RLand (F 1) (F 2) v → F 18 7 = nI (vP v) → (∀ t, t < k → F 23 t = nI (vN v 4 t)) → (∀ G : am_FT, (∀ p, p ≠ 23 → G p = F p) → (∀ t, t < vP v → G 23 t = nI (vN v 4 t)) → wt am_S0 (d + 1) mX3_keepImage 111 [some (.ref 18), some (.int (nI (vP v)))] [] G L Q) → wt am_S0 (d + 1) mX3_keepImage 80 [some (.ref 18), some (.int (nI k))] [] F L Q := by
  have hP := hv.2.1
  intro j
  induction j with
  | zero =>
    intro k F hk h h6 hi hq
    have : k = vP v := by omega
    subst this
    rw [kX3_keepImage_80, h6, if_pos (nI_le (Nat.le_refl _) (by omega))]
    exact hq F (fun _ _ => rfl) hi
  | succ j ih =>
    intro k F hk h h6 hi hq
    rw [kX3_keepImage_80, h6, if_neg (nI_ge (by omega) (by omega)), kX3_keepImage_88, s_read, ld4 h hv (by omega)]
    simp only [Option.toList_some, Option.toList_none, List.cons_append, List.nil_append]
    rw [kX3_keepImage_102, s_lay (p := 23) (n := 10) rfl (by decide), wrA_n (by omega) (by decide)]
    simp only [Option.toList_some, Option.toList_none, List.cons_append, List.nil_append]
    rw [kX3_keepImage_105, nI_1]
    refine ih (k + 1) _ (by omega) ?_ ?_ ?_ ?_
    · rw [up_o (by decide), up_o (by decide)]; exact h
    · rw [up_o (by decide)]; exact h6
    · intro t ht
      by_cases htk : t = k
      · subst htk; rw [up_s]
      · rw [up_n htk]; exact hi t (by omega)
    · intro G g1 g2
      exact hq G (fun p p1 => (g1 p p1).trans (by rw [up_o p1])) g2
theorem c_img_l3 {d : Nat} {L : am_LT} {Q : am_QT} {f : Nat → Int32} : ∀ (j k : Nat) (F : am_FT), k + j = 5 → (∀ t, t < 5 → F 19 t = f t) → (∀ t, t < k → F 20 t = f t) → (∀ G : am_FT, (∀ p, p ≠ 20 → G p = F p) → (∀ t, t < 5 → G 20 t = f t) → Q none G L) → wt am_S0 (d + 1) mX3_keepImage 113 [some (.ref 18), some (.int (nI k))] [] F L Q := by
  intro j
  induction j with
  | zero =>
    intro k F hk h hi hq
    have : k = 5 := by omega
    subst this
    rw [kX3_keepImage_113, if_pos (by decide), kX3_keepImage_140]
    exact hq F (fun _ _ => rfl) hi
  | succ j ih =>
    intro k F hk h hi hq
    rw [kX3_keepImage_113, if_neg (show ¬ (5 : Int32) ≤ nI k from nI_ge (b := 5) (by omega) (by decide)), kX3_keepImage_118, s_at (p := 19) (n := 5) rfl (by decide), rdA_n (by omega) (by decide), h k (by omega)]
    simp only [Option.toList_some, Option.toList_none, List.cons_append, List.nil_append]
    rw [kX3_keepImage_131, s_lay (p := 20) (n := 5) rfl (by decide), wrA_n (by omega) (by decide)]
    simp only [Option.toList_some, Option.toList_none, List.cons_append, List.nil_append]
    rw [kX3_keepImage_134, nI_1]
    refine ih (k + 1) _ (by omega) ?_ ?_ ?_
    · intro t ht
      rw [up_o (by decide)]; exact h t ht
    · intro t ht
      by_cases htk : t = k
      · subst htk; rw [up_s]
      · rw [up_n htk]; exact hi t (by omega)
    · intro G g1 g2
      exact hq G (fun p p1 => (g1 p p1).trans (by rw [up_o p1])) g2
theorem c_keepImage {d : Nat} {F : am_FT} {L : am_LT} {Q : am_QT} {v : am_V} {e : am_D} (h : RLand (F 1) (F 2) v) (hv : wV v) (he : RD F e) (hq : ∀ G : am_FT, (∀ p, (p < 18 ∨ 23 < p) → G p = F p) → RD G (dimg v e) → Q none G L) : wc am_S0 (d + 1) mX3_keepImage [.ref 18] F L Q := by
  rw [eX3_keepImage, kX3_keepImage_0, h.1, h.2.1, show (0 : Int32) = nI 0 from rfl]
  refine c_img_l1 hv (vT v) 0 _ (by omega) ?_ ?_ (fun t ht => absurd ht (by omega)) ?_
  · rw [up_o (by decide), up_o (by decide), up_o (by decide), up_o (by decide), up_o (by decide), up_o (by decide)]; exact h
  · rw [up_n (by decide), up_s]
  intro G g1 g2
  rw [kX3_keepImage_78, show (0 : Int32) = nI 0 from rfl]
  refine c_img_l2 hv (vP v) 0 _ (by omega) ?_ ?_ (fun t ht => absurd ht (by omega)) ?_
  · rw [g1 1 (by decide) (by decide), g1 2 (by decide) (by decide), up_o (by decide), up_o (by decide), up_o (by decide), up_o (by decide), up_o (by decide), up_o (by decide)]; exact h
  · rw [g1 18 (by decide) (by decide), up_s]
  intro H h1 h2
  rw [kX3_keepImage_111, show (0 : Int32) = nI 0 from rfl]
  refine c_img_l3 (f := dL e) 5 0 _ rfl ?_ (fun t ht => absurd ht (by omega)) ?_
  · intro t ht
    rw [h1 19 (by decide), g1 19 (by decide) (by decide), up_o (by decide), up_o (by decide), up_o (by decide)]; exact he.1 t ht
  intro K k1 k2
  apply hq
  · intro p hp
    rw [k1 p (by omega), h1 p (by omega), g1 p (by omega) (by omega), up_o (by omega), up_o (by omega), up_o (by omega)]
  · have e18 : K 18 = am_upF (am_upF (am_upF F 18 8 1) 18 6 (nI (vT v))) 18 7 (nI (vP v)) 18 := by rw [k1 18 (by decide), h1 18 (by decide), g1 18 (by decide) (by decide)]
    refine ⟨fun t ht => ?_, ?_, fun _ => ⟨?_, ?_, fun t ht => ?_, fun t ht => ?_, fun t ht => ?_, k2⟩⟩
    · rw [k1 19 (by decide), h1 19 (by decide), g1 19 (by decide) (by decide), up_o (by decide), up_o (by decide), up_o (by decide)]; exact he.1 t ht
    · rw [e18, up_n (by decide), up_n (by decide), up_s]; rfl
    · rw [e18, up_n (by decide), up_s]; rfl
    · rw [e18, up_s]; rfl
    · rw [k1 21 (by decide), h1 21 (by decide)]; exact (g2 t ht).1
    · rw [k1 22 (by decide), h1 22 (by decide)]; exact (g2 t ht).2
    · rw [k1 23 (by decide)]; exact h2 t ht
