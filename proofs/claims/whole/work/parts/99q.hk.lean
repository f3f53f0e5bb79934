/-! ===== the state stays well formed ===== -/
def wA (g : am_G) : Prop := wG g ∧ wE (gS g)
theorem wC_mono {v v' : am_V} {c : am_C} (h : wC v c) (e : ∀ w, w < 7 → vO v w ≤ vO v' w) : wC v' c := ⟨h.1, fun i hi => by
  obtain ⟨a, b, x, y⟩ := h.2 i hi
  exact ⟨a, Nat.lt_of_lt_of_le b (e _ a), x, y⟩⟩
theorem wD_mono {v v' : am_V} {d : am_D} (h : wD v d) (e1 : vT v ≤ vT v') (e2 : vP v ≤ vP v') : wD v' d := ⟨h.1, fun hk => by
  obtain ⟨a, b, x, y, z⟩ := h.2 hk
  exact ⟨Nat.le_trans a e1, Nat.le_trans b e2, x, y, z⟩⟩
theorem vO_mono {v v' : am_V} (e1 : vT v ≤ vT v') (e2 : vP v ≤ vP v') (w : Nat) : vO v w ≤ vO v' w := by
  unfold vO
  split
  · exact e1
  · split
    · exact Nat.le_refl _
    · split
      · exact e2
      · exact Nat.le_refl _
theorem wA_v {g : am_G} {v' : am_V} (h : wA g) (hv : wV v') (e1 : vT (gV g) ≤ vT v') (e2 : vP (gV g) ≤ vP v') : wA (sV g v') := by
  obtain ⟨⟨h1, h2, h3, h4, h5, h6, h7⟩, he⟩ := h
  exact ⟨⟨hv, h2, wC_mono h3 (fun w _ => vO_mono e1 e2 w), wD_mono h4 e1 e2, h5, h6, h7⟩, he⟩
theorem w_tree {g : am_G} (h : wA g) (x y : Int32) : wA (gTree g x y).2 := by
  unfold gTree
  cases hb : (fitN 0 x && fitN 1 y)
  · rw [if_neg (by decide)]; exact h
  · rw [if_pos rfl]
    by_cases h6 : vT (gV g) = 6
    · rw [if_pos h6]; exact h
    · rw [if_neg h6]
      rw [Bool.and_eq_true] at hb
      obtain ⟨c, c1, c2, rfl⟩ := fitN_ex hb.1
      obtain ⟨k, k1, k2, rfl⟩ := fitN_ex hb.2
      have c2' : c ≤ 255 := c2
      have k2' : k ≤ 9 := k2
      have hT := h.1.1.1
      rw [nI_clamp (by omega), nI_clamp (by omega)]
      exact wA_v h (wV_aT h.1.1 (by omega) c2' k1 k2') (Nat.le_succ _) (Nat.le_refl _)
theorem w_person {g : am_G} (h : wA g) (x y : Int32) : wA (gPerson g x y).2 := by
  unfold gPerson
  cases hb : (fitN 4 x && fitN 5 y)
  · rw [if_neg (by decide)]; exact h
  · rw [if_pos rfl]
    by_cases h6 : vP (gV g) = 10
    · rw [if_pos h6]; exact h
    · rw [if_neg h6]
      rw [Bool.and_eq_true] at hb
      obtain ⟨c, c1, c2, rfl⟩ := fitN_ex hb.1
      obtain ⟨k, k1, k2, rfl⟩ := fitN_ex hb.2
      have c2' : c ≤ 255 := c2
      have k2' : k ≤ 63 := k2
      have hP := h.1.1.2.1
      rw [nI_clamp (by omega), nI_clamp (by omega)]
      exact wA_v h (wV_aP h.1.1 (by omega) c2' k2' (by decide)) (Nat.le_refl _) (Nat.le_succ _)
theorem ppl_w {el : Nat → Int64} {M i : Nat} : ∀ (f c : Nat) (v : am_V), wV v → wV (ppl el M i f c v).2 ∧ vT (ppl el M i f c v).2 = vT v ∧ vP v ≤ vP (ppl el M i f c v).2 := by
  intro f
  induction f with
  | zero => intro c v hv; exact ⟨hv, rfl, Nat.le_refl _⟩
  | succ f ih =>
    intro c v hv
    have er : ppl el M i (f + 1) c v = if pplOk el M i c v = true then ppl el M i f (c + 1) (vaP v (eN el (i + 3 * c)) (eN el (i + 3 * c + 1)) (eN el (i + 3 * c + 2))) else (c, v) := rfl
    have eo : pplOk el M i c v = (decide (i + 3 * c + 3 ≤ M) && (decide (vP v < 10) && (fitL 4 (el (i + 3 * c)) && (fitL 5 (el (i + 3 * c + 1)) && fitL 6 (el (i + 3 * c + 2)))))) := rfl
    rw [er]
    cases hb : pplOk el M i c v
    · rw [if_neg (by decide)]; exact ⟨hv, rfl, Nat.le_refl _⟩
    · rw [if_pos rfl]
      rw [hb] at eo
      have eo' := eo.symm
      simp only [Bool.and_eq_true] at eo'
      obtain ⟨_, h10, f4, f5, f6⟩ := eo'
      have h10' := of_decide_eq_true h10
      obtain ⟨k4, l4, u4, t4, _⟩ := fitL_ex (by decide) f4
      obtain ⟨k5, l5, u5, t5, _⟩ := fitL_ex (by decide) f5
      obtain ⟨k6, l6, u6, t6, _⟩ := fitL_ex (by decide) f6
      have u4' : k4 ≤ 255 := u4
      have u5' : k5 ≤ 63 := u5
      have u6' : k6 ≤ 3 := u6
      have n4 : eN el (i + 3 * c) = k4 := by unfold eN; rw [t4, nI_clamp (by omega)]
      have n5 : eN el (i + 3 * c + 1) = k5 := by unfold eN; rw [t5, nI_clamp (by omega)]
      have n6 : eN el (i + 3 * c + 2) = k6 := by unfold eN; rw [t6, nI_clamp (by omega)]
      rw [n4, n5, n6]
      obtain ⟨a, b, d⟩ := ih (c + 1) (vaP v k4 k5 k6) (wV_aP hv h10' u4' u5' u6')
      exact ⟨a, b, Nat.le_trans (Nat.le_succ _) d⟩
theorem w_people {g : am_G} (h : wA g) (x y n : Int32) : wA (gPeople g x y n).2 := by
  unfold gPeople
  split
  · split
    · exact h
    · split
      · split
        · exact h
        · obtain ⟨a, b, c⟩ := ppl_w (el := sE (gS g) x.toNatClampNeg) (M := sM (gS g) x.toNatClampNeg) (i := y.toNatClampNeg) n.toNatClampNeg 0 (gV g) h.1.1
          exact wA_v h a (Nat.le_of_eq b.symm) c
      · exact h
  · exact h
theorem w_mend {g : am_G} (h : wA g) (n w x : Int32) : wA (gMend g n w x).2 := by
  obtain ⟨⟨h1, h2, h3, h4, h5, h6, h7⟩, he⟩ := h
  unfold gMend
  cases hb : (hasN (gV g) n w && fitN w.toNatClampNeg x)
  · rw [if_neg (by decide)]; exact ⟨⟨h1, h2, h3, h4, h5, h6, h7⟩, he⟩
  · rw [if_pos rfl]
    rw [Bool.and_eq_true] at hb
    obtain ⟨k, j, rfl, rfl, j1, k1⟩ := hasN_n h1 hb.1
    have k12 := Nat.lt_of_lt_of_le k1 (vO_le h1 j)
    have hf := hb.2
    rw [nI_clamp (by omega)] at hf
    obtain ⟨z, z1, z2, rfl⟩ := fitN_ex hf
    have hh : vHi j ≤ 255 := by
      have : ∀ w, w < 7 → vHi w ≤ 255 := by decide
      exact this j j1
    have old := h1.2.2 j k j1 k1
    rw [nI_clamp (by omega), nI_clamp (by omega), nI_clamp (by omega)]
    by_cases hx : vN (gV g) j k = z
    · rw [if_pos hx]; exact ⟨⟨h1, h2, h3, h4, h5, h6, h7⟩, he⟩
    · rw [if_neg hx]
      refine ⟨⟨wV_set h1 z1 z2, h2, ?_, h4, h5, h6, h7⟩, he⟩
      show wC (gV g) (cadd (gC g) (k, j, vN (gV g) j k, z))
      have hc := h3.1
      unfold cadd
      by_cases h40 : (gC g).1 = 40
      · rw [if_pos h40]
        refine ⟨Nat.le_refl 40, fun i hi => ?_⟩
        show (if i = 39 then (k, j, vN (gV g) j k, z) else (gC g).2.2 (i + 1)).2.1 < 7 ∧ (if i = 39 then (k, j, vN (gV g) j k, z) else (gC g).2.2 (i + 1)).1 < vO (gV g) (if i = 39 then (k, j, vN (gV g) j k, z) else (gC g).2.2 (i + 1)).2.1 ∧ (vLo (if i = 39 then (k, j, vN (gV g) j k, z) else (gC g).2.2 (i + 1)).2.1 ≤ (if i = 39 then (k, j, vN (gV g) j k, z) else (gC g).2.2 (i + 1)).2.2.1 ∧ (if i = 39 then (k, j, vN (gV g) j k, z) else (gC g).2.2 (i + 1)).2.2.1 ≤ vHi (if i = 39 then (k, j, vN (gV g) j k, z) else (gC g).2.2 (i + 1)).2.1) ∧ (vLo (if i = 39 then (k, j, vN (gV g) j k, z) else (gC g).2.2 (i + 1)).2.1 ≤ (if i = 39 then (k, j, vN (gV g) j k, z) else (gC g).2.2 (i + 1)).2.2.2 ∧ (if i = 39 then (k, j, vN (gV g) j k, z) else (gC g).2.2 (i + 1)).2.2.2 ≤ vHi (if i = 39 then (k, j, vN (gV g) j k, z) else (gC g).2.2 (i + 1)).2.1)
        by_cases hi9 : i = 39
        · simp only [if_pos hi9]; exact ⟨j1, k1, old, z1, z2⟩
        · simp only [if_neg hi9]
          have hi' : i < 40 := hi
          exact h3.2 (i + 1) (by omega)
      · rw [if_neg h40]
        refine ⟨by show (gC g).1 + 1 + 0 ≤ 40; omega, fun i hi => ?_⟩
        have hi' : i < (gC g).1 + 1 + 0 := hi
        show (if i = (gC g).1 then (k, j, vN (gV g) j k, z) else (gC g).2.2 i).2.1 < 7 ∧ (if i = (gC g).1 then (k, j, vN (gV g) j k, z) else (gC g).2.2 i).1 < vO (gV g) (if i = (gC g).1 then (k, j, vN (gV g) j k, z) else (gC g).2.2 i).2.1 ∧ (vLo (if i = (gC g).1 then (k, j, vN (gV g) j k, z) else (gC g).2.2 i).2.1 ≤ (if i = (gC g).1 then (k, j, vN (gV g) j k, z) else (gC g).2.2 i).2.2.1 ∧ (if i = (gC g).1 then (k, j, vN (gV g) j k, z) else (gC g).2.2 i).2.2.1 ≤ vHi (if i = (gC g).1 then (k, j, vN (gV g) j k, z) else (gC g).2.2 i).2.1) ∧ (vLo (if i = (gC g).1 then (k, j, vN (gV g) j k, z) else (gC g).2.2 i).2.1 ≤ (if i = (gC g).1 then (k, j, vN (gV g) j k, z) else (gC g).2.2 i).2.2.2 ∧ (if i = (gC g).1 then (k, j, vN (gV g) j k, z) else (gC g).2.2 i).2.2.2 ≤ vHi (if i = (gC g).1 then (k, j, vN (gV g) j k, z) else (gC g).2.2 i).2.1)
        by_cases hi9 : i = (gC g).1
        · simp only [if_pos hi9]; exact ⟨j1, k1, old, z1, z2⟩
        · simp only [if_neg hi9]
          exact h3.2 i (by omega)
theorem w_feed {g : am_G} (h : wA g) (x : Int32) : wA (gFeed g x).2 := by
  obtain ⟨⟨h1, h2, h3, h4, h5, h6, h7⟩, he⟩ := h
  unfold gFeed
  cases hb : inR x 256
  · rw [if_neg (by decide)]; exact ⟨⟨h1, h2, h3, h4, h5, h6, h7⟩, he⟩
  · rw [if_pos rfl]
    by_cases h0 : (gT g).1 = 120
    · rw [if_pos h0]; exact ⟨⟨h1, h2, h3, h4, h5, h6, h7⟩, he⟩
    · rw [if_neg h0]
      obtain ⟨c, c1, rfl⟩ := inR_ex hb (by decide)
      have ht := h2.1
      rw [nI_clamp (by omega)]
      refine ⟨⟨h1, ⟨?_, fun k hk => ?_⟩, h3, h4, h5, h6, h7⟩, he⟩
      · show (gT g).1 + 1 ≤ 120
        omega
      · have hk' : k < (gT g).1 + 1 := hk
        show (if k = (gT g).1 then c else (gT g).2 k) ≤ 255
        by_cases hx : k = (gT g).1
        · rw [if_pos hx]; omega
        · rw [if_neg hx]; exact h2.2 k (by omega)
theorem w_law {g : am_G} (h : wA g) : wA (gLaw g).2 := by
  obtain ⟨⟨h1, h2, h3, h4, h5, h6, h7⟩, he⟩ := h
  unfold gLaw
  split
  · exact ⟨⟨h1, ⟨Nat.zero_le 120, fun k hk => absurd hk (Nat.not_lt_zero k)⟩, h3, h4, h5, h6, h7⟩, he⟩
  · exact ⟨⟨⟨h1.1, h1.2.1, h1.2.2⟩, ⟨Nat.zero_le 120, fun k hk => absurd hk (Nat.not_lt_zero k)⟩, h3, h4, h5, h6, h7⟩, he⟩
theorem w_undo {g : am_G} (h : wA g) : wA (gUndo g).2 := by
  obtain ⟨⟨h1, h2, h3, h4, h5, h6, h7⟩, he⟩ := h
  unfold gUndo
  by_cases h0 : (gC g).1 = 0
  · rw [if_pos h0]; exact ⟨⟨h1, h2, h3, h4, h5, h6, h7⟩, he⟩
  · rw [if_neg h0]
    have hh := h3.2 ((gC g).1 - 1) (by omega)
    have hc := h3.1
    refine ⟨⟨wV_set h1 hh.2.2.1.1 hh.2.2.1.2, h2, ⟨?_, fun i hi => ?_⟩, h4, h5, h6, h7⟩, he⟩
    · show (gC g).1 - 1 + ((gC g).2.1 + 1) ≤ 40
      omega
    · have hi' : i < (gC g).1 - 1 + ((gC g).2.1 + 1) := hi
      exact h3.2 i (by omega)
theorem w_redo {g : am_G} (h : wA g) : wA (gRedo g).2 := by
  obtain ⟨⟨h1, h2, h3, h4, h5, h6, h7⟩, he⟩ := h
  unfold gRedo
  by_cases h0 : (gC g).2.1 = 0
  · rw [if_pos h0]; exact ⟨⟨h1, h2, h3, h4, h5, h6, h7⟩, he⟩
  · rw [if_neg h0]
    have hh := h3.2 (gC g).1 (by omega)
    have hc := h3.1
    refine ⟨⟨wV_set h1 hh.2.2.2.1 hh.2.2.2.2, h2, ⟨?_, fun i hi => ?_⟩, h4, h5, h6, h7⟩, he⟩
    · show (gC g).1 + 1 + ((gC g).2.1 - 1) ≤ 40
      omega
    · have hi' : i < (gC g).1 + 1 + ((gC g).2.1 - 1) := hi
      exact h3.2 i (by omega)
theorem wD_led {v v' : am_V} {d : am_D} {l : Nat → Int32} (h : wD v d) (e1 : vT v' = vT v) (e2 : vP v' = vP v) (hl : ∃ m, m < 12 ∧ l 4 = nI m) : wD v' (dWi d l) := ⟨hl, fun hk => by
  obtain ⟨a, b, x, y, z⟩ := h.2 hk
  exact ⟨by rw [e1]; exact a, by rw [e2]; exact b, x, y, z⟩⟩
theorem w_noon {g : am_G} (h : wA g) : wA (gNoon g).2 := by
  obtain ⟨⟨h1, h2, h3, h4, h5, h6, h7⟩, he⟩ := h
  unfold gNoon
  refine ⟨⟨vfl_wV h1, h2, h3, wD_led h4 rfl rfl ?_, h5, h6, h7⟩, he⟩
  obtain ⟨m, m1, m2⟩ := h4.1
  refine ⟨(m + 1) % 12, by omega, ?_⟩
  show (dL (gD g) 4 + 1) - (dL (gD g) 4 + 1) / 12 * 12 = _
  rw [m2]
  exact md12 m 1 (by omega) (by decide)
theorem w_sits {g : am_G} (h : wA g) (x y : Int32) : wA (gSits g x y).2 := by
  obtain ⟨⟨h1, h2, h3, h4, h5, h6, h7⟩, he⟩ := h
  unfold gSits
  cases hb : (inR x (vP (gV g)) && fitN 4 y)
  · rw [if_neg (by decide)]; exact ⟨⟨h1, h2, h3, h4, h5, h6, h7⟩, he⟩
  · rw [if_pos rfl]
    rw [Bool.and_eq_true] at hb
    obtain ⟨c, c1, c2, rfl⟩ := fitN_ex hb.2
    have c2' : c ≤ 255 := c2
    rw [nI_clamp (by omega)]
    exact ⟨⟨wV_set h1 c1 c2, h2, h3, wD_led h4 rfl rfl h4.1, h5, h6, h7⟩, he⟩
theorem w_lopped {g : am_G} (h : wA g) (x : Int32) : wA (gLopped g x).2 := by
  obtain ⟨⟨h1, h2, h3, h4, h5, h6, h7⟩, he⟩ := h
  have hT := h1.1
  unfold gLopped
  cases hb : inR x (vT (gV g))
  · rw [if_neg (by decide)]; exact ⟨⟨h1, h2, h3, h4, h5, h6, h7⟩, he⟩
  · rw [if_pos rfl]
    obtain ⟨k, k1, rfl⟩ := inR_ex hb (by omega)
    rw [nI_clamp (by omega)]
    cases hc : (decide (1 < vN (gV g) 1 k) && vS (gV g) k)
    · rw [if_neg (by decide)]; exact ⟨⟨h1, h2, h3, h4, h5, h6, h7⟩, he⟩
    · rw [if_pos rfl]
      rw [Bool.and_eq_true] at hc
      have g1 := of_decide_eq_true hc.1
      have g9 := (h1.2.2 1 k (by decide) (lo1 k1)).2
      exact ⟨⟨wV_set h1 (by show 1 ≤ _; omega) (by omega), h2, h3, wD_led h4 rfl rfl h4.1, h5, h6, h7⟩, he⟩
theorem w_image {g : am_G} (h : wA g) : wA (gImage g).2 := by
  obtain ⟨⟨h1, h2, h3, h4, h5, h6, h7⟩, he⟩ := h
  unfold gImage
  refine ⟨⟨h1, h2, h3, ⟨h4.1, fun _ => ⟨Nat.le_refl _, Nat.le_refl _, fun t ht => ?_, fun t ht => ?_, h4.1⟩⟩, h5, h6, h7⟩, he⟩
  · exact h1.2.2 1 t (by decide) (lo1 ht)
  · exact (h1.2.2 4 t (by decide) (lo4 ht)).2
theorem w_back {g : am_G} (h : wA g) : wA (gBack g).2 := by
  obtain ⟨⟨h1, h2, h3, h4, h5, h6, h7⟩, he⟩ := h
  unfold gBack
  cases hk : dK (gD g)
  · rw [if_neg (by decide)]; exact ⟨⟨h1, h2, h3, h4, h5, h6, h7⟩, he⟩
  · rw [if_pos rfl]
    obtain ⟨a, b, x, y, z⟩ := h4.2 hk
    exact ⟨⟨wV_back h1 h4 hk, h2, h3, wD_led h4 rfl rfl z, h5, h6, h7⟩, he⟩
theorem w_body {g : am_G} (h : wA g) (x : Int32) : wA (gBody g x).2 := by
  obtain ⟨⟨h1, h2, h3, h4, h5, h6, h7⟩, he⟩ := h
  unfold gBody
  cases hb : inR x 8
  · rw [if_neg (by decide)]; exact ⟨⟨h1, h2, h3, h4, h5, h6, h7⟩, he⟩
  · rw [if_pos rfl]
    by_cases h0 : (gB g).1 = 50
    · rw [if_pos h0]; exact ⟨⟨h1, h2, h3, h4, h5, h6, h7⟩, he⟩
    · rw [if_neg h0]
      obtain ⟨c, c1, rfl⟩ := inR_ex hb (by decide)
      have hb5 := h5.1
      rw [nI_clamp (by omega)]
      refine ⟨⟨h1, h2, h3, h4, ⟨?_, fun k hk => ?_⟩, h6, fun d hd => ?_⟩, he⟩
      · show (gB g).1 + 1 ≤ 50
        omega
      · have hk' : k < (gB g).1 + 1 := hk
        show (if k = (gB g).1 then c else (gB g).2 k) < 8
        by_cases hx : k = (gB g).1
        · rw [if_pos hx]; exact c1
        · rw [if_neg hx]; exact h5.2 k (by omega)
      · obtain ⟨a, b, x, y⟩ := h7 d hd
        exact ⟨a, b, x, fun p q => Nat.le_succ_of_le (y p q)⟩
theorem w_act {g : am_G} (h : wA g) (b a x : Int32) : wA (gAct g b a x).2 := by
  obtain ⟨⟨h1, h2, h3, h4, h5, h6, h7⟩, he⟩ := h
  have w0 : ∀ ls : List Nat, ls.length < 1000 → wA (sL g ls) := fun ls hl => ⟨⟨h1, h2, h3, h4, h5, hl, h7⟩, he⟩
  have hB := h5.1
  unfold gAct
  cases hb : inR b (gB g).1
  · rw [if_neg (by decide)]; exact w0 [] (by decide)
  · rw [if_pos rfl]
    cases ha : inR a 4
    · rw [if_neg (by decide)]; exact w0 [] (by decide)
    · rw [if_pos rfl]
      obtain ⟨n, n1, rfl⟩ := inR_ex hb (by omega)
      obtain ⟨m, m1, rfl⟩ := inR_ex ha (by decide)
      rw [nI_clamp (by omega), nI_clamp (by omega)]
      obtain ⟨r, r1, r2⟩ := pf_all ((gB g).2 n) (h5.2 n n1) m m1 (nI n) x
      rw [r1]
      exact w0 r.1 (by omega)
/-! shelves -/
theorem wA_s {g : am_G} (h : wA g) {d k m : Nat} {el : Nat → Int64} (hk : k ≤ 55) (hm : m ≤ 60) (h0 : k ≤ 50 → m = 0) (h1 : 1 ≤ k → k ≤ 50 → k ≤ (gB g).1) (hE : k = 52 → ∀ i, i < 60 → (el i).toInt32.toInt64 = el i) : wA (sS g (shS (gS g) d (k, m, el))) := by
  obtain ⟨⟨g1, g2, g3, g4, g5, g6, g7⟩, he⟩ := h
  refine ⟨⟨g1, g2, g3, g4, g5, g6, fun e he' => ?_⟩, fun e he' => ?_⟩
  · show (shS (gS g) d (k, m, el) e).1 ≤ 55 ∧ (shS (gS g) d (k, m, el) e).2.1 ≤ 60 ∧ ((shS (gS g) d (k, m, el) e).1 ≤ 50 → (shS (gS g) d (k, m, el) e).2.1 = 0) ∧ (1 ≤ (shS (gS g) d (k, m, el) e).1 → (shS (gS g) d (k, m, el) e).1 ≤ 50 → (shS (gS g) d (k, m, el) e).1 ≤ (gB g).1)
    by_cases hx : e = d
    · rw [hx, shS_s]; exact ⟨hk, hm, h0, h1⟩
    · rw [shS_n hx]; exact g7 e he'
  · show (shS (gS g) d (k, m, el) e).1 = 52 → ∀ i, i < 60 → ((shS (gS g) d (k, m, el) e).2.2 i).toInt32.toInt64 = (shS (gS g) d (k, m, el) e).2.2 i
    by_cases hx : e = d
    · rw [hx, shS_s]; exact hE
    · rw [shS_n hx]; exact he e he'
theorem w_keep {g : am_G} (h : wA g) (x y : Int32) : wA (gKeep g x y).2 := by
  have hB := h.1.2.2.2.2.1.1
  unfold gKeep
  split
  · split
    · exact wA_s h (by decide) (by decide) (fun _ => rfl) (fun a _ => absurd a (by decide)) (fun a => absurd a (by decide))
    · cases hb : inR y (gB g).1
      · rw [if_neg (by decide)]; exact h
      · rw [if_pos rfl]
        obtain ⟨c, c1, rfl⟩ := inR_ex hb (by omega)
        rw [nI_clamp (by omega)]
        exact wA_s h (by omega) (by decide) (fun _ => rfl) (fun _ _ => c1) (fun a => by omega)
  · exact h
theorem w_row {g : am_G} (h : wA g) (x s n : Int32) : wA (gRow g x s n).2 := by
  unfold gRow
  cases hb : (inR x 6 && (inR s 5 && decide (n ≤ 60)))
  · rw [if_neg (by decide)]; exact h
  · rw [if_pos rfl]
    simp only [Bool.and_eq_true] at hb
    obtain ⟨_, hs, hn⟩ := hb
    have hn := of_decide_eq_true hn
    obtain ⟨t, t1, rfl⟩ := inR_ex hs (by decide)
    by_cases h0 : 0 ≤ n
    · rw [if_pos h0]
      obtain ⟨m, m1, rfl⟩ := nI_of (show ¬ n < 0 from by
        obtain ⟨z, z1, z2, rfl⟩ := iI_ex n
        revert h0
        simp (disch := omega) only [iI_n, iI_l, iI_neg, iI_add, iI_sub, iI_mul, iI_div, iI_lt, iI_le, iI_eq]
        intro h0
        omega)
      have m60 : m ≤ 60 := by
        apply Nat.le_of_not_lt
        intro hh
        exact nI_ge (a := 60) hh m1 hn
      rw [nI_clamp (by omega), nI_clamp m1]
      exact wA_s h (by omega) m60 (fun a => by omega) (fun _ a => by omega) (fun _ _ _ => rfl)
    · rw [if_neg h0]; exact h
theorem t64 (x : Int32) : x.toInt64.toInt32 = x := by
  have a := x.le_toInt
  have b := x.toInt_lt
  rw [← Int32.toInt_inj, Int64.toInt_toInt32, Int32.toInt_toInt64, Int.bmod_eq_of_le (by omega) (by omega)]
theorem w_put {g : am_G} (h : wA g) (x y : Int32) (z : Int64) : wA (gPut g x y z).2 := by
  have hS := h.1.2.2.2.2.2.2
  unfold gPut
  by_cases h0 : refI (gS g) x y = 0
  · rw [if_pos h0]
    obtain ⟨d, i, d1, rfl, k5, i1, rfl⟩ := refI_ex hS h0
    have hd := hS d d1
    rw [nI_clamp (by omega), nI_clamp (by omega)]
    refine wA_s h hd.1 hd.2.1 hd.2.2.1 hd.2.2.2 (fun e q hq => ?_)
    show (if q = i then nrw (nI (sK (gS g) d - 51)) z else sE (gS g) d q).toInt32.toInt64 = (if q = i then nrw (nI (sK (gS g) d - 51)) z else sE (gS g) d q)
    by_cases hqi : q = i
    · rw [if_pos hqi, e, show nrw (nI (52 - 51)) z = z.toInt32.toInt16.toInt32.toInt64 from rfl, t64]
    · rw [if_neg hqi]; exact h.2 d d1 e q hq
  · rw [if_neg h0]; exact h
theorem w_shift {g : am_G} (h : wA g) (x i y j n : Int32) : wA (gShift g x i y j n).2 := by
  have hS := h.1.2.2.2.2.2.2
  unfold gShift
  by_cases h0 : shiR (gS g) x i y j n = 0
  · rw [if_pos h0]
    obtain ⟨a, p, b, q, m, a1, b1, rfl, rfl, rfl, rfl, rfl, k5, ke, m1, m2⟩ := shiR_ex hS h0
    have ha := hS a a1
    have hb := hS b b1
    rw [nI_clamp (by omega), nI_clamp (by omega), nI_clamp (by omega), nI_clamp (by omega), nI_clamp (by omega)]
    refine wA_s h hb.1 hb.2.1 hb.2.2.1 hb.2.2.2 (fun e c hc => ?_)
    show (if q ≤ c ∧ c < q + m then sE (gS g) a (p + (c - q)) else sE (gS g) b c).toInt32.toInt64 = (if q ≤ c ∧ c < q + m then sE (gS g) a (p + (c - q)) else sE (gS g) b c)
    by_cases hh : q ≤ c ∧ c < q + m
    · rw [if_pos hh]; exact h.2 a a1 (ke.trans e) _ (by omega)
    · rw [if_neg hh]; exact h.2 b b1 e c hc
  · rw [if_neg h0]; exact h
