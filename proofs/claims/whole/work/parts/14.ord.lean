/-! ===== order of runs ===== -/
theorem am_step_le {Z Z' : am_Z} (hZ : ∀ j x, Z j = some x → Z' j = some x) {d : Nat} {M : am_M} {pc : Nat} {lv : am_LV} {st : List Value} {h : am_H} {i : Jvm.ClassFile.Instr} {len : Nat} {y : am_R} (e : am_step Z d M pc lv st h i len = some y) : am_step Z' d M pc lv st h i len = some y := by
  cases i with
  | arraylength =>
    have e9 := am_a1_some e
    clear e
    obtain ⟨q, r, rfl, e⟩ := e9
    replace e : (if q < 1000 then (match h.1[q]? with
      | some (k, n, _) => if k = 100 ∨ k = 101 ∨ k = 102 then am_go len 1 pc lv (.int (Int32.ofNat n) :: r) h else none
      | none => none) else if q < 1006 then (match Z (q - 1000) with
      | some z => am_go len 1 pc lv (.int (Int32.ofNat z.1) :: r) h
      | none => none) else none) = some y := e
    show (if q < 1000 then (match h.1[q]? with
      | some (k, n, _) => if k = 100 ∨ k = 101 ∨ k = 102 then am_go len 1 pc lv (.int (Int32.ofNat n) :: r) h else none
      | none => none) else if q < 1006 then (match Z' (q - 1000) with
      | some z => am_go len 1 pc lv (.int (Int32.ofNat z.1) :: r) h
      | none => none) else none) = some y
    by_cases h1 : q < 1000
    · rw [if_pos h1] at e ⊢; exact e
    · rw [if_neg h1] at e ⊢
      by_cases h2 : q < 1006
      · rw [if_pos h2] at e ⊢
        cases hz : Z (q - 1000) with
        | none => rw [hz] at e; cases e
        | some z => rw [hz] at e; rw [hZ _ _ hz]; exact e
      · rw [if_neg h2] at e; cases e
  | iaload =>
    replace e : (match (generalizing := false) st with
      | .int i :: .ref p :: r => if p < 1000 then am_at h p 100 fun n _ => if am_oob i n = true then none else am_go len 1 pc lv (.int (h.2.1 p i.toNatClampNeg) :: r) h
        else if p < 1006 then (match Z (p - 1000) with
          | some z => if am_oob i z.1 = true then none else am_go len 1 pc lv (.int (z.2 i.toNatClampNeg) :: r) h
          | none => none) else none
      | _ => none) = some y := e
    split at e
    next j q r =>
      show (if q < 1000 then am_at h q 100 fun n _ => if am_oob j n = true then none else am_go len 1 pc lv (.int (h.2.1 q j.toNatClampNeg) :: r) h
        else if q < 1006 then (match Z' (q - 1000) with
          | some z => if am_oob j z.1 = true then none else am_go len 1 pc lv (.int (z.2 j.toNatClampNeg) :: r) h
          | none => none) else none) = some y
      by_cases h1 : q < 1000
      · rw [if_pos h1] at e ⊢; exact e
      · rw [if_neg h1] at e ⊢
        by_cases h2 : q < 1006
        · rw [if_pos h2] at e ⊢
          cases hz : Z (q - 1000) with
          | none => rw [hz] at e; cases e
          | some z => rw [hz] at e; rw [hZ _ _ hz]; exact e
        · rw [if_neg h2] at e; cases e
    next => cases e
  | _ => exact e
theorem am_blt_site {c i : Nat} {x : am_M × Nat × Nat} (h : am_site c i = some x) : am_blt c i = 0 := by
  unfold am_blt
  cases e : am_blt0 c i with
  | none => rfl
  | some b =>
    exfalso
    unfold am_blt0 at e
    split at e
    · have hi : i = 3 ∨ i = 79 ∨ i = 84 := by
        have h9 := List.lookup_isSome_iff.mp (Option.isSome_iff_exists.mpr ⟨_, e⟩)
        simpa using h9
      rcases hi with rfl | rfl | rfl
      · exact absurd ((show am_site 0 3 = none from rfl).symm.trans h) (by simp)
      · exact absurd ((show am_site 0 79 = none from rfl).symm.trans h) (by simp)
      · exact absurd ((show am_site 0 84 = none from rfl).symm.trans h) (by simp)
    · have hi : i = 3 := by
        have h9 := List.lookup_isSome_iff.mp (Option.isSome_iff_exists.mpr ⟨_, e⟩)
        simpa using h9
      rcases hi with rfl
      · exact absurd ((show am_site 1 3 = none from rfl).symm.trans h) (by simp)
    · have hi : i = 1 := by
        have h9 := List.lookup_isSome_iff.mp (Option.isSome_iff_exists.mpr ⟨_, e⟩)
        simpa using h9
      rcases hi with rfl
      · exact absurd ((show am_site 2 1 = none from rfl).symm.trans h) (by simp)
    · have hi : i = 3 := by
        have h9 := List.lookup_isSome_iff.mp (Option.isSome_iff_exists.mpr ⟨_, e⟩)
        simpa using h9
      rcases hi with rfl
      · exact absurd ((show am_site 3 3 = none from rfl).symm.trans h) (by simp)
    · have hi : i = 3 := by
        have h9 := List.lookup_isSome_iff.mp (Option.isSome_iff_exists.mpr ⟨_, e⟩)
        simpa using h9
      rcases hi with rfl
      · exact absurd ((show am_site 4 3 = none from rfl).symm.trans h) (by simp)
    · have hi : i = 3 ∨ i = 55 ∨ i = 72 ∨ i = 75 := by
        have h9 := List.lookup_isSome_iff.mp (Option.isSome_iff_exists.mpr ⟨_, e⟩)
        simpa using h9
      rcases hi with rfl | rfl | rfl | rfl
      · exact absurd ((show am_site 5 3 = none from rfl).symm.trans h) (by simp)
      · exact absurd ((show am_site 5 55 = none from rfl).symm.trans h) (by simp)
      · exact absurd ((show am_site 5 72 = none from rfl).symm.trans h) (by simp)
      · exact absurd ((show am_site 5 75 = none from rfl).symm.trans h) (by simp)
    · have hi : i = 1 ∨ i = 18 := by
        have h9 := List.lookup_isSome_iff.mp (Option.isSome_iff_exists.mpr ⟨_, e⟩)
        simpa using h9
      rcases hi with rfl | rfl
      · exact absurd ((show am_site 6 1 = none from rfl).symm.trans h) (by simp)
      · exact absurd ((show am_site 6 18 = none from rfl).symm.trans h) (by simp)
    · have hi : i = 3 := by
        have h9 := List.lookup_isSome_iff.mp (Option.isSome_iff_exists.mpr ⟨_, e⟩)
        simpa using h9
      rcases hi with rfl
      · exact absurd ((show am_site 7 3 = none from rfl).symm.trans h) (by simp)
    · have hi : i = 1 ∨ i = 27 ∨ i = 37 := by
        have h9 := List.lookup_isSome_iff.mp (Option.isSome_iff_exists.mpr ⟨_, e⟩)
        simpa using h9
      rcases hi with rfl | rfl | rfl
      · exact absurd ((show am_site 8 1 = none from rfl).symm.trans h) (by simp)
      · exact absurd ((show am_site 8 27 = none from rfl).symm.trans h) (by simp)
      · exact absurd ((show am_site 8 37 = none from rfl).symm.trans h) (by simp)
    · have hi : i = 3 ∨ i = 67 := by
        have h9 := List.lookup_isSome_iff.mp (Option.isSome_iff_exists.mpr ⟨_, e⟩)
        simpa using h9
      rcases hi with rfl | rfl
      · exact absurd ((show am_site 9 3 = none from rfl).symm.trans h) (by simp)
      · exact absurd ((show am_site 9 67 = none from rfl).symm.trans h) (by simp)
    · have hi : i = 3 ∨ i = 36 := by
        have h9 := List.lookup_isSome_iff.mp (Option.isSome_iff_exists.mpr ⟨_, e⟩)
        simpa using h9
      rcases hi with rfl | rfl
      · exact absurd ((show am_site 10 3 = none from rfl).symm.trans h) (by simp)
      · exact absurd ((show am_site 10 36 = none from rfl).symm.trans h) (by simp)
    · have hi : i = 3 := by
        have h9 := List.lookup_isSome_iff.mp (Option.isSome_iff_exists.mpr ⟨_, e⟩)
        simpa using h9
      rcases hi with rfl
      · exact absurd ((show am_site 11 3 = none from rfl).symm.trans h) (by simp)
    · have hi : i = 3 := by
        have h9 := List.lookup_isSome_iff.mp (Option.isSome_iff_exists.mpr ⟨_, e⟩)
        simpa using h9
      rcases hi with rfl
      · exact absurd ((show am_site 12 3 = none from rfl).symm.trans h) (by simp)
    · cases e
theorem am_rns {Z : am_Z} {d : Nat} {M : am_M} {pc : Nat} {lv : am_LV} {st : List Value} {h : am_H} {i : Jvm.ClassFile.Instr} {len : Nat} {r : Option Value} {g : am_F} (hr : am_ret M st i len = some r) : ¬ am_step Z d M pc lv st h i len = some (.inl g) := by
  intro e
  unfold am_ret at hr
  split at hr
  next => dsimp only [am_step] at e; split at e; (split at e <;> cases e); cases e
  next => dsimp only [am_step] at e; split at e; (split at e <;> cases e); cases e
  next => dsimp only [am_step] at e; split at e; (split at e <;> cases e); cases e
  next => dsimp only [am_step] at e; split at e; (split at e <;> cases e); cases e
  next => cases hr
theorem am_cns {Z : am_Z} {d : Nat} {M : am_M} {pc : Nat} {lv : am_LV} {st : List Value} {h : am_H} {i : Jvm.ClassFile.Instr} {len : Nat} {y : am_M × List Value × List Value} {g : am_F} (hr : am_cq h M st i len = some y) : ¬ am_step Z d M pc lv st h i len = some (.inl g) := by
  intro e
  unfold am_cq at hr
  split at hr
  next idx => exact am_cl_ne e
  next idx =>
    have h1 := am_cx_some hr
    obtain ⟨N, as, rest⟩ := y
    obtain ⟨n, k, hsite, -⟩ := am_cl_some h1
    replace e : (match (generalizing := false) am_blt M.1 idx with
      | 0 => am_cl h M idx 1 len st
      | b => am_bi h d b len pc lv st) = some (Sum.inl g) := e
    rw [am_blt_site hsite] at e
    exact am_cl_ne e
  next idx =>
    have h1 := am_cx_some hr
    obtain ⟨N, as, rest⟩ := y
    obtain ⟨n, k, hsite, -⟩ := am_cl_some h1
    replace e : (match (generalizing := false) am_blt M.1 idx with
      | 0 => am_cl h M idx 0 len st
      | 5 => match (generalizing := false) d with
        | 0 => none
        | _ + 1 => am_a1 st fun _ r => if am_wd r ≤ 8 then am_go len 3 pc lv r h else none
      | _ => none) = some (Sum.inl g) := e
    rw [am_blt_site hsite] at e
    exact am_cl_ne e
  next => cases hr
theorem am_run_le {Z Z' : am_Z} (hZ : ∀ j x, Z j = some x → Z' j = some x) : ∀ (n d : Nat) (M : am_M) (f : am_F) (x : Option Value × am_H), (∀ k, am_run Z n d M f = some x → am_run Z' (n + k) d M f = some x) := by
  intro n
  induction n with
  | zero => intro d M f x k h; cases h
  | succ n ih =>
    intro d M f x k h
    rw [show n + 1 + k = (n + k) + 1 by omega]
    unfold am_run at h ⊢
    split at h
    next => cases h
    next y hdec =>
      split at h
      next g hst =>
        rw [am_step_le hZ hst]
        exact ih d M g x k h
      next hns =>
        split at h
        next r hr =>
          cases h
          split
          next g hst => exact absurd hst (am_rns hr)
          next => rfl
        next hr =>
          split at h
          next => cases h
          next z hcq =>
            split at h
            next => cases h
            next d' _ =>
              split at h
              next hal =>
                split at h
                next => cases h
                next w hw =>
                  split at h
                  next hf =>
                    have h1 := ih _ _ _ _ k hw
                    have h2 := ih _ _ _ _ k h
                    split
                    next g hst => exact absurd hst (am_cns hcq)
                    next =>
                      rw [if_pos hal, h1]
                      dsimp only
                      rw [if_pos hf]
                      exact h2
                  next => cases h
              next => cases h
