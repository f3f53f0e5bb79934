/-! ===== runs over the closed world: the cells are am_S0, what moves are the ints and the longs ===== -/
abbrev am_FT : Type := Nat → Nat → Int32
abbrev am_LT : Type := Nat → Nat → Int64
abbrev am_QT : Type := Option Value → am_FT → am_LT → Prop
def am_sz (S : am_S) (d : Nat) (M : am_M) (pc : Nat) (lv : am_LV) (st : List Value) (F : am_FT) (L : am_LT) (i : Jvm.ClassFile.Instr) (len : Nat) : Option (Nat × am_LV × List Value × am_FT × am_LT) := if am_isA i st = true then none else match am_step am_Z0 d M pc lv st (S, F, L) i len with
  | some (.inl g) => some (g.1, g.2.1, g.2.2.1, g.2.2.2.2.1, g.2.2.2.2.2)
  | _ => none
def am_rz (S : am_S) : Nat → Nat → am_M → Nat × am_LV × List Value × am_FT × am_LT → Option (Option Value × am_FT × am_LT)
  | 0, _, _, _ => none
  | n + 1, d, M, f => match decode M.2.2.1 f.1 with
    | .error _ => none
    | .ok x => match am_sz S d M f.1 f.2.1 f.2.2.1 f.2.2.2.1 f.2.2.2.2 x.1 x.2 with
      | some g => am_rz S n d M g
      | none => match am_ret M f.2.2.1 x.1 x.2 with
        | some r => some (r, f.2.2.2.1, f.2.2.2.2)
        | none => match am_cq (S, f.2.2.2.1, f.2.2.2.2) M f.2.2.1 x.1 x.2 with
          | none => none
          | some y => match d with
            | 0 => none
            | d' + 1 => if (am_esl y.2.1).length ≤ y.1.2.2.2.1 then match am_rz S n d' y.1 (0, am_ent y.1 y.2.1, [], f.2.2.2.1, f.2.2.2.2) with
                | none => none
                | some z => am_rz S n (d' + 1) M (f.1 + 3, f.2.1, z.1.toList ++ y.2.2, z.2.1, z.2.2)
              else none
theorem am_sz_some {S : am_S} {d : Nat} {M : am_M} {pc : Nat} {lv : am_LV} {st : List Value} {F : am_FT} {L : am_LT} {i : Jvm.ClassFile.Instr} {len : Nat} {g : Nat × am_LV × List Value × am_FT × am_LT} (h : am_sz S d M pc lv st F L i len = some g) : am_step am_Z0 d M pc lv st (S, F, L) i len = some (.inl (g.1, g.2.1, g.2.2.1, (S, g.2.2.2.1, g.2.2.2.2))) := by
  unfold am_sz at h
  split at h
  next => cases h
  next hA =>
    split at h
    next g2 hg =>
      cases h
      obtain ⟨pc', lv', st', S', F', L'⟩ := g2
      have hs := am_step_sa am_Z0 i d M pc len lv lv' st st' (S, F, L) (S', F', L') pc' (by simpa using hA) hg
      rw [hg]
      cases (show S' = S from hs)
      rfl
    next => cases h
theorem am_rz_run {S : am_S} : ∀ (n d : Nat) (M : am_M) (f : Nat × am_LV × List Value × am_FT × am_LT) (x : Option Value × am_FT × am_LT), am_rz S n d M f = some x → am_run am_Z0 n d M (f.1, f.2.1, f.2.2.1, (S, f.2.2.2.1, f.2.2.2.2)) = some (x.1, (S, x.2.1, x.2.2)) := by
  intro n
  induction n with
  | zero => intro d M f x h; cases h
  | succ n ih =>
    intro d M f x h
    unfold am_rz at h
    unfold am_run
    split at h
    next => cases h
    next y hdec =>
      dsimp only
      rw [hdec]
      dsimp only
      split at h
      next g hst =>
        rw [am_sz_some hst]
        exact ih d M g x h
      next hns =>
        split at h
        next r hr =>
          cases h
          split
          next g hst => exact absurd hst (am_rns hr)
          next => rw [hr]
        next hr =>
          split at h
          next => cases h
          next z hcq =>
            split at h
            next => cases h
            next d' _ =>
              split at h
              next hal =>
                split at h
                next => cases h
                next w hw =>
                  have h1 := ih _ _ _ _ hw
                  have h2 := ih _ _ _ _ h
                  split
                  next g hst => exact absurd hst (am_cns hcq)
                  next =>
                    rw [hr]
                    dsimp only
                    rw [hcq]
                    dsimp only
                    rw [if_pos hal, h1]
                    dsimp only
                    rw [if_pos (Or.inl rfl)]
                    exact h2
              next => cases h
theorem am_rz_mono {S : am_S} : ∀ (n d : Nat) (M : am_M) (f : Nat × am_LV × List Value × am_FT × am_LT) (x : Option Value × am_FT × am_LT) (k : Nat), am_rz S n d M f = some x → am_rz S (n + k) d M f = some x := by
  intro n
  induction n with
  | zero => intro d M f x k h; cases h
  | succ n ih =>
    intro d M f x k h
    rw [show n + 1 + k = (n + k) + 1 by omega]
    unfold am_rz at h ⊢
    split at h
    next => cases h
    next y hdec =>
      split at h
      next g hst => exact ih d M g x k h
      next hns =>
        split at h
        next r hr => exact h
        next hr =>
          split at h
          next => cases h
          next z hcq =>
            split at h
            next => cases h
            next d' _ =>
              split at h
              next hal =>
                split at h
                next => cases h
                next w hw =>
                  rw [if_pos hal, ih _ _ _ _ k hw]
                  exact ih _ _ _ _ k h
              next => cases h
/-- from here it comes to its end, and there Q holds -/
def wt (S : am_S) (d : Nat) (M : am_M) (pc : Nat) (lv : am_LV) (st : List Value) (F : am_FT) (L : am_LT) (Q : am_QT) : Prop := ∃ n x, am_rz S n d M (pc, lv, st, F, L) = some x ∧ Q x.1 x.2.1 x.2.2
/-- a call -/
def wc (S : am_S) (d : Nat) (N : am_M) (as : List Value) (F : am_FT) (L : am_LT) (Q : am_QT) : Prop := wt S d N 0 (am_ent N as) [] F L Q
theorem wt_step {S : am_S} {d : Nat} {M : am_M} {pc pc' : Nat} {lv lv' : am_LV} {st st' : List Value} {F F' : am_FT} {L L' : am_LT} {Q : am_QT} {i : Jvm.ClassFile.Instr} {len : Nat} (hd : decode M.2.2.1 pc = .ok (i, len)) (hs : am_sz S d M pc lv st F L i len = some (pc', lv', st', F', L')) : wt S d M pc lv st F L Q = wt S d M pc' lv' st' F' L' Q := by
  have key : ∀ n, am_rz S (n + 1) d M (pc, lv, st, F, L) = am_rz S n d M (pc', lv', st', F', L') := by
    intro n
    conv => lhs; unfold am_rz
    dsimp only
    rw [hd]
    dsimp only
    rw [hs]
  apply propext
  constructor
  · rintro ⟨n, x, h, hq⟩
    cases n with
    | zero => cases h
    | succ n => rw [key] at h; exact ⟨n, x, h, hq⟩
  · rintro ⟨n, x, h, hq⟩
    exact ⟨n + 1, x, by rw [key]; exact h, hq⟩
theorem wt_ret {S : am_S} {d : Nat} {M : am_M} {pc : Nat} {lv : am_LV} {st : List Value} {F : am_FT} {L : am_LT} {Q : am_QT} {i : Jvm.ClassFile.Instr} {len : Nat} {r : Option Value} (hd : decode M.2.2.1 pc = .ok (i, len)) (hr : am_ret M st i len = some r) : wt S d M pc lv st F L Q = Q r F L := by
  have key : ∀ n, am_rz S (n + 1) d M (pc, lv, st, F, L) = some (r, F, L) := by
    intro n
    unfold am_rz
    dsimp only
    rw [hd]
    dsimp only
    split
    next g hg => exact absurd (am_sz_some hg) (am_rns hr)
    next => rw [hr]
  apply propext
  constructor
  · rintro ⟨n, x, h, hq⟩
    cases n with
    | zero => cases h
    | succ n => rw [key] at h; cases h; exact hq
  · intro hq
    exact ⟨1, _, key 0, hq⟩
theorem am_rcn {h : am_H} {M : am_M} {st : List Value} {i : Jvm.ClassFile.Instr} {len : Nat} {y : am_M × List Value × List Value} (hc : am_cq h M st i len = some y) : am_ret M st i len = none := by
  unfold am_cq at hc
  split at hc <;> first | rfl | cases hc
theorem wt_call {S : am_S} {d : Nat} {M N : am_M} {pc : Nat} {lv : am_LV} {st as rest : List Value} {F : am_FT} {L : am_LT} {Q : am_QT} {i : Jvm.ClassFile.Instr} {len : Nat} (hd : decode M.2.2.1 pc = .ok (i, len)) (hc : am_cq (S, F, L) M st i len = some (N, as, rest)) (hl : (am_esl as).length ≤ N.2.2.2.1) : wt S (d + 1) M pc lv st F L Q = wc S d N as F L (fun r F' L' => wt S (d + 1) M (pc + 3) lv (r.toList ++ rest) F' L' Q) := by
  have key : ∀ n, am_rz S (n + 1) (d + 1) M (pc, lv, st, F, L) = match am_rz S n d N (0, am_ent N as, [], F, L) with
                | none => none
                | some z => am_rz S n (d + 1) M (pc + 3, lv, z.1.toList ++ rest, z.2.1, z.2.2) := by
    intro n
    conv => lhs; unfold am_rz
    dsimp only
    rw [hd]
    dsimp only
    split
    next g hg => exact absurd (am_sz_some hg) (am_cns hc)
    next =>
      rw [am_rcn hc]
      dsimp only
      rw [hc]
      dsimp only
      rw [if_pos hl]
  apply propext
  constructor
  · rintro ⟨n, x, h, hq⟩
    cases n with
    | zero => cases h
    | succ n =>
      rw [key] at h
      split at h
      next => cases h
      next z hz => exact ⟨n, z, hz, n, x, h, hq⟩
  · rintro ⟨n, z, hz, k, x, h, hq⟩
    refine ⟨n + k + 1, x, ?_, hq⟩
    rw [key, am_rz_mono _ _ _ _ _ k hz]
    dsimp only
    rw [show n + k = k + n by omega]
    exact am_rz_mono _ _ _ _ _ n h
