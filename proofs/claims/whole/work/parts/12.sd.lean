/-! ===== every run of the abstract machine is the machine's ===== -/
theorem am_sd (Z : am_Z) : ∀ n, am_SD Z n := by
  intro n
  induction n with
  | zero =>
    intro d M pc lv st h r h' hrun
    cases hrun
  | succ n ih =>
    intro d M pc lv st h r h' hrun
    unfold am_run at hrun
    split at hrun
    next => cases hrun
    next x hdec =>
      obtain ⟨i, len⟩ := x
      dsimp only at hrun hdec
      split at hrun
      next g hst =>
        obtain ⟨pc1, lv1, st1, h1⟩ := g
        have mo1 := am_step_mo Z i d M pc len lv lv1 st st1 h h1 pc1 hst
        obtain ⟨m1, m2, hk⟩ := ih d M pc1 lv1 st1 h1 r h' hrun
        refine ⟨Nat.le_trans mo1.1 m1, Nat.le_trans mo1.2 m2, ?_⟩
        intro p l e R s m args below meth c Q D κ zs α A cells slots H locs ls X hW hL hc hz hend
        refine am_step_ok Z i p l e R s m args below meth c Q D κ zs α A d M pc len cells slots lv lv1 st st1 h h1 pc1 H locs ls X hW hL hdec hst (by have := mo1.1; omega) (by have := mo1.2; omega) ?_
        intro α1 H1 locs1 ls1 ag1 eq1 W1 has1
        refine hk p l e R s m args below meth c Q D κ zs α1 A _ _ H1 locs1 ls1 X W1 has1 (by have := mo1.1; omega) (by have := mo1.2; omega) ?_
        intro α' H' locs' ls' pc' st' hret ag2 eq2 hW'
        have k2 := hend α' H' locs' ls' pc' st' hret (fun k hk => (ag2 k (Nat.lt_of_lt_of_le hk mo1.1)).trans (ag1 k hk)) (fun z => by
          have z1 : am_n h1 = am_n h := by have := mo1.1; omega
          rw [eq2 (by omega), eq1 z1]) hW'
        have e1 : cells + (am_n h1 - am_n h) + (am_n h' - am_n h1) = cells + (am_n h' - am_n h) := by have := mo1.1; omega
        have e2 : slots + (am_z h1 - am_z h) + (am_z h' - am_z h1) = slots + (am_z h' - am_z h) := by have := mo1.2; omega
        rw [e1, e2]
        exact k2
      next =>
        split at hrun
        next r2 hr2 =>
          cases hrun
          refine ⟨Nat.le_refl _, Nat.le_refl _, ?_⟩
          intro p l e R s m args below meth c Q D κ zs α A cells slots H locs ls X hW hL hc hz hend
          have k2 := hend α H locs ls pc st (am_ret_of hdec hr2) (fun _ _ => rfl) (fun _ => rfl) hW
          rw [Nat.sub_self, Nat.sub_self, Nat.add_zero, Nat.add_zero] at k2
          exact k2
        next =>
          split at hrun
          next => cases hrun
          next y hcq =>
            obtain ⟨N, as, rest⟩ := y
            split at hrun
            next => cases hrun
            next d' _ =>
              split at hrun
              next hal =>
                split at hrun
                next => cases hrun
                next z hcal =>
                  obtain ⟨r1, h1⟩ := z
                  split at hrun
                  next hfr =>
                    have mo1 := ih d' N 0 (am_ent N as) [] h r1 h1 hcal
                    have mo2 := ih (d' + 1) M (pc + 3) lv (r1.toList ++ rest) h1 r h' hrun
                    refine ⟨Nat.le_trans mo1.1 mo2.1, Nat.le_trans mo1.2.1 mo2.2.1, ?_⟩
                    intro p l e R s m args below meth c Q D κ zs α A cells slots H locs ls X hW hL hc hz hend
                    exact am_call ih hdec hcq hal hcal hfr hrun X hW hL hc hz hend
                  next => cases hrun
              next => cases hrun
