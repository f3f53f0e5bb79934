/-! ===== a run of the abstract machine is the machine's: contracts ===== -/
def am_Ret (M : am_M) (pc : Nat) (r : Option Value) (st : List Value) : Prop :=
  (∃ (v : Int32) (ty : FieldType), decode M.2.2.1 pc = .ok (.ireturn, 1) ∧ st = [.int v] ∧ r = some (.int v) ∧ M.2.2.2.2 = some ty ∧ narrow ty (.int v) = .int v) ∨
  (∃ v : Int64, decode M.2.2.1 pc = .ok (.lreturn, 1) ∧ st = [.long v] ∧ r = some (.long v) ∧ M.2.2.2.2 = some .long) ∨
  (∃ (v : Value) (n : String), decode M.2.2.1 pc = .ok (.areturn, 1) ∧ st = [v] ∧ r = some v ∧ ((∃ a : Nat, v = .ref a) ∨ v = .null) ∧ M.2.2.2.2 = some (.object n)) ∨
  (decode M.2.2.1 pc = .ok (.return_, 1) ∧ st = [] ∧ r = none ∧ M.2.2.2.2 = none)
theorem am_ret_of {M : am_M} {pc len : Nat} {st : List Value} {i : Jvm.ClassFile.Instr} {r : Option Value} (hd : decode M.2.2.1 pc = .ok (i, len)) (h : am_ret M st i len = some r) : am_Ret M pc r st := by
  unfold am_ret at h
  split at h
  next =>
    split at h
    next v ty g1 =>
      split at h
      next g =>
        cases h
        obtain ⟨rfl, g2⟩ := g
        exact Or.inl ⟨v, ty, hd, rfl, rfl, g1, g2⟩
      next => cases h
    next => cases h
  next =>
    split at h
    next v g1 =>
      split at h
      next g =>
        cases h
        subst g
        exact Or.inr (Or.inl ⟨v, hd, rfl, rfl, g1⟩)
      next => cases h
    next => cases h
  next =>
    split at h
    next v n g1 =>
      split at h
      next g =>
        cases h
        obtain ⟨rfl, g2⟩ := g
        exact Or.inr (Or.inr (Or.inl ⟨v, n, hd, rfl, rfl, am_isr_of g2, g1⟩))
      next => cases h
    next => cases h
  next =>
    split at h
    next g1 =>
      split at h
      next g =>
        cases h
        subst g
        exact Or.inr (Or.inr (Or.inr ⟨hd, rfl, rfl, g1⟩))
      next => cases h
    next => cases h
  next => cases h
/-- a call's instruction: what it finds on the stack -/
theorem am_cx_some {o : Option am_R} {x : am_M × List Value × List Value} (h : am_cx o = some x) : o = some (.inr (.inr x)) := by
  unfold am_cx at h
  split at h
  · cases h; rfl
  · cases h
theorem am_cl_some {h : am_H} {M N : am_M} {idx kd len : Nat} {st as rest : List Value} (e : am_cl h M idx kd len st = some (.inr (.inr (N, as, rest)))) : ∃ n k, am_site M.1 idx = some (N, n, k) ∧ len = 3 ∧ k = kd ∧ am_wd rest ≤ 8 ∧ ∃ av : List Value, av.length = n ∧ ((kd = 1 ∧ as = av ∧ st = av.reverse ++ rest) ∨ (¬ kd = 1 ∧ ∃ p : Nat, as = .ref p :: av ∧ st = av.reverse ++ .ref p :: rest ∧ (¬ kd = 0 → ∃ (m : Nat) (rs : List (Option Nat)), h.1[p]? = some (N.1, m, rs)))) := by
  unfold am_cl at e
  split at e
  next => cases e
  next N1 n k hsite =>
    split at e
    next g =>
      obtain ⟨g1, g2, g3⟩ := g
      split at e
      next hk1 =>
        split at e
        next hw =>
          cases e
          refine ⟨n, k, hsite, g1, g2, hw, (st.take n).reverse, by rw [List.length_reverse]; exact g3, Or.inl ⟨hk1, rfl, ?_⟩⟩
          rw [List.reverse_reverse, List.take_append_drop]
        next => cases e
      next hk1 =>
        split at e
        next p r hdr =>
          split at e
          next hw =>
            have hst : st = ((st.take n).reverse).reverse ++ .ref p :: r := by rw [List.reverse_reverse, ← hdr, List.take_append_drop]
            split at e
            next hk0 =>
              cases e
              exact ⟨n, k, hsite, g1, g2, hw, (st.take n).reverse, by rw [List.length_reverse]; exact g3, Or.inr ⟨hk1, p, rfl, hst, fun z => absurd hk0 z⟩⟩
            next hk0 =>
              obtain ⟨m, rs, hp, e⟩ := am_at_some e
              cases e
              exact ⟨n, k, hsite, g1, g2, hw, (st.take n).reverse, by rw [List.length_reverse]; exact g3, Or.inr ⟨hk1, p, rfl, hst, fun _ => ⟨m, rs, hp⟩⟩⟩
          next => cases e
        next => cases e
    next => cases e
theorem am_cl_len {h h' : am_H} {kd n : Nat} {rs : List (Option Nat)} (e : h' = am_push h kd n rs) : am_n h ≤ am_n h' ∧ am_z h ≤ am_z h' := by
  subst e
  rw [am_n_push, am_z_push]
  exact ⟨by omega, by omega⟩
/-- which words and which room a method has, its start and its end -/
def am_wds (M : am_M) : List Cond := Cond.code M.2.1 M.2.2.1 M.2.2.2.1 M.2.2.2.2 :: am_tw
def am_rm (d mc ms : Nat) : Room := { frames := d, cells := mc, slots := ms, locals := 40 * d }
def am_Pre (Z : am_Z) (D : va_G) (κ zs α : Nat → Nat) (sz : Nat) (h : am_H) (as : List Value) : Array Value → State → Prop := va_Pc (as.map (am_c α zs)) (fun U => U.heap.size = sz ∧ va_P D vwCl (am_ws α zs κ h) U.heap ∧ va_K D vwCl (am_tys κ) U ∧ va_D (fun _ => True) (am_ws α zs κ h) ∧ am_wf h ∧ am_Nst U ∧ va_AO RX8 U ∧
  (∀ (j : Nat) (z : Nat × (Nat → Int32)), j < 6 → Z j = some z → va_T .int (zs j) z.1 (fun i => .int (z.2 i)) (va_A (am_ws α zs κ h) sz) U U.heap) ∧ (∀ j, j < 5 → va_Z (am_sn j).1 (am_sn j).2.1 (am_sn j).2.2 (.ref (zs j)) (va_A (am_ws α zs κ h) sz) U U.heap))
def am_Pst (D : va_G) (κ zs α : Nat → Nat) (A : Nat → Prop) (h h' : am_H) (r : Option Value) : Outcome → State → Prop := fun oc t => ∃ α' : Nat → Nat, oc = .returned (r.map (am_c α' zs)) ∧ (∀ k, k < am_n h → α' k = α k) ∧ (am_n h' = am_n h → α' = α) ∧ va_P D vwCl (am_ws α' zs κ h') t.heap ∧ va_D A (am_ws α' zs κ h') ∧ am_wf h'
def am_Post (D : va_G) (κ zs α : Nat → Nat) (A : Nat → Prop) (h h' : am_H) (r : Option Value) : Array Value → State → Outcome → State → Prop := fun _ st oc t => am_Pst D κ zs α A h h' r oc t ∧ va_F A st t
theorem am_Nst_moved {s U : State} (hW : s.WarmedH U.vm) (h : am_Nst s) : am_Nst U := by
  intro w hw hn
  have h1 := h w hw hn
  cases w <;> first | exact va_Nw.warmF hW h1 | exact va_Nw.warmM hW h1 | cases hn
theorem am_Nst_same {s U : State} (hv : s.vm = U.vm) (h : am_Nst s) : am_Nst U := by
  intro w hw hn
  have h1 := h w hw hn
  refine va_Nw.same ?_ hv h1
  cases w <;> first | rfl | cases hn
section AMC
variable {p : Program} {l : Launch} {e : Env} {R : Room} {s : State} {m : MethodId} {args : Array Value} {below : List Frame} {meth : Method} {c : Code} {H : Heap} {locs : List Loc} {cells slots : Nat} {Q : State → Prop}
variable {pc : Nat} {ls : Array Slot} {rest st0 : List Value} {A0 A1 : Nat → Prop} {H0 : Heap} {mc ms : Nat} {free : Addr → Prop}
theorem am_callq {P : Outcome → State → Prop} (hr : va_Run p l e R s m args below meth c H locs cells slots mc ms (F0 m pc ls st0) rest (fun st oc t => P oc t ∧ va_F A1 st t) free) (hS : va_S A0 H0 H locs) (hA : ∀ q, q < H.size → A1 q → A0 q) (hf : ∀ q, free q → A0 q)
    (kk : ∀ (v : Option Value) (t : State) (H1 : Heap) (locs1 : List Loc), t.heap = H1 → P (.returned v) t → va_S A0 H0 H1 locs1 → W p l e R s m args below meth c H1 locs1 (cells + mc) (slots + ms) Q (F0 m (pc + 3) ls (v.toList ++ rest))) : W p l e R s m args below meth c H locs cells slots Q (F0 m pc ls st0) := by
  intro T hT X
  obtain ⟨v, st₀, t, T', L, h0, X', hL, e1, e2, ⟨hp, hz, hk⟩, st⟩ := hr T hT X
  rw [h0] at hz hk
  obtain ⟨t2, a1, b1⟩ := kk v t T'.heap (locs ++ L) e1.symm hp
    ⟨Nat.le_trans hS.1 (by rw [e1]; exact hz), fun q h1 h2 => by rw [e1, hk q (Nat.lt_of_lt_of_le h1 hS.1) (fun z => h2 (hA q (Nat.lt_of_lt_of_le h1 hS.1) z))]; exact hS.2.1 q h1 h2, fun q hq => by
      rcases List.mem_append.mp hq with h | h
      · exact hS.2.2 q h
      · exact hf _ (hL q h)⟩ T' rfl X'
  exact ⟨t2, st t2 a1, b1⟩
end AMC
theorem am_blind {Z : am_Z} {D : va_G} {κ zs α : Nat → Nat} {sz : Nat} {h : am_H} {as : List Value} : FrameBlind (am_Pre Z D κ zs α sz h as) := by
  intro a U g mk q
  obtain ⟨q0, q1, q2, q3, q4, q5, q6, q7, q8, q9⟩ := q
  exact ⟨q0, q1, q2, va_K.moved (u := U) (U := U.calling g mk a) (Vm.Alike.refl U.vm) q3, q4, q5, am_Nst_same (s := U) (U := U.calling g mk a) rfl q6, va_AO.moved (u := U) (U := U.calling g mk a) (Vm.Alike.refl U.vm) q7,
    fun j z hj hz => va_T.moved (u := U) (U := U.calling g mk a) (Vm.Alike.refl U.vm) (q8 j z hj hz), fun j hj => va_Z.moved (u := U) (U := U.calling g mk a) (Vm.Alike.refl U.vm) (q9 j hj)⟩
/-- what is to be shown of runs with so much fuel -/
def am_SD (Z : am_Z) (n : Nat) : Prop := ∀ (d : Nat) (M : am_M) (pc : Nat) (lv : am_LV) (st : List Value) (h : am_H) (r : Option Value) (h' : am_H), am_run Z n d M (pc, lv, st, h) = some (r, h') →
  am_n h ≤ am_n h' ∧ am_z h ≤ am_z h' ∧
  ∀ (p : Program) (l : Launch) (e : Env) (R : Room) (s : State) (m : MethodId) (args : Array Value) (below : List Frame) (meth : Method) (c : Code) (Q : State → Prop) (D : va_G) (κ zs α : Nat → Nat) (A : Nat → Prop) (cells slots : Nat) (H : Heap) (locs : List Loc) (ls : Array Slot),
  am_X Z D κ zs A p R s m args meth c d M → am_W D κ zs α A s h H locs → am_has α zs ls M lv → cells + (am_n h' - am_n h) ≤ R.cells → slots + (am_z h' - am_z h) ≤ R.slots →
  (∀ (α' : Nat → Nat) (H' : Heap) (locs' : List Loc) (ls' : Array Slot) (pc' : Nat) (st' : List Value), am_Ret M pc' r st' → (∀ k, k < am_n h → α' k = α k) → (am_n h' = am_n h → α' = α) → am_W D κ zs α' A s h' H' locs' → W p l e R s m args below meth c H' locs' (cells + (am_n h' - am_n h)) (slots + (am_z h' - am_z h)) Q (F0 m pc' ls' (st'.map (am_c α' zs)))) →
  W p l e R s m args below meth c H locs cells slots Q (F0 m pc ls (st.map (am_c α zs)))
theorem am_esl_sl {α zs : Nat → Nat} : ∀ vs : List Value, (lg_sl (vs.map (am_c α zs))).length = (am_esl vs).length
  | [] => rfl
  | v :: vs => by
    show (List.flatMap _ (am_c α zs v :: vs.map (am_c α zs))).length = (List.flatMap _ (v :: vs)).length
    rw [List.flatMap_cons, List.flatMap_cons, List.length_append, List.length_append, am_c_cat]
    have ih : (List.flatMap (fun v : Value => if v.category = 2 then [Slot.val v, .second] else [Slot.val v]) (vs.map (am_c α zs))).length = (List.flatMap (fun v : Value => if v.category = 2 then [some v, none] else [some v]) vs).length := am_esl_sl vs
    rw [ih]
    split <;> rfl
theorem am_args_in {α zs : Nat → Nat} : ∀ (vs : List Value) (o i : Nat) (v : Value), (am_esl vs)[i]? = some (some v) → (o + i, am_c α zs v) ∈ lv_args o (vs.map (am_c α zs))
  | [], _, i, v, h => by cases h
  | w :: vs, o, i, v, h => by
    show _ ∈ lv_args o (am_c α zs w :: vs.map (am_c α zs))
    unfold lv_args
    rw [am_c_cat]
    have h2 : ((if w.category = 2 then [some w, none] else [some w]) ++ am_esl vs)[i]? = some (some v) := h
    by_cases hc : w.category = 2
    · rw [if_pos hc] at h2
      rw [if_pos hc]
      match i, h2 with
      | 0, h2 => cases h2; exact List.mem_cons_self
      | 1, h2 => cases h2
      | i + 2, h2 =>
        have := am_args_in (α := α) (zs := zs) vs (o + 2) i v h2
        rw [show o + (i + 2) = o + 2 + i by omega]
        exact List.mem_cons_of_mem _ this
    · rw [if_neg hc] at h2
      rw [if_neg hc]
      match i, h2 with
      | 0, h2 => cases h2; exact List.mem_cons_self
      | i + 1, h2 =>
        have := am_args_in (α := α) (zs := zs) vs (o + 1) i v h2
        rw [show o + (i + 1) = o + 1 + i by omega]
        exact List.mem_cons_of_mem _ this
theorem am_ent_has {α zs : Nat → Nat} {N : am_M} {vs : List Value} (hl : (am_esl vs).length ≤ N.2.2.2.1) : am_has α zs ((lg_sl (vs.map (am_c α zs)) ++ List.replicate (N.2.2.2.1 - (lg_sl (vs.map (am_c α zs))).length) Slot.unset).toArray) N (am_ent N vs) := by
  have h1 := lv_entry (vs.map (am_c α zs)) (n := N.2.2.2.1) (by rw [am_esl_sl]; exact hl)
  refine ⟨⟨h1.1, h1.2.1, fun q hq => h1.2.2 q ?_⟩, by unfold am_ent; rw [List.length_append, List.length_replicate]; omega⟩
  obtain ⟨v, g1, g2⟩ := am_al_mem.mp hq
  unfold am_ent at g1
  by_cases hi : q.1 < (am_esl vs).length
  · rw [List.getElem?_append_left hi] at g1
    have := am_args_in (α := α) (zs := zs) vs 0 q.1 v g1
    rw [Nat.zero_add, ← g2] at this
    exact this
  · rw [List.getElem?_append_right (by omega)] at g1
    have := List.eq_of_mem_replicate (List.mem_of_getElem? g1)
    cases this
