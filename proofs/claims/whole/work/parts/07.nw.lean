theorem am_n_push (h : am_H) (kd n : Nat) (rs : List (Option Nat)) : am_n (am_push h kd n rs) = am_n h + 1 := by
  show (h.1 ++ [(kd, n, rs)]).length = _
  rw [List.length_append]; rfl
theorem am_z_push (h : am_H) (kd n : Nat) (rs : List (Option Nat)) : am_z (am_push h kd n rs) = am_z h + n := by
  show ((h.1 ++ [(kd, n, rs)]).map (fun x => x.2.1)).sum = _
  rw [List.map_append, List.sum_append]
  show am_z h + (n + 0) = _
  rw [Nat.add_zero]
theorem am_mk_some {h : am_H} {kd n : Nat} {rs : List (Option Nat)} {len k pc : Nat} {lv : am_LV} {st : List Value} {pc' : Nat} {lv' : am_LV} {st' : List Value} {h' : am_H} (e : am_mk h kd n rs len k pc lv st = some (.inl (pc', lv', st', h'))) : h.1.length < 1000 ∧ am_fresh h.1.length lv st = true ∧ len = k ∧ pc' = pc + k ∧ lv' = lv ∧ st' = .ref h.1.length :: st ∧ h' = am_push h kd n rs := by
  unfold am_mk at e
  split at e
  next g =>
    obtain ⟨e1, e2, e3, e4, e5⟩ := am_go_some e
    exact ⟨g.1, g.2, e1, e2, e3, e4, e5⟩
  next => cases e
/-- what is known behind a making -/
theorem am_kn {p : Program} {l : Launch} {e : Env} {R : Room} {s : State} {m : MethodId} {args : Array Value} {below : List Frame} {meth : Method} {c : Code} {Q : State → Prop} {D : va_G} {κ zs α : Nat → Nat} {A : Nat → Prop} {M : am_M} {cells slots : Nat} {lv : am_LV} {st : List Value} {h : am_H} {pc' kd n : Nat} {rs : List (Option Nat)} {ls : Array Slot} {locs : List Loc}
  (hw : am_wf h) (hlt : h.1.length < 1000) (hr : ∀ q, ¬ some q ∈ rs) (hf : am_fresh h.1.length lv st = true) (hL : am_has α zs ls M lv)
  (kk : ∀ (α' : Nat → Nat) (H' : Heap) (locs' : List Loc) (ls' : Array Slot), (∀ k, k < am_n h → α' k = α k) → (am_n (am_push h kd n rs) = am_n h → α' = α) → am_W D κ zs α' A s (am_push h kd n rs) H' locs' → am_has α' zs ls' M lv → W p l e R s m args below meth c H' locs' (cells + (am_n (am_push h kd n rs) - am_n h)) (slots + (am_z (am_push h kd n rs) - am_z h)) Q (F0 m pc' ls' ((Value.ref h.1.length :: st).map (am_c α' zs)))) :
  ∀ (q : Nat) (x : va_E) (H1 : Heap), (∀ α' : Nat → Nat, am_cell α' zs κ (am_push h kd n rs).2.1 (am_push h kd n rs).2.2 h.1.length (kd, n, rs) = x) → va_P D vwCl (am_ws α zs κ h ++ [(q, x)]) H1 → va_D A (am_ws α zs κ h ++ [(q, x)]) → va_S A s.heap H1 locs → W p l e R s m args below meth c H1 locs (cells + 1) (slots + n) Q (F0 m pc' ls (.ref q :: st.map (am_c α zs))) := by
  intro q x H1 hx hP hD hS1
  have ha : ∀ k, k < h.1.length → (fun k => if k = h.1.length then q else α k) k = α k := fun k hk => if_neg (by omega)
  obtain ⟨f1, f2⟩ := am_fresh_c (zs := zs) ha hf
  have hws := am_ws_push (α := α) (zs := zs) (κ := κ) (q := q) (kd := kd) (n := n) (rs := rs) hw
  rw [hx] at hws
  have k1 := kk (fun k => if k = h.1.length then q else α k) H1 locs ls ha (fun z => by rw [am_n_push] at z; omega) ⟨by rw [hws]; exact hP, by rw [hws]; exact hD, hS1, am_wf_push hw hlt hr⟩ ⟨by rw [f1]; exact hL.1, hL.2⟩
  rw [am_n_push, am_z_push, Nat.add_sub_cancel_left, Nat.add_sub_cancel_left] at k1
  have e1 : (Value.ref h.1.length :: st).map (am_c (fun k => if k = h.1.length then q else α k) zs) = .ref q :: st.map (am_c α zs) := by
    rw [List.map_cons, f2]
    congr 1
    show Value.ref _ = _
    unfold am_ad
    rw [if_pos hlt]
    show Value.ref (if h.1.length = h.1.length then q else α h.1.length) = _
    rw [if_pos rfl]
  rw [e1] at k1
  exact k1
theorem am_rep_no {n q : Nat} : ¬ some q ∈ List.replicate n (none : Option Nat) := fun h => by cases (List.eq_of_mem_replicate h)
theorem am_rf_rep (n i : Nat) : am_rf (List.replicate n none) i = none := by
  unfold am_rf
  split
  next q hq => exact absurd (List.mem_of_getElem? hq) am_rep_no
  next => rfl
theorem am_new_cell {α zs κ : Nat → Nat} {h : am_H} {ci : Nat} (hci : ci < 13) : am_cell α zs κ (am_push h ci (am_nf ci) (List.replicate (am_nf ci) none)).2.1 (am_push h ci (am_nf ci) (List.replicate (am_nf ci) none)).2.2 h.1.length (ci, am_nf ci, List.replicate (am_nf ci) none) = .inr (ci, (List.range (am_nf ci)).map (fun k => if am_isref ci k = true then Value.null else .int 0)) := by
  rw [am_cell_obj hci]
  congr 2
  apply List.map_congr_left
  intro k hk
  unfold am_fv
  by_cases hr : am_isref ci k = true
  · rw [if_pos hr, if_pos hr, am_rf_rep]; rfl
  · rw [if_neg hr, if_neg hr]
    show Value.int _ = _
    rw [show (am_push h ci (am_nf ci) (List.replicate (am_nf ci) none)).2.1 h.1.length = fun _ => 0 from if_pos rfl]
theorem am_dv {ci : Nat} (hci : ci < 13) : ∀ j, j < am_nf ci → defaultValue (am_ty ci j) = vp_V ((List.range (am_nf ci)).map (fun k => if am_isref ci k = true then Value.null else .int 0)) j := by
  intro j hj
  rw [am_dv0 ci hci j hj]
  unfold vp_V
  rw [List.getD_eq_getElem?_getD, List.getElem?_map, List.getElem?_range hj]
  show _ = (if am_isref ci j = true then Value.null else .int 0)
  unfold am_isref
  cases am_ty ci j <;> rfl
theorem am_ka {D : va_G} {tys : List (ClassId × FieldType)} {s : State} {cA cB : ClassId} {ty : FieldType} {t : Nat} (hK : va_K D vwCl tys s) (ht : tys[t]? = some (cA, ty)) (hK1 : va_K D vwCl (tys ++ [(cB, ty)]) s) : cB = cA := by
  have h1 := (hK.2 t _ ht).2
  have h2 := (hK1.2 tys.length (cB, ty) (by rw [List.getElem?_append_right (Nat.le_refl _), Nat.sub_self]; rfl)).2
  cases ty with
  | object C =>
    obtain ⟨_, _, _, _, _, e1⟩ := h1
    obtain ⟨_, _, _, _, _, e2⟩ := h2
    exact Option.some.inj (e2.symm.trans e1)
  | _ =>
    have e1 : s.vm.findClass _ = some cA := h1
    have e2 : s.vm.findClass _ = some cB := h2
    exact Option.some.inj (e2.symm.trans e1)
theorem am_ok_new (Z : am_Z) (idx : Nat) : am_SOk Z (.new idx) := by
  intro p l e R s m args below meth c Q D κ zs α A d M pc len cells slots lv lv' st st' h h' pc' H locs ls hX hW hL hd hs hc hz kk
  replace hs : (match am_new M.1 idx with
    | none => none
    | some ci => am_mk h ci (am_nf ci) (List.replicate (am_nf ci) none) len 3 pc lv st) = some (Sum.inl (pc', lv', st', h')) := hs
  cases hf : am_new M.1 idx with
  | none => rw [hf] at hs; cases hs
  | some ci =>
    rw [hf] at hs
    dsimp only at hs
    obtain ⟨hci, l1, l2, l3⟩ := am_new_ok hf
    obtain ⟨g1, g2, rfl, rfl, rfl, rfl, rfl⟩ := am_mk_some hs
    rw [am_n_push, Nat.add_sub_cancel_left] at hc
    rw [am_z_push, Nat.add_sub_cancel_left] at hz
    have kn := am_kn (locs := locs) hW.2.2.2 g1 (fun _ => am_rep_no) g2 hL kk
    exact va_new hX.1 hX.2.1 hX.2.2.2.2.1 (am_u hci) (am_ty ci) (am_tyok hci) hX.2.2.2.1 (hX.ts l1 rfl) (hX.ts l2 rfl) (hX.ts l3 rfl) hX.2.2.2.2.2.2.2.2.1 hW.1 hW.2.1 hW.2.2.1 hX.2.2.2.2.2.2.2.2.2.1 (am_clok hci) (am_dv hci) hc hz hd (fun q H1 a1 a2 a3 => kn q _ H1 (fun _ => am_new_cell hci) a1 a2 a3)
theorem am_ok_newarray_int (Z : am_Z) : am_SOk Z (.newarray .int) := by
  intro p l e R s m args below meth c Q D κ zs α A d M pc len cells slots lv lv' st st' h h' pc' H locs ls hX hW hL hd hs hc hz kk
  replace hs : (am_p1 st fun n r => if ¬ n < 0 ∧ n.toNatClampNeg ≤ 10000 then am_mk h 100 n.toNatClampNeg [] len 2 pc lv r else none) = some (Sum.inl (pc', lv', st', h')) := hs
  have hs2 := am_p1_some hs
  clear hs
  obtain ⟨n, r, rfl, hs⟩ := hs2
  split at hs
  next hn =>
    obtain ⟨g1, g2, rfl, rfl, rfl, rfl, rfl⟩ := am_mk_some hs
    rw [am_n_push, Nat.add_sub_cancel_left] at hc
    rw [am_z_push, Nat.add_sub_cancel_left] at hz
    have kn := am_kn (locs := locs) hW.2.2.2 g1 (fun _ z => absurd z List.not_mem_nil) g2 hL kk
    exact va_newa (atype := .int) hX.1 hX.2.1 (hX.ts am_aint rfl) rfl hX.2.2.2.2.2.2.2.2.1 hW.1 hW.2.1 hW.2.2.1 hX.2.2.2.2.2.2.2.2.2.1 (a0 := (n.toNatClampNeg, .inl (fun _ => 0))) (fun _ => rfl) hn.1 rfl (by show n.toNatClampNeg * 4 ≤ _; have := hn.2; omega) hc hz hd (fun q cA H1 a0 a1 a2 a3 => by
      have hcA := am_ka (t := 0) hX.2.2.2.2.2.2.2.2.1 rfl a0
      subst hcA
      exact kn q _ H1 (fun α1 => by rw [am_cell_i]; rw [show (am_push h 100 n.toNatClampNeg []).2.1 h.1.length = fun _ => 0 from if_pos rfl]) a1 a2 a3)
  next => cases hs
theorem am_ok_newarray_long (Z : am_Z) : am_SOk Z (.newarray .long) := by
  intro p l e R s m args below meth c Q D κ zs α A d M pc len cells slots lv lv' st st' h h' pc' H locs ls hX hW hL hd hs hc hz kk
  replace hs : (am_p1 st fun n r => if ¬ n < 0 ∧ n.toNatClampNeg ≤ 10000 then am_mk h 101 n.toNatClampNeg [] len 2 pc lv r else none) = some (Sum.inl (pc', lv', st', h')) := hs
  have hs2 := am_p1_some hs
  clear hs
  obtain ⟨n, r, rfl, hs⟩ := hs2
  split at hs
  next hn =>
    obtain ⟨g1, g2, rfl, rfl, rfl, rfl, rfl⟩ := am_mk_some hs
    rw [am_n_push, Nat.add_sub_cancel_left] at hc
    rw [am_z_push, Nat.add_sub_cancel_left] at hz
    have kn := am_kn (locs := locs) hW.2.2.2 g1 (fun _ z => absurd z List.not_mem_nil) g2 hL kk
    exact va_newa (atype := .long) hX.1 hX.2.1 (hX.ts am_along rfl) rfl hX.2.2.2.2.2.2.2.2.1 hW.1 hW.2.1 hW.2.2.1 hX.2.2.2.2.2.2.2.2.2.1 (a0 := (n.toNatClampNeg, .inr (.inl (fun _ => 0)))) (fun _ => rfl) hn.1 rfl (by show n.toNatClampNeg * 8 ≤ _; have := hn.2; omega) hc hz hd (fun q cA H1 a0 a1 a2 a3 => by
      have hcA := am_ka (t := 1) hX.2.2.2.2.2.2.2.2.1 rfl a0
      subst hcA
      exact kn q _ H1 (fun α1 => by rw [am_cell_l]; rw [show (am_push h 101 n.toNatClampNeg []).2.2 h.1.length = fun _ => 0 from if_pos rfl]) a1 a2 a3)
  next => cases hs
theorem am_ok_anewarray (Z : am_Z) (idx : Nat) : am_SOk Z (.anewarray idx) := by
  intro p l e R s m args below meth c Q D κ zs α A d M pc len cells slots lv lv' st st' h h' pc' H locs ls hX hW hL hd hs hc hz kk
  replace hs : (match am_new M.1 idx with
    | some 8 => am_p1 st fun n r => if ¬ n < 0 ∧ n.toNatClampNeg ≤ 10000 then am_mk h 102 n.toNatClampNeg (List.replicate n.toNatClampNeg none) len 3 pc lv r else none
    | _ => none) = some (Sum.inl (pc', lv', st', h')) := hs
  split at hs
  next hf =>
    have hs2 := am_p1_some hs
    clear hs
    obtain ⟨n, r, rfl, hs⟩ := hs2
    split at hs
    next hn =>
      obtain ⟨hci, l1, l2, l3⟩ := am_new_ok hf
      obtain ⟨g1, g2, rfl, rfl, rfl, rfl, rfl⟩ := am_mk_some hs
      rw [am_n_push, Nat.add_sub_cancel_left] at hc
      rw [am_z_push, Nat.add_sub_cancel_left] at hz
      have kn := am_kn (locs := locs) hW.2.2.2 g1 (fun _ => am_rep_no) g2 hL kk
      exact va_newq hX.1 hX.2.1 hX.2.2.2.1 (C := RX8) (hX.ts l1 rfl) hX.2.2.2.2.2.2.1 hX.2.2.2.2.2.2.2.2.1 hW.1 hW.2.1 hW.2.2.1 hX.2.2.2.2.2.2.2.2.2.1 hn.1 rfl (by have := hn.2; omega) hc hz hd (fun q cA H1 a0 a1 a2 a3 => by
        have hcA := am_ka (t := 2) hX.2.2.2.2.2.2.2.2.1 rfl a0
        subst hcA
        exact kn q _ H1 (fun α1 => by rw [am_cell_q]; simp only [am_rf_rep, Option.map_none]) a1 a2 a3)
    next => cases hs
  next => cases hs
theorem am_bi_ok {Z : am_Z} {p : Program} {l : Launch} {e : Env} {R : Room} {s : State} {m : MethodId} {args : Array Value} {below : List Frame} {meth : Method} {c : Code} {Q : State → Prop} {D : va_G} {κ zs α : Nat → Nat} {A : Nat → Prop} {d : Nat} {M : am_M} {pc len cells slots : Nat} {lv lv' : am_LV} {st st' : List Value} {h h' : am_H} {pc' : Nat} {H : Heap} {locs : List Loc} {ls : Array Slot} {idx b : Nat}
  (hX : am_X Z D κ zs A p R s m args meth c d M) (hW : am_W D κ zs α A s h H locs) (hL : am_has α zs ls M lv) (hd : decode M.2.2.1 pc = .ok (.invokestatic idx, len)) (hb : am_blt M.1 idx = b) (hs : am_bi h d b len pc lv st = some (.inl (pc', lv', st', h')))
  (hc : cells + (am_n h' - am_n h) ≤ R.cells) (hz : slots + (am_z h' - am_z h) ≤ R.slots)
  (kk : ∀ (α' : Nat → Nat) (H' : Heap) (locs' : List Loc) (ls' : Array Slot), (∀ k, k < am_n h → α' k = α k) → (am_n h' = am_n h → α' = α) → am_W D κ zs α' A s h' H' locs' → am_has α' zs ls' M lv' → W p l e R s m args below meth c H' locs' (cells + (am_n h' - am_n h)) (slots + (am_z h' - am_z h)) Q (F0 m pc' ls' (st'.map (am_c α' zs)))) :
  W p l e R s m args below meth c H locs cells slots Q (F0 m pc ls (st.map (am_c α zs))) := by
  have hml : c.maxLocals = ls.size := hX.2.2.1.trans hL.1.1.symm
  unfold am_bi at hs
  split at hs
  next => cases hs
  next d d0 =>
    have hfr : 1 ≤ R.frames := Nat.le_trans (Nat.succ_le_succ (Nat.zero_le _)) hX.2.2.2.2.2.2.2.2.2.2.2.2.1
    have hlo : 40 ≤ R.locals := Nat.le_trans (by omega) hX.2.2.2.2.2.2.2.2.2.2.2.2.2
    split at hs
    next =>
      have hs2 := am_p2_some hs
      clear hs
      obtain ⟨x, y, r, rfl, hs⟩ := hs2
      split at hs
      next hw =>
        obtain ⟨rfl, rfl, rfl, rfl, rfl⟩ := am_go_some hs
        have k1 := am_k0 rfl rfl kk H locs ls hW hL
        have hl := am_blt_ok hb (by decide)
        exact va_mmin hX.1 hX.2.1 hml hX.2.2.2.1 (hX.ts hl rfl) (hX.ts am_bmin.1 rfl) (hX.ts am_bmin.2.1 rfl) (hX.ts am_bmin.2.2 rfl) hfr (by rw [am_wd_c]; omega) (by omega) (by omega) hd k1
      next => cases hs
    next =>
      have hs2 := am_p2_some hs
      clear hs
      obtain ⟨x, y, r, rfl, hs⟩ := hs2
      split at hs
      next hw =>
        obtain ⟨rfl, rfl, rfl, rfl, rfl⟩ := am_go_some hs
        have k1 := am_k0 rfl rfl kk H locs ls hW hL
        have hl := am_blt_ok hb (by decide)
        exact va_mmax hX.1 hX.2.1 hml hX.2.2.2.1 (hX.ts hl rfl) (hX.ts am_bmax.1 rfl) (hX.ts am_bmax.2.1 rfl) (hX.ts am_bmax.2.2 rfl) hfr (by rw [am_wd_c]; omega) (by omega) (by omega) hd k1
      next => cases hs
    next =>
      have hs2 := am_p1_some hs
      clear hs
      obtain ⟨x, r, rfl, hs⟩ := hs2
      split at hs
      next hw =>
        obtain ⟨rfl, rfl, rfl, rfl, rfl⟩ := am_go_some hs
        have k1 := am_k0 rfl rfl kk H locs ls hW hL
        have hl := am_blt_ok hb (by decide)
        exact va_mabs hX.1 hX.2.1 hml hX.2.2.2.1 (hX.ts hl rfl) (hX.ts am_babs.1 rfl) (hX.ts am_babs.2.1 rfl) (hX.ts am_babs.2.2 rfl) hfr (by rw [am_wd_c]; omega) (by omega) (by omega) hd k1
      next => cases hs
    next =>
      split at hs
      next n dp a sp a0 r =>
        split at hs
        next hw =>
          have hs2 := am_at_some hs
          clear hs
          obtain ⟨n0, rs0, hp0, hs⟩ := hs2
          have hs2 := am_at_some hs
          clear hs
          obtain ⟨n1, rs1, hp1, hs⟩ := hs2
          split at hs
          next hg =>
            obtain ⟨g1, g2, g3, g4, g5⟩ := hg
            obtain ⟨rfl, rfl, rfl, rfl, rfl⟩ := am_go_some hs
            have hl := am_blt_ok hb (by decide)
            have k1 := am_k0 (h := h) (h' := (h.1, h.2.1, fun q => if q = a then va_cpy (h.2.2 a0) (h.2.2 a) sp.toNatClampNeg dp.toNatClampNeg n.toNatClampNeg else h.2.2 q)) rfl rfl kk
            have ha0 := am_pl (α := α) (zs := zs) hW.2.2.2 hp0
            have ha := am_pl (α := α) (zs := zs) hW.2.2.2 hp1
            have he0 := am_ws_at (α := α) (zs := zs) (κ := κ) hp0
            have he1 := am_ws_at (α := α) (zs := zs) (κ := κ) hp1
            have hw2 : am_ws α zs κ (h.1, h.2.1, fun q => if q = a then va_cpy (h.2.2 a0) (h.2.2 a) sp.toNatClampNeg dp.toNatClampNeg n.toNatClampNeg else h.2.2 q) = (am_ws α zs κ h).set a (α a, .inl (κ 1, n1, .inr (.inl (va_cpy (h.2.2 a0) (h.2.2 a) sp.toNatClampNeg dp.toNatClampNeg n.toNatClampNeg)))) := by
              rw [am_ws_upd (h' := (h.1, h.2.1, fun q => if q = a then va_cpy (h.2.2 a0) (h.2.2 a) sp.toNatClampNeg dp.toNatClampNeg n.toNatClampNeg else h.2.2 q)) (x' := (101, n1, rs1)) hp1 (fun j => by
                by_cases e : j = a
                · subst e; rw [if_pos rfl]; exact hp1
                · rw [if_neg e]) (fun j y hj => am_cell_congr rfl (if_neg hj)), am_cell_l]
              dsimp only
              rw [if_pos rfl]
            show W p l e R s m args below meth c H locs cells slots Q (F0 m pc ls (.int n :: .int dp :: .ref (am_ad α zs a) :: .int sp :: .ref (am_ad α zs a0) :: st'.map (am_c α zs)))
            rw [ha, ha0]
            have hnf : nativeFrameWords "java/lang/System" "arraycopy" 5 = 7 := by decide +kernel
            have hlo2 : ((st'.map (am_c α zs)).map fun v => v.category).sum + (nativeFrameWords "java/lang/System" "arraycopy" 5 + 11) ≤ R.locals := by rw [am_wd_c, hnf]; omega
            exact va_copyl hX.1 hX.2.1 hml hX.2.2.2.1 (hX.ts hl rfl) (hX.ts am_bcpy.1 rfl) (hX.ts am_bcpy.2.1 rfl) (hX.ts am_bcpy.2.2 rfl) hX.2.2.2.2.2.2.2.2.1 hW.1 hW.2.1 hW.2.2.1 a0 a 1 1 (by rw [he0, am_cell_l]) (by rw [he1, am_cell_l]) rfl rfl rfl g1 g2 g3 g4 g5 (fun _ _ => rfl) hfr hlo2 hd (fun H1 locs1 a1 a2 a3 => k1 H1 locs1 ls ⟨by rw [hw2]; exact a1, by rw [hw2]; exact a2, a3, hW.2.2.2⟩ hL)
          next => cases hs
        next => cases hs
      next => cases hs
    next => cases hs
theorem am_ok_invokestatic (Z : am_Z) (idx : Nat) : am_SOk Z (.invokestatic idx) := by
  intro p l e R s m args below meth c Q D κ zs α A d M pc len cells slots lv lv' st st' h h' pc' H locs ls hX hW hL hd hs hc hz kk
  replace hs : (match am_blt M.1 idx with
    | 0 => am_cl h M idx 1 len st
    | b => am_bi h d b len pc lv st) = some (Sum.inl (pc', lv', st', h')) := hs
  split at hs
  next => exact (am_cl_ne hs).elim
  next b hb => exact am_bi_ok hX hW hL hd rfl hs hc hz kk
theorem am_ok_invokevirtual (Z : am_Z) (idx : Nat) : am_SOk Z (.invokevirtual idx) := by
  intro p l e R s m args below meth c Q D κ zs α A d M pc len cells slots lv lv' st st' h h' pc' H locs ls hX hW hL hd hs hc hz kk
  replace hs : (am_cl h M idx 2 len st) = some (Sum.inl (pc', lv', st', h')) := hs
  exact (am_cl_ne hs).elim
theorem am_ok_invokespecial (Z : am_Z) (idx : Nat) : am_SOk Z (.invokespecial idx) := by
  intro p l e R s m args below meth c Q D κ zs α A d M pc len cells slots lv lv' st st' h h' pc' H locs ls hX hW hL hd hs hc hz kk
  replace hs : (match am_blt M.1 idx with
    | 0 => am_cl h M idx 0 len st
    | 5 => match (generalizing := false) d with
      | 0 => none
      | _ + 1 => am_a1 st fun _ r => if am_wd r ≤ 8 then am_go len 3 pc lv r h else none
    | _ => none) = some (Sum.inl (pc', lv', st', h')) := hs
  split at hs
  next => exact (am_cl_ne hs).elim
  next hb =>
    split at hs
    next => cases hs
    next d d0 =>
      have hs2 := am_a1_some hs
      clear hs
      obtain ⟨q, r, rfl, hs⟩ := hs2
      split at hs
      next hw =>
        have hl := am_blt_ok hb (by decide)
        have hfr : 1 ≤ R.frames := Nat.le_trans (Nat.succ_le_succ (Nat.zero_le _)) hX.2.2.2.2.2.2.2.2.2.2.2.2.1
        have hlo : 40 ≤ R.locals := Nat.le_trans (by omega) hX.2.2.2.2.2.2.2.2.2.2.2.2.2
        obtain ⟨rfl, rfl, rfl, rfl, rfl⟩ := am_go_some hs
        have k1 := am_k0 rfl rfl kk H locs ls hW hL
        refine W.objInit hX.1 hX.2.1 hX.2.2.2.1 (hX.ts hl rfl) (hX.ts am_bini.1 rfl) (hX.ts am_bini.2 rfl) rfl (hL.1.1.trans hX.2.2.1.symm) rfl hd hfr ?_ k1
        show 2 * 0 + ((st'.map (am_c α zs)).map fun v => v.category).sum + 12 ≤ R.locals
        rw [am_wd_c]
        omega
      next => cases hs
  next => cases hs
