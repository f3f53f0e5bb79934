/-! ===== the runs, by their fuel ===== -/
theorem am_met {Z : am_Z} {n : Nat} (IH : am_SD Z n) {d k : Nat} {N : am_M} {as : List Value} {h : am_H} {r : Option Value} {h' : am_H} (hrun : am_run Z n d N (0, am_ent N as, [], h) = some (r, h')) (hN : am_MOk N k) (hlen : (am_esl as).length ≤ N.2.2.2.1) (l : Launch) (D : va_G) (κ zs α : Nat → Nat) (sz : Nat) :
    Met l N.2.1 (am_wds N) (am_rm d (am_n h' - am_n h) (am_z h' - am_z h)) (am_Pre Z D κ zs α sz h as) (am_Post D κ zs α (va_A (am_ws α zs κ h) sz) h h' r) (am_n h' - am_n h) (am_z h' - am_z h) (va_A (am_ws α zs κ h) sz) := by
  obtain ⟨hp1, hcls, -⟩ := hN
  refine Met.ofW (cc := N.2.2.1) (maxL := N.2.2.2.1) (ret := N.2.2.2.2) (ws' := am_tw) hp1 rfl ?_
  intro p e s m args below meth c s₁ B hml hv
  obtain ⟨rfl, hsz, hP, hK, hD0, hwf, hNs, hAO, hZx, hZz⟩ := hv
  subst hsz
  have hx := B.exec
  have hb := B.bytes
  have hr := B.returns
  have hts := atoms_spec (ws := am_wds N) B.pre
  have hown : s.vm.findClass (am_cn N.1) = some m.cls := by rw [← hcls]; exact findClass_of_methodNamed B.named
  have hlocks := B.notSynchronized
  have hin : N.2.1.name = "<init>" → meth.name = "<init>" := fun z => (name_of_methodNamed B.named B.method).1.trans z
  rw [lg_entry_eq]
  have hhas := am_ent_has (α := α) (zs := zs) hlen
  have X : am_X Z D κ zs (va_A (am_ws α zs κ h) s.heap.size) p (headSpec (am_wds N) (am_rm d (am_n h' - am_n h) (am_z h' - am_z h))).room s m (as.map (am_c α zs)).toArray meth c d N :=
    ⟨hx, hb, hml, hown, fun w hw => hts w (List.mem_cons_of_mem _ hw), hNs, hAO, hin, hK, fun q hq => Or.inr hq, hZx, hZz, Nat.le_refl _, Nat.le_refl _⟩
  refine (IH d N 0 (am_ent N as) [] h r h' hrun).2.2 p l e _ s m _ below meth c _ D κ zs α _ 0 0 s.heap [] _ X ⟨hP, hD0.self, va_S.rf, hwf⟩ hhas (by rw [Nat.zero_add]; exact Nat.le_refl _) (by rw [Nat.zero_add]; exact Nat.le_refl _) ?_
  intro α' H' locs' ls' pc' st' hret hag heq hw
  rw [Nat.zero_add, Nat.zero_add]
  rcases hret with ⟨v, ty, hd, rfl, rfl, hty, hnar⟩ | ⟨v, hd, rfl, rfl, hty⟩ | ⟨v, nm, hd, rfl, rfl, hv, hty⟩ | ⟨hd, rfl, rfl, hty⟩
  · exact W.zret hx hb (hr.trans hty) hnar (fun t ht hW => ⟨⟨α', rfl, hag, heq, by rw [ht]; exact hw.1, hw.2.1, hw.2.2.2⟩, hw.2.2.1.F ht⟩) hw.2.2.1.2.2 hd
  · exact W.lret hx hb (hr.trans hty) (fun t ht hW => ⟨⟨α', rfl, hag, heq, by rw [ht]; exact hw.1, hw.2.1, hw.2.2.2⟩, hw.2.2.1.F ht⟩) hw.2.2.1.2.2 hd
  · rcases hv with ⟨a, rfl⟩ | rfl
    · exact W.aret (v := .ref (am_ad α' zs a)) hx hb (hr.trans hty) (Or.inl ⟨nm, rfl⟩) (Or.inr ⟨_, rfl⟩) (fun t ht hW => ⟨⟨α', rfl, hag, heq, by rw [ht]; exact hw.1, hw.2.1, hw.2.2.2⟩, hw.2.2.1.F ht⟩) hw.2.2.1.2.2 hd
    · exact W.aret (v := .null) hx hb (hr.trans hty) (Or.inl ⟨nm, rfl⟩) (Or.inl rfl) (fun t ht hW => ⟨⟨α', rfl, hag, heq, by rw [ht]; exact hw.1, hw.2.1, hw.2.2.2⟩, hw.2.2.1.F ht⟩) hw.2.2.1.2.2 hd
  · exact W.vret hx hb (hr.trans hty) (fun t ht hW => ⟨⟨α', rfl, hag, heq, by rw [ht]; exact hw.1, hw.2.1, hw.2.2.2⟩, hw.2.2.1.F ht⟩) hw.2.2.1.2.2 hd
theorem am_sub {D : va_G} {κ zs α : Nat → Nat} {A : Nat → Prop} {s : State} {h : am_H} {H : Heap} {locs : List Loc} (hW : am_W D κ zs α A s h H locs) (hA : ∀ q, s.heap.size ≤ q → A q) : ∀ q, va_A (am_ws α zs κ h) H.size q → A q := by
  intro q hq
  rcases hq with ⟨k, e, hk⟩ | hq
  · exact hW.2.1.2 k (q, e) hk
  · exact hA q (Nat.le_trans hW.2.2.1.1 hq)
theorem am_pre_at {Z : am_Z} {D : va_G} {κ zs α : Nat → Nat} {A : Nat → Prop} {p : Program} {R : Room} {s : State} {m : MethodId} {args : Array Value} {meth : Method} {c : Code} {d : Nat} {M : am_M} {h : am_H} {H : Heap} {locs : List Loc} (X : am_X Z D κ zs A p R s m args meth c d M) (hW : am_W D κ zs α A s h H locs) (as : List Value) (U : State) (hU : U.heap = H) (hU2 : s.WarmedH U.vm) : am_Pre Z D κ zs α H.size h as (as.map (am_c α zs)).toArray U := by
  obtain ⟨-, -, -, -, -, hNs, hAO, -, hK, hA, hZx, hZz, -, -⟩ := X
  have hsub := am_sub hW hA
  refine ⟨rfl, by rw [hU], by rw [hU]; exact hW.1, va_K.moved hU2.alike hK, hW.2.1.weaken (fun _ _ _ _ => trivial), hW.2.2.2, am_Nst_moved hU2 hNs, va_AO.moved hU2.alike hAO, fun j z hj hz => ?_, fun j hj => ?_⟩
  · rw [hU]
    exact va_T.moved hU2.alike (((hZx j z hj hz).kept (fun a h1 h2 => hW.2.2.1.2.1 a h1 h2)).narrow hsub)
  · rw [hU]
    exact va_Z.moved hU2.alike (((hZz j hj).kept (fun a h1 h2 => hW.2.2.1.2.1 a h1 h2)).narrow hsub)
theorem am_gd {w : Jvm.Cond} (h : w ∈ am_tw) : w ∈ am_tw ∧ ((w.onTables && w.keeps) = true ∨ ∃ ty, w = .arrayClass ty) := ⟨h, am_tw_good h⟩
theorem am_gws {N : am_M} {k : Nat} (hN : am_MOk N k) : GoodIn am_tw (am_wds N) := by
  intro w hw
  rcases List.mem_cons.mp hw with rfl | hw
  · exact am_gd hN.2.2.2.2.2.2
  · exact am_gd hw
/-- behind a call -/
theorem am_after {Z : am_Z} {n : Nat} (ih : am_SD Z n) {d : Nat} {M : am_M} {pc : Nat} {lv : am_LV} {h h1 h' : am_H} {r r1 : Option Value} {rest : List Value} (hrun : am_run Z n d M (pc + 3, lv, r1.toList ++ rest, h1) = some (r, h')) (hmo : am_n h ≤ am_n h1 ∧ am_z h ≤ am_z h1) (hfr : h1.1.length = h.1.length ∨ am_fresh h.1.length lv rest = true)
  {p : Program} {l : Launch} {e : Env} {R : Room} {s : State} {m : MethodId} {args : Array Value} {below : List Frame} {meth : Method} {c : Code} {Q : State → Prop} {D : va_G} {κ zs α : Nat → Nat} {A : Nat → Prop} {cells slots : Nat} {H : Heap} {locs : List Loc} {ls : Array Slot} {st0 : List Value}
  (X : am_X Z D κ zs A p R s m args meth c d M) (hW : am_W D κ zs α A s h H locs) (hL : am_has α zs ls M lv) (hc : cells + (am_n h' - am_n h) ≤ R.cells) (hz : slots + (am_z h' - am_z h) ≤ R.slots)
  (hend : ∀ (α' : Nat → Nat) (H' : Heap) (locs' : List Loc) (ls' : Array Slot) (pc' : Nat) (st' : List Value), am_Ret M pc' r st' → (∀ k, k < am_n h → α' k = α k) → (am_n h' = am_n h → α' = α) → am_W D κ zs α' A s h' H' locs' → W p l e R s m args below meth c H' locs' (cells + (am_n h' - am_n h)) (slots + (am_z h' - am_z h)) Q (F0 m pc' ls' (st'.map (am_c α' zs))))
  (hr : va_Run p l e R s m args below meth c H locs cells slots (am_n h1 - am_n h) (am_z h1 - am_z h) (F0 m pc ls st0) (rest.map (am_c α zs)) (fun st oc t => am_Pst D κ zs α (va_A (am_ws α zs κ h) H.size) h h1 r1 oc t ∧ va_F (va_A (am_ws α zs κ h) H.size) st t) (va_A (am_ws α zs κ h) H.size)) :
  W p l e R s m args below meth c H locs cells slots Q (F0 m pc ls st0) := by
  obtain ⟨m1, m2, hk⟩ := ih d M (pc + 3) lv (r1.toList ++ rest) h1 r h' hrun
  have hA := X.2.2.2.2.2.2.2.2.2.1
  have hsub := am_sub hW hA
  refine am_callq hr hW.2.2.1 (fun q _ z => hsub q z) hsub (fun v t H1 locs1 ht hp hS1 => ?_)
  obtain ⟨α1, hv, ag1, eq1, hP1, hD1, hwf1⟩ := hp
  cases hv
  have hfc : am_al α1 zs lv = am_al α zs lv ∧ rest.map (am_c α1 zs) = rest.map (am_c α zs) := by
    rcases hfr with hf | hf
    · have := eq1 hf
      subst this
      exact ⟨rfl, rfl⟩
    · exact am_fresh_c ag1 hf
  have est : (r1.map (am_c α1 zs)).toList ++ rest.map (am_c α zs) = (r1.toList ++ rest).map (am_c α1 zs) := by
    rw [List.map_append, hfc.2]
    cases r1 <;> rfl
  rw [est]
  refine hk p l e R s m args below meth c Q D κ zs α1 A (cells + (am_n h1 - am_n h)) (slots + (am_z h1 - am_z h)) H1 locs1 ls X ⟨by rw [← ht]; exact hP1, hD1.weaken (fun k q _ z => hsub q.1 z), hS1, hwf1⟩ ⟨by rw [hfc.1]; exact hL.1, hL.2⟩ (by have := hmo.1; omega) (by have := hmo.2; omega) ?_
  intro α' H' locs' ls' pc' st' hret ag2 eq2 hW'
  have k2 := hend α' H' locs' ls' pc' st' hret (fun k hk => (ag2 k (Nat.lt_of_lt_of_le hk hmo.1)).trans (ag1 k hk)) (fun z => by
    have z1 : am_n h1 = am_n h := by have := hmo.1; omega
    rw [eq2 (by omega), eq1 z1]) hW'
  have e1 : cells + (am_n h1 - am_n h) + (am_n h' - am_n h1) = cells + (am_n h' - am_n h) := by have := hmo.1; omega
  have e2 : slots + (am_z h1 - am_z h) + (am_z h' - am_z h1) = slots + (am_z h' - am_z h) := by have := hmo.2; omega
  rw [e1, e2]
  exact k2
set_option maxHeartbeats 2000000 in
theorem am_call {Z : am_Z} {n : Nat} (ih : am_SD Z n) {d : Nat} {M N : am_M} {pc len : Nat} {lv : am_LV} {st as rest : List Value} {i : Jvm.ClassFile.Instr} {h h1 h' : am_H} {r r1 : Option Value} (hdec : decode M.2.2.1 pc = .ok (i, len)) (hcq : am_cq h M st i len = some (N, as, rest)) (hal : (am_esl as).length ≤ N.2.2.2.1)
  (hcal : am_run Z n d N (0, am_ent N as, [], h) = some (r1, h1)) (hfr : h1.1.length = h.1.length ∨ am_fresh h.1.length lv rest = true) (hrun : am_run Z n (d + 1) M (pc + 3, lv, r1.toList ++ rest, h1) = some (r, h'))
  {p : Program} {l : Launch} {e : Env} {R : Room} {s : State} {m : MethodId} {args : Array Value} {below : List Frame} {meth : Method} {c : Code} {Q : State → Prop} {D : va_G} {κ zs α : Nat → Nat} {A : Nat → Prop} {cells slots : Nat} {H : Heap} {locs : List Loc} {ls : Array Slot}
  (X : am_X Z D κ zs A p R s m args meth c (d + 1) M) (hW : am_W D κ zs α A s h H locs) (hL : am_has α zs ls M lv) (hc : cells + (am_n h' - am_n h) ≤ R.cells) (hz : slots + (am_z h' - am_z h) ≤ R.slots)
  (hend : ∀ (α' : Nat → Nat) (H' : Heap) (locs' : List Loc) (ls' : Array Slot) (pc' : Nat) (st' : List Value), am_Ret M pc' r st' → (∀ k, k < am_n h → α' k = α k) → (am_n h' = am_n h → α' = α) → am_W D κ zs α' A s h' H' locs' → W p l e R s m args below meth c H' locs' (cells + (am_n h' - am_n h)) (slots + (am_z h' - am_z h)) Q (F0 m pc' ls' (st'.map (am_c α' zs)))) :
  W p l e R s m args below meth c H locs cells slots Q (F0 m pc ls (st.map (am_c α zs))) := by
  have mo1 := ih d N 0 (am_ent N as) [] h r1 h1 hcal
  have mo2 := ih (d + 1) M (pc + 3) lv (r1.toList ++ rest) h1 r h' hrun
  have hmo : am_n h ≤ am_n h1 ∧ am_z h ≤ am_z h1 := ⟨mo1.1, mo1.2.1⟩
  have q1 := mo2.1
  have q2 := mo2.2.1
  have hfit : cells + (am_n h1 - am_n h) ≤ R.cells ∧ slots + (am_z h1 - am_z h) ≤ R.slots := ⟨by omega, by omega⟩
  have hx := X.1
  have hb := X.2.1
  have hml := X.2.2.1
  have hown := X.2.2.2.1
  have hts := X.2.2.2.2.1
  have hNs := X.2.2.2.2.2.1
  have hK := X.2.2.2.2.2.2.2.2.1
  have hfrm := X.2.2.2.2.2.2.2.2.2.2.2.2.1
  have hlcl := X.2.2.2.2.2.2.2.2.2.2.2.2.2
  have hfix : CallFix p m c M.2.2.1 M.2.2.2.1 s args am_tw (am_cn M.1) := ⟨hx, hb, hml, hown, hts⟩
  have body : ∀ kd idx, am_cl h M idx kd len st = some (.inr (.inr (N, as, rest))) → ((kd = 2 ∧ i = .invokevirtual idx) ∨ (kd = 1 ∧ i = .invokestatic idx) ∨ (kd = 0 ∧ i = .invokespecial idx)) → W p l e R s m args below meth c H locs cells slots Q (F0 m pc ls (st.map (am_c α zs))) := by
    intro kd idx hcl hi
    obtain ⟨na, k, hsite, rfl, rfl, hwd, av, hav, hcase⟩ := am_cl_some hcl
    obtain ⟨hML, hMOk, hkd⟩ := am_site_ok hsite
    have hmet := am_met ih hcal hMOk hal l D κ zs α H.size
    have hG := am_gws hMOk
    obtain ⟨-, hcls, ⟨hy1, hy2⟩, hpar, hmax, hini, hcode⟩ := hMOk
    have hR : (am_rm d (am_n h1 - am_n h) (am_z h1 - am_z h)).frames + 1 ≤ R.frames ∧ 8 + (N.2.2.2.1 + 11) + (am_rm d (am_n h1 - am_n h) (am_z h1 - am_z h)).locals ≤ R.locals := ⟨hfrm, by show 8 + (N.2.2.2.1 + 11) + 40 * d ≤ R.locals; omega⟩
    have hini2 : (Cond.initialized N.2.1.cls).before args s = true := by rw [hcls]; exact X.ts hini rfl
    have hroom : 2 * (F0 m pc ls (st.map (am_c α zs))).monitorRoom + ((rest.map (am_c α zs)).map fun v => v.category).sum ≤ 8 := lv_room (by rw [am_wd_c]; exact hwd)
    have hpre : ∀ U : State, U.heap = H → s.WarmedH U.vm → am_Pre Z D κ zs α H.size h as (as.map (am_c α zs)).toArray U := am_pre_at X hW as
    have hlen : (av.map (am_c α zs)).length = na := by rw [List.length_map]; exact hav
    rcases hi with ⟨rfl, rfl⟩ | ⟨rfl, rfl⟩ | ⟨rfl, rfl⟩
    · rcases hcase with ⟨z, -⟩ | ⟨-, p1, rfl, rfl, hcel⟩
      · cases z
      obtain ⟨hci, hinst, hsel⟩ := hkd
      obtain ⟨mm, rs, hp⟩ := hcel (by decide)
      have ha := am_pl (α := α) (zs := zs) hW.2.2.2 hp
      have he := am_ws_at (α := α) (zs := zs) (κ := κ) hp
      rw [am_cell_obj hci] at he
      have hrec := va_recv hK hW.1 (am_clok hci) he
      have hst : (av.reverse ++ Value.ref p1 :: rest).map (am_c α zs) = (av.map (am_c α zs)).reverse ++ .ref (α p1) :: rest.map (am_c α zs) := by
        rw [List.map_append, List.map_reverse, List.map_cons]
        show _ ++ Value.ref (am_ad α zs p1) :: _ = _
        rw [ha]
      have hpv : PreV s H N.2.1.cls (α p1) (am_Pre Z D κ zs α H.size h (Value.ref p1 :: av)) (av.map (am_c α zs)) := by
        refine ⟨am_blind, by rw [hcls]; exact hrec, fun U hU hU2 => ?_⟩
        have := hpre U hU hU2
        rw [List.map_cons] at this
        rw [← ha]
        exact this
      have hsel2 : (Cond.selects N.2.1.cls N.2.1 N.2.1).before args s = true := hts _ hsel
      refine am_after ih hrun hmo hfr X hW hL hc hz hend ?_
      rcases hML with hl | hl
      · have cw := cwV (own := am_cn M.1) (index := idx) (y := N.2.1) (C := N.2.1.cls) (ws := am_wds N) (bytes := N.2.2.1) (maxL := N.2.2.2.1) (ret := N.2.2.2.2) (R := R) (rm := am_rm d (am_n h1 - am_n h) (am_z h1 - am_z h)) na hts (fun w hw => by
            rcases List.mem_append.mp hw with hw | hw
            · simp only [List.mem_cons, List.not_mem_nil, or_false] at hw
              rcases hw with rfl | rfl | rfl | rfl
              · exact am_gd (am_in hl rfl)
              · exact am_gd hinst
              · exact am_gd hsel
              · rw [hcls]; exact am_gd (am_in hini rfl)
            · exact hG w hw) rfl rfl rfl ⟨rfl, hy1, hy2, hpar⟩ hR
        exact va_runV hfix hmet cw hpv rfl hlen hL.1.1 hst hroom hdec hfit
      · have cw := va_cnB (own := am_cn M.1) (host := "ShadeVotes") (index := idx) (y := N.2.1) (bytes := N.2.2.1) (ret := N.2.2.2.2) (maxL := N.2.2.2.1) (R := R) (rm := am_rm d (am_n h1 - am_n h) (am_z h1 - am_z h)) (ws := am_wds N) na hts hG rfl rfl rfl (hNs _ hl rfl) hini2 ⟨hy1, hy2, hpar⟩ hR
        exact va_runVN hfix hmet ⟨cw, hts _ hinst, hsel2⟩ hpv rfl hlen hL.1.1 hst hroom hdec hfit
    · obtain ⟨rfl, rfl⟩ : as = av ∧ st = av.reverse ++ rest := by
        rcases hcase with ⟨-, e1, e2⟩ | ⟨z, -⟩
        · exact ⟨e1, e2⟩
        · exact absurd rfl z
      have hst : (as.reverse ++ rest).map (am_c α zs) = (as.map (am_c α zs)).reverse ++ rest.map (am_c α zs) := by
        rw [List.map_append, List.map_reverse]
      have hps : PreS s H (am_Pre Z D κ zs α H.size h as) (as.map (am_c α zs)) := ⟨am_blind, hpre⟩
      have hkd : Cond.static N.2.1 ∈ am_tw := hkd
      refine am_after ih hrun hmo hfr X hW hL hc hz hend ?_
      rcases hML with hl | hl
      · have cw := va_cwS (own := am_cn M.1) (index := idx) (y := N.2.1) (ws := am_wds N) (bytes := N.2.2.1) (maxL := N.2.2.2.1) (ret := N.2.2.2.2) (R := R) (rm := am_rm d (am_n h1 - am_n h) (am_z h1 - am_z h)) na hts (fun w hw => by
            rcases List.mem_append.mp hw with hw | hw
            · simp only [List.mem_cons, List.not_mem_nil, or_false] at hw
              rcases hw with rfl | rfl | rfl
              · exact am_gd (am_in hl rfl)
              · exact am_gd hkd
              · rw [hcls]; exact am_gd (am_in hini rfl)
            · exact hG w hw) rfl rfl rfl ⟨hy1, hy2, hpar⟩ hR
        exact va_runS hfix hmet cw hps rfl hlen hL.1.1 hst hroom hdec hfit
      · have cw := va_cnB (own := am_cn M.1) (host := "ShadeVotes") (index := idx) (y := N.2.1) (bytes := N.2.2.1) (ret := N.2.2.2.2) (maxL := N.2.2.2.1) (R := R) (rm := am_rm d (am_n h1 - am_n h) (am_z h1 - am_z h)) (ws := am_wds N) na hts hG rfl rfl rfl (hNs _ hl rfl) hini2 ⟨hy1, hy2, hpar⟩ hR
        exact va_runSN hfix hmet ⟨cw, hts _ hkd, trivial⟩ hps rfl hlen hL.1.1 hst hroom hdec hfit
    · rcases hcase with ⟨z, -⟩ | ⟨-, p1, rfl, rfl, -⟩
      · cases z
      obtain ⟨hnm, hinst, hret⟩ := hkd
      have hst : (av.reverse ++ Value.ref p1 :: rest).map (am_c α zs) = (av.map (am_c α zs)).reverse ++ .ref (am_ad α zs p1) :: rest.map (am_c α zs) := by
        rw [List.map_append, List.map_reverse, List.map_cons]
        rfl
      have hps : PreS s H (am_Pre Z D κ zs α H.size h (Value.ref p1 :: av)) (.ref (am_ad α zs p1) :: av.map (am_c α zs)) := ⟨am_blind, hpre⟩
      refine am_after ih hrun hmo hfr X hW hL hc hz hend ?_
      have hwn : am_wds N = Cond.code N.2.1 N.2.2.1 N.2.2.2.1 none :: am_tw := by unfold am_wds; rw [hret]
      rcases hML with hl | hl
      · have cw := cwI (own := am_cn M.1) (index := idx) (y := N.2.1) (ws := am_wds N) (bytes := N.2.2.1) (maxL := N.2.2.2.1) (R := R) (rm := am_rm d (am_n h1 - am_n h) (am_z h1 - am_z h)) na hts hG hwn rfl rfl hini2 (X.ts hl rfl) (hts _ hinst) hnm ⟨hy1, hy2, hpar⟩ hR
        exact va_runI hfix hmet cw hps rfl hlen hL.1.1 hst hroom hdec hfit
      · have cw := va_cnB (own := am_cn M.1) (host := "ShadeVotes") (index := idx) (y := N.2.1) (bytes := N.2.2.1) (ret := none) (maxL := N.2.2.2.1) (R := R) (rm := am_rm d (am_n h1 - am_n h) (am_z h1 - am_z h)) (ws := am_wds N) na hts hG hwn rfl rfl (hNs _ hl rfl) hini2 ⟨hy1, hy2, hpar⟩ hR
        exact va_runIN hfix hmet ⟨cw, hnm, hts _ hinst⟩ hps rfl hlen hL.1.1 hst hroom hdec hfit
  unfold am_cq at hcq
  split at hcq
  next idx => exact body 2 idx (am_cx_some hcq) (Or.inl ⟨rfl, rfl⟩)
  next idx => exact body 1 idx (am_cx_some hcq) (Or.inr (Or.inl ⟨rfl, rfl⟩))
  next idx => exact body 0 idx (am_cx_some hcq) (Or.inr (Or.inr ⟨rfl, rfl⟩))
  next => cases hcq
