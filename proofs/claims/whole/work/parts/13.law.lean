def R_law : String := "ShadeVotesLaw"
def lw_P (b : Addr) (xs : List Int32) (args : Array Value) (s : State) : Prop := args = #[.ref b] ∧ s.IntsAt b xs ∧ xs.length ≤ 3072 ∧ (Jvm.Cond.and given_1 narrow_1).before args s = true
def lw_Q (_ : Array Value) (s : State) (o : Outcome) (t : State) : Prop := o = .returned (some (.int 1)) ∧ Framed s o t [] 600000 7302250
def lw_Z (below : List Frame) (a : Array Value) (s : State) : State → Prop := fun t => ∃ o, t.status = .running ∧ Ended t below o ∧ lw_Q a s o t
/-- the law's own end, with 1 on the stack, nothing written that was there before, its room as the claim has it -/
theorem lw_ret {p : Program} {l : Launch} {e : Env} {s : State} {m : MethodId} {below : List Frame} {meth : Method} {c : Code} {b : Nat} (hx : p.tables.exec = Jvm.exec) (hb : c.code = code) (hr : meth.sig.returnType = ret) (hlocks : meth.locks = false) {pc : Nat} {H : Heap} {ls : Array Slot} (hdg : decode code pc = .ok (.ireturn, 1)) : W p l e room_1 s m #[Value.ref b] below meth c H [] 600000 7302250 (lw_Z below #[Value.ref b] s) (F0 m pc ls [.int 1]) := by
  intro T hT X
  obtain ⟨fs, hret, hrun, hended, hW, hframe⟩ := X.leave (v := some (.int 1)) (hlocks := hlocks) (fun h => by rw [hr] at h; cases h)
  have hmeth' : T.vm.method? m = some meth := X.method'
  refine ⟨T.setFrames fs, ?_, .returned (some (.int 1)), hrun, hended, rfl, ⟨_, rfl⟩, hW, hframe⟩
  jvm_step X.here [X.here.top, hx, hb, hdg, hmeth', hr, ret, narrow_b1]
  (try refine ⟨rfl, ?_⟩); (try refine ⟨rfl, ?_⟩)
  first | (intro acts; rw [hret _ acts rfl rfl rfl]) | rw [hret _ _ rfl rfl rfl]
  exact Steps.refl _
/-- what holds at the law's entry: the machine, the code, the tables' words (any of lw_tbl by 'hts w (by decide +kernel)'), the script of L ints xs at the cell b, what the Statement gives of the start (any of its parts by flat_of_before) -/
def lw_At (p : Program) (s : State) (m : MethodId) (meth : Method) (c : Code) (b L : Nat) (xs : Nat → Int32) : Prop :=
  p.tables.exec = Jvm.exec ∧ c.code = code ∧ meth.sig.returnType = ret ∧ c.maxLocals = 4 ∧ s.vm.findClass R_law = some m.cls ∧ (∀ w ∈ lw_tbl, w.before #[Value.ref b] s = true) ∧ va_X b L xs s s.heap ∧ b < s.heap.size ∧ meth.locks = false ∧ (Jvm.Cond.and given_1 narrow_1).before #[Value.ref b] s = true

/-- what the static tables hold -/
def am_zt : Nat → List Int32 := fun j => match j with
  | 0 => [9, 8, 6, 4, 3, 2, 2, 3, 4, 6, 8, 9]
  | 1 => [0, 1, 0, 0, 0, 0, 0]
  | 2 => [255, 9, 3, 9, 255, 63, 3]
  | 3 => [-1, 0, 0, 2, 1, 3, 0, 4]
  | _ => [1, 10, 11, 2, 20, 0, 0, 0, 0, 30, 0, 0, 0, 41, 40, 0, 0, 0, 50, 0, 0, 0, 0, 60, 70, 0, 0, 0, 0, 80, 0, 81]
def am_Z0 : am_Z := fun j => if j < 5 then some ((am_zt j).length, fun i => (am_zt j).getD i 0) else none
def am_Zl (L : Nat) (xs : Nat → Int32) : am_Z := fun j => if j < 5 then some ((am_zt j).length, fun i => (am_zt j).getD i 0) else some (L, xs)
def am_h0 : am_H := ([], fun _ _ => 0, fun _ _ => 0)
set_option maxRecDepth 100000 in
theorem am_fl0 : ∀ j, j < 12 → Cond.eq (.elem (.static "ShadeVotes$Land" "LOW_AT_FIRST" "[I") (.int (Int32.ofNat j))) (.int ((am_zt 0).getD j 0)) ∈ flatC (Jvm.Cond.and given_1 narrow_1) := by decide +kernel
set_option maxRecDepth 100000 in
theorem am_stt0 {b : Nat} {s : State} {A : Nat → Prop} (hgv : (Jvm.Cond.and given_1 narrow_1).before #[Value.ref b] s = true) (hts : ∀ w ∈ lw_tbl, w.before #[Value.ref b] s = true) (hA : ∀ a : Nat, a < s.heap.size → ¬ A a) : ∃ t : Nat, va_Z (am_sn 0).1 (am_sn 0).2.1 (am_sn 0).2.2 (.ref t) A s s.heap ∧ va_T .int t 12 (fun i => .int ((am_zt 0).getD i 0)) A s s.heap := by
  have hs := flat_of_before _ hgv
  obtain ⟨t, ht, hT⟩ := va_Tof (tm := (.static "ShadeVotes$Land" "LOW_AT_FIRST" "[I")) (ty := .int) (N := 12) (f := fun i => .int ((am_zt 0).getD i 0)) (by decide) (hs _ (by decide +kernel)) (va_eqt (hs (Cond.eq (.length (.static "ShadeVotes$Land" "LOW_AT_FIRST" "[I")) (.int 12)) (by decide +kernel))) (fun j hj => va_eqt (hs _ (am_fl0 j hj))) hA
  exact ⟨t, va_Zref (hts _ (am_lst (by decide)).1) (hts _ (am_lst (by decide)).2) ht hA, hT⟩
set_option maxRecDepth 100000 in
theorem am_fl1 : ∀ j, j < 7 → Cond.eq (.elem (.static "ShadeVotes$Land" "LEAST" "[I") (.int (Int32.ofNat j))) (.int ((am_zt 1).getD j 0)) ∈ flatC (Jvm.Cond.and given_1 narrow_1) := by decide +kernel
set_option maxRecDepth 100000 in
theorem am_stt1 {b : Nat} {s : State} {A : Nat → Prop} (hgv : (Jvm.Cond.and given_1 narrow_1).before #[Value.ref b] s = true) (hts : ∀ w ∈ lw_tbl, w.before #[Value.ref b] s = true) (hA : ∀ a : Nat, a < s.heap.size → ¬ A a) : ∃ t : Nat, va_Z (am_sn 1).1 (am_sn 1).2.1 (am_sn 1).2.2 (.ref t) A s s.heap ∧ va_T .int t 7 (fun i => .int ((am_zt 1).getD i 0)) A s s.heap := by
  have hs := flat_of_before _ hgv
  obtain ⟨t, ht, hT⟩ := va_Tof (tm := (.static "ShadeVotes$Land" "LEAST" "[I")) (ty := .int) (N := 7) (f := fun i => .int ((am_zt 1).getD i 0)) (by decide) (hs _ (by decide +kernel)) (va_eqt (hs (Cond.eq (.length (.static "ShadeVotes$Land" "LEAST" "[I")) (.int 7)) (by decide +kernel))) (fun j hj => va_eqt (hs _ (am_fl1 j hj))) hA
  exact ⟨t, va_Zref (hts _ (am_lst (by decide)).1) (hts _ (am_lst (by decide)).2) ht hA, hT⟩
set_option maxRecDepth 100000 in
theorem am_fl2 : ∀ j, j < 7 → Cond.eq (.elem (.static "ShadeVotes$Land" "MOST" "[I") (.int (Int32.ofNat j))) (.int ((am_zt 2).getD j 0)) ∈ flatC (Jvm.Cond.and given_1 narrow_1) := by decide +kernel
set_option maxRecDepth 100000 in
theorem am_stt2 {b : Nat} {s : State} {A : Nat → Prop} (hgv : (Jvm.Cond.and given_1 narrow_1).before #[Value.ref b] s = true) (hts : ∀ w ∈ lw_tbl, w.before #[Value.ref b] s = true) (hA : ∀ a : Nat, a < s.heap.size → ¬ A a) : ∃ t : Nat, va_Z (am_sn 2).1 (am_sn 2).2.1 (am_sn 2).2.2 (.ref t) A s s.heap ∧ va_T .int t 7 (fun i => .int ((am_zt 2).getD i 0)) A s s.heap := by
  have hs := flat_of_before _ hgv
  obtain ⟨t, ht, hT⟩ := va_Tof (tm := (.static "ShadeVotes$Land" "MOST" "[I")) (ty := .int) (N := 7) (f := fun i => .int ((am_zt 2).getD i 0)) (by decide) (hs _ (by decide +kernel)) (va_eqt (hs (Cond.eq (.length (.static "ShadeVotes$Land" "MOST" "[I")) (.int 7)) (by decide +kernel))) (fun j hj => va_eqt (hs _ (am_fl2 j hj))) hA
  exact ⟨t, va_Zref (hts _ (am_lst (by decide)).1) (hts _ (am_lst (by decide)).2) ht hA, hT⟩
set_option maxRecDepth 100000 in
theorem am_fl3 : ∀ j, j < 8 → Cond.eq (.elem (.static "ShadeVotes$Voters" "ABOVE" "[I") (.int (Int32.ofNat j))) (.int ((am_zt 3).getD j 0)) ∈ flatC (Jvm.Cond.and given_1 narrow_1) := by decide +kernel
set_option maxRecDepth 100000 in
theorem am_stt3 {b : Nat} {s : State} {A : Nat → Prop} (hgv : (Jvm.Cond.and given_1 narrow_1).before #[Value.ref b] s = true) (hts : ∀ w ∈ lw_tbl, w.before #[Value.ref b] s = true) (hA : ∀ a : Nat, a < s.heap.size → ¬ A a) : ∃ t : Nat, va_Z (am_sn 3).1 (am_sn 3).2.1 (am_sn 3).2.2 (.ref t) A s s.heap ∧ va_T .int t 8 (fun i => .int ((am_zt 3).getD i 0)) A s s.heap := by
  have hs := flat_of_before _ hgv
  obtain ⟨t, ht, hT⟩ := va_Tof (tm := (.static "ShadeVotes$Voters" "ABOVE" "[I")) (ty := .int) (N := 8) (f := fun i => .int ((am_zt 3).getD i 0)) (by decide) (hs _ (by decide +kernel)) (va_eqt (hs (Cond.eq (.length (.static "ShadeVotes$Voters" "ABOVE" "[I")) (.int 8)) (by decide +kernel))) (fun j hj => va_eqt (hs _ (am_fl3 j hj))) hA
  exact ⟨t, va_Zref (hts _ (am_lst (by decide)).1) (hts _ (am_lst (by decide)).2) ht hA, hT⟩
set_option maxRecDepth 100000 in
theorem am_fl4 : ∀ j, j < 32 → Cond.eq (.elem (.static "ShadeVotes$Voters" "OWN" "[I") (.int (Int32.ofNat j))) (.int ((am_zt 4).getD j 0)) ∈ flatC (Jvm.Cond.and given_1 narrow_1) := by decide +kernel
set_option maxRecDepth 100000 in
theorem am_stt4 {b : Nat} {s : State} {A : Nat → Prop} (hgv : (Jvm.Cond.and given_1 narrow_1).before #[Value.ref b] s = true) (hts : ∀ w ∈ lw_tbl, w.before #[Value.ref b] s = true) (hA : ∀ a : Nat, a < s.heap.size → ¬ A a) : ∃ t : Nat, va_Z (am_sn 4).1 (am_sn 4).2.1 (am_sn 4).2.2 (.ref t) A s s.heap ∧ va_T .int t 32 (fun i => .int ((am_zt 4).getD i 0)) A s s.heap := by
  have hs := flat_of_before _ hgv
  obtain ⟨t, ht, hT⟩ := va_Tof (tm := (.static "ShadeVotes$Voters" "OWN" "[I")) (ty := .int) (N := 32) (f := fun i => .int ((am_zt 4).getD i 0)) (by decide) (hs _ (by decide +kernel)) (va_eqt (hs (Cond.eq (.length (.static "ShadeVotes$Voters" "OWN" "[I")) (.int 32)) (by decide +kernel))) (fun j hj => va_eqt (hs _ (am_fl4 j hj))) hA
  exact ⟨t, va_Zref (hts _ (am_lst (by decide)).1) (hts _ (am_lst (by decide)).2) ht hA, hT⟩
theorem am_kis {s : State} {args : Array Value} (h : (Cond.arrayClass .int).before args s = true) : ∃ c : Nat, ArrOfT s c .int ∧ va_RA s c .int := by
  obtain ⟨c, k, comp, h1, h2, h3⟩ := Cond.arrayClass_spec h
  exact ⟨c, fun n z => ⟨fun k h => (by cases h), k, h2, comp, h3⟩, h1⟩
theorem am_kls {s : State} {args : Array Value} (h : (Cond.arrayClass .long).before args s = true) : ∃ c : Nat, ArrOfT s c .long ∧ va_RA s c .long := by
  obtain ⟨c, k, comp, h1, h2, h3⟩ := Cond.arrayClass_spec h
  exact ⟨c, fun n z => ⟨fun k h => (by cases h), k, h2, comp, h3⟩, h1⟩
theorem am_kqs {s : State} {args : Array Value} {C : String} (h : (Cond.arrayOver (.object C)).before args s = true) : ∃ c : Nat, ArrOfT s c (.object C) ∧ va_RA s c (.object C) := by
  obtain ⟨comp, c, k, h1, h2, h3, h4, h5⟩ := Cond.arrayOver_spec h
  exact ⟨c, fun n z => ⟨fun k h => (by cases h), k, h3, comp, h4⟩, k, comp, h3, h4, h1, h5⟩
theorem am_law_ent : am_ent mL_law [.ref 1005] = [some (.ref 1005), none, none, none] := rfl
set_option maxHeartbeats 2000000 in
/-- the law's walk, out of a run of the abstract machine -/
theorem am_whole {p : Program} {e : Env} {s : State} {m : MethodId} {below : List Frame} {meth : Method} {c : Code} (l : Launch) {b L : Nat} {xs : Nat → Int32} {n : Nat} {h' : am_H} (hrun : am_run (am_Zl L xs) n 2048 mL_law (0, [some (.ref 1005), none, none, none], [], am_h0) = some (some (.int 1), h')) (hn : am_n h' ≤ 600000) (hz : am_z h' ≤ 7302250) (hL : L < 2 ^ 31) (C0 : lw_At p s m meth c b L xs) : W p l e room_1 s m #[Value.ref b] below meth c s.heap [] 0 0 (lw_Z below #[Value.ref b] s) (entryFrame m ([Value.ref b] : List Value).toArray 4) := by
  obtain ⟨hx, hb, hr, hml, hown, hts, hX, hbl, hlocks, hgv⟩ := C0
  have hA : ∀ a : Nat, a < s.heap.size → ¬ (fun q : Nat => s.heap.size ≤ q) a := fun a h z => absurd h (Nat.not_lt.mpr z)
  obtain ⟨z0, s0, t0⟩ := am_stt0 hgv hts hA
  obtain ⟨z1, s1, t1⟩ := am_stt1 hgv hts hA
  obtain ⟨z2, s2, t2⟩ := am_stt2 hgv hts hA
  obtain ⟨z3, s3, t3⟩ := am_stt3 hgv hts hA
  obtain ⟨z4, s4, t4⟩ := am_stt4 hgv hts hA
  obtain ⟨k0, ki⟩ := am_kis (hts _ am_aint)
  obtain ⟨k1, kl⟩ := am_kls (hts _ am_along)
  obtain ⟨k2, kq⟩ := am_kqs (hts _ am_aover)
  obtain ⟨zs, e0, e1, e2, e3, e4, e5⟩ : ∃ zs : Nat → Nat, zs 0 = z0 ∧ zs 1 = z1 ∧ zs 2 = z2 ∧ zs 3 = z3 ∧ zs 4 = z4 ∧ zs 5 = b := ⟨fun j => match j with
    | 0 => z0
    | 1 => z1
    | 2 => z2
    | 3 => z3
    | 4 => z4
    | _ => b, rfl, rfl, rfl, rfl, rfl, rfl⟩
  obtain ⟨κ, f0, f1, f2⟩ : ∃ κ : Nat → Nat, κ 0 = k0 ∧ κ 1 = k1 ∧ κ 2 = k2 := ⟨fun j => match j with
    | 0 => k0
    | 1 => k1
    | _ => k2, rfl, rfl, rfl⟩
  have hkn : ∀ k : Nat, ∃ x : ClassId × (Nat → Nat), ∀ q : vw_C, vwCl[k]? = some q → u_Kn s q.1 q.2.1 q.2.2 x.1 x.2 := by
    intro k
    by_cases hk : k < 13
    · obtain ⟨cC, iS, hkk⟩ := u_known (C := am_cn k) (T := am_T k) (N := am_nf k) (fun w hw => hts w (am_tw_in hw)) (am_u hk) (hts _ (am_ins hk))
      refine ⟨(cC, iS), fun q hq => ?_⟩
      rw [am_clok hk] at hq
      cases hq
      exact hkk
    · refine ⟨(0, fun _ => 0), fun q hq => ?_⟩
      have : k < 13 := (List.getElem?_eq_some_iff.mp hq).1
      exact absurd this hk
  have hkn2 : ∃ f : Nat → ClassId × (Nat → Nat), ∀ (k : Nat) (q : vw_C), vwCl[k]? = some q → u_Kn s q.1 q.2.1 q.2.2 (f k).1 (f k).2 := ⟨fun k => Classical.choose (hkn k), fun k => Classical.choose_spec (hkn k)⟩
  obtain ⟨f, hf⟩ := hkn2
  have hK : va_K (fun k => (f k).1, fun k => (f k).2) vwCl (am_tys κ) s := by
    refine ⟨fun k q hq => hf k q hq, fun k q hq => ?_⟩
    unfold am_tys at hq
    rw [f0, f1, f2] at hq
    match k, hq with
    | 0, hq => cases hq; exact ki
    | 1, hq => cases hq; exact kl
    | 2, hq => cases hq; exact kq
    | k + 3, hq => simp at hq
  have X : am_X (am_Zl L xs) (fun k => (f k).1, fun k => (f k).2) κ zs (fun q : Nat => s.heap.size ≤ q) p room_1 s m #[Value.ref b] meth c 2048 mL_law := by
    refine ⟨hx, hb, hml, hown, fun w hw => hts w (am_tw_in hw), fun w hw hn => va_Nw.of (by cases w <;> first | rfl | cases hn) (hts w hw), va_AO.of (hts _ am_aover), fun z => absurd z (by decide +kernel), hK, fun _ h => h, fun j z hj hz => ?_, fun j hj => ?_, Nat.le_refl _, by show 40 * 2048 ≤ 84000; decide⟩
    · match j, hj, hz with
      | 0, _, hz => cases hz; rw [e0]; exact t0
      | 1, _, hz => cases hz; rw [e1]; exact t1
      | 2, _, hz => cases hz; rw [e2]; exact t2
      | 3, _, hz => cases hz; rw [e3]; exact t3
      | 4, _, hz => cases hz; rw [e4]; exact t4
      | 5, _, hz =>
        cases hz
        rw [e5]
        obtain ⟨scr, g1, g2, g3, g4, g5⟩ := hX
        exact ⟨scr, g1, g2, g3, by rw [g4]; exact Nat.le_refl _, by rw [g4], fun j hj => g5 j hj, hA b hbl⟩
    · match j, hj with
      | 0, _ => rw [e0]; exact s0
      | 1, _ => rw [e1]; exact s1
      | 2, _ => rw [e2]; exact s2
      | 3, _ => rw [e3]; exact s3
      | 4, _ => rw [e4]; exact s4
  rw [lg_entry_eq]
  have hent := am_ent_has (α := fun _ => 0) (zs := zs) (N := mL_law) (vs := [.ref 1005]) (by decide)
  have eb : ([Value.ref 1005] : List Value).map (am_c (fun _ => 0) zs) = [.ref b] := by
    show [Value.ref (am_ad (fun _ => 0) zs 1005)] = _
    unfold am_ad
    rw [if_neg (by decide), show 1005 - 1000 = 5 from rfl, e5]
  rw [eb] at hent
  refine (am_sd (am_Zl L xs) n 2048 mL_law 0 [some (.ref 1005), none, none, none] [] am_h0 _ h' hrun).2.2 p l e room_1 s m _ below meth c _ (fun k => (f k).1, fun k => (f k).2) κ zs (fun _ => 0) (fun q : Nat => s.heap.size ≤ q) 0 0 s.heap [] _ X ⟨fun k q h => by simp [am_ws, am_h0] at h, ⟨fun i j p q h => by simp [am_ws, am_h0] at h, fun k q h => by simp [am_ws, am_h0] at h⟩, va_S.rf, by show (0 : Nat) ≤ 1000; decide, fun p x h => by simp [am_h0] at h⟩ hent ?_ ?_ ?_
  · rw [Nat.zero_add]; exact Nat.le_trans (Nat.sub_le _ _) hn
  · rw [Nat.zero_add]; exact Nat.le_trans (Nat.sub_le _ _) hz
  · intro α' H' locs' ls' pc' st' hret hag heq hw
    rcases hret with ⟨v, ty, hd, rfl, hv, hty, hnar⟩ | ⟨v, hd, rfl, hv, hty⟩ | ⟨v, nm, hd, rfl, hv, hv2, hty⟩ | ⟨hd, rfl, hv, hty⟩
    · cases hv
      refine va_forget hw.2.2.1.2.2 (W.widen (k := 600000) (n := 7302250) ?_ ?_ ?_)
      · rw [Nat.zero_add]; exact Nat.le_trans (Nat.sub_le _ _) hn
      · rw [Nat.zero_add]; exact Nat.le_trans (Nat.sub_le _ _) hz
      · exact lw_ret hx hb hr hlocks hd
    · cases hv
    · cases hv
      rcases hv2 with ⟨a, h⟩ | h <;> cases h
    · cases hv
