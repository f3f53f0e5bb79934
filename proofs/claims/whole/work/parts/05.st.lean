/-! ===== each step of the abstract machine is the machine's ===== -/
theorem am_go_some {len k pc : Nat} {lv : am_LV} {st : List Value} {h : am_H} {pc' : Nat} {lv' : am_LV} {st' : List Value} {h' : am_H} (e : am_go len k pc lv st h = some (.inl (pc', lv', st', h'))) : len = k ∧ pc' = pc + k ∧ lv' = lv ∧ st' = st ∧ h' = h := by
  unfold am_go at e
  split at e
  next g => cases e; exact ⟨g, rfl, rfl, rfl, rfl⟩
  next => cases e
theorem am_jp_some {pc : Nat} {off : Int} {lv : am_LV} {st : List Value} {h : am_H} {pc' : Nat} {lv' : am_LV} {st' : List Value} {h' : am_H} (e : am_jp pc off lv st h = some (.inl (pc', lv', st', h'))) : (pc : Int) + off = (pc' : Int) ∧ lv' = lv ∧ st' = st ∧ h' = h := by
  unfold am_jp at e
  split at e
  next t g =>
    cases e
    refine ⟨?_, rfl, rfl, rfl⟩
    unfold am_tg at g
    split at g
    next t2 g2 => cases g; exact g2
    next => cases g
  next => cases e
theorem am_p1_some {st : List Value} {f : Int32 → List Value → Option am_R} {r : am_R} (h : am_p1 st f = some r) : ∃ x t, st = .int x :: t ∧ f x t = some r := by
  unfold am_p1 at h
  split at h
  · exact ⟨_, _, rfl, h⟩
  · cases h
theorem am_p2_some {st : List Value} {f : Int32 → Int32 → List Value → Option am_R} {r : am_R} (h : am_p2 st f = some r) : ∃ x y t, st = .int y :: .int x :: t ∧ f x y t = some r := by
  unfold am_p2 at h
  split at h
  · exact ⟨_, _, _, rfl, h⟩
  · cases h
theorem am_q1_some {st : List Value} {f : Int64 → List Value → Option am_R} {r : am_R} (h : am_q1 st f = some r) : ∃ x t, st = .long x :: t ∧ f x t = some r := by
  unfold am_q1 at h
  split at h
  · exact ⟨_, _, rfl, h⟩
  · cases h
theorem am_q2_some {st : List Value} {f : Int64 → Int64 → List Value → Option am_R} {r : am_R} (h : am_q2 st f = some r) : ∃ x y t, st = .long y :: .long x :: t ∧ f x y t = some r := by
  unfold am_q2 at h
  split at h
  · exact ⟨_, _, _, rfl, h⟩
  · cases h
theorem am_a1_some {st : List Value} {f : Nat → List Value → Option am_R} {r : am_R} (h : am_a1 st f = some r) : ∃ (p : Nat) (t : List Value), st = .ref p :: t ∧ f p t = some r := by
  unfold am_a1 at h
  split at h
  · exact ⟨_, _, rfl, h⟩
  · cases h
theorem am_ldi_some {lv : am_LV} {n : Nat} {f : Int32 → Option am_R} {r : am_R} (h : am_ldi lv n f = some r) : ∃ x, lv[n]? = some (some (.int x)) ∧ f x = some r := by
  unfold am_ldi at h
  split at h
  next x g => exact ⟨x, g, h⟩
  next => cases h
theorem am_ldl_some {lv : am_LV} {n : Nat} {f : Int64 → Option am_R} {r : am_R} (h : am_ldl lv n f = some r) : ∃ x, lv[n]? = some (some (.long x)) ∧ f x = some r := by
  unfold am_ldl at h
  split at h
  next x g => exact ⟨x, g, h⟩
  next => cases h
theorem am_isr_of {v : Value} (h : am_isr v = true) : (∃ a : Nat, v = .ref a) ∨ v = .null := by
  cases v <;> first | exact Or.inl ⟨_, rfl⟩ | exact Or.inr rfl | cases h
theorem am_lda_some {lv : am_LV} {n : Nat} {f : Value → Option am_R} {r : am_R} (h : am_lda lv n f = some r) : ∃ v, lv[n]? = some (some v) ∧ ((∃ a : Nat, v = .ref a) ∨ v = .null) ∧ f v = some r := by
  unfold am_lda at h
  split at h
  next v g =>
    split at h
    next g2 => exact ⟨v, g, am_isr_of g2, h⟩
    next => cases h
  next => cases h
theorem am_sta_some {st : List Value} {f : Value → List Value → Option am_R} {r : am_R} (h : am_sta st f = some r) : ∃ v t, st = v :: t ∧ ((∃ a : Nat, v = .ref a) ∨ v = .null) ∧ f v t = some r := by
  unfold am_sta at h
  split at h
  next v t =>
    split at h
    next g2 => exact ⟨v, t, rfl, am_isr_of g2, h⟩
    next => cases h
  next => cases h
theorem am_at_some {h : am_H} {p kd : Nat} {f : Nat → List (Option Nat) → Option am_R} {r : am_R} (e : am_at h p kd f = some r) : ∃ n rs, h.1[p]? = some (kd, n, rs) ∧ f n rs = some r := by
  unfold am_at at e
  split at e
  next k n rs g =>
    split at e
    next g2 => subst g2; exact ⟨n, rs, g, e⟩
    next => cases e
  next => cases e
theorem am_pl {α zs : Nat → Nat} {h : am_H} {p : Nat} {x : Nat × Nat × List (Option Nat)} (hw : am_wf h) (hp : h.1[p]? = some x) : am_ad α zs p = α p := if_pos (Nat.lt_of_lt_of_le (List.getElem?_eq_some_iff.mp hp).1 hw.1)
theorem am_wd_c (α zs : Nat → Nat) (r : List Value) : ((r.map (am_c α zs)).map fun v => v.category).sum = am_wd r := by
  unfold am_wd
  rw [List.map_map]
  congr 1
  exact List.map_congr_left fun v _ => am_c_cat α zs v
theorem am_c_rf (α zs : Nat → Nat) (o : Option Nat) : am_c α zs (va_rf o) = va_rf (o.map (am_ad α zs)) := by cases o <;> rfl
theorem am_cl_ne {h : am_H} {M : am_M} {idx kd len : Nat} {st : List Value} {f : am_F} (e : am_cl h M idx kd len st = some (.inl f)) : False := by
  unfold am_cl at e
  split at e
  · cases e
  · split at e
    · split at e
      · split at e <;> cases e
      · split at e
        · split at e
          · split at e
            · cases e
            · obtain ⟨n, rs, -, e⟩ := am_at_some e
              cases e
          · cases e
        · cases e
    · cases e
def am_SOk (Z : am_Z) (i : Jvm.ClassFile.Instr) : Prop :=
  ∀ (p : Program) (l : Launch) (e : Env) (R : Room) (s : State) (m : MethodId) (args : Array Value) (below : List Frame) (meth : Method) (c : Code) (Q : State → Prop) (D : va_G) (κ zs α : Nat → Nat) (A : Nat → Prop) (d : Nat) (M : am_M) (pc len cells slots : Nat) (lv lv' : am_LV) (st st' : List Value) (h h' : am_H) (pc' : Nat) (H : Heap) (locs : List Loc) (ls : Array Slot),
  am_X Z D κ zs A p R s m args meth c d M → am_W D κ zs α A s h H locs → am_has α zs ls M lv → decode M.2.2.1 pc = .ok (i, len) → am_step Z d M pc lv st h i len = some (.inl (pc', lv', st', h')) →
  cells + (am_n h' - am_n h) ≤ R.cells → slots + (am_z h' - am_z h) ≤ R.slots →
  (∀ (α' : Nat → Nat) (H' : Heap) (locs' : List Loc) (ls' : Array Slot), (∀ k, k < am_n h → α' k = α k) → (am_n h' = am_n h → α' = α) → am_W D κ zs α' A s h' H' locs' → am_has α' zs ls' M lv' → W p l e R s m args below meth c H' locs' (cells + (am_n h' - am_n h)) (slots + (am_z h' - am_z h)) Q (F0 m pc' ls' (st'.map (am_c α' zs)))) →
  W p l e R s m args below meth c H locs cells slots Q (F0 m pc ls (st.map (am_c α zs)))
theorem am_k0 {p : Program} {l : Launch} {e : Env} {R : Room} {s : State} {m : MethodId} {args : Array Value} {below : List Frame} {meth : Method} {c : Code} {Q : State → Prop} {D : va_G} {κ zs α : Nat → Nat} {A : Nat → Prop} {M : am_M} {cells slots : Nat} {lv' : am_LV} {st' : List Value} {h h' : am_H} {pc' : Nat}
  (hn : am_n h' = am_n h) (hq : am_z h' = am_z h)
  (kk : ∀ (α' : Nat → Nat) (H' : Heap) (locs' : List Loc) (ls' : Array Slot), (∀ k, k < am_n h → α' k = α k) → (am_n h' = am_n h → α' = α) → am_W D κ zs α' A s h' H' locs' → am_has α' zs ls' M lv' → W p l e R s m args below meth c H' locs' (cells + (am_n h' - am_n h)) (slots + (am_z h' - am_z h)) Q (F0 m pc' ls' (st'.map (am_c α' zs)))) :
  ∀ (H' : Heap) (locs' : List Loc) (ls' : Array Slot), am_W D κ zs α A s h' H' locs' → am_has α zs ls' M lv' → W p l e R s m args below meth c H' locs' cells slots Q (F0 m pc' ls' (st'.map (am_c α zs))) := by
  intro H' locs' ls' a b
  have k := kk α H' locs' ls' (fun _ _ => rfl) (fun _ => rfl) a b
  rw [hn, hq, Nat.sub_self, Nat.sub_self, Nat.add_zero, Nat.add_zero] at k
  exact k
theorem am_X.ts {Z : am_Z} {D : va_G} {κ zs : Nat → Nat} {A : Nat → Prop} {p : Program} {R : Room} {s : State} {m : MethodId} {args : Array Value} {meth : Method} {c : Code} {d : Nat} {M : am_M} (X : am_X Z D κ zs A p R s m args meth c d M) {w : Jvm.Cond} (h : w ∈ lw_tbl) (g : goodWord w = true) : w.before args s = true := X.2.2.2.2.1 w (am_in h g)
theorem am_X.nw {Z : am_Z} {D : va_G} {κ zs : Nat → Nat} {A : Nat → Prop} {p : Program} {R : Room} {s : State} {m : MethodId} {args : Array Value} {meth : Method} {c : Code} {d : Nat} {M : am_M} (X : am_X Z D κ zs A p R s m args meth c d M) {w : Jvm.Cond} (h : w ∈ lw_tbl) (g : am_isN w = true) : va_Nw w s := X.2.2.2.2.2.1 w h g

theorem am_ok_aconst_null (Z : am_Z) : am_SOk Z (.aconst_null) := by
  intro p l e R s m args below meth c Q D κ zs α A d M pc len cells slots lv lv' st st' h h' pc' H locs ls hX hW hL hd hs hc hz kk
  replace hs : (am_go len 1 pc lv (.null :: st) h) = some (Sum.inl (pc', lv', st', h')) := hs
  obtain ⟨rfl, rfl, rfl, rfl, rfl⟩ := am_go_some hs
  exact lv_null hX.1 hX.2.1 hd (am_k0 rfl rfl kk H locs ls hW hL)
theorem am_ok_iconst (Z : am_Z) (n : Int) : am_SOk Z (.iconst n) := by
  intro p l e R s m args below meth c Q D κ zs α A d M pc len cells slots lv lv' st st' h h' pc' H locs ls hX hW hL hd hs hc hz kk
  replace hs : (am_go len 1 pc lv (.int (Int32.ofInt n) :: st) h) = some (Sum.inl (pc', lv', st', h')) := hs
  obtain ⟨rfl, rfl, rfl, rfl, rfl⟩ := am_go_some hs
  exact lv_iconst hX.1 hX.2.1 hd rfl (am_k0 rfl rfl kk H locs ls hW hL)
theorem am_ok_bipush (Z : am_Z) (n : Int) : am_SOk Z (.bipush n) := by
  intro p l e R s m args below meth c Q D κ zs α A d M pc len cells slots lv lv' st st' h h' pc' H locs ls hX hW hL hd hs hc hz kk
  replace hs : (am_go len 2 pc lv (.int (Int8.ofInt n).toInt32 :: st) h) = some (Sum.inl (pc', lv', st', h')) := hs
  obtain ⟨rfl, rfl, rfl, rfl, rfl⟩ := am_go_some hs
  exact lv_bipush hX.1 hX.2.1 hd rfl (am_k0 rfl rfl kk H locs ls hW hL)
theorem am_ok_sipush (Z : am_Z) (n : Int) : am_SOk Z (.sipush n) := by
  intro p l e R s m args below meth c Q D κ zs α A d M pc len cells slots lv lv' st st' h h' pc' H locs ls hX hW hL hd hs hc hz kk
  replace hs : (am_go len 3 pc lv (.int (Int16.ofInt n).toInt32 :: st) h) = some (Sum.inl (pc', lv', st', h')) := hs
  obtain ⟨rfl, rfl, rfl, rfl, rfl⟩ := am_go_some hs
  exact lv_sipush hX.1 hX.2.1 hd rfl (am_k0 rfl rfl kk H locs ls hW hL)
theorem am_ok_lconst (Z : am_Z) (n : Fin 2) : am_SOk Z (.lconst n) := by
  intro p l e R s m args below meth c Q D κ zs α A d M pc len cells slots lv lv' st st' h h' pc' H locs ls hX hW hL hd hs hc hz kk
  replace hs : (am_go len 1 pc lv (.long (Int64.ofNat (n : Nat)) :: st) h) = some (Sum.inl (pc', lv', st', h')) := hs
  obtain ⟨rfl, rfl, rfl, rfl, rfl⟩ := am_go_some hs
  exact lv_lconst hX.1 hX.2.1 hd rfl (am_k0 rfl rfl kk H locs ls hW hL)
theorem am_ok_ldc (Z : am_Z) (k : Nat) : am_SOk Z (.ldc k) := by
  intro p l e R s m args below meth c Q D κ zs α A d M pc len cells slots lv lv' st st' h h' pc' H locs ls hX hW hL hd hs hc hz kk
  replace hs : (match am_kint M.1 k with | some v => am_go len 2 pc lv (.int v :: st) h | none => none) = some (Sum.inl (pc', lv', st', h')) := hs
  cases hk : am_kint M.1 k with
  | none => rw [hk] at hs; cases hs
  | some v =>
    rw [hk] at hs
    obtain ⟨rfl, rfl, rfl, rfl, rfl⟩ := am_go_some hs
    exact lv_ldc hX.1 hX.2.1 hX.2.2.2.1 (hX.ts (am_kint_ok hk) rfl) hd (am_k0 rfl rfl kk H locs ls hW hL)
theorem am_ok_ldc_w (Z : am_Z) (k : Nat) : am_SOk Z (.ldc_w k) := by
  intro p l e R s m args below meth c Q D κ zs α A d M pc len cells slots lv lv' st st' h h' pc' H locs ls hX hW hL hd hs hc hz kk
  replace hs : (match am_kint M.1 k with | some v => am_go len 3 pc lv (.int v :: st) h | none => none) = some (Sum.inl (pc', lv', st', h')) := hs
  cases hk : am_kint M.1 k with
  | none => rw [hk] at hs; cases hs
  | some v =>
    rw [hk] at hs
    obtain ⟨rfl, rfl, rfl, rfl, rfl⟩ := am_go_some hs
    exact lv_ldcw hX.1 hX.2.1 hX.2.2.2.1 (hX.ts (am_kint_ok hk) rfl) hd (am_k0 rfl rfl kk H locs ls hW hL)
theorem am_ok_ldc2_w (Z : am_Z) (k : Nat) : am_SOk Z (.ldc2_w k) := by
  intro p l e R s m args below meth c Q D κ zs α A d M pc len cells slots lv lv' st st' h h' pc' H locs ls hX hW hL hd hs hc hz kk
  replace hs : (match am_klong M.1 k with | some v => am_go len 3 pc lv (.long v :: st) h | none => none) = some (Sum.inl (pc', lv', st', h')) := hs
  cases hk : am_klong M.1 k with
  | none => rw [hk] at hs; cases hs
  | some v =>
    rw [hk] at hs
    obtain ⟨rfl, rfl, rfl, rfl, rfl⟩ := am_go_some hs
    exact lv_ldc2 hX.1 hX.2.1 hX.2.2.2.1 (hX.ts (am_klong_ok hk) rfl) hd (am_k0 rfl rfl kk H locs ls hW hL)
theorem am_ok_iload (Z : am_Z) (n : Nat) : am_SOk Z (.iload n) := by
  intro p l e R s m args below meth c Q D κ zs α A d M pc len cells slots lv lv' st st' h h' pc' H locs ls hX hW hL hd hs hc hz kk
  replace hs : (am_ldi lv n fun x => am_go len 2 pc lv (.int x :: st) h) = some (Sum.inl (pc', lv', st', h')) := hs
  have hs2 := am_ldi_some hs
  clear hs
  obtain ⟨x, hv, hs⟩ := hs2
  obtain ⟨rfl, rfl, rfl, rfl, rfl⟩ := am_go_some hs
  exact lv_iload hX.1 hX.2.1 hd (am_has_at hL hv) (am_k0 rfl rfl kk H locs ls hW hL)
theorem am_ok_iload_n (Z : am_Z) (n : Fin 4) : am_SOk Z (.iload_n n) := by
  intro p l e R s m args below meth c Q D κ zs α A d M pc len cells slots lv lv' st st' h h' pc' H locs ls hX hW hL hd hs hc hz kk
  replace hs : (am_ldi lv n fun x => am_go len 1 pc lv (.int x :: st) h) = some (Sum.inl (pc', lv', st', h')) := hs
  have hs2 := am_ldi_some hs
  clear hs
  obtain ⟨x, hv, hs⟩ := hs2
  obtain ⟨rfl, rfl, rfl, rfl, rfl⟩ := am_go_some hs
  exact lv_iload_n hX.1 hX.2.1 hd rfl (am_has_at hL hv) (am_k0 rfl rfl kk H locs ls hW hL)
theorem am_ok_lload (Z : am_Z) (n : Nat) : am_SOk Z (.lload n) := by
  intro p l e R s m args below meth c Q D κ zs α A d M pc len cells slots lv lv' st st' h h' pc' H locs ls hX hW hL hd hs hc hz kk
  replace hs : (am_ldl lv n fun x => am_go len 2 pc lv (.long x :: st) h) = some (Sum.inl (pc', lv', st', h')) := hs
  have hs2 := am_ldl_some hs
  clear hs
  obtain ⟨x, hv, hs⟩ := hs2
  obtain ⟨rfl, rfl, rfl, rfl, rfl⟩ := am_go_some hs
  exact lv_lload hX.1 hX.2.1 hd (am_has_at hL hv) (am_k0 rfl rfl kk H locs ls hW hL)
theorem am_ok_lload_n (Z : am_Z) (n : Fin 4) : am_SOk Z (.lload_n n) := by
  intro p l e R s m args below meth c Q D κ zs α A d M pc len cells slots lv lv' st st' h h' pc' H locs ls hX hW hL hd hs hc hz kk
  replace hs : (am_ldl lv n fun x => am_go len 1 pc lv (.long x :: st) h) = some (Sum.inl (pc', lv', st', h')) := hs
  have hs2 := am_ldl_some hs
  clear hs
  obtain ⟨x, hv, hs⟩ := hs2
  obtain ⟨rfl, rfl, rfl, rfl, rfl⟩ := am_go_some hs
  exact lv_lload_n hX.1 hX.2.1 hd rfl (am_has_at hL hv) (am_k0 rfl rfl kk H locs ls hW hL)
theorem am_ok_aload (Z : am_Z) (n : Nat) : am_SOk Z (.aload n) := by
  intro p l e R s m args below meth c Q D κ zs α A d M pc len cells slots lv lv' st st' h h' pc' H locs ls hX hW hL hd hs hc hz kk
  replace hs : (am_lda lv n fun v => am_go len 2 pc lv (v :: st) h) = some (Sum.inl (pc', lv', st', h')) := hs
  have hs2 := am_lda_some hs
  clear hs
  obtain ⟨v, hv, hr, hs⟩ := hs2
  obtain ⟨rfl, rfl, rfl, rfl, rfl⟩ := am_go_some hs
  rcases hr with ⟨a, rfl⟩ | rfl
  · exact lv_aload hX.1 hX.2.1 hd (am_has_at hL hv) (am_k0 rfl rfl kk H locs ls hW hL)
  · exact lv_aloadN hX.1 hX.2.1 hd (am_has_at hL hv) (am_k0 rfl rfl kk H locs ls hW hL)
theorem am_ok_aload_n (Z : am_Z) (n : Fin 4) : am_SOk Z (.aload_n n) := by
  intro p l e R s m args below meth c Q D κ zs α A d M pc len cells slots lv lv' st st' h h' pc' H locs ls hX hW hL hd hs hc hz kk
  replace hs : (am_lda lv n fun v => am_go len 1 pc lv (v :: st) h) = some (Sum.inl (pc', lv', st', h')) := hs
  have hs2 := am_lda_some hs
  clear hs
  obtain ⟨v, hv, hr, hs⟩ := hs2
  obtain ⟨rfl, rfl, rfl, rfl, rfl⟩ := am_go_some hs
  rcases hr with ⟨a, rfl⟩ | rfl
  · exact lv_aload_n hX.1 hX.2.1 hd rfl (am_has_at hL hv) (am_k0 rfl rfl kk H locs ls hW hL)
  · exact lv_aload_nN hX.1 hX.2.1 hd rfl (am_has_at hL hv) (am_k0 rfl rfl kk H locs ls hW hL)
theorem am_ok_istore (Z : am_Z) (n : Nat) : am_SOk Z (.istore n) := by
  intro p l e R s m args below meth c Q D κ zs α A d M pc len cells slots lv lv' st st' h h' pc' H locs ls hX hW hL hd hs hc hz kk
  replace hs : (am_p1 st fun x r => if n < lv.length then am_go len 2 pc (am_s1 lv n (.int x)) r h else none) = some (Sum.inl (pc', lv', st', h')) := hs
  have hs2 := am_p1_some hs
  clear hs
  obtain ⟨x, r, rfl, hs⟩ := hs2
  split at hs
  next hn =>
    obtain ⟨rfl, rfl, rfl, rfl, rfl⟩ := am_go_some hs
    exact lv_istore hX.1 hX.2.1 hd hL.1 (by rw [← hL.2]; exact hn) rfl (fun ls1 hl1 => am_k0 rfl rfl kk H locs ls1 hW (am_has_s1 (v := .int x) hL.2 hl1))
  next => cases hs
theorem am_ok_istore_n (Z : am_Z) (n : Fin 4) : am_SOk Z (.istore_n n) := by
  intro p l e R s m args below meth c Q D κ zs α A d M pc len cells slots lv lv' st st' h h' pc' H locs ls hX hW hL hd hs hc hz kk
  replace hs : (am_p1 st fun x r => if (n : Nat) < lv.length then am_go len 1 pc (am_s1 lv n (.int x)) r h else none) = some (Sum.inl (pc', lv', st', h')) := hs
  have hs2 := am_p1_some hs
  clear hs
  obtain ⟨x, r, rfl, hs⟩ := hs2
  split at hs
  next hn =>
    obtain ⟨rfl, rfl, rfl, rfl, rfl⟩ := am_go_some hs
    exact lv_istore_n hX.1 hX.2.1 hd rfl hL.1 (by rw [← hL.2]; exact hn) rfl (fun ls1 hl1 => am_k0 rfl rfl kk H locs ls1 hW (am_has_s1 (v := .int x) hL.2 hl1))
  next => cases hs
theorem am_ok_lstore (Z : am_Z) (n : Nat) : am_SOk Z (.lstore n) := by
  intro p l e R s m args below meth c Q D κ zs α A d M pc len cells slots lv lv' st st' h h' pc' H locs ls hX hW hL hd hs hc hz kk
  replace hs : (am_q1 st fun x r => if n + 1 < lv.length then am_go len 2 pc (am_s2 lv n (.long x)) r h else none) = some (Sum.inl (pc', lv', st', h')) := hs
  have hs2 := am_q1_some hs
  clear hs
  obtain ⟨x, r, rfl, hs⟩ := hs2
  split at hs
  next hn =>
    obtain ⟨rfl, rfl, rfl, rfl, rfl⟩ := am_go_some hs
    exact lv_lstore hX.1 hX.2.1 hd hL.1 (by rw [← hL.2]; exact hn) rfl (fun ls1 hl1 => am_k0 rfl rfl kk H locs ls1 hW (am_has_s2 (v := .long x) hL.2 hl1))
  next => cases hs
theorem am_ok_lstore_n (Z : am_Z) (n : Fin 4) : am_SOk Z (.lstore_n n) := by
  intro p l e R s m args below meth c Q D κ zs α A d M pc len cells slots lv lv' st st' h h' pc' H locs ls hX hW hL hd hs hc hz kk
  replace hs : (am_q1 st fun x r => if (n : Nat) + 1 < lv.length then am_go len 1 pc (am_s2 lv n (.long x)) r h else none) = some (Sum.inl (pc', lv', st', h')) := hs
  have hs2 := am_q1_some hs
  clear hs
  obtain ⟨x, r, rfl, hs⟩ := hs2
  split at hs
  next hn =>
    obtain ⟨rfl, rfl, rfl, rfl, rfl⟩ := am_go_some hs
    exact lv_lstore_n hX.1 hX.2.1 hd rfl hL.1 (by rw [← hL.2]; exact hn) rfl (fun ls1 hl1 => am_k0 rfl rfl kk H locs ls1 hW (am_has_s2 (v := .long x) hL.2 hl1))
  next => cases hs
theorem am_ok_astore (Z : am_Z) (n : Nat) : am_SOk Z (.astore n) := by
  intro p l e R s m args below meth c Q D κ zs α A d M pc len cells slots lv lv' st st' h h' pc' H locs ls hX hW hL hd hs hc hz kk
  replace hs : (am_sta st fun v r => if n < lv.length then am_go len 2 pc (am_s1 lv n v) r h else none) = some (Sum.inl (pc', lv', st', h')) := hs
  have hs2 := am_sta_some hs
  clear hs
  obtain ⟨v, r, rfl, hr, hs⟩ := hs2
  split at hs
  next hn =>
    obtain ⟨rfl, rfl, rfl, rfl, rfl⟩ := am_go_some hs
    rcases hr with ⟨a, rfl⟩ | rfl
    · exact lv_astore hX.1 hX.2.1 hd hL.1 (by rw [← hL.2]; exact hn) rfl (fun ls1 hl1 => am_k0 rfl rfl kk H locs ls1 hW (am_has_s1 (v := .ref a) hL.2 hl1))
    · exact lv_astoreN hX.1 hX.2.1 hd hL.1 (by rw [← hL.2]; exact hn) rfl (fun ls1 hl1 => am_k0 rfl rfl kk H locs ls1 hW (am_has_s1 (v := .null) hL.2 hl1))
  next => cases hs
theorem am_ok_astore_n (Z : am_Z) (n : Fin 4) : am_SOk Z (.astore_n n) := by
  intro p l e R s m args below meth c Q D κ zs α A d M pc len cells slots lv lv' st st' h h' pc' H locs ls hX hW hL hd hs hc hz kk
  replace hs : (am_sta st fun v r => if (n : Nat) < lv.length then am_go len 1 pc (am_s1 lv n v) r h else none) = some (Sum.inl (pc', lv', st', h')) := hs
  have hs2 := am_sta_some hs
  clear hs
  obtain ⟨v, r, rfl, hr, hs⟩ := hs2
  split at hs
  next hn =>
    obtain ⟨rfl, rfl, rfl, rfl, rfl⟩ := am_go_some hs
    rcases hr with ⟨a, rfl⟩ | rfl
    · exact lv_astore_n hX.1 hX.2.1 hd rfl hL.1 (by rw [← hL.2]; exact hn) rfl (fun ls1 hl1 => am_k0 rfl rfl kk H locs ls1 hW (am_has_s1 (v := .ref a) hL.2 hl1))
    · exact lv_astore_nN hX.1 hX.2.1 hd rfl hL.1 (by rw [← hL.2]; exact hn) rfl (fun ls1 hl1 => am_k0 rfl rfl kk H locs ls1 hW (am_has_s1 (v := .null) hL.2 hl1))
  next => cases hs
theorem am_ok_iinc (Z : am_Z) (n : Nat) (k : Int) : am_SOk Z (.iinc n k) := by
  intro p l e R s m args below meth c Q D κ zs α A d M pc len cells slots lv lv' st st' h h' pc' H locs ls hX hW hL hd hs hc hz kk
  replace hs : (am_ldi lv n fun x => if n < lv.length then am_go len 3 pc (am_s1 lv n (.int (x + Int32.ofInt k))) st h else none) = some (Sum.inl (pc', lv', st', h')) := hs
  have hs2 := am_ldi_some hs
  clear hs
  obtain ⟨x, hv, hs⟩ := hs2
  split at hs
  next hn =>
    obtain ⟨rfl, rfl, rfl, rfl, rfl⟩ := am_go_some hs
    obtain ⟨j, hj⟩ := List.getElem?_of_mem (am_al_mem (α := α) (zs := zs) (q := (n, Value.int x)).mpr ⟨_, hv, rfl⟩)
    exact lv_iinc hX.1 hX.2.1 hd hL.1 hj rfl (by rw [← hL.2]; exact hn) rfl (fun ls1 hl1 => am_k0 rfl rfl kk H locs ls1 hW (am_has_s1 (v := .int (x + Int32.ofInt k)) hL.2 hl1))
  next => cases hs
theorem am_ok_iadd (Z : am_Z) : am_SOk Z (.iadd) := by
  intro p l e R s m args below meth c Q D κ zs α A d M pc len cells slots lv lv' st st' h h' pc' H locs ls hX hW hL hd hs hc hz kk
  replace hs : (am_p2 st fun x y r => am_go len 1 pc lv (.int (x + y) :: r) h) = some (Sum.inl (pc', lv', st', h')) := hs
  have hs2 := am_p2_some hs
  clear hs
  obtain ⟨x, y, r, rfl, hs⟩ := hs2
  obtain ⟨rfl, rfl, rfl, rfl, rfl⟩ := am_go_some hs
  exact lv_iadd hX.1 hX.2.1 hd (am_k0 rfl rfl kk H locs ls hW hL)
theorem am_ok_isub (Z : am_Z) : am_SOk Z (.isub) := by
  intro p l e R s m args below meth c Q D κ zs α A d M pc len cells slots lv lv' st st' h h' pc' H locs ls hX hW hL hd hs hc hz kk
  replace hs : (am_p2 st fun x y r => am_go len 1 pc lv (.int (x - y) :: r) h) = some (Sum.inl (pc', lv', st', h')) := hs
  have hs2 := am_p2_some hs
  clear hs
  obtain ⟨x, y, r, rfl, hs⟩ := hs2
  obtain ⟨rfl, rfl, rfl, rfl, rfl⟩ := am_go_some hs
  exact lv_isub hX.1 hX.2.1 hd (am_k0 rfl rfl kk H locs ls hW hL)
theorem am_ok_imul (Z : am_Z) : am_SOk Z (.imul) := by
  intro p l e R s m args below meth c Q D κ zs α A d M pc len cells slots lv lv' st st' h h' pc' H locs ls hX hW hL hd hs hc hz kk
  replace hs : (am_p2 st fun x y r => am_go len 1 pc lv (.int (x * y) :: r) h) = some (Sum.inl (pc', lv', st', h')) := hs
  have hs2 := am_p2_some hs
  clear hs
  obtain ⟨x, y, r, rfl, hs⟩ := hs2
  obtain ⟨rfl, rfl, rfl, rfl, rfl⟩ := am_go_some hs
  exact lv_imul hX.1 hX.2.1 hd (am_k0 rfl rfl kk H locs ls hW hL)
theorem am_ok_iand (Z : am_Z) : am_SOk Z (.iand) := by
  intro p l e R s m args below meth c Q D κ zs α A d M pc len cells slots lv lv' st st' h h' pc' H locs ls hX hW hL hd hs hc hz kk
  replace hs : (am_p2 st fun x y r => am_go len 1 pc lv (.int (x &&& y) :: r) h) = some (Sum.inl (pc', lv', st', h')) := hs
  have hs2 := am_p2_some hs
  clear hs
  obtain ⟨x, y, r, rfl, hs⟩ := hs2
  obtain ⟨rfl, rfl, rfl, rfl, rfl⟩ := am_go_some hs
  exact lv_iand hX.1 hX.2.1 hd (am_k0 rfl rfl kk H locs ls hW hL)
theorem am_ok_ior (Z : am_Z) : am_SOk Z (.ior) := by
  intro p l e R s m args below meth c Q D κ zs α A d M pc len cells slots lv lv' st st' h h' pc' H locs ls hX hW hL hd hs hc hz kk
  replace hs : (am_p2 st fun x y r => am_go len 1 pc lv (.int (x ||| y) :: r) h) = some (Sum.inl (pc', lv', st', h')) := hs
  have hs2 := am_p2_some hs
  clear hs
  obtain ⟨x, y, r, rfl, hs⟩ := hs2
  obtain ⟨rfl, rfl, rfl, rfl, rfl⟩ := am_go_some hs
  exact lv_ior hX.1 hX.2.1 hd (am_k0 rfl rfl kk H locs ls hW hL)
theorem am_ok_ixor (Z : am_Z) : am_SOk Z (.ixor) := by
  intro p l e R s m args below meth c Q D κ zs α A d M pc len cells slots lv lv' st st' h h' pc' H locs ls hX hW hL hd hs hc hz kk
  replace hs : (am_p2 st fun x y r => am_go len 1 pc lv (.int (x ^^^ y) :: r) h) = some (Sum.inl (pc', lv', st', h')) := hs
  have hs2 := am_p2_some hs
  clear hs
  obtain ⟨x, y, r, rfl, hs⟩ := hs2
  obtain ⟨rfl, rfl, rfl, rfl, rfl⟩ := am_go_some hs
  exact lv_ixor hX.1 hX.2.1 hd (am_k0 rfl rfl kk H locs ls hW hL)
theorem am_ok_ishl (Z : am_Z) : am_SOk Z (.ishl) := by
  intro p l e R s m args below meth c Q D κ zs α A d M pc len cells slots lv lv' st st' h h' pc' H locs ls hX hW hL hd hs hc hz kk
  replace hs : (am_p2 st fun x y r => am_go len 1 pc lv (.int (x <<< (y &&& 31)) :: r) h) = some (Sum.inl (pc', lv', st', h')) := hs
  have hs2 := am_p2_some hs
  clear hs
  obtain ⟨x, y, r, rfl, hs⟩ := hs2
  obtain ⟨rfl, rfl, rfl, rfl, rfl⟩ := am_go_some hs
  exact lv_ishl hX.1 hX.2.1 hd (am_k0 rfl rfl kk H locs ls hW hL)
theorem am_ok_ishr (Z : am_Z) : am_SOk Z (.ishr) := by
  intro p l e R s m args below meth c Q D κ zs α A d M pc len cells slots lv lv' st st' h h' pc' H locs ls hX hW hL hd hs hc hz kk
  replace hs : (am_p2 st fun x y r => am_go len 1 pc lv (.int (x >>> (y &&& 31)) :: r) h) = some (Sum.inl (pc', lv', st', h')) := hs
  have hs2 := am_p2_some hs
  clear hs
  obtain ⟨x, y, r, rfl, hs⟩ := hs2
  obtain ⟨rfl, rfl, rfl, rfl, rfl⟩ := am_go_some hs
  exact lv_ishr hX.1 hX.2.1 hd (am_k0 rfl rfl kk H locs ls hW hL)
theorem am_ok_iushr (Z : am_Z) : am_SOk Z (.iushr) := by
  intro p l e R s m args below meth c Q D κ zs α A d M pc len cells slots lv lv' st st' h h' pc' H locs ls hX hW hL hd hs hc hz kk
  replace hs : (am_p2 st fun x y r => am_go len 1 pc lv (.int (x.toUInt32 >>> (y.toUInt32 &&& Int32.toUInt32 31)).toInt32 :: r) h) = some (Sum.inl (pc', lv', st', h')) := hs
  have hs2 := am_p2_some hs
  clear hs
  obtain ⟨x, y, r, rfl, hs⟩ := hs2
  obtain ⟨rfl, rfl, rfl, rfl, rfl⟩ := am_go_some hs
  exact lv_iushr hX.1 hX.2.1 hd rfl (am_k0 rfl rfl kk H locs ls hW hL)
theorem am_ok_idiv (Z : am_Z) : am_SOk Z (.idiv) := by
  intro p l e R s m args below meth c Q D κ zs α A d M pc len cells slots lv lv' st st' h h' pc' H locs ls hX hW hL hd hs hc hz kk
  replace hs : (am_p2 st fun x y r => if y = 0 then none else am_go len 1 pc lv (.int (x / y) :: r) h) = some (Sum.inl (pc', lv', st', h')) := hs
  have hs2 := am_p2_some hs
  clear hs
  obtain ⟨x, y, r, rfl, hs⟩ := hs2
  split at hs
  next => cases hs
  next hy =>
    obtain ⟨rfl, rfl, rfl, rfl, rfl⟩ := am_go_some hs
    exact lv_idiv hX.1 hX.2.1 hd hy (am_k0 rfl rfl kk H locs ls hW hL)
theorem am_ok_irem (Z : am_Z) : am_SOk Z (.irem) := by
  intro p l e R s m args below meth c Q D κ zs α A d M pc len cells slots lv lv' st st' h h' pc' H locs ls hX hW hL hd hs hc hz kk
  replace hs : (am_p2 st fun x y r => if y = 0 then none else am_go len 1 pc lv (.int (x - x / y * y) :: r) h) = some (Sum.inl (pc', lv', st', h')) := hs
  have hs2 := am_p2_some hs
  clear hs
  obtain ⟨x, y, r, rfl, hs⟩ := hs2
  split at hs
  next => cases hs
  next hy =>
    obtain ⟨rfl, rfl, rfl, rfl, rfl⟩ := am_go_some hs
    exact lv_irem hX.1 hX.2.1 hd hy (am_k0 rfl rfl kk H locs ls hW hL)
theorem am_ok_ineg (Z : am_Z) : am_SOk Z (.ineg) := by
  intro p l e R s m args below meth c Q D κ zs α A d M pc len cells slots lv lv' st st' h h' pc' H locs ls hX hW hL hd hs hc hz kk
  replace hs : (am_p1 st fun x r => am_go len 1 pc lv (.int (-x) :: r) h) = some (Sum.inl (pc', lv', st', h')) := hs
  have hs2 := am_p1_some hs
  clear hs
  obtain ⟨x, r, rfl, hs⟩ := hs2
  obtain ⟨rfl, rfl, rfl, rfl, rfl⟩ := am_go_some hs
  exact lv_ineg hX.1 hX.2.1 hd (am_k0 rfl rfl kk H locs ls hW hL)
theorem am_ok_i2l (Z : am_Z) : am_SOk Z (.i2l) := by
  intro p l e R s m args below meth c Q D κ zs α A d M pc len cells slots lv lv' st st' h h' pc' H locs ls hX hW hL hd hs hc hz kk
  replace hs : (am_p1 st fun x r => am_go len 1 pc lv (.long x.toInt64 :: r) h) = some (Sum.inl (pc', lv', st', h')) := hs
  have hs2 := am_p1_some hs
  clear hs
  obtain ⟨x, r, rfl, hs⟩ := hs2
  obtain ⟨rfl, rfl, rfl, rfl, rfl⟩ := am_go_some hs
  exact lv_i2l hX.1 hX.2.1 hd rfl (am_k0 rfl rfl kk H locs ls hW hL)
theorem am_ok_i2b (Z : am_Z) : am_SOk Z (.i2b) := by
  intro p l e R s m args below meth c Q D κ zs α A d M pc len cells slots lv lv' st st' h h' pc' H locs ls hX hW hL hd hs hc hz kk
  replace hs : (am_p1 st fun x r => am_go len 1 pc lv (.int x.toInt8.toInt32 :: r) h) = some (Sum.inl (pc', lv', st', h')) := hs
  have hs2 := am_p1_some hs
  clear hs
  obtain ⟨x, r, rfl, hs⟩ := hs2
  obtain ⟨rfl, rfl, rfl, rfl, rfl⟩ := am_go_some hs
  exact lv_i2b hX.1 hX.2.1 hd rfl (am_k0 rfl rfl kk H locs ls hW hL)
theorem am_ok_i2s (Z : am_Z) : am_SOk Z (.i2s) := by
  intro p l e R s m args below meth c Q D κ zs α A d M pc len cells slots lv lv' st st' h h' pc' H locs ls hX hW hL hd hs hc hz kk
  replace hs : (am_p1 st fun x r => am_go len 1 pc lv (.int x.toInt16.toInt32 :: r) h) = some (Sum.inl (pc', lv', st', h')) := hs
  have hs2 := am_p1_some hs
  clear hs
  obtain ⟨x, r, rfl, hs⟩ := hs2
  obtain ⟨rfl, rfl, rfl, rfl, rfl⟩ := am_go_some hs
  exact lv_i2s hX.1 hX.2.1 hd rfl (am_k0 rfl rfl kk H locs ls hW hL)
theorem am_ok_l2i (Z : am_Z) : am_SOk Z (.l2i) := by
  intro p l e R s m args below meth c Q D κ zs α A d M pc len cells slots lv lv' st st' h h' pc' H locs ls hX hW hL hd hs hc hz kk
  replace hs : (am_q1 st fun x r => am_go len 1 pc lv (.int x.toInt32 :: r) h) = some (Sum.inl (pc', lv', st', h')) := hs
  have hs2 := am_q1_some hs
  clear hs
  obtain ⟨x, r, rfl, hs⟩ := hs2
  obtain ⟨rfl, rfl, rfl, rfl, rfl⟩ := am_go_some hs
  exact lv_l2i hX.1 hX.2.1 hd rfl (am_k0 rfl rfl kk H locs ls hW hL)
theorem am_ok_ladd (Z : am_Z) : am_SOk Z (.ladd) := by
  intro p l e R s m args below meth c Q D κ zs α A d M pc len cells slots lv lv' st st' h h' pc' H locs ls hX hW hL hd hs hc hz kk
  replace hs : (am_q2 st fun x y r => am_go len 1 pc lv (.long (x + y) :: r) h) = some (Sum.inl (pc', lv', st', h')) := hs
  have hs2 := am_q2_some hs
  clear hs
  obtain ⟨x, y, r, rfl, hs⟩ := hs2
  obtain ⟨rfl, rfl, rfl, rfl, rfl⟩ := am_go_some hs
  exact lv_ladd hX.1 hX.2.1 hd (am_k0 rfl rfl kk H locs ls hW hL)
theorem am_ok_land (Z : am_Z) : am_SOk Z (.land) := by
  intro p l e R s m args below meth c Q D κ zs α A d M pc len cells slots lv lv' st st' h h' pc' H locs ls hX hW hL hd hs hc hz kk
  replace hs : (am_q2 st fun x y r => am_go len 1 pc lv (.long (x &&& y) :: r) h) = some (Sum.inl (pc', lv', st', h')) := hs
  have hs2 := am_q2_some hs
  clear hs
  obtain ⟨x, y, r, rfl, hs⟩ := hs2
  obtain ⟨rfl, rfl, rfl, rfl, rfl⟩ := am_go_some hs
  exact lv_land hX.1 hX.2.1 hd (am_k0 rfl rfl kk H locs ls hW hL)
theorem am_ok_lor (Z : am_Z) : am_SOk Z (.lor) := by
  intro p l e R s m args below meth c Q D κ zs α A d M pc len cells slots lv lv' st st' h h' pc' H locs ls hX hW hL hd hs hc hz kk
  replace hs : (am_q2 st fun x y r => am_go len 1 pc lv (.long (x ||| y) :: r) h) = some (Sum.inl (pc', lv', st', h')) := hs
  have hs2 := am_q2_some hs
  clear hs
  obtain ⟨x, y, r, rfl, hs⟩ := hs2
  obtain ⟨rfl, rfl, rfl, rfl, rfl⟩ := am_go_some hs
  exact lv_lor hX.1 hX.2.1 hd (am_k0 rfl rfl kk H locs ls hW hL)
theorem am_ok_ldiv (Z : am_Z) : am_SOk Z (.ldiv) := by
  intro p l e R s m args below meth c Q D κ zs α A d M pc len cells slots lv lv' st st' h h' pc' H locs ls hX hW hL hd hs hc hz kk
  replace hs : (am_q2 st fun x y r => if y = 0 then none else am_go len 1 pc lv (.long (x / y) :: r) h) = some (Sum.inl (pc', lv', st', h')) := hs
  have hs2 := am_q2_some hs
  clear hs
  obtain ⟨x, y, r, rfl, hs⟩ := hs2
  split at hs
  next => cases hs
  next hy =>
    obtain ⟨rfl, rfl, rfl, rfl, rfl⟩ := am_go_some hs
    exact lv_ldiv hX.1 hX.2.1 hd hy (am_k0 rfl rfl kk H locs ls hW hL)
theorem am_ok_lrem (Z : am_Z) : am_SOk Z (.lrem) := by
  intro p l e R s m args below meth c Q D κ zs α A d M pc len cells slots lv lv' st st' h h' pc' H locs ls hX hW hL hd hs hc hz kk
  replace hs : (am_q2 st fun x y r => if y = 0 then none else am_go len 1 pc lv (.long (x - x / y * y) :: r) h) = some (Sum.inl (pc', lv', st', h')) := hs
  have hs2 := am_q2_some hs
  clear hs
  obtain ⟨x, y, r, rfl, hs⟩ := hs2
  split at hs
  next => cases hs
  next hy =>
    obtain ⟨rfl, rfl, rfl, rfl, rfl⟩ := am_go_some hs
    exact lv_lrem hX.1 hX.2.1 hd hy (am_k0 rfl rfl kk H locs ls hW hL)
theorem am_ok_lcmp (Z : am_Z) : am_SOk Z (.lcmp) := by
  intro p l e R s m args below meth c Q D κ zs α A d M pc len cells slots lv lv' st st' h h' pc' H locs ls hX hW hL hd hs hc hz kk
  replace hs : (am_q2 st fun x y r => am_go len 1 pc lv (.int (lg_cmp x y) :: r) h) = some (Sum.inl (pc', lv', st', h')) := hs
  have hs2 := am_q2_some hs
  clear hs
  obtain ⟨x, y, r, rfl, hs⟩ := hs2
  obtain ⟨rfl, rfl, rfl, rfl, rfl⟩ := am_go_some hs
  exact W.lcmp hX.1 hX.2.1 hd (am_k0 rfl rfl kk H locs ls hW hL)
theorem am_ok_lshl (Z : am_Z) : am_SOk Z (.lshl) := by
  intro p l e R s m args below meth c Q D κ zs α A d M pc len cells slots lv lv' st st' h h' pc' H locs ls hX hW hL hd hs hc hz kk
  replace hs : (match st with | .int y :: .long x :: r => am_go len 1 pc lv (.long (x <<< (y.toInt64 &&& 63)) :: r) h | _ => none) = some (Sum.inl (pc', lv', st', h')) := hs
  split at hs
  next y x r =>
    obtain ⟨rfl, rfl, rfl, rfl, rfl⟩ := am_go_some hs
    exact lv_lshl hX.1 hX.2.1 hd rfl (am_k0 rfl rfl kk H locs ls hW hL)
  next => cases hs
theorem am_ok_dup (Z : am_Z) : am_SOk Z (.dup) := by
  intro p l e R s m args below meth c Q D κ zs α A d M pc len cells slots lv lv' st st' h h' pc' H locs ls hX hW hL hd hs hc hz kk
  replace hs : (match st with | v :: r => if v.category = 1 then am_go len 1 pc lv (v :: v :: r) h else none | _ => none) = some (Sum.inl (pc', lv', st', h')) := hs
  split at hs
  next v r =>
    split at hs
    next hv =>
      obtain ⟨rfl, rfl, rfl, rfl, rfl⟩ := am_go_some hs
      exact lv_dup hX.1 hX.2.1 hd ((am_c_cat α zs v).trans hv) (am_k0 rfl rfl kk H locs ls hW hL)
    next => cases hs
  next => cases hs
theorem am_ok_pop (Z : am_Z) : am_SOk Z (.pop) := by
  intro p l e R s m args below meth c Q D κ zs α A d M pc len cells slots lv lv' st st' h h' pc' H locs ls hX hW hL hd hs hc hz kk
  replace hs : (match st with | v :: r => if v.category = 1 then am_go len 1 pc lv r h else none | _ => none) = some (Sum.inl (pc', lv', st', h')) := hs
  split at hs
  next v r =>
    split at hs
    next hv =>
      obtain ⟨rfl, rfl, rfl, rfl, rfl⟩ := am_go_some hs
      exact lv_pop hX.1 hX.2.1 hd ((am_c_cat α zs v).trans hv) (am_k0 rfl rfl kk H locs ls hW hL)
    next => cases hs
  next => cases hs
theorem am_ok_dup_x1 (Z : am_Z) : am_SOk Z (.dup_x1) := by
  intro p l e R s m args below meth c Q D κ zs α A d M pc len cells slots lv lv' st st' h h' pc' H locs ls hX hW hL hd hs hc hz kk
  replace hs : (match st with | v :: w :: r => if v.category = 1 ∧ w.category = 1 then am_go len 1 pc lv (v :: w :: v :: r) h else none | _ => none) = some (Sum.inl (pc', lv', st', h')) := hs
  split at hs
  next v w r =>
    split at hs
    next hv =>
      obtain ⟨rfl, rfl, rfl, rfl, rfl⟩ := am_go_some hs
      exact lv_dup_x1 hX.1 hX.2.1 hd ((am_c_cat α zs v).trans hv.1) ((am_c_cat α zs w).trans hv.2) (am_k0 rfl rfl kk H locs ls hW hL)
    next => cases hs
  next => cases hs
theorem am_ok_dup2 (Z : am_Z) : am_SOk Z (.dup2) := by
  intro p l e R s m args below meth c Q D κ zs α A d M pc len cells slots lv lv' st st' h h' pc' H locs ls hX hW hL hd hs hc hz kk
  replace hs : (match st with | v :: w :: r => if v.category = 1 ∧ w.category = 1 then am_go len 1 pc lv (v :: w :: v :: w :: r) h else none | _ => none) = some (Sum.inl (pc', lv', st', h')) := hs
  split at hs
  next v w r =>
    split at hs
    next hv =>
      obtain ⟨rfl, rfl, rfl, rfl, rfl⟩ := am_go_some hs
      exact lv_dup2_11 hX.1 hX.2.1 hd ((am_c_cat α zs v).trans hv.1) ((am_c_cat α zs w).trans hv.2) (am_k0 rfl rfl kk H locs ls hW hL)
    next => cases hs
  next => cases hs
theorem am_ok_goto (Z : am_Z) (off : Int) : am_SOk Z (.goto off) := by
  intro p l e R s m args below meth c Q D κ zs α A d M pc len cells slots lv lv' st st' h h' pc' H locs ls hX hW hL hd hs hc hz kk
  replace hs : (if len = 3 then am_jp pc off lv st h else none) = some (Sum.inl (pc', lv', st', h')) := hs
  split at hs
  next hl =>
    subst hl
    obtain ⟨ht, rfl, rfl, rfl⟩ := am_jp_some hs
    exact lv_goto hX.1 hX.2.1 hd ht (am_k0 rfl rfl kk H locs ls hW hL)
  next => cases hs
theorem am_tg_eq {pc : Nat} {off : Int} {t : Nat} (g : am_tg pc off = some t) : (pc : Int) + off = (t : Int) := by
  unfold am_tg at g
  split at g
  next t2 g2 => cases g; exact g2
  next => cases g
theorem am_br_some {b : Bool} {len pc : Nat} {off : Int} {lv : am_LV} {st : List Value} {h : am_H} {pc' : Nat} {lv' : am_LV} {st' : List Value} {h' : am_H} (e : am_br b len pc off lv st h = some (.inl (pc', lv', st', h'))) : len = 3 ∧ lv' = lv ∧ st' = st ∧ h' = h ∧ ∃ t : Nat, (pc : Int) + off = (t : Int) ∧ ((b = true ∧ pc' = t) ∨ (b = false ∧ pc' = pc + 3)) := by
  unfold am_br at e
  split at e
  next hl =>
    split at e
    next t g =>
      split at e
      next hb =>
        cases e
        exact ⟨hl, rfl, rfl, rfl, _, am_tg_eq g, Or.inl ⟨hb, rfl⟩⟩
      next hb =>
        cases e
        exact ⟨hl, rfl, rfl, rfl, _, am_tg_eq g, Or.inr ⟨by simpa using hb, rfl⟩⟩
    next => cases e
  next => cases e
theorem am_ok_ifCond_eq (Z : am_Z) (off : Int) : am_SOk Z (.ifCond .eq off) := by
  intro p l e R s m args below meth c Q D κ zs α A d M pc len cells slots lv lv' st st' h h' pc' H locs ls hX hW hL hd hs hc hz kk
  replace hs : (am_p1 st fun x r => am_br (am_cb .eq x 0) len pc off lv r h) = some (Sum.inl (pc', lv', st', h')) := hs
  have hs2 := am_p1_some hs
  clear hs
  obtain ⟨x, r, rfl, hs⟩ := hs2
  obtain ⟨rfl, rfl, rfl, rfl, t, ht, hb⟩ := am_br_some hs
  rcases hb with ⟨hb, rfl⟩ | ⟨hb, rfl⟩
  · have hb : x = 0 := of_decide_eq_true hb
    exact lv_if_eq hX.1 hX.2.1 hd ht (fun _ => am_k0 rfl rfl kk H locs ls hW hL) (fun z => absurd hb z)
  · have hb : ¬ (x = 0) := of_decide_eq_false hb
    exact lv_if_eq hX.1 hX.2.1 hd ht (fun z => absurd z hb) (fun _ => am_k0 rfl rfl kk H locs ls hW hL)
theorem am_ok_ifCond_ne (Z : am_Z) (off : Int) : am_SOk Z (.ifCond .ne off) := by
  intro p l e R s m args below meth c Q D κ zs α A d M pc len cells slots lv lv' st st' h h' pc' H locs ls hX hW hL hd hs hc hz kk
  replace hs : (am_p1 st fun x r => am_br (am_cb .ne x 0) len pc off lv r h) = some (Sum.inl (pc', lv', st', h')) := hs
  have hs2 := am_p1_some hs
  clear hs
  obtain ⟨x, r, rfl, hs⟩ := hs2
  obtain ⟨rfl, rfl, rfl, rfl, t, ht, hb⟩ := am_br_some hs
  rcases hb with ⟨hb, rfl⟩ | ⟨hb, rfl⟩
  · have hb : ¬ x = 0 := of_decide_eq_true hb
    exact lv_if_ne hX.1 hX.2.1 hd ht (fun _ => am_k0 rfl rfl kk H locs ls hW hL) (fun z => absurd z hb)
  · have hb : ¬ (¬ x = 0) := of_decide_eq_false hb
    exact lv_if_ne hX.1 hX.2.1 hd ht (fun z => absurd z hb) (fun _ => am_k0 rfl rfl kk H locs ls hW hL)
theorem am_ok_ifCond_lt (Z : am_Z) (off : Int) : am_SOk Z (.ifCond .lt off) := by
  intro p l e R s m args below meth c Q D κ zs α A d M pc len cells slots lv lv' st st' h h' pc' H locs ls hX hW hL hd hs hc hz kk
  replace hs : (am_p1 st fun x r => am_br (am_cb .lt x 0) len pc off lv r h) = some (Sum.inl (pc', lv', st', h')) := hs
  have hs2 := am_p1_some hs
  clear hs
  obtain ⟨x, r, rfl, hs⟩ := hs2
  obtain ⟨rfl, rfl, rfl, rfl, t, ht, hb⟩ := am_br_some hs
  rcases hb with ⟨hb, rfl⟩ | ⟨hb, rfl⟩
  · have hb : x < 0 := of_decide_eq_true hb
    exact lv_if_lt hX.1 hX.2.1 hd ht (fun _ => am_k0 rfl rfl kk H locs ls hW hL) (fun z => absurd hb z)
  · have hb : ¬ (x < 0) := of_decide_eq_false hb
    exact lv_if_lt hX.1 hX.2.1 hd ht (fun z => absurd z hb) (fun _ => am_k0 rfl rfl kk H locs ls hW hL)
theorem am_ok_ifCond_ge (Z : am_Z) (off : Int) : am_SOk Z (.ifCond .ge off) := by
  intro p l e R s m args below meth c Q D κ zs α A d M pc len cells slots lv lv' st st' h h' pc' H locs ls hX hW hL hd hs hc hz kk
  replace hs : (am_p1 st fun x r => am_br (am_cb .ge x 0) len pc off lv r h) = some (Sum.inl (pc', lv', st', h')) := hs
  have hs2 := am_p1_some hs
  clear hs
  obtain ⟨x, r, rfl, hs⟩ := hs2
  obtain ⟨rfl, rfl, rfl, rfl, t, ht, hb⟩ := am_br_some hs
  rcases hb with ⟨hb, rfl⟩ | ⟨hb, rfl⟩
  · have hb : 0 ≤ x := of_decide_eq_true hb
    exact lv_if_ge hX.1 hX.2.1 hd ht (fun _ => am_k0 rfl rfl kk H locs ls hW hL) (fun z => absurd hb z)
  · have hb : ¬ (0 ≤ x) := of_decide_eq_false hb
    exact lv_if_ge hX.1 hX.2.1 hd ht (fun z => absurd z hb) (fun _ => am_k0 rfl rfl kk H locs ls hW hL)
theorem am_ok_ifCond_gt (Z : am_Z) (off : Int) : am_SOk Z (.ifCond .gt off) := by
  intro p l e R s m args below meth c Q D κ zs α A d M pc len cells slots lv lv' st st' h h' pc' H locs ls hX hW hL hd hs hc hz kk
  replace hs : (am_p1 st fun x r => am_br (am_cb .gt x 0) len pc off lv r h) = some (Sum.inl (pc', lv', st', h')) := hs
  have hs2 := am_p1_some hs
  clear hs
  obtain ⟨x, r, rfl, hs⟩ := hs2
  obtain ⟨rfl, rfl, rfl, rfl, t, ht, hb⟩ := am_br_some hs
  rcases hb with ⟨hb, rfl⟩ | ⟨hb, rfl⟩
  · have hb : 0 < x := of_decide_eq_true hb
    exact lv_if_gt hX.1 hX.2.1 hd ht (fun _ => am_k0 rfl rfl kk H locs ls hW hL) (fun z => absurd hb z)
  · have hb : ¬ (0 < x) := of_decide_eq_false hb
    exact lv_if_gt hX.1 hX.2.1 hd ht (fun z => absurd z hb) (fun _ => am_k0 rfl rfl kk H locs ls hW hL)
theorem am_ok_ifCond_le (Z : am_Z) (off : Int) : am_SOk Z (.ifCond .le off) := by
  intro p l e R s m args below meth c Q D κ zs α A d M pc len cells slots lv lv' st st' h h' pc' H locs ls hX hW hL hd hs hc hz kk
  replace hs : (am_p1 st fun x r => am_br (am_cb .le x 0) len pc off lv r h) = some (Sum.inl (pc', lv', st', h')) := hs
  have hs2 := am_p1_some hs
  clear hs
  obtain ⟨x, r, rfl, hs⟩ := hs2
  obtain ⟨rfl, rfl, rfl, rfl, t, ht, hb⟩ := am_br_some hs
  rcases hb with ⟨hb, rfl⟩ | ⟨hb, rfl⟩
  · have hb : x ≤ 0 := of_decide_eq_true hb
    exact lv_if_le hX.1 hX.2.1 hd ht (fun _ => am_k0 rfl rfl kk H locs ls hW hL) (fun z => absurd hb z)
  · have hb : ¬ (x ≤ 0) := of_decide_eq_false hb
    exact lv_if_le hX.1 hX.2.1 hd ht (fun z => absurd z hb) (fun _ => am_k0 rfl rfl kk H locs ls hW hL)
theorem am_ok_if_icmp_eq (Z : am_Z) (off : Int) : am_SOk Z (.if_icmp .eq off) := by
  intro p l e R s m args below meth c Q D κ zs α A d M pc len cells slots lv lv' st st' h h' pc' H locs ls hX hW hL hd hs hc hz kk
  replace hs : (am_p2 st fun x y r => am_br (am_cb .eq x y) len pc off lv r h) = some (Sum.inl (pc', lv', st', h')) := hs
  have hs2 := am_p2_some hs
  clear hs
  obtain ⟨x, y, r, rfl, hs⟩ := hs2
  obtain ⟨rfl, rfl, rfl, rfl, t, ht, hb⟩ := am_br_some hs
  rcases hb with ⟨hb, rfl⟩ | ⟨hb, rfl⟩
  · have hb : x = y := of_decide_eq_true hb
    exact lv_icmp_eq hX.1 hX.2.1 hd ht (fun _ => am_k0 rfl rfl kk H locs ls hW hL) (fun z => absurd hb z)
  · have hb : ¬ (x = y) := of_decide_eq_false hb
    exact lv_icmp_eq hX.1 hX.2.1 hd ht (fun z => absurd z hb) (fun _ => am_k0 rfl rfl kk H locs ls hW hL)
theorem am_ok_if_icmp_ne (Z : am_Z) (off : Int) : am_SOk Z (.if_icmp .ne off) := by
  intro p l e R s m args below meth c Q D κ zs α A d M pc len cells slots lv lv' st st' h h' pc' H locs ls hX hW hL hd hs hc hz kk
  replace hs : (am_p2 st fun x y r => am_br (am_cb .ne x y) len pc off lv r h) = some (Sum.inl (pc', lv', st', h')) := hs
  have hs2 := am_p2_some hs
  clear hs
  obtain ⟨x, y, r, rfl, hs⟩ := hs2
  obtain ⟨rfl, rfl, rfl, rfl, t, ht, hb⟩ := am_br_some hs
  rcases hb with ⟨hb, rfl⟩ | ⟨hb, rfl⟩
  · have hb : ¬ x = y := of_decide_eq_true hb
    exact lv_icmp_ne hX.1 hX.2.1 hd ht (fun _ => am_k0 rfl rfl kk H locs ls hW hL) (fun z => absurd z hb)
  · have hb : ¬ (¬ x = y) := of_decide_eq_false hb
    exact lv_icmp_ne hX.1 hX.2.1 hd ht (fun z => absurd z hb) (fun _ => am_k0 rfl rfl kk H locs ls hW hL)
theorem am_ok_if_icmp_lt (Z : am_Z) (off : Int) : am_SOk Z (.if_icmp .lt off) := by
  intro p l e R s m args below meth c Q D κ zs α A d M pc len cells slots lv lv' st st' h h' pc' H locs ls hX hW hL hd hs hc hz kk
  replace hs : (am_p2 st fun x y r => am_br (am_cb .lt x y) len pc off lv r h) = some (Sum.inl (pc', lv', st', h')) := hs
  have hs2 := am_p2_some hs
  clear hs
  obtain ⟨x, y, r, rfl, hs⟩ := hs2
  obtain ⟨rfl, rfl, rfl, rfl, t, ht, hb⟩ := am_br_some hs
  rcases hb with ⟨hb, rfl⟩ | ⟨hb, rfl⟩
  · have hb : x < y := of_decide_eq_true hb
    exact lv_icmp_lt hX.1 hX.2.1 hd ht (fun _ => am_k0 rfl rfl kk H locs ls hW hL) (fun z => absurd hb z)
  · have hb : ¬ (x < y) := of_decide_eq_false hb
    exact lv_icmp_lt hX.1 hX.2.1 hd ht (fun z => absurd z hb) (fun _ => am_k0 rfl rfl kk H locs ls hW hL)
theorem am_ok_if_icmp_ge (Z : am_Z) (off : Int) : am_SOk Z (.if_icmp .ge off) := by
  intro p l e R s m args below meth c Q D κ zs α A d M pc len cells slots lv lv' st st' h h' pc' H locs ls hX hW hL hd hs hc hz kk
  replace hs : (am_p2 st fun x y r => am_br (am_cb .ge x y) len pc off lv r h) = some (Sum.inl (pc', lv', st', h')) := hs
  have hs2 := am_p2_some hs
  clear hs
  obtain ⟨x, y, r, rfl, hs⟩ := hs2
  obtain ⟨rfl, rfl, rfl, rfl, t, ht, hb⟩ := am_br_some hs
  rcases hb with ⟨hb, rfl⟩ | ⟨hb, rfl⟩
  · have hb : y ≤ x := of_decide_eq_true hb
    exact lv_icmp_ge hX.1 hX.2.1 hd ht (fun _ => am_k0 rfl rfl kk H locs ls hW hL) (fun z => absurd hb z)
  · have hb : ¬ (y ≤ x) := of_decide_eq_false hb
    exact lv_icmp_ge hX.1 hX.2.1 hd ht (fun z => absurd z hb) (fun _ => am_k0 rfl rfl kk H locs ls hW hL)
theorem am_ok_if_icmp_gt (Z : am_Z) (off : Int) : am_SOk Z (.if_icmp .gt off) := by
  intro p l e R s m args below meth c Q D κ zs α A d M pc len cells slots lv lv' st st' h h' pc' H locs ls hX hW hL hd hs hc hz kk
  replace hs : (am_p2 st fun x y r => am_br (am_cb .gt x y) len pc off lv r h) = some (Sum.inl (pc', lv', st', h')) := hs
  have hs2 := am_p2_some hs
  clear hs
  obtain ⟨x, y, r, rfl, hs⟩ := hs2
  obtain ⟨rfl, rfl, rfl, rfl, t, ht, hb⟩ := am_br_some hs
  rcases hb with ⟨hb, rfl⟩ | ⟨hb, rfl⟩
  · have hb : y < x := of_decide_eq_true hb
    exact lv_icmp_gt hX.1 hX.2.1 hd ht (fun _ => am_k0 rfl rfl kk H locs ls hW hL) (fun z => absurd hb z)
  · have hb : ¬ (y < x) := of_decide_eq_false hb
    exact lv_icmp_gt hX.1 hX.2.1 hd ht (fun z => absurd z hb) (fun _ => am_k0 rfl rfl kk H locs ls hW hL)
theorem am_ok_if_icmp_le (Z : am_Z) (off : Int) : am_SOk Z (.if_icmp .le off) := by
  intro p l e R s m args below meth c Q D κ zs α A d M pc len cells slots lv lv' st st' h h' pc' H locs ls hX hW hL hd hs hc hz kk
  replace hs : (am_p2 st fun x y r => am_br (am_cb .le x y) len pc off lv r h) = some (Sum.inl (pc', lv', st', h')) := hs
  have hs2 := am_p2_some hs
  clear hs
  obtain ⟨x, y, r, rfl, hs⟩ := hs2
  obtain ⟨rfl, rfl, rfl, rfl, t, ht, hb⟩ := am_br_some hs
  rcases hb with ⟨hb, rfl⟩ | ⟨hb, rfl⟩
  · have hb : x ≤ y := of_decide_eq_true hb
    exact lv_icmp_le hX.1 hX.2.1 hd ht (fun _ => am_k0 rfl rfl kk H locs ls hW hL) (fun z => absurd hb z)
  · have hb : ¬ (x ≤ y) := of_decide_eq_false hb
    exact lv_icmp_le hX.1 hX.2.1 hd ht (fun z => absurd z hb) (fun _ => am_k0 rfl rfl kk H locs ls hW hL)
