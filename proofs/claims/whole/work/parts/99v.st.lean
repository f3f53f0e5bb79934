/-! ===== the law's start, and its whole run ===== -/
def wg (Z : am_Z) (d : Nat) (M : am_M) (pc : Nat) (lv : am_LV) (st : List Value) (h : am_H) (Q : Option Value → am_H → Prop) : Prop := ∃ (n : Nat) (r : Option Value) (h' : am_H), am_run Z n d M (pc, lv, st, h) = some (r, h') ∧ Q r h'
theorem wg_step {Z : am_Z} {d : Nat} {M : am_M} {pc pc' : Nat} {lv lv' : am_LV} {st st' : List Value} {h h1 : am_H} {Q : Option Value → am_H → Prop} {i : Jvm.ClassFile.Instr} {len : Nat} (hd : decode M.2.2.1 pc = .ok (i, len)) (hs : am_step Z d M pc lv st h i len = some (.inl (pc', lv', st', h1))) (hw : wg Z d M pc' lv' st' h1 Q) : wg Z d M pc lv st h Q := by
  obtain ⟨n, r, h', e, hq⟩ := hw
  refine ⟨n + 1, r, h', ?_, hq⟩
  unfold am_run
  dsimp only
  rw [hd]
  dsimp only
  rw [hs]
  exact e
theorem wg_call {Z : am_Z} {d k : Nat} {M N : am_M} {pc : Nat} {lv : am_LV} {st as rest : List Value} {h h2 : am_H} {z : Option Value} {Q : Option Value → am_H → Prop} {i : Jvm.ClassFile.Instr} {len : Nat} (hd : decode M.2.2.1 pc = .ok (i, len)) (hc : am_cq h M st i len = some (N, as, rest)) (hl : (am_esl as).length ≤ N.2.2.2.1) (hr : am_run Z k d N (0, am_ent N as, [], h) = some (z, h2)) (hf : h2.1.length = h.1.length ∨ am_fresh h.1.length lv rest = true) (hw : wg Z (d + 1) M (pc + 3) lv (z.toList ++ rest) h2 Q) : wg Z (d + 1) M pc lv st h Q := by
  obtain ⟨n, r, h', e, hq⟩ := hw
  refine ⟨k + n + 1, r, h', ?_, hq⟩
  have h1 := am_run_le (fun j x hx => hx) k d N _ _ n hr
  have h3 := am_run_le (fun j x hx => hx) n (d + 1) M _ _ k e
  unfold am_run
  dsimp only
  rw [hd]
  dsimp only
  split
  next g hg => exact absurd hg (am_cns hc)
  next =>
    rw [am_rcn hc]
    dsimp only
    rw [hc]
    dsimp only
    rw [if_pos hl, h1]
    dsimp only
    rw [if_pos hf, show k + n = n + k by omega]
    exact h3
theorem wg_wl {Z : am_Z} {d : Nat} {M : am_M} {pc : Nat} {lv : am_LV} {st : List Value} {F : am_FT} {L : am_LT} {Q : am_QT} (h : wl Z d M pc lv st F L Q) : wg Z d M pc lv st (am_S0, F, L) (fun r h' => h'.1 = am_S0 ∧ Q r h'.2.1 h'.2.2) := by
  obtain ⟨n, r, F', L', e, hq⟩ := h
  exact ⟨n, r, _, e, rfl, hq⟩
theorem am_ok_ex {h : am_H} (e : am_ok h = true) : h.1 = am_S0 ∧ (∀ x, x ∈ am_f0 → h.2.1 x.1 x.2.1 = x.2.2) ∧ ∀ i, i < 60 → ∀ d, d < 6 → h.2.2 (34 + 2 * d) i = 0 ∧ h.2.2 61 (60 * d + i) = 0 := by
  unfold am_ok at e
  rw [Bool.and_eq_true, Bool.and_eq_true] at e
  obtain ⟨e1, e2, e3⟩ := e
  refine ⟨of_decide_eq_true e1, fun x hx => of_decide_eq_true (List.all_eq_true.mp e2 x hx), fun i hi d hd => ?_⟩
  have a := List.all_eq_true.mp (List.all_eq_true.mp e3 i (List.mem_range.mpr hi)) d (List.mem_range.mpr hd)
  rw [Bool.and_eq_true] at a
  exact ⟨of_decide_eq_true a.1, of_decide_eq_true a.2⟩
theorem am_iB_ex : ∃ hA h : am_H, am_iA = some (none, hA) ∧ hA.1.length = 45 ∧ am_run am_Z0 3000 2047 mX12_init (0, am_ent mX12_init [.ref 45], [], am_push hA 12 39 (List.replicate 39 none)) = some (none, h) ∧ am_ok h = true := by
  have ok := am_iB_ok
  obtain ⟨y, hy⟩ : ∃ y, am_iA = y := ⟨_, rfl⟩
  have e : am_iB = am_iBf y := congrArg am_iBf hy
  rw [e] at ok
  rcases y with _ | ⟨v, hA⟩
  · cases ok
  · rcases v with _ | v
    · by_cases hl : hA.1.length = 45
      · obtain ⟨z, hz⟩ : ∃ z, am_run am_Z0 3000 2047 mX12_init (0, am_ent mX12_init [.ref 45], [], am_push hA 12 39 (List.replicate 39 none)) = z := ⟨_, rfl⟩
        have ok2 : am_okO z = true := by
          rw [← hz]
          have : (if hA.1.length = 45 then am_run am_Z0 3000 2047 mX12_init (0, am_ent mX12_init [.ref 45], [], am_push hA 12 39 (List.replicate 39 none)) else none) = am_run am_Z0 3000 2047 mX12_init (0, am_ent mX12_init [.ref 45], [], am_push hA 12 39 (List.replicate 39 none)) := if_pos hl
          rw [← this]
          exact ok
        rcases z with _ | ⟨w, h⟩
        · cases ok2
        · rcases w with _ | w
          · exact ⟨hA, h, hy, hl, hz, ok2⟩
          · cases ok2
      · have : (if hA.1.length = 45 then am_run am_Z0 3000 2047 mX12_init (0, am_ent mX12_init [.ref 45], [], am_push hA 12 39 (List.replicate 39 none)) else none) = none := if_neg hl
        have ok2 : am_okO none = true := by rw [← this]; exact ok
        cases ok2
    · cases ok
/-! the state at the start -/
def lowN (n : Nat) : Nat := [9, 8, 6, 4, 3, 2, 2, 3, 4, 6, 8, 9].getD n 0
def v0 : am_V := (0, 0, fun w n => if w = 3 then lowN n else 0, fun _ => false, fun w _ _ _ _ _ => w)
def d0 : am_D := (fun _ => 0, false, 0, 0, fun _ => false, fun _ => 0, fun _ => 0, fun _ => 0)
def g0 : am_G := (v0, (0, fun _ => 0), (0, 0, fun _ => (0, 0, 0, 0)), d0, (0, fun _ => 0), [], fun _ => (0, 0, fun _ => 0))
theorem v0_w {w n : Nat} (hw : w < 7) (hn : n < vO v0 w) : w = 3 ∧ n < 12 := by
  rcases (by omega : w = 0 ∨ w = 1 ∨ w = 2 ∨ w = 3 ∨ w = 4 ∨ w = 5 ∨ w = 6) with rfl | rfl | rfl | rfl | rfl | rfl | rfl
  · exact absurd (show n < 0 from hn) (Nat.not_lt_zero n)
  · exact absurd (show n < 0 from hn) (Nat.not_lt_zero n)
  · exact absurd (show n < 0 from hn) (Nat.not_lt_zero n)
  · exact ⟨rfl, hn⟩
  · exact absurd (show n < 0 from hn) (Nat.not_lt_zero n)
  · exact absurd (show n < 0 from hn) (Nat.not_lt_zero n)
  · exact absurd (show n < 0 from hn) (Nat.not_lt_zero n)
theorem low_9 : ∀ n, n < 12 → lowN n ≤ 9 := by decide
theorem wV_0 : wV v0 := ⟨by decide, by decide, fun w n hw hn => by
  obtain ⟨rfl, h⟩ := v0_w hw hn
  exact ⟨Nat.zero_le _, low_9 n h⟩⟩
theorem wA_0 : wA g0 := by
  refine ⟨⟨wV_0, ⟨by decide, fun k hk => absurd hk (Nat.not_lt_zero k)⟩, ⟨by decide, fun i hi => absurd hi (Nat.not_lt_zero i)⟩, ⟨⟨0, by decide, rfl⟩, fun h => by cases h⟩, ⟨by decide, fun k hk => absurd hk (Nat.not_lt_zero k)⟩, by decide, fun d hd => ⟨Nat.zero_le _, Nat.zero_le _, fun _ => rfl, fun a => absurd a (Nat.not_succ_le_zero 0)⟩⟩, fun d hd e => by cases e⟩
theorem g0_M {h : am_H} (hf : ∀ x, x ∈ am_f0 → h.2.1 x.1 x.2.1 = x.2.2) (hl : ∀ i, i < 60 → ∀ d, d < 6 → h.2.2 (34 + 2 * d) i = 0 ∧ h.2.2 61 (60 * d + i) = 0) : Mdl h.2.1 h.2.2 g0 := by
  refine ⟨⟨⟨hf (45, 6, 0) (by decide), hf (45, 7, 0) (by decide), hf (45, 8, 0) (by decide), fun w n hw hn => ?_⟩, wV_0, Or.inl ⟨hf (45, 12, -1) (by decide), rfl⟩⟩, ⟨hf (45, 10, 0) (by decide), fun k hk => absurd hk (Nat.not_lt_zero k)⟩, ⟨hf (45, 5, 0) (by decide), hf (45, 4, 0) (by decide), fun i hi => absurd hi (Nat.not_lt_zero i)⟩, ⟨fun k hk => ?_, hf (45, 19, 0) (by decide), hf (45, 21, 0) (by decide), fun e => by cases e⟩, ⟨hf (45, 29, 0) (by decide), fun k hk => absurd hk (Nat.not_lt_zero k)⟩, ⟨hf (45, 32, 0) (by decide), fun i _ hi => absurd hi (Nat.not_lt_zero i)⟩, fun d hd => ⟨?_, ?_, fun i hi => (hl i hi d hd).2⟩⟩
  · obtain ⟨rfl, hn'⟩ := v0_w hw hn
    have : ∀ n, n < 12 → (46, 18 + n, nI (lowN n)) ∈ am_f0 := by decide +kernel
    exact hf _ (this n hn')
  · have : ∀ k, k < 4 → (53, k, (0 : Int32)) ∈ am_f0 := by decide +kernel
    exact hf _ (this k hk)
  · have : ∀ d, d < 6 → (59, d, (-1 : Int32)) ∈ am_f0 := by decide +kernel
    exact hf _ (this d hd)
  · have : ∀ d, d < 6 → (60, d, (0 : Int32)) ∈ am_f0 := by decide +kernel
    exact hf _ (this d hd)
theorem g0_C {h : am_H} (hf : ∀ x, x ∈ am_f0 → h.2.1 x.1 x.2.1 = x.2.2) (hl : ∀ i, i < 60 → ∀ d, d < 6 → h.2.2 (34 + 2 * d) i = 0 ∧ h.2.2 61 (60 * d + i) = 0) : Cls h.2.1 h.2.2 g0 := by
  refine ⟨⟨⟨hf (1, 1, 0) (by decide), hf (1, 2, 0) (by decide), fun w n hw hn => ?_, fun t ht => absurd ht (Nat.not_lt_zero t)⟩, wV_0, ?_⟩, ⟨hf (3, 2, 0) (by decide), fun k hk => absurd hk (Nat.not_lt_zero k)⟩, ⟨hf (24, 6, 0) (by decide), hf (24, 7, 0) (by decide), by decide, 0, by decide, hf (24, 5, 0) (by decide), fun i hi => absurd hi (Nat.not_lt_zero i)⟩, ⟨fun k hk => ?_, hf (18, 8, 0) (by decide), fun e => by cases e⟩, ⟨hf (29, 2, 0) (by decide), fun k hk => absurd hk (Nat.not_lt_zero k)⟩, ⟨hf (29, 3, 0) (by decide), fun i _ hi => absurd hi (Nat.not_lt_zero i)⟩, fun d hd => ⟨?_, ?_, ?_, fun i hi => (hl i hi d hd).1⟩⟩
  · obtain ⟨rfl, hn'⟩ := v0_w hw hn
    have : ∀ n, n < 12 → (2, 12 * 3 + n, nI (lowN n)) ∈ am_f0 := by decide +kernel
    exact hf _ (this n hn')
  · rw [hf (6, 2, 0) (by decide)]
    exact RLaw_0
  · have : ∀ k, k < 5 → (19, k, (0 : Int32)) ∈ am_f0 := by decide +kernel
    exact hf _ (this k hk)
  · have : ∀ d, d < 6 → (33 + 2 * d, 1, (-1 : Int32)) ∈ am_f0 := by decide +kernel
    exact hf _ (this d hd)
  · have : ∀ d, d < 6 → (33 + 2 * d, 2, (0 : Int32)) ∈ am_f0 := by decide +kernel
    exact hf _ (this d hd)
  · have : ∀ d, d < 6 → (33 + 2 * d, 3, (-1 : Int32)) ∈ am_f0 := by decide +kernel
    exact hf _ (this d hd)
theorem am_run0 {n : Nat} {xs : Nat → Int32} (hn : n ≤ 3072) : wg (am_Zl n xs) 2048 mL_law 0 [some (.ref 1005), none, none, none] [] am_h0 (fun r h' => h'.1 = am_S0 ∧ r = some (.int 1)) := by
  obtain ⟨hA, h, eA, lA, eB, ok⟩ := am_iB_ex
  obtain ⟨o1, o2, o3⟩ := am_ok_ex ok
  have rA := am_run_le (am_Zl_le (n := n) (xs := xs)) _ _ _ _ _ 0 eA
  have rB := am_run_le (am_Zl_le (n := n) (xs := xs)) _ _ _ _ _ 0 eB
  apply wg_step (i := .new 7) (len := 3) (pc' := 3) (lv' := [some (.ref 1005), none, none, none]) (st' := [.ref 0]) (h1 := am_push am_h0 11 13 (List.replicate 13 none)) (by decide +kernel) rfl
  apply wg_step (i := .dup) (len := 1) (pc' := 4) (lv' := [some (.ref 1005), none, none, none]) (st' := [.ref 0, .ref 0]) (by decide +kernel) rfl
  apply wg_call (d := 2047) (i := .invokespecial 9) (len := 3) (N := mX11_init) (as := [.ref 0]) (rest := [.ref 0]) (by decide +kernel) rfl (Nat.le_of_ble_eq_true rfl) rA (Or.inr rfl)
  apply wg_step (i := .astore_n 1) (len := 1) (pc' := 8) (lv' := [some (.ref 1005), some (.ref 0), none, none]) (st' := []) (h1 := hA) (by decide +kernel) rfl
  have e8 : am_step (am_Zl n xs) 2048 mL_law 8 [some (.ref 1005), some (.ref 0), none, none] [] hA (.new 10) 3 = am_mk hA 12 39 (List.replicate 39 none) 3 3 8 [some (.ref 1005), some (.ref 0), none, none] [] := rfl
  have e8' : am_step (am_Zl n xs) 2048 mL_law 8 [some (.ref 1005), some (.ref 0), none, none] [] hA (.new 10) 3 = some (.inl (11, [some (.ref 1005), some (.ref 0), none, none], [.ref 45], am_push hA 12 39 (List.replicate 39 none))) := by
    rw [e8]
    unfold am_mk
    rw [lA, if_pos ⟨by decide, rfl⟩]
    rfl
  have l46 : (am_push hA 12 39 (List.replicate 39 none)).1.length = 46 := by
    show (hA.1 ++ [_]).length = 46
    rw [List.length_append, lA]
    rfl
  apply wg_step (i := .new 10) (len := 3) (by decide +kernel) e8'
  apply wg_step (i := .dup) (len := 1) (pc' := 12) (lv' := [some (.ref 1005), some (.ref 0), none, none]) (st' := [.ref 45, .ref 45]) (h1 := am_push hA 12 39 (List.replicate 39 none)) (by decide +kernel) rfl
  apply wg_call (d := 2047) (i := .invokespecial 12) (len := 3) (N := mX12_init) (as := [.ref 45]) (rest := [.ref 45]) (by decide +kernel) rfl (Nat.le_of_ble_eq_true rfl) rB (Or.inr (by rw [l46]; rfl))
  apply wg_step (i := .astore_n 2) (len := 1) (pc' := 16) (lv' := [some (.ref 1005), some (.ref 0), some (.ref 45), none]) (st' := []) (h1 := h) (by decide +kernel) rfl
  apply wg_step (i := .iconst 0) (len := 1) (pc' := 17) (lv' := [some (.ref 1005), some (.ref 0), some (.ref 45), none]) (st' := [.int 0]) (h1 := h) (by decide +kernel) rfl
  apply wg_step (i := .istore_n 3) (len := 1) (pc' := 18) (lv' := lvL 0) (st' := []) (h1 := h) (by decide +kernel) rfl
  obtain ⟨S, F, L⟩ := h
  cases (show S = am_S0 from o1)
  exact wg_wl (Q := fun r _ _ => r = some (.int 1)) (lw_loop hn (fun _ _ => rfl) (n + 1) 0 F L g0 (by omega) (by omega) wA_0 (g0_M o2 o3) (g0_C o2 o3))
