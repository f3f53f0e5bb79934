/-! ===== the law's loop: runs with the script ===== -/
def wl (Z : am_Z) (d : Nat) (M : am_M) (pc : Nat) (lv : am_LV) (st : List Value) (F : am_FT) (L : am_LT) (Q : am_QT) : Prop := ∃ (n : Nat) (r : Option Value) (F' : am_FT) (L' : am_LT), am_run Z n d M (pc, lv, st, (am_S0, F, L)) = some (r, (am_S0, F', L')) ∧ Q r F' L'
theorem wl_step {Z : am_Z} {d : Nat} {M : am_M} {pc pc' : Nat} {lv lv' : am_LV} {st st' : List Value} {F F' : am_FT} {L L' : am_LT} {Q : am_QT} {i : Jvm.ClassFile.Instr} {len : Nat} (hd : decode M.2.2.1 pc = .ok (i, len)) (hs : am_step Z d M pc lv st (am_S0, F, L) i len = some (.inl (pc', lv', st', (am_S0, F', L')))) (h : wl Z d M pc' lv' st' F' L' Q) : wl Z d M pc lv st F L Q := by
  obtain ⟨n, r, G, K, h, hq⟩ := h
  refine ⟨n + 1, r, G, K, ?_, hq⟩
  unfold am_run
  dsimp only
  rw [hd]
  dsimp only
  rw [hs]
  exact h
theorem wl_ret {Z : am_Z} {d : Nat} {M : am_M} {pc : Nat} {lv : am_LV} {st : List Value} {F : am_FT} {L : am_LT} {Q : am_QT} {i : Jvm.ClassFile.Instr} {len : Nat} {r : Option Value} (hd : decode M.2.2.1 pc = .ok (i, len)) (hr : am_ret M st i len = some r) (hq : Q r F L) : wl Z d M pc lv st F L Q := by
  refine ⟨1, r, F, L, ?_, hq⟩
  unfold am_run
  dsimp only
  rw [hd]
  dsimp only
  split
  next g hg => exact absurd hg (am_rns hr)
  next => rw [hr]
theorem wl_call {Z : am_Z} (hZ : ∀ j x, am_Z0 j = some x → Z j = some x) {d : Nat} {M N : am_M} {pc : Nat} {lv : am_LV} {st as rest : List Value} {F : am_FT} {L : am_LT} {Q : am_QT} {i : Jvm.ClassFile.Instr} {len : Nat} (hd : decode M.2.2.1 pc = .ok (i, len)) (hc : am_cq (am_S0, F, L) M st i len = some (N, as, rest)) (hl : (am_esl as).length ≤ N.2.2.2.1) (h : wc am_S0 d N as F L (fun r F' L' => wl Z (d + 1) M (pc + 3) lv (r.toList ++ rest) F' L' Q)) : wl Z (d + 1) M pc lv st F L Q := by
  obtain ⟨n, z, hz, k, r, G, K, h, hq⟩ := h
  refine ⟨n + k + 1, r, G, K, ?_, hq⟩
  have h1 := am_run_le hZ n d N _ _ k (am_rz_run n d N (0, am_ent N as, [], F, L) z hz)
  have h2 := am_run_le (fun j x hx => hx) k (d + 1) M _ _ n h
  unfold am_run
  dsimp only
  rw [hd]
  dsimp only
  split
  next g hg => exact absurd hg (am_cns hc)
  next =>
    rw [am_rcn hc]
    dsimp only
    rw [hc]
    dsimp only
    rw [if_pos hl, h1]
    dsimp only
    rw [if_pos (Or.inl rfl), show n + k = k + n by omega]
    exact h2
theorem am_cqV {M N : am_M} {F : am_FT} {L : am_LT} {idx n p m : Nat} {st as rest : List Value} {rs : List (Option Nat)} (hs : am_site M.1 idx = some (N, n, 2)) (hst : st = as.reverse ++ .ref p :: rest) (hn : as.length = n) (hw : am_wd rest ≤ 8) (hp : am_S0[p]? = some (N.1, m, rs)) : am_cq (am_S0, F, L) M st (.invokevirtual idx) 3 = some (N, .ref p :: as, rest) := by
  subst hst
  subst hn
  show am_cx (am_cl (am_S0, F, L) M idx 2 3 (as.reverse ++ .ref p :: rest)) = _
  have e1 : (as.reverse ++ Value.ref p :: rest).take as.length = as.reverse := by rw [← List.length_reverse, List.take_left]
  have e2 : (as.reverse ++ Value.ref p :: rest).drop as.length = .ref p :: rest := by rw [← List.length_reverse, List.drop_left]
  unfold am_cl
  rw [hs]
  dsimp only
  rw [e1, e2, if_pos ⟨rfl, rfl, List.length_reverse⟩, if_neg (by decide)]
  dsimp only
  rw [if_pos hw, if_neg (by decide), List.reverse_reverse]
  unfold am_at
  dsimp only
  rw [hp]
  dsimp only
  rw [if_pos rfl]
  rfl
/-! the law's own steps -/
theorem wl_aload_n {Z : am_Z} {d : Nat} {M : am_M} {pc : Nat} {lv : am_LV} {st : List Value} {F : am_FT} {L : am_LT} {Q : am_QT} {n : Fin 4} {x : Value} (hd : decode M.2.2.1 pc = .ok (.aload_n n, 1)) (hl : lv[(n : Nat)]? = some (some x)) (hx : am_isr x = true) (h : wl Z d M (pc + 1) lv (x :: st) F L Q) : wl Z d M pc lv st F L Q := wl_step hd (by simp [am_step, am_lda, hl, hx, am_go]) h
theorem wl_iload_n {Z : am_Z} {d : Nat} {M : am_M} {pc : Nat} {lv : am_LV} {st : List Value} {F : am_FT} {L : am_LT} {Q : am_QT} {n : Fin 4} {x : Int32} (hd : decode M.2.2.1 pc = .ok (.iload_n n, 1)) (hl : lv[(n : Nat)]? = some (some (.int x))) (h : wl Z d M (pc + 1) lv (.int x :: st) F L Q) : wl Z d M pc lv st F L Q := wl_step hd (by simp [am_step, am_ldi, hl, am_go]) h
theorem wl_iconst {Z : am_Z} {d : Nat} {M : am_M} {pc : Nat} {lv : am_LV} {st : List Value} {F : am_FT} {L : am_LT} {Q : am_QT} {n : Int} {v : Int32} (hd : decode M.2.2.1 pc = .ok (.iconst n, 1)) (hv : Int32.ofInt n = v) (h : wl Z d M (pc + 1) lv (.int v :: st) F L Q) : wl Z d M pc lv st F L Q := by subst hv; exact wl_step hd (by rfl) h
theorem wl_bipush {Z : am_Z} {d : Nat} {M : am_M} {pc : Nat} {lv : am_LV} {st : List Value} {F : am_FT} {L : am_LT} {Q : am_QT} {n : Int} {v : Int32} (hd : decode M.2.2.1 pc = .ok (.bipush n, 2)) (hv : (Int8.ofInt n).toInt32 = v) (h : wl Z d M (pc + 2) lv (.int v :: st) F L Q) : wl Z d M pc lv st F L Q := by subst hv; exact wl_step hd (by rfl) h
theorem wl_ldc2 {Z : am_Z} {d : Nat} {M : am_M} {pc : Nat} {lv : am_LV} {st : List Value} {F : am_FT} {L : am_LT} {Q : am_QT} {k : Nat} {v : Int64} (hd : decode M.2.2.1 pc = .ok (.ldc2_w k, 3)) (hk : am_klong M.1 k = some v) (h : wl Z d M (pc + 3) lv (.long v :: st) F L Q) : wl Z d M pc lv st F L Q := wl_step hd (by simp [am_step, hk, am_go]) h
theorem wl_iadd {Z : am_Z} {d : Nat} {M : am_M} {pc : Nat} {lv : am_LV} {st : List Value} {F : am_FT} {L : am_LT} {Q : am_QT} {x y : Int32} (hd : decode M.2.2.1 pc = .ok (.iadd, 1)) (h : wl Z d M (pc + 1) lv (.int (x + y) :: st) F L Q) : wl Z d M pc lv (.int y :: .int x :: st) F L Q := wl_step hd (by rfl) h
theorem wl_isub {Z : am_Z} {d : Nat} {M : am_M} {pc : Nat} {lv : am_LV} {st : List Value} {F : am_FT} {L : am_LT} {Q : am_QT} {x y : Int32} (hd : decode M.2.2.1 pc = .ok (.isub, 1)) (h : wl Z d M (pc + 1) lv (.int (x - y) :: st) F L Q) : wl Z d M pc lv (.int y :: .int x :: st) F L Q := wl_step hd (by rfl) h
theorem wl_iand {Z : am_Z} {d : Nat} {M : am_M} {pc : Nat} {lv : am_LV} {st : List Value} {F : am_FT} {L : am_LT} {Q : am_QT} {x y : Int32} (hd : decode M.2.2.1 pc = .ok (.iand, 1)) (h : wl Z d M (pc + 1) lv (.int (x &&& y) :: st) F L Q) : wl Z d M pc lv (.int y :: .int x :: st) F L Q := wl_step hd (by rfl) h
theorem wl_i2l {Z : am_Z} {d : Nat} {M : am_M} {pc : Nat} {lv : am_LV} {st : List Value} {F : am_FT} {L : am_LT} {Q : am_QT} {x : Int32} (hd : decode M.2.2.1 pc = .ok (.i2l, 1)) (h : wl Z d M (pc + 1) lv (.long x.toInt64 :: st) F L Q) : wl Z d M pc lv (.int x :: st) F L Q := wl_step hd (by rfl) h
theorem wl_lshl {Z : am_Z} {d : Nat} {M : am_M} {pc : Nat} {lv : am_LV} {st : List Value} {F : am_FT} {L : am_LT} {Q : am_QT} {x : Int64} {y : Int32} (hd : decode M.2.2.1 pc = .ok (.lshl, 1)) (h : wl Z d M (pc + 1) lv (.long (x <<< (y.toInt64 &&& 63)) :: st) F L Q) : wl Z d M pc lv (.int y :: .long x :: st) F L Q := wl_step hd (by rfl) h
theorem wl_land {Z : am_Z} {d : Nat} {M : am_M} {pc : Nat} {lv : am_LV} {st : List Value} {F : am_FT} {L : am_LT} {Q : am_QT} {x y : Int64} (hd : decode M.2.2.1 pc = .ok (.land, 1)) (h : wl Z d M (pc + 1) lv (.long (x &&& y) :: st) F L Q) : wl Z d M pc lv (.long y :: .long x :: st) F L Q := wl_step hd (by rfl) h
theorem wl_lor {Z : am_Z} {d : Nat} {M : am_M} {pc : Nat} {lv : am_LV} {st : List Value} {F : am_FT} {L : am_LT} {Q : am_QT} {x y : Int64} (hd : decode M.2.2.1 pc = .ok (.lor, 1)) (h : wl Z d M (pc + 1) lv (.long (x ||| y) :: st) F L Q) : wl Z d M pc lv (.long y :: .long x :: st) F L Q := wl_step hd (by rfl) h
theorem wl_lcmp {Z : am_Z} {d : Nat} {M : am_M} {pc : Nat} {lv : am_LV} {st : List Value} {F : am_FT} {L : am_LT} {Q : am_QT} {x y : Int64} (hd : decode M.2.2.1 pc = .ok (.lcmp, 1)) (h : wl Z d M (pc + 1) lv (.int (lg_cmp x y) :: st) F L Q) : wl Z d M pc lv (.long y :: .long x :: st) F L Q := wl_step hd (by rfl) h
theorem wl_goto {Z : am_Z} {d : Nat} {M : am_M} {pc : Nat} {lv : am_LV} {st : List Value} {F : am_FT} {L : am_LT} {Q : am_QT} {off : Int} {t : Nat} (hd : decode M.2.2.1 pc = .ok (.goto off, 3)) (ht : am_tg pc off = some t) (h : wl Z d M t lv st F L Q) : wl Z d M pc lv st F L Q := wl_step hd (by simp [am_step, am_jp, ht]) h
theorem wl_iinc {Z : am_Z} {d : Nat} {M : am_M} {pc : Nat} {lv : am_LV} {st : List Value} {F : am_FT} {L : am_LT} {Q : am_QT} {n : Nat} {k : Int} {x v : Int32} {lv1 : am_LV} (hd : decode M.2.2.1 pc = .ok (.iinc n k, 3)) (hl : lv[n]? = some (some (.int x))) (hn : n < lv.length) (hk : Int32.ofInt k = v) (h1 : am_s1 lv n (.int (x + v)) = lv1) (h : wl Z d M (pc + 3) lv1 st F L Q) : wl Z d M pc lv st F L Q := by subst hk; subst h1; exact wl_step hd (by simp only [am_step, am_ldi, hl, if_pos hn, am_go]; rfl) h
theorem wl_eq {Z : am_Z} {d : Nat} {M : am_M} {pc : Nat} {lv : am_LV} {st : List Value} {F : am_FT} {L : am_LT} {Q : am_QT} {off : Int} {t : Nat} {x : Int32} (hd : decode M.2.2.1 pc = .ok (.if_icmp .eq off, 3)) (ht : am_tg pc off = some t) (h : wl Z d M t lv st F L Q) : wl Z d M pc lv (.int x :: .int x :: st) F L Q := wl_step hd (by simp [am_step, am_p2, am_br, ht, am_cb]) h
theorem wl_z {Z : am_Z} {d : Nat} {M : am_M} {pc : Nat} {lv : am_LV} {st : List Value} {F : am_FT} {L : am_LT} {Q : am_QT} {off : Int} {t : Nat} (hd : decode M.2.2.1 pc = .ok (.ifCond .eq off, 3)) (ht : am_tg pc off = some t) (h : wl Z d M t lv st F L Q) : wl Z d M pc lv (.int 0 :: st) F L Q := wl_step hd (by simp [am_step, am_p1, am_br, ht, am_cb]) h
theorem wl_gtT {Z : am_Z} {d : Nat} {M : am_M} {pc : Nat} {lv : am_LV} {st : List Value} {F : am_FT} {L : am_LT} {Q : am_QT} {off : Int} {t : Nat} {x y : Int32} (hd : decode M.2.2.1 pc = .ok (.if_icmp .gt off, 3)) (ht : am_tg pc off = some t) (hc : y < x) (h : wl Z d M t lv st F L Q) : wl Z d M pc lv (.int y :: .int x :: st) F L Q := wl_step hd (by simp [am_step, am_p2, am_br, ht, am_cb, hc]) h
theorem wl_gtF {Z : am_Z} {d : Nat} {M : am_M} {pc : Nat} {lv : am_LV} {st : List Value} {F : am_FT} {L : am_LT} {Q : am_QT} {off : Int} {t : Nat} {x y : Int32} (hd : decode M.2.2.1 pc = .ok (.if_icmp .gt off, 3)) (ht : am_tg pc off = some t) (hc : ¬ y < x) (h : wl Z d M (pc + 3) lv st F L Q) : wl Z d M pc lv (.int y :: .int x :: st) F L Q := wl_step hd (by simp [am_step, am_p2, am_br, ht, am_cb, hc]) h
theorem wl_tableO {Z : am_Z} {d : Nat} {M : am_M} {pc : Nat} {lv : am_LV} {st : List Value} {F : am_FT} {L : am_LT} {Q : am_QT} {df lo hi : Int} {offs : Array Int} {len t : Nat} {x : Int32} (hd : decode M.2.2.1 pc = .ok (.tableswitch df lo hi offs, len)) (hx : x.toInt < lo ∨ hi < x.toInt) (ht : am_tg pc df = some t) (h : wl Z d M t lv st F L Q) : wl Z d M pc lv (.int x :: st) F L Q := wl_step hd (by simp [am_step, am_p1, hx, am_jp, ht]) h
theorem wl_tableI {Z : am_Z} {d : Nat} {M : am_M} {pc : Nat} {lv : am_LV} {st : List Value} {F : am_FT} {L : am_LT} {Q : am_QT} {df lo hi off : Int} {offs : Array Int} {len t : Nat} {x : Int32} (hd : decode M.2.2.1 pc = .ok (.tableswitch df lo hi offs, len)) (hx : ¬ (x.toInt < lo ∨ hi < x.toInt)) (ho : offs[(x.toInt - lo).toNat]? = some off) (ht : am_tg pc off = some t) (h : wl Z d M t lv st F L Q) : wl Z d M pc lv (.int x :: st) F L Q := wl_step hd (by simp only [am_step, am_p1, if_neg hx, ho, am_jp, ht]) h
theorem wl_lenZ {Z : am_Z} {d : Nat} {M : am_M} {pc : Nat} {lv : am_LV} {st : List Value} {F : am_FT} {L : am_LT} {Q : am_QT} {p : Nat} {z : Nat × (Nat → Int32)} (hd : decode M.2.2.1 pc = .ok (.arraylength, 1)) (hp : ¬ p < 1000) (hp2 : p < 1006) (hz : Z (p - 1000) = some z) (h : wl Z d M (pc + 1) lv (.int (Int32.ofNat z.1) :: st) F L Q) : wl Z d M pc lv (.ref p :: st) F L Q := wl_step hd (by simp [am_step, am_a1, hp, hp2, hz, am_go]) h
theorem wl_ldZ {Z : am_Z} {d : Nat} {M : am_M} {pc : Nat} {lv : am_LV} {st : List Value} {F : am_FT} {L : am_LT} {Q : am_QT} {p : Nat} {i : Int32} {z : Nat × (Nat → Int32)} (hd : decode M.2.2.1 pc = .ok (.iaload, 1)) (hp : ¬ p < 1000) (hp2 : p < 1006) (hz : Z (p - 1000) = some z) (hi : am_oob i z.1 = false) (h : wl Z d M (pc + 1) lv (.int (z.2 i.toNatClampNeg) :: st) F L Q) : wl Z d M pc lv (.int i :: .ref p :: st) F L Q := wl_step hd (by simp [am_step, hp, hp2, hz, hi, am_go]) h
theorem wl_len {d : Nat} {M : am_M} {pc : Nat} {lv : am_LV} {st : List Value} {F : am_FT} {L : am_LT} {Q : am_QT} {n : Nat} {xs : Nat → Int32} (hd : decode M.2.2.1 pc = .ok (.arraylength, 1)) (h : wl (am_Zl n xs) d M (pc + 1) lv (.int (nI n) :: st) F L Q) : wl (am_Zl n xs) d M pc lv (.ref 1005 :: st) F L Q := wl_lenZ (z := (n, xs)) hd (by decide) (by decide) rfl h
theorem wl_ld {d : Nat} {M : am_M} {pc : Nat} {lv : am_LV} {st : List Value} {F : am_FT} {L : am_LT} {Q : am_QT} {n i : Nat} {xs : Nat → Int32} (hd : decode M.2.2.1 pc = .ok (.iaload, 1)) (hi : i < n) (hn : n < 2 ^ 31) (h : wl (am_Zl n xs) d M (pc + 1) lv (.int (xs i) :: st) F L Q) : wl (am_Zl n xs) d M pc lv (.int (nI i) :: .ref 1005 :: st) F L Q := wl_ldZ (z := (n, xs)) hd (by decide) (by decide) rfl (oobN hi hn) (by rw [nI_clamp (by omega)]; exact h)
/-! the script's numbers, and the two calls -/
def lvL (i : Nat) : am_LV := [some (.ref 1005), some (.ref 0), some (.ref 45), some (.int (nI i))]
/-- number j of the call at i -/
theorem wl_arg {pc i j n : Nat} {k : Int} {st : List Value} {F : am_FT} {L : am_LT} {Q : am_QT} {xs : Nat → Int32} (h0 : decode mL_law.2.2.1 pc = .ok (.aload_n 0, 1)) (h1 : decode mL_law.2.2.1 (pc + 1) = .ok (.iload_n 3, 1)) (h2 : decode mL_law.2.2.1 (pc + 2) = .ok (.iconst k, 1)) (h3 : decode mL_law.2.2.1 (pc + 3) = .ok (.iadd, 1)) (h4 : decode mL_law.2.2.1 (pc + 4) = .ok (.iaload, 1)) (hk : Int32.ofInt k = nI j) (hj : i + j < n) (hn : n < 2 ^ 31) (h : wl (am_Zl n xs) 2048 mL_law (pc + 5) (lvL i) (.int (xs (i + j)) :: st) F L Q) : wl (am_Zl n xs) 2048 mL_law pc (lvL i) st F L Q := by
  apply wl_aload_n h0 (x := .ref 1005) rfl rfl
  apply wl_iload_n h1 (x := nI i) rfl
  apply wl_iconst h2 hk
  apply wl_iadd h3
  rw [nI_add]
  exact wl_ld h4 hj hn h
theorem am_Zl_le {n : Nat} {xs : Nat → Int32} : ∀ j x, am_Z0 j = some x → am_Zl n xs j = some x := by
  intro j x h
  unfold am_Z0 at h
  unfold am_Zl
  by_cases h5 : j < 5
  · rw [if_pos h5] at h ⊢; exact h
  · rw [if_neg h5] at h; cases h
theorem Mdl_45 {F G : am_FT} {L K : am_LT} {g : am_G} (h : Mdl F L g) (e : ∀ p, 45 ≤ p → G p = F p) (el : ∀ p, 45 ≤ p → K p = L p) : Mdl G K g := by
  obtain ⟨h1, h2, h3, h4, h5, h6, h7⟩ := h
  have e45 := e 45 (by decide)
  refine ⟨MV_fr h1 (by rw [e45]) (by rw [e45]) (by rw [e45]) (by rw [e45]) (e 46 (by decide)) (e 51 (by decide)), ?_, ?_, ?_, ?_, ?_, RSm_fr h7 (e 59 (by decide)) (e 60 (by decide)) (el 61 (by decide))⟩
  · rw [e45, e 50 (by decide)]; exact h2
  · rw [e45, e 47 (by decide), e 48 (by decide), e 49 (by decide)]; exact h3
  · rw [e45, e 53 (by decide), e 54 (by decide), e 55 (by decide), e 56 (by decide)]; exact h4
  · rw [e45, e 57 (by decide)]; exact h5
  · rw [e45, e 58 (by decide)]; exact h6
theorem Cls_45 {F G : am_FT} {L K : am_LT} {g : am_G} (h : Cls F L g) (e : ∀ p, p < 45 → G p = F p) (el : ∀ p, p < 45 → K p = L p) : Cls G K g := by
  obtain ⟨h1, h2, h3, h4, h5, h6, h7⟩ := h
  refine ⟨CV_fr h1 (by rw [e 1 (by decide), e 2 (by decide)]; exact h1.1) h1.2.1 rfl (e 6 (by decide)) (e 7 (by decide)), RT_fr h2 (e 3 (by decide)) (e 4 (by decide)), RC_fr h3 (fun p a b => e p (by omega)), RD_fr h4 (fun p a b => e p (by omega)), RT_fr h5 (e 29 (by decide)) (e 30 (by decide)), RTr_fr h6 (e 29 (by decide)) (e 31 (by decide)), ?_⟩
  intro d hd
  rw [e _ (by omega), el _ (by omega)]
  exact h7 d hd
theorem wl_cc {n i pc idx np m : Nat} {xs : Nat → Int32} {N : am_M} {as : List Value} {st : List Value} {rs : List (Option Nat)} {g g' : am_G} {r : Value} {F : am_FT} {L : am_LT} {Q : am_QT} (hc : CC N (.ref 0 :: as) g r g') (hM : Mdl F L g) (hC : Cls F L g) (hd : decode mL_law.2.2.1 pc = .ok (.invokevirtual idx, 3)) (hs : am_site mL_law.1 idx = some (N, np, 2)) (hst : st = as.reverse ++ .ref 0 :: []) (hn : as.length = np) (hp : am_S0[0]? = some (N.1, m, rs)) (hl : (am_esl (.ref 0 :: as)).length ≤ N.2.2.2.1) (h : ∀ (G : am_FT) (K : am_LT), Mdl G K g → Cls G K g' → wl (am_Zl n xs) 2048 mL_law (pc + 3) (lvL i) [r] G K Q) : wl (am_Zl n xs) 2048 mL_law pc (lvL i) st F L Q := by
  refine wl_call am_Zl_le hd (am_cqV hs hst hn (by decide) hp) hl ?_
  apply hc F L _ hC
  intro G K e el hG
  exact h G K (Mdl_45 hM e el) hG
theorem wl_mc {n i pc idx np m : Nat} {xs : Nat → Int32} {N : am_M} {as : List Value} {st : List Value} {rs : List (Option Nat)} {g g' : am_G} {r r0 : Value} {F : am_FT} {L : am_LT} {Q : am_QT} (hc : MC N (.ref 45 :: as) g r g') (hM : Mdl F L g) (hC : Cls F L g') (hd : decode mL_law.2.2.1 pc = .ok (.invokevirtual idx, 3)) (hs : am_site mL_law.1 idx = some (N, np, 2)) (hst : st = as.reverse ++ .ref 45 :: [r0]) (hn : as.length = np) (hw : am_wd [r0] ≤ 8) (hp : am_S0[45]? = some (N.1, m, rs)) (hl : (am_esl (.ref 45 :: as)).length ≤ N.2.2.2.1) (h : ∀ (G : am_FT) (K : am_LT), Mdl G K g' → Cls G K g' → wl (am_Zl n xs) 2048 mL_law (pc + 3) (lvL i) [r, r0] G K Q) : wl (am_Zl n xs) 2048 mL_law pc (lvL i) st F L Q := by
  refine wl_call am_Zl_le hd (am_cqV hs hst hn hw hp) hl ?_
  apply hc F L _ hM
  intro G K e el hG
  exact h G K hG (Cls_45 hC e el)
