/-! ===== the model's questions, 5: seats, draws ===== -/
theorem vs4_o {v : am_V} {p c w n : Nat} (hw : w ≠ 4) : vN (vset v 4 p c) w n = vN v w n := if_neg fun hh => hw hh.1
theorem shd_s4 {v : am_V} {p c t m h x : Nat} : shd (vset v 4 p c) t m h x = shd v t m h x := by
  unfold shd
  rw [vs4_o (by decide), vs4_o (by decide), vs4_o (by decide)]
theorem cov_s4 {v : am_V} {p c t m h : Nat} (hp : p < vP v) : cov (vset v 4 p c) t m h = if shd v t m h c = true then ndf (cov v t m h) (2 ^ p) ||| 2 ^ p else ndf (cov v t m h) (2 ^ p) := by
  apply Nat.eq_of_testBit_eq
  intro i
  have e1 : (cov (vset v 4 p c) t m h).testBit i = (decide (i < vP v) && shd v t m h (if i = p then c else vN v 4 i)) := by
    unfold cov
    rw [bs_bit]
    show (decide (i < vP v) && shd (vset v 4 p c) t m h (if 4 = 4 ∧ i = p then c else vN v 4 i)) = _
    rw [shd_s4]
    simp only [true_and]
  have e2 : (ndf (cov v t m h) (2 ^ p)).testBit i = ((decide (i < vP v) && shd v t m h (vN v 4 i)) && !decide (p = i)) := by
    rw [ndf_bit, Nat.testBit_two_pow]
    unfold cov
    rw [bs_bit]
  rw [e1]
  by_cases hi : i = p
  · subst hi
    rw [if_pos rfl, decide_eq_true hp, Bool.true_and]
    cases hs : shd v t m h c
    · rw [if_neg (by decide), e2, decide_eq_true rfl, Bool.not_true, Bool.and_false]
    · rw [if_pos rfl, Nat.testBit_or, Nat.testBit_two_pow, decide_eq_true rfl, Bool.or_true]
  · rw [if_neg hi]
    have hpi : p ≠ i := fun hh => hi hh.symm
    cases hs : shd v t m h c
    · rw [if_neg (by decide), e2, decide_eq_false hpi, Bool.not_false, Bool.and_true]
    · rw [if_pos rfl, Nat.testBit_or, Nat.testBit_two_pow, decide_eq_false hpi, Bool.or_false, e2, decide_eq_false hpi, Bool.not_false, Bool.and_true]
theorem wor_s4 {v : am_V} {p c t m g q n : Nat} : wor (vset v 4 p c) t m g q n = wor v t m g q n := by
  unfold wor
  rw [vs4_o (by decide)]
  rfl
theorem pas_s4 {v : am_V} {p c t m g a b : Nat} : pas (vset v 4 p c) t m g a b = pas v t m g a b := by
  unfold pas pasA pasB
  rw [sm_congr (q := fun p => if (a.testBit p && !b.testBit p) = true then wor v t m g p (pop a) else 0) fun k _ => by rw [wor_s4]]
  rw [sm_congr (p := fun q => if (a.testBit q && b.testBit q) = true then wor (vset v 4 p c) t m g q (pop a) else 0) (q := fun p => if (a.testBit p && b.testBit p) = true then wor v t m g p (pop a) else 0) fun k _ => by rw [wor_s4]]
  rfl
theorem wsh_s4 {v : am_V} {p c t : Nat} : wsh (vset v 4 p c) t = wsh v t := by
  unfold wsh
  apply bs_congr
  intro k _
  rw [vs4_o (by decide)]
theorem svb_gen {v v' : am_V} {t m p c : Nat} (e1 : vN v' 1 t = vN v 1 t) (e2 : vS v' t = vS v t) (e3 : cov v' t m (vN v 1 t) = if shd v t m (vN v 1 t) c = true then ndf (cov v t m (vN v 1 t)) (2 ^ p) ||| 2 ^ p else ndf (cov v t m (vN v 1 t)) (2 ^ p)) (e4 : wsh v' t = wsh v t) (e5 : ∀ a b, pas v' t m (vN v 1 t) a b = pas v t m (vN v 1 t) a b) : (!(fal v' t m)) = svb v t p c m := by
  unfold fal svb svi svo csit
  rw [e1, e2, e4, e5, e3]
  cases vS v t
  · rw [Bool.false_and, Bool.false_and, Bool.false_and, Bool.false_and, if_neg (by decide)]
  · rw [if_pos rfl, Bool.true_and, Bool.true_and, Bool.true_and, Bool.true_and]
    cases shd v t m (vN v 1 t) c
    · rw [if_neg (by decide), if_neg (by decide), if_pos rfl]
    · rw [if_pos rfl, if_pos rfl, if_pos rfl]
theorem svb_s4 {v : am_V} {t m p c : Nat} (hp : p < vP v) : (!(fal (vset v 4 p c) t m)) = svb v t p c m := svb_gen (vs4_o (by decide)) rfl (cov_s4 hp) wsh_s4 fun _ _ => pas_s4
theorem sv_MV {F0 F : am_FT} {p c : Nat} {v : am_V} (hl : lpI F0 F (24 + p)) (k : MV F0 v) (hp : p < vP v) (hc : c ≤ 255) : MV (am_upF F 46 (30 + p) (nI c)) (vset v 4 p c) := by
  have hP := k.2.1.2.1
  have hT := k.2.1.1
  refine ⟨⟨?_, ?_, ?_, ?_⟩, wV_set k.2.1 (Nat.zero_le _) hc, ?_⟩
  · rw [up_o (by decide), hl.2.1 6 (by omega)]; exact k.1.1
  · rw [up_o (by decide), hl.2.1 7 (by omega)]; exact k.1.2.1
  · rw [up_o (by decide), hl.2.1 8 (by omega)]; exact k.1.2.2.1
  · intro w n hw hn
    have hn' : n < vO v w := hn
    have hm := k.1.2.2.2 w n hw hn'
    by_cases hx : w = 4 ∧ n = p
    · obtain ⟨rfl, rfl⟩ := hx
      rw [show vN (vset v 4 n c) 4 n = c from if_pos ⟨rfl, rfl⟩]
      exact up_s
    · rw [show vN (vset v 4 p c) w n = vN v w n from if_neg hx]
      have hne : pmN w + n ≠ 30 + p := by
        rcases (by omega : w = 0 ∨ w = 1 ∨ w = 2 ∨ w = 3 ∨ w = 4 ∨ w = 5 ∨ w = 6) with rfl | rfl | rfl | rfl | rfl | rfl | rfl
        · have : n < vT v := hn'
          show 0 + n ≠ 30 + p
          omega
        · have : n < vT v := hn'
          show 6 + n ≠ 30 + p
          omega
        · have : n < vT v := hn'
          show 12 + n ≠ 30 + p
          omega
        · have : n < 12 := hn'
          show 18 + n ≠ 30 + p
          omega
        · show 30 + n ≠ 30 + p
          omega
        · show 40 + n ≠ 30 + p
          omega
        · show 50 + n ≠ 30 + p
          omega
      rw [up_n hne, hl.2.2 _ (by omega)]
      exact hm
  · rw [up_o (by decide), up_o (by decide), hl.2.1 12 (by omega), hl.1 51 (by decide) (by decide) (by decide)]
    exact k.2.2
theorem sv_back {F0 F : am_FT} {p : Nat} {v : am_V} (hl : lpI F0 F (24 + p)) (k : RM F0 v) (hp : p < vP v) : qM F0 (am_upF F 46 (30 + p) (nI (vN v 4 p))) := by
  refine ⟨fun q p45 p52 => ?_, fun i hi => by rw [up_o (by decide)]; exact hl.2.1 i hi⟩
  by_cases h46 : q = 46
  · subst h46
    funext i
    by_cases hi : i = 30 + p
    · subst hi
      rw [up_s, mm4 k hp]
    · rw [up_n hi, hl.2.2 i (by omega)]
  · rw [up_o h46, hl.1 q p45 p52 h46]
theorem m_standsIn_loop {d t : Nat} {L : am_LT} {Q : am_QT} {v : am_V} (ht : t < vT v) : ∀ (j k : Nat) (F : am_FT), k + j = 12 → MV F v → (∀ G, qM F G → Q (some (.int (nI (cnt (fun m => !(fal v t m)) 12)))) G L) → wt am_S0 (d + 50) mX12_standsIn 4 [some (.ref 45), some (.int (nI t)), some (.int (nI (cnt (fun m => !(fal v t m)) k))), some (.int (nI k))] [] F L Q := by
  intro j
  induction j with
  | zero =>
    intro k F hk h hq
    have : k = 12 := by omega
    subst this
    rw [kX12_standsIn_4, if_pos (by decide), kX12_standsIn_33]
    exact hq F (qM_rf F)
  | succ j ih =>
    intro k F hk h hq
    rw [kX12_standsIn_4, if_neg (show ¬ (12 : Int32) ≤ nI k from nI_ge (b := 12) (by omega) (by decide)), kX12_standsIn_10]
    apply m_fallsNow h ht (by omega)
    intro G g1
    have ih1 := ih (k + 1) G (by omega) (qM_MV g1 h) fun H h1 => hq H (qM_tr g1 h1)
    unfold cnt at ih1
    simp only [Option.toList_some, Option.toList_none, List.cons_append, List.nil_append]
    rw [kX12_standsIn_17]
    cases hb : fal v t k
    · simp only [hb, Bool.not_false] at ih1
      rw [if_pos bIf, kX12_standsIn_24, kX12_standsIn_25, nI_1, nI_1]
      exact ih1
    · simp only [hb, Bool.not_true] at ih1
      rw [if_neg bIt, kX12_standsIn_20, kX12_standsIn_25, nI_1, show (0 : Int32) = nI 0 from rfl, nI_add]
      exact ih1
theorem m_standsIn {d t : Nat} {F : am_FT} {L : am_LT} {Q : am_QT} {v : am_V} (h : MV F v) (ht : t < vT v) (hq : ∀ G, qM F G → Q (some (.int (nI (cnt (fun m => !(fal v t m)) 12)))) G L) : wc am_S0 (d + 50) mX12_standsIn [.ref 45, .int (nI t)] F L Q := by
  rw [eX12_standsIn, kX12_standsIn_0]
  exact m_standsIn_loop ht 12 0 F rfl h hq
theorem sav_le (v : am_V) (t p c : Nat) : sav v t p c ≤ 12 := cnt_le _ _
theorem m_save_loop {d t p : Nat} {F0 : am_FT} {L : am_LT} {Q : am_QT} {v : am_V} {x : Int32} {w : Int32} (h0 : MV F0 v) (hx : x / 100 = nI t) (ht : t < vT v) (hp : p < vP v) (hq : ∀ G, qM F0 G → Q (some (.int (if w = 0 then agI (sav v t p) 0 (-1) 256 else iI (mxI (sav v t p) (-1) 256)))) G L) : ∀ (j k : Nat) (F : am_FT) (l8 : Option Value), k + j = 256 → lpI F0 F (24 + p) → wt am_S0 (d + 51) mX12_save 65 [some (.ref 45), some (.int x), some (.int w), some (.int (nI (30 + p))), some (.int (nI (vN v 4 p))), some (.int (agI (sav v t p) 0 (-1) k)), some (.int (iI (mxI (sav v t p) (-1) k))), some (.int (nI k)), l8] [] F L Q := by
  have hP := h0.2.1.2.1
  intro j
  induction j with
  | zero =>
    intro k F l8 hk hl
    have : k = 256 := by omega
    subst this
    have hq1 := hq _ (sv_back hl h0.1 hp)
    rw [kX12_save_65, if_pos (by decide), kX12_save_129 (oobN (by omega) (by decide)), nI_clamp (by omega)]
    by_cases hw : w = 0
    · rw [if_pos hw] at hq1
      rw [if_neg (fun hh => hh hw), kX12_save_141, kX12_save_148]
      exact hq1
    · rw [if_neg hw] at hq1
      rw [if_pos hw, kX12_save_146, kX12_save_148]
      exact hq1
  | succ j ih =>
    intro k F l8 hk hl
    have hb := mxI_b (f := sav v t p) (m0 := -1) (B := 12) (by decide) (by decide) k fun i _ => sav_le v t p i
    have hs := sav_le v t p k
    rw [kX12_save_65, if_neg (show ¬ (256 : Int32) ≤ nI k from nI_ge (b := 256) (by omega) (by decide)), kX12_save_73 (oobN (by omega) (by decide)), nI_clamp (by omega), hx]
    have hl2 : lpI F0 (am_upF F 46 (30 + p) (nI k)) (24 + p) := by
      rw [show 30 + p = 6 + (24 + p) by omega]
      exact lpI_up hl
    apply m_standsIn (sv_MV (c := k) hl h0 hp (by omega)) ht
    intro G g1
    have hl3 := lpI_qM hl2 g1
    have e : cnt (fun m => !(fal (vset v 4 p k) t m)) 12 = sav v t p k := by
      unfold sav
      apply cnt_congr
      intro m _
      exact svb_s4 hp
    rw [e]
    simp only [Option.toList_some, Option.toList_none, List.cons_append, List.nil_append]
    rw [kX12_save_89, iI_n (sav v t p k)]
    have ih1 := fun l8 => ih (k + 1) G l8 (by omega) hl3
    by_cases h1 : mxI (sav v t p) (-1) k < (sav v t p k : Int)
    · rw [agI_t h1, mxI_t h1] at ih1
      have hn := iI_leF h1 (by omega) (by omega) (by omega) (by omega)
      rw [if_neg hn, kX12_save_98, kX12_save_105, if_neg hn, kX12_save_114, kX12_save_121, nI_1]
      exact ih1 _
    · rw [agI_f h1, mxI_f h1] at ih1
      have hn : iI (sav v t p k : Nat) ≤ iI (mxI (sav v t p) (-1) k) := iI_leT (by omega) (by omega) (by omega) (by omega) (by omega)
      rw [if_pos hn, kX12_save_103, kX12_save_105, if_pos hn, kX12_save_119, kX12_save_121, nI_1]
      exact ih1 _
/-- a tree and one, told together -/
def tpR (v : am_V) (x : Int32) : Bool := decide (¬ x < 0) && (inR (x / 100) (vT v) && inR (x - x / 100 * 100) (vP v))
def qSave (v : am_V) (x w : Int32) : Int32 := if (tpR v x && inR w 2) = true then (if w = 0 then agI (sav v (tN x) (mN x)) 0 (-1) 256 else iI (mxI (sav v (tN x) (mN x)) (-1) 256)) else -1
theorem tp_ex {v : am_V} {x : Int32} (hv : wV v) (h : tpR v x = true) : x / 100 = nI (tN x) ∧ tN x < vT v ∧ x - x / 100 * 100 = nI (mN x) ∧ mN x < vP v := by
  unfold tpR at h
  simp only [Bool.and_eq_true] at h
  have hT := hv.1
  have hP := hv.2.1
  obtain ⟨k, k1, k2⟩ := inR_ex h.2.1 (by omega)
  obtain ⟨m, m1, m2⟩ := inR_ex h.2.2 (by omega)
  unfold tN mN
  rw [m2, k2, nI_clamp (by omega), nI_clamp (by omega)]
  exact ⟨rfl, k1, rfl, m1⟩
theorem m_save {d : Nat} {F : am_FT} {L : am_LT} {Q : am_QT} {v : am_V} {x w : Int32} (h : MV F v) (hq : ∀ G, qM F G → Q (some (.int (qSave v x w))) G L) : wc am_S0 (d + 51) mX12_save [.ref 45, .int x, .int w] F L Q := by
  have hT := h.2.1.1
  have hP := h.2.1.2.1
  unfold qSave at hq
  have et : tpR v x = (decide (¬ x < 0) && (inR (x / 100) (vT v) && inR (x - x / 100 * 100) (vP v))) := rfl
  have bad : tpR v x = false → Q (some (.int (-1))) F L := by
    intro hb
    rw [hb, Bool.false_and, if_neg (by decide)] at hq
    exact hq F (qM_rf F)
  rw [eX12_save, kX12_save_0]
  by_cases h0 : x < 0
  · rw [decide_eq_false (fun hh => hh h0), Bool.false_and] at et
    rw [if_pos h0, kX12_save_38]
    exact bad et
  · rw [decide_eq_true h0, Bool.true_and] at et
    rw [if_neg h0, kX12_save_4, m_isTree h.1 h.2.1]
    simp only [Option.toList_some, Option.toList_none, List.cons_append, List.nil_append]
    rw [kX12_save_13]
    cases ha : inR (x / 100) (vT v)
    · rw [ha, Bool.false_and] at et
      rw [if_pos bIf, kX12_save_38]
      exact bad et
    · rw [ha, Bool.true_and] at et
      rw [if_neg bIt, kX12_save_16, m_isOne h.1 h.2.1]
      simp only [Option.toList_some, Option.toList_none, List.cons_append, List.nil_append]
      rw [kX12_save_25]
      cases hb : inR (x - x / 100 * 100) (vP v)
      · rw [hb] at et
        rw [if_pos bIf, kX12_save_38]
        exact bad et
      · rw [hb] at et
        obtain ⟨a1, a2, a3, a4⟩ := tp_ex h.2.1 et
        rw [et, Bool.true_and] at hq
        rw [if_neg bIt, kX12_save_28, show (1 : Int64) = (nI 1).toInt64 from rfl, m_w (by decide)]
        simp only [Option.toList_some, Option.toList_none, List.cons_append, List.nil_append]
        rw [kX12_save_35]
        cases hw : inR w (1 + 1)
        · rw [show inR w 2 = false from hw, if_neg (by decide)] at hq
          rw [if_neg (by decide), kX12_save_38]
          exact hq F (qM_rf F)
        · rw [show inR w 2 = true from hw, if_pos rfl] at hq
          rw [if_pos bIt, kX12_save_40 (by rw [a3, a30]; exact oobN (by omega) (by decide)), a3, a30, nI_clamp (by omega), mm4 h.1 a4, kX12_save_63]
          exact m_save_loop h a1 a2 a4 hq 256 0 F _ rfl lpI_rf
/-! draws -/
def dR (F0 F : am_FT) : Prop := (∀ p, p ≠ 45 → p ≠ 52 → F p = F0 p) ∧ ∀ k, (k < 13 ∨ 17 < k) → k ≠ 8 → F 45 k = F0 45 k
theorem dR_qM {F0 F G : am_FT} (h : dR F0 F) (g : qM F G) : dR F0 G := ⟨fun p a b => (g.1 p a b).trans (h.1 p a b), fun k a b => (g.2 k a).trans (h.2 k a b)⟩
theorem dR_up {F0 F : am_FT} {x : Int32} (h : dR F0 F) : dR F0 (am_upF F 45 8 x) := ⟨fun p a b => (up_o a).trans (h.1 p a b), fun k a b => (up_n b).trans (h.2 k a b)⟩
theorem dR_MV {F0 F : am_FT} {v : am_V} {s : Nat} (h : dR F0 F) (k : MV F0 v) (h8 : F 45 8 = nI s) (hs : s < 2 ^ vT v) : MV F (vstd v s.testBit) := by
  refine ⟨⟨?_, ?_, ?_, ?_⟩, k.2.1, ?_⟩
  · rw [h.2 6 (by omega) (by decide)]; exact k.1.1
  · rw [h.2 7 (by omega) (by decide)]; exact k.1.2.1
  · rw [h8]
    show nI s = nI (bs s.testBit (vT v))
    rw [bs_of hs]
  · intro w n hw hn
    rw [h.1 46 (by decide) (by decide)]
    exact k.1.2.2.2 w n hw hn
  · rw [h.2 12 (by omega) (by decide), h.1 51 (by decide) (by decide)]
    exact k.2.2
theorem fal_std {v : am_V} {s t m : Nat} (hs : s.testBit t = true → vS v t = true) : fal (vstd v s.testBit) t m = (s.testBit t && fal v t m) := by
  have e1 : csit (vstd v s.testBit) t m = if s.testBit t = true then cov v t m (vN v 1 t) else 0 := rfl
  have e2 : fal (vstd v s.testBit) t m = (s.testBit t && pas v t m (vN v 1 t) (csit (vstd v s.testBit) t m) (wsh v t)) := rfl
  rw [e2, e1]
  cases hb : s.testBit t
  · rw [Bool.false_and, Bool.false_and]
  · have hv := hs hb
    unfold fal csit
    rw [hv, if_pos rfl, Bool.true_and, Bool.true_and]
theorem fls_std {v : am_V} {s m : Nat} (hs : ∀ t, s.testBit t = true → t < vT v ∧ vS v t = true) : fls (vstd v s.testBit) m = s &&& fls v m := by
  apply Nat.eq_of_testBit_eq
  intro i
  rw [Nat.testBit_and]
  unfold fls
  rw [bs_bit, bs_bit]
  show (decide (i < vT v) && fal (vstd v s.testBit) i m) = _
  rw [fal_std fun h => (hs i h).2]
  cases hb : s.testBit i
  · rw [Bool.false_and, Bool.false_and, Bool.and_false]
  · rw [decide_eq_true (hs i hb).1, Bool.true_and, Bool.true_and]
theorem ndf_and (a b : Nat) : ndf a (a &&& b) = ndf a b := by
  apply Nat.eq_of_testBit_eq
  intro i
  rw [ndf_bit, ndf_bit, Nat.testBit_and]
  cases a.testBit i <;> cases b.testBit i <;> rfl
def sub2 (v : am_V) (s : Nat) : Prop := ∀ t, s.testBit t = true → t < vT v ∧ vS v t = true
theorem sub_lt {v : am_V} {s : Nat} (h : sub2 v s) : s < 2 ^ vT v := by
  apply Nat.lt_pow_two_of_testBit
  intro i hi
  cases hb : s.testBit i
  · rfl
  · have := (h i hb).1; omega
theorem sub_ndf {v : am_V} {s b : Nat} (h : sub2 v s) : sub2 v (ndf s b) := by
  intro t ht
  rw [ndf_bit, Bool.and_eq_true] at ht
  exact h t ht.1
theorem sub_sts (v : am_V) : sub2 v (sts v) := by
  intro t ht
  unfold sts at ht
  rw [bs_bit, Bool.and_eq_true, decide_eq_true_eq] at ht
  exact ht
def trC (tr : Option Nat) (f : Nat) : Nat := match tr with | none => 0 | some t => if f.testBit t = true then 1 else 0
theorem trC_n (f : Nat) : trC none f = 0 := rfl
theorem trC_s (t f : Nat) : trC (some t) f = if f.testBit t = true then 1 else 0 := rfl
theorem dyM_sub {v : am_V} {nc : Nat} {tr : Option Nat} {s : Int32 × Nat × Nat} (h : sub2 v s.2.1) : ∀ k, sub2 v (dyM v nc tr s k).2.1 := by
  intro k
  induction k with
  | zero => exact h
  | succ k ih =>
    unfold dyM dyS
    split
    · exact ih
    · exact sub_ndf ih
theorem m_draw_l2 {d nc : Nat} {F0 : am_FT} {L : am_LT} {Q : am_QT} {v : am_V} {tr : Option Nat} (h0 : MV F0 v) (htr : ∀ t, tr = some t → t < 6) {x1 x2 x8 : Int32} (hx2 : x2 - x2 / 100 * 100 = nI nc) {x4 x7 : Int32} {s : Int32 × Nat × Nat} (hs : sub2 v s.2.1) (hq : ∀ (F : am_FT) (l9 l10 : Option Value), dR F0 F → F 45 8 = nI (dyM v nc tr s 12).2.1 → wt am_S0 (d + 51) mX12_drawn 174 [some (.ref 45), some (.int x1), some (.int x2), some (.int (trI tr)), some (.int x4), some (.int (dyM v nc tr s 12).1), some (.int (nI (dyM v nc tr s 12).2.2)), some (.int x7), some (.int x8), l9, l10] [] F L Q) : ∀ (j k : Nat) (F : am_FT) (l10 : Option Value), k + j = 12 → dR F0 F → F 45 8 = nI (dyM v nc tr s k).2.1 → wt am_S0 (d + 51) mX12_drawn 86 [some (.ref 45), some (.int x1), some (.int x2), some (.int (trI tr)), some (.int x4), some (.int (dyM v nc tr s k).1), some (.int (nI (dyM v nc tr s k).2.2)), some (.int x7), some (.int x8), some (.int (nI k)), l10] [] F L Q := by
  have hT := h0.2.1.1
  intro j
  induction j with
  | zero =>
    intro k F l10 hk hd h8
    have : k = 12 := by omega
    subst this
    rw [kX12_drawn_86, if_pos (by decide)]
    exact hq F _ _ hd h8
  | succ j ih =>
    intro k F l10 hk hd h8
    have hsub := dyM_sub (nc := nc) (tr := tr) hs k
    have hlt := sub_lt hsub
    have h64 : (2 : Nat) ^ vT v ≤ 64 := two_le (k := 6) hT
    have e : dyM v nc tr s (k + 1) = dyS v nc tr k (dyM v nc tr s k) := rfl
    have ih1 := fun G l10 hd h8 => ih (k + 1) G l10 (by omega) hd h8
    rw [e] at ih1
    unfold dyS at ih1
    rw [kX12_drawn_86, if_neg (show ¬ (12 : Int32) ≤ nI k from nI_ge (b := 12) (by omega) (by decide)), kX12_drawn_93, hx2]
    have ec : ((Int32.toUInt32 ((dyM v nc tr s k).1 * 1103515245 + 12345) >>> (Int32.toUInt32 8 &&& Int32.toUInt32 31)).toInt32 - (Int32.toUInt32 ((dyM v nc tr s k).1 * 1103515245 + 12345) >>> (Int32.toUInt32 8 &&& Int32.toUInt32 31)).toInt32 / 12 * 12) = cldI ((dyM v nc tr s k).1 * 1103515245 + 12345) := rfl
    rw [ec]
    -- behind: a set that fell
    have tail : ∀ (f : Nat) (G : am_FT) (z : Int32) (s2 : Nat × Nat), f < 64 → dR F0 G → G 45 8 = nI (dyM v nc tr s k).2.1 → ndf (dyM v nc tr s k).2.1 f = s2.1 → (dyM v nc tr s k).2.2 + trC tr f = s2.2 → (∀ (H : am_FT) (l10 : Option Value), dR F0 H → H 45 8 = nI s2.1 → wt am_S0 (d + 51) mX12_drawn 86 [some (.ref 45), some (.int x1), some (.int x2), some (.int (trI tr)), some (.int x4), some (.int z), some (.int (nI s2.2)), some (.int x7), some (.int x8), some (.int (nI (k + 1))), l10] [] H L Q) → wt am_S0 (d + 51) mX12_drawn 130 [some (.ref 45), some (.int x1), some (.int x2), some (.int (trI tr)), some (.int x4), some (.int z), some (.int (nI (dyM v nc tr s k).2.2)), some (.int x7), some (.int x8), some (.int (nI k)), l10] [.int (nI f)] G L Q := by
      intro f G z s2 hf hd2 h82 e1 e2 hq2
      have fin : ∀ y : Nat, (dyM v nc tr s k).2.2 + y = s2.2 → wt am_S0 (d + 51) mX12_drawn 152 [some (.ref 45), some (.int x1), some (.int x2), some (.int (trI tr)), some (.int x4), some (.int z), some (.int (nI (dyM v nc tr s k).2.2)), some (.int x7), some (.int x8), some (.int (nI k)), some (.int (nI f))] [.int (nI y), .int (nI (dyM v nc tr s k).2.2)] G L Q := by
        intro y hy
        rw [kX12_drawn_152, h82, nI_ndf, nI_1, nI_add, e1, hy]
        exact hq2 _ _ (dR_up hd2) up_s
      rw [kX12_drawn_130]
      cases htr2 : tr with
      | none =>
        rw [htr2] at e2 fin
        rw [trC_n] at e2
        rw [show trI none = (-1 : Int32) from rfl, if_pos (by decide), kX12_drawn_151]
        exact fin 0 e2
      | some t =>
        have ht := htr t htr2
        rw [htr2] at e2 fin
        rw [show trI (some t) = nI t from rfl, if_neg (nI_pos (by omega)), kX12_drawn_138, s_isIn (by omega) (by omega)]
        simp only [Option.toList_some, Option.toList_none, List.cons_append, List.nil_append]
        rw [kX12_drawn_144]
        cases hb : f.testBit t
        · rw [if_pos bIf, kX12_drawn_151]
          rw [trC_s, hb, if_neg (by decide)] at e2
          exact fin 0 e2
        · rw [if_neg bIt, kX12_drawn_147]
          rw [trC_s, hb, if_pos rfl] at e2
          exact fin 1 e2
    by_cases hc : cldI ((dyM v nc tr s k).1 * 1103515245 + 12345) < nI nc
    · rw [if_pos hc] at ih1
      rw [if_neg (Int32.not_le.mpr hc), kX12_drawn_120, show (Value.int 0) = Value.int (nI 0) from rfl]
      refine tail 0 F _ ((dyM v nc tr s k).2.1, (dyM v nc tr s k).2.2) (by decide) hd h8 ?_ ?_ ih1
      · apply Nat.eq_of_testBit_eq
        intro i
        rw [ndf_bit, Nat.zero_testBit, Bool.not_false, Bool.and_true]
      · cases tr with
        | none => rfl
        | some t =>
          rw [trC_s, Nat.zero_testBit, if_neg (by decide)]; rfl
    · rw [if_neg hc] at ih1
      rw [if_pos (Int32.not_lt.mp hc), kX12_drawn_124]
      apply m_fallIn (dR_MV hd h0 h8 hlt) (by omega)
      intro G g1
      rw [fls_std hsub]
      simp only [Option.toList_some, Option.toList_none, List.cons_append, List.nil_append]
      refine tail _ G _ (ndf (dyM v nc tr s k).2.1 ((dyM v nc tr s k).2.1 &&& fls v k), _) (Nat.lt_of_le_of_lt Nat.and_le_left (by omega)) (dR_qM hd g1) ?_ rfl rfl ih1
      rw [g1.2 8 (by omega)]; exact h8
theorem m_draw_l3 {d nc ny : Nat} {F0 : am_FT} {L : am_LT} {Q : am_QT} {v : am_V} {seed : Int32} {tr : Option Nat} (h0 : MV F0 v) (hny : ny < 100) (htr : ∀ t, tr = some t → t < 6) {x2 : Int32} (hx1 : x2 / 100 = nI ny) (hx2 : x2 - x2 / 100 * 100 = nI nc) (hq : ∀ (F : am_FT) (l9 l10 : Option Value), dR F0 F → wt am_S0 (d + 51) mX12_drawn 192 [some (.ref 45), some (.int seed), some (.int x2), some (.int (trI tr)), some (.int (nI (sts v))), some (.int (dyY v seed nc tr ny).1), some (.int (nI (dyY v seed nc tr ny).2.1)), some (.int (nI (dyY v seed nc tr ny).2.2)), some (.int (nI ny)), l9, l10] [] F L Q) : ∀ (j k : Nat) (F : am_FT) (l9 l10 : Option Value), k + j = ny → dR F0 F → wt am_S0 (d + 51) mX12_drawn 68 [some (.ref 45), some (.int seed), some (.int x2), some (.int (trI tr)), some (.int (nI (sts v))), some (.int (dyY v seed nc tr k).1), some (.int (nI (dyY v seed nc tr k).2.1)), some (.int (nI (dyY v seed nc tr k).2.2)), some (.int (nI k)), l9, l10] [] F L Q := by
  have hT := h0.2.1.1
  intro j
  induction j with
  | zero =>
    intro k F l9 l10 hk hd
    have : k = ny := by omega
    subst this
    rw [kX12_drawn_68, hx1, if_pos (nI_le (Nat.le_refl _) (by omega))]
    exact hq F _ _ hd
  | succ j ih =>
    intro k F l9 l10 hk hd
    rw [kX12_drawn_68, hx1, if_neg (nI_ge (by omega) (by omega)), kX12_drawn_77, show (some (.int 0) : Option Value) = some (.int (nI 0)) from rfl]
    refine m_draw_l2 (s := ((dyY v seed nc tr k).1, sts v, (dyY v seed nc tr k).2.1)) h0 htr hx2 (sub_sts v) ?_ 12 0 _ _ rfl (dR_up hd) up_s
    intro G m9 m10 g1 g2
    have hsub := dyM_sub (v := v) (nc := nc) (tr := tr) (s := ((dyY v seed nc tr k).1, sts v, (dyY v seed nc tr k).2.1)) (sub_sts v) 12
    have hlt := sub_lt hsub
    have h64 : (2 : Nat) ^ vT v ≤ 64 := two_le (k := 6) hT
    rw [kX12_drawn_174, g2, s_bitsOf (by omega)]
    simp only [Option.toList_some, Option.toList_none, List.cons_append, List.nil_append]
    rw [kX12_drawn_183, nI_add, nI_1]
    exact ih (k + 1) G _ _ (by omega) g1
/-- years and clouds told together -/
def ncR (y : Int32) : Bool := decide (¬ y < 0) && (decide (¬ y / 100 < 1 ∧ ¬ 30 < y / 100) && inR (y - y / 100 * 100) 13)
def trR (v : am_V) (x : Int32) : Bool := decide (x = -1) || inR x (vT v)
def trO (x : Int32) : Option Nat := if x = -1 then none else some x.toNatClampNeg
def qDrawn (v : am_V) (seed y x : Int32) : Int32 := if (ncR y && trR v x) = true then nI (match trO x with | none => (dyY v seed (mN y) none (tN y)).2.2 | some t => (dyY v seed (mN y) (some t) (tN y)).2.1) else -1
theorem trI_O {v : am_V} (hv : wV v) {x : Int32} (h : trR v x = true) : trI (trO x) = x ∧ ∀ t, trO x = some t → t < vT v := by
  have hT := hv.1
  unfold trO
  by_cases hx : x = -1
  · rw [if_pos hx]
    exact ⟨hx.symm, fun t ht => by cases ht⟩
  · unfold trR at h
    rw [decide_eq_false hx, Bool.false_or] at h
    obtain ⟨k, k1, rfl⟩ := inR_ex h (by omega)
    rw [if_neg hx, nI_clamp (by omega)]
    exact ⟨rfl, fun t ht => by cases ht; exact k1⟩
theorem nc_ex {y : Int32} (h : ncR y = true) : y / 100 = nI (tN y) ∧ 1 ≤ tN y ∧ tN y ≤ 30 ∧ y - y / 100 * 100 = nI (mN y) ∧ mN y < 13 := by
  unfold ncR at h
  simp only [Bool.and_eq_true] at h
  obtain ⟨c1, c2⟩ := of_decide_eq_true h.2.1
  obtain ⟨m, m1, m2⟩ := inR_ex h.2.2 (by decide)
  obtain ⟨z, z1, z2, hz⟩ := iI_ex (y / 100)
  have hc : 1 ≤ z ∧ z ≤ 30 := by
    rw [hz] at c1 c2
    revert c1 c2
    simp (disch := omega) only [iI_n, iI_l, iI_neg, iI_add, iI_sub, iI_mul, iI_div, iI_lt, iI_le, iI_eq]
    intro c1 c2
    exact ⟨by omega, by omega⟩
  have e1 : y / 100 = nI z.toNat := by rw [hz]; exact iI_tn (by omega)
  unfold tN mN
  rw [m2, e1, nI_clamp (by omega), nI_clamp (by omega)]
  exact ⟨rfl, by omega, by omega, rfl, m1⟩
theorem m_drawn {d : Nat} {F : am_FT} {L : am_LT} {Q : am_QT} {v : am_V} {seed y x : Int32} (h : MV F v) (hq : ∀ G, qM F G → Q (some (.int (qDrawn v seed y x))) G L) : wc am_S0 (d + 51) mX12_drawn [.ref 45, .int seed, .int y, .int x] F L Q := by
  have hT := h.2.1.1
  unfold qDrawn at hq
  have en : ncR y = (decide (¬ y < 0) && (decide (¬ y / 100 < 1 ∧ ¬ 30 < y / 100) && inR (y - y / 100 * 100) 13)) := rfl
  have bad : (ncR y && trR v x) = false → Q (some (.int (-1))) F L := by
    intro hb
    rw [hb, if_neg (by decide)] at hq
    exact hq F (qM_rf F)
  have good : ncR y = true → trR v x = true → wt am_S0 (d + 51) mX12_drawn 50 [some (.ref 45), some (.int seed), some (.int y), some (.int x), none, none, none, none, none, none, none] [] F L Q := by
    intro h1 h2
    obtain ⟨a1, a2, a3, a4, a5⟩ := nc_ex h1
    obtain ⟨b1, b2⟩ := trI_O h.2.1 h2
    rw [h1, h2, Bool.true_and, if_pos rfl] at hq
    rw [kX12_drawn_50, h.1.2.2.1]
    rw [show (some (.int x) : Option Value) = some (.int (trI (trO x))) by rw [b1], show (some (.int 0) : Option Value) = some (.int (nI 0)) from rfl]
    refine m_draw_l3 h (by omega) (fun t ht => Nat.lt_of_lt_of_le (b2 t ht) hT) a1 a4 ?_ (tN y) 0 F _ _ (by omega) ⟨fun _ _ _ => rfl, fun _ _ _ => rfl⟩
    intro G l9 l10 g1
    have gb : qM F (am_upF G 45 8 (nI (sts v))) := by
      refine ⟨fun p a b => (up_o a).trans (g1.1 p a b), fun k hk => ?_⟩
      by_cases h8 : k = 8
      · subst h8
        rw [up_s, h.1.2.2.1]
      · rw [up_n h8]; exact g1.2 k hk h8
    have hq1 := hq _ gb
    rw [kX12_drawn_192]
    cases htr : trO x with
    | none =>
      rw [htr] at hq1
      rw [show trI none = (-1 : Int32) from rfl, if_neg (by decide), kX12_drawn_202, kX12_drawn_209]
      exact hq1
    | some t =>
      rw [htr] at hq1
      have := b2 t htr
      rw [show trI (some t) = nI t from rfl, if_pos (nlt0 (by omega)), kX12_drawn_207, kX12_drawn_209]
      exact hq1
  rw [eX12_drawn, kX12_drawn_0]
  by_cases h0 : y < 0
  · rw [decide_eq_false (fun hh => hh h0), Bool.false_and] at en
    rw [if_pos h0, kX12_drawn_48]
    exact bad (by rw [en]; rfl)
  · rw [decide_eq_true h0, Bool.true_and] at en
    rw [if_neg h0, kX12_drawn_4, show (1 : Int64) = Int32.toInt64 1 from rfl, show (30 : Int64) = Int32.toInt64 30 from rfl, s_mwi]
    simp only [Option.toList_some, Option.toList_none, List.cons_append, List.nil_append]
    rw [kX12_drawn_16]
    cases ha : decide (¬ y / 100 < 1 ∧ ¬ 30 < y / 100)
    · rw [ha, Bool.false_and] at en
      rw [if_pos bIf, kX12_drawn_48]
      exact bad (by rw [en]; rfl)
    · rw [ha, Bool.true_and] at en
      rw [if_neg bIt, kX12_drawn_19, show (12 : Int64) = (nI 12).toInt64 from rfl, m_w (by decide)]
      simp only [Option.toList_some, Option.toList_none, List.cons_append, List.nil_append]
      rw [kX12_drawn_31]
      cases hb : inR (y - y / 100 * 100) (12 + 1)
      · rw [show inR (y - y / 100 * 100) 13 = false from hb] at en
        rw [if_pos bIf, kX12_drawn_48]
        exact bad (by rw [en]; rfl)
      · rw [show inR (y - y / 100 * 100) 13 = true from hb] at en
        rw [if_neg bIt, kX12_drawn_34]
        have et : trR v x = (decide (x = -1) || inR x (vT v)) := rfl
        by_cases hx : x = -1
        · rw [if_pos hx]
          rw [decide_eq_true hx, Bool.true_or] at et
          exact good en et
        · rw [decide_eq_false hx, Bool.false_or] at et
          rw [if_neg hx, kX12_drawn_39, m_isTree h.1 h.2.1]
          simp only [Option.toList_some, Option.toList_none, List.cons_append, List.nil_append]
          rw [kX12_drawn_45]
          cases ht : inR x (vT v)
          · rw [ht] at et
            rw [if_neg (by decide), kX12_drawn_48]
            exact bad (by rw [en, et]; rfl)
          · rw [ht] at et
            rw [if_pos bIt]
            exact good en et
