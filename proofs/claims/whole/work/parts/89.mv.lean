/-! ===== the model's view of the land ===== -/
def pmN (w : Nat) : Nat := [0, 6, 12, 18, 30, 40, 50].getD w 0
def RM (F : am_FT) (v : am_V) : Prop := F 45 6 = nI (vT v) ∧ F 45 7 = nI (vP v) ∧ F 45 8 = nI (sts v) ∧ ∀ w n, w < 7 → n < vO v w → F 46 (pmN w + n) = nI (vN v w n)
def RMLaw (x : Int32) (f : Nat → Int32) (val : Int32 → Int32 → Int32 → Int32 → Int32 → Int32 → Int32) : Prop := (x = -1 ∧ val = fun w _ _ _ _ _ => w) ∨ ∃ (n : Nat) (b : Nat → Nat) (t : List Nat × ((Nat → Int32) → Int32)), n ≤ 120 ∧ (∀ k, k < n → b k ≤ 255) ∧ x = nI n ∧ (∀ k, k < n → f k = nI (b k)) ∧ pTx (byt b n) n 121 0 = .inr t ∧ val = txV t
def MV (F : am_FT) (v : am_V) : Prop := RM F v ∧ wV v ∧ RMLaw (F 45 12) (F 51) (vL v)
/-- what a question of the model leaves -/
def qM (F G : am_FT) : Prop := (∀ p, p ≠ 45 → p ≠ 52 → G p = F p) ∧ ∀ k, (k < 13 ∨ 17 < k) → G 45 k = F 45 k
theorem qM_rf (F : am_FT) : qM F F := ⟨fun _ _ _ => rfl, fun _ _ => rfl⟩
theorem qM_tr {F G H : am_FT} (h : qM F G) (k : qM G H) : qM F H := ⟨fun p a b => (k.1 p a b).trans (h.1 p a b), fun i a => (k.2 i a).trans (h.2 i a)⟩
theorem FW_qM {F G : am_FT} (h : FW F G) : qM F G := ⟨fun p a _ => h.1 p a, h.2⟩
theorem qM_52 {F : am_FT} {k : Nat} {x : Int32} : qM F (am_upF F 52 k x) := ⟨fun _ _ b => up_o b, fun _ _ => by rw [up_o (by decide)]⟩
theorem qM_RM {F G : am_FT} {v : am_V} (h : qM F G) (k : RM F v) : RM G v := by
  unfold RM
  rw [h.2 6 (by omega), h.2 7 (by omega), h.2 8 (by omega), h.1 46 (by decide) (by decide)]
  exact k
theorem qM_MV {F G : am_FT} {v : am_V} (h : qM F G) (k : MV F v) : MV G v := by
  refine ⟨qM_RM h k.1, k.2.1, ?_⟩
  rw [h.2 12 (by omega), h.1 51 (by decide) (by decide)]
  exact k.2.2
/-! numbers -/
theorem mm_n {F : am_FT} {v : am_V} (h : RM F v) {w n : Nat} (hw : w < 7) (hn : n < vO v w) : F 46 (pmN w + n) = nI (vN v w n) := h.2.2.2 w n hw hn
theorem mm0 {F : am_FT} {v : am_V} (h : RM F v) {n : Nat} (hn : n < vT v) : F 46 n = nI (vN v 0 n) := by
  have := h.2.2.2 0 n (by decide) (lo0 hn)
  rw [show pmN 0 + n = n from Nat.zero_add n] at this
  exact this
theorem mm1 {F : am_FT} {v : am_V} (h : RM F v) {n : Nat} (hn : n < vT v) : F 46 (6 + n) = nI (vN v 1 n) := h.2.2.2 1 n (by decide) (lo1 hn)
theorem mm2 {F : am_FT} {v : am_V} (h : RM F v) {n : Nat} (hn : n < vT v) : F 46 (12 + n) = nI (vN v 2 n) := h.2.2.2 2 n (by decide) (lo2 hn)
theorem mm3 {F : am_FT} {v : am_V} (h : RM F v) {n : Nat} (hn : n < 12) : F 46 (18 + n) = nI (vN v 3 n) := h.2.2.2 3 n (by decide) (lo3 hn)
theorem mm4 {F : am_FT} {v : am_V} (h : RM F v) {n : Nat} (hn : n < vP v) : F 46 (30 + n) = nI (vN v 4 n) := h.2.2.2 4 n (by decide) (lo4 hn)
theorem mm5 {F : am_FT} {v : am_V} (h : RM F v) {n : Nat} (hn : n < vP v) : F 46 (40 + n) = nI (vN v 5 n) := h.2.2.2 5 n (by decide) (lo5 hn)
theorem mm6 {F : am_FT} {v : am_V} (h : RM F v) {n : Nat} (hn : n < vP v) : F 46 (50 + n) = nI (vN v 6 n) := h.2.2.2 6 n (by decide) (lo6 hn)
theorem nI_la (a : Nat) (n : Nat) : (OfNat.ofNat a : Int32) + nI n = nI (a + n) := nI_add a n
theorem a6 (n : Nat) : (6 : Int32) + nI n = nI (6 + n) := nI_add 6 n
theorem a12 (n : Nat) : (12 : Int32) + nI n = nI (12 + n) := nI_add 12 n
theorem a18 (n : Nat) : (18 : Int32) + nI n = nI (18 + n) := nI_add 18 n
theorem a30 (n : Nat) : (30 : Int32) + nI n = nI (30 + n) := nI_add 30 n
theorem a40 (n : Nat) : (40 : Int32) + nI n = nI (40 + n) := nI_add 40 n
theorem a50 (n : Nat) : (50 : Int32) + nI n = nI (50 + n) := nI_add 50 n
/-! longs compared -/
theorem lgc_lt (x y : Int64) : (lg_cmp x y < 0) = (x < y) := by
  unfold lg_cmp
  apply propext
  by_cases h1 : x > y
  · rw [if_pos h1]
    exact ⟨fun h => absurd h (by decide), fun h => absurd (Int64.lt_trans h h1) Int64.lt_irrefl⟩
  · rw [if_neg h1]
    by_cases h2 : x = y
    · rw [if_pos h2]
      exact ⟨fun h => absurd h (by decide), fun h => by rw [h2] at h; exact absurd h Int64.lt_irrefl⟩
    · rw [if_neg h2]
      refine ⟨fun _ => ?_, fun _ => by decide⟩
      rw [Int64.lt_iff_toInt_lt]
      have a1 : ¬ y.toInt < x.toInt := fun h => h1 (Int64.lt_iff_toInt_lt.mpr h)
      have a2 : x.toInt ≠ y.toInt := fun h => h2 (Int64.toInt_inj.mp h)
      omega
theorem lgc_gt (x y : Int64) : (0 < lg_cmp x y) = (y < x) := by
  unfold lg_cmp
  apply propext
  by_cases h1 : x > y
  · rw [if_pos h1]
    exact ⟨fun _ => h1, fun _ => by decide⟩
  · rw [if_neg h1]
    refine ⟨fun h => ?_, fun h => absurd h h1⟩
    by_cases h2 : x = y
    · rw [if_pos h2] at h; exact absurd h (by decide)
    · rw [if_neg h2] at h; exact absurd h (by decide)
theorem s_mwl {d : Nat} {F : am_FT} {L : am_LT} {Q : am_QT} {a b c : Int64} : wc am_S0 d mX12_within [.long a, .long b, .long c] F L Q = Q (some (.int (bI (decide (¬ a < b ∧ ¬ c < a))))) F L := by
  rw [eX12_within, kX12_within_0]
  simp only [lgc_lt]
  by_cases h1 : a < b
  · rw [if_pos h1, kX12_within_17, kX12_within_18 rfl, decide_eq_false (fun h => h.1 h1)]; rfl
  · rw [if_neg h1, kX12_within_6]
    simp only [lgc_gt]
    by_cases h2 : c < a
    · rw [if_pos h2, kX12_within_17, kX12_within_18 rfl, decide_eq_false (fun h => h.2 h2)]; rfl
    · rw [if_neg h2, kX12_within_13, kX12_within_18 rfl, decide_eq_true ⟨h1, h2⟩]; rfl
theorem l64_lt (x y : Int32) : (x.toInt64 < y.toInt64) = (x < y) := by
  rw [Int64.lt_iff_toInt_lt, Int32.lt_iff_toInt_lt, Int32.toInt_toInt64, Int32.toInt_toInt64]
theorem s_mwi {d : Nat} {F : am_FT} {L : am_LT} {Q : am_QT} {a b c : Int32} : wc am_S0 d mX12_within [.long a.toInt64, .long b.toInt64, .long c.toInt64] F L Q = Q (some (.int (bI (decide (¬ a < b ∧ ¬ c < a))))) F L := by
  rw [s_mwl]
  simp only [l64_lt]
theorem inR_m {x : Int32} {n : Nat} (hn : n < 1000) : decide (¬ x < 0 ∧ ¬ nI n - 1 < x) = inR x n := by
  unfold inR
  obtain ⟨z, h1, h2, rfl⟩ := iI_ex x
  congr 1
  simp (disch := omega) only [iI_n, iI_l, iI_neg, iI_add, iI_sub, iI_mul, iI_div, iI_lt, iI_le, iI_eq]
  apply propext
  constructor
  · rintro ⟨a, b⟩; exact ⟨a, by omega⟩
  · rintro ⟨a, b⟩; exact ⟨a, by omega⟩
theorem inR_c {x : Int32} {n : Nat} (hn : n < 1000) : decide (¬ x < 0 ∧ ¬ nI n < x) = inR x (n + 1) := by
  unfold inR
  obtain ⟨z, h1, h2, rfl⟩ := iI_ex x
  congr 1
  simp (disch := omega) only [iI_n, iI_l, iI_neg, iI_add, iI_sub, iI_mul, iI_div, iI_lt, iI_le, iI_eq]
  apply propext
  constructor
  · rintro ⟨a, b⟩; exact ⟨a, by omega⟩
  · rintro ⟨a, b⟩; exact ⟨a, by omega⟩
theorem m_isTree {d : Nat} {F : am_FT} {L : am_LT} {Q : am_QT} {v : am_V} (h : RM F v) (hv : wV v) {x : Int32} : wc am_S0 (d + 1) mX12_isTree [.ref 45, .long x.toInt64] F L Q = Q (some (.int (bI (inR x (vT v))))) F L := by
  have := hv.1
  rw [eX12_isTree, kX12_isTree_0, h.1, show (0 : Int64) = Int32.toInt64 0 from rfl, s_mwi, inR_m (by omega)]
  simp only [Option.toList_some, Option.toList_none, List.cons_append, List.nil_append]
  rw [kX12_isTree_12 nb_b]
theorem m_isOne {d : Nat} {F : am_FT} {L : am_LT} {Q : am_QT} {v : am_V} (h : RM F v) (hv : wV v) {x : Int32} : wc am_S0 (d + 1) mX12_isOne [.ref 45, .long x.toInt64] F L Q = Q (some (.int (bI (inR x (vP v))))) F L := by
  have := hv.2.1
  rw [eX12_isOne, kX12_isOne_0, h.2.1, show (0 : Int64) = Int32.toInt64 0 from rfl, s_mwi, inR_m (by omega)]
  simp only [Option.toList_some, Option.toList_none, List.cons_append, List.nil_append]
  rw [kX12_isOne_12 nb_b]
theorem m_isCell {d : Nat} {F : am_FT} {L : am_LT} {Q : am_QT} {x : Int32} : wc am_S0 (d + 1) mX12_isCell [.long x.toInt64] F L Q = Q (some (.int (bI (inR x 256)))) F L := by
  rw [eX12_isCell, kX12_isCell_0, show (0 : Int64) = Int32.toInt64 0 from rfl, show (255 : Int64) = Int32.toInt64 (nI 255) from rfl, s_mwi, inR_c (by decide)]
  simp only [Option.toList_some, Option.toList_none, List.cons_append, List.nil_append]
  rw [kX12_isCell_8 nb_b]
theorem m_isMonth {d : Nat} {F : am_FT} {L : am_LT} {Q : am_QT} {x : Int32} : wc am_S0 (d + 1) mX12_isMonth [.long x.toInt64] F L Q = Q (some (.int (bI (inR x 12)))) F L := by
  rw [eX12_isMonth, kX12_isMonth_0, show (0 : Int64) = Int32.toInt64 0 from rfl, show (11 : Int64) = Int32.toInt64 (nI 11) from rfl, s_mwi, inR_c (by decide)]
  simp only [Option.toList_some, Option.toList_none, List.cons_append, List.nil_append]
  rw [kX12_isMonth_8 nb_b]
/-- a tree and a month, told together -/
def tmR (v : am_V) (x : Int32) : Bool := decide (¬ x < 0) && (inR (x / 100) (vT v) && inR (x - x / 100 * 100) 12)
theorem m_isTm {d : Nat} {F : am_FT} {L : am_LT} {Q : am_QT} {v : am_V} (h : RM F v) (hv : wV v) {x : Int32} : wc am_S0 (d + 2) mX12_isTm [.ref 45, .int x] F L Q = Q (some (.int (bI (tmR v x)))) F L := by
  unfold tmR
  rw [eX12_isTm, kX12_isTm_0]
  by_cases h1 : x < 0
  · rw [if_pos h1, kX12_isTm_31, kX12_isTm_32 rfl, decide_eq_false (fun hh => hh h1)]; rfl
  · rw [if_neg h1, kX12_isTm_4, m_isTree h hv, decide_eq_true h1, Bool.true_and]
    simp only [Option.toList_some, Option.toList_none, List.cons_append, List.nil_append]
    rw [kX12_isTm_13]
    cases inR (x / 100) (vT v)
    · rw [if_pos bIf, kX12_isTm_31, kX12_isTm_32 rfl]; rfl
    · rw [if_neg bIt, kX12_isTm_16, m_isMonth, Bool.true_and]
      simp only [Option.toList_some, Option.toList_none, List.cons_append, List.nil_append]
      rw [kX12_isTm_24]
      cases inR (x - x / 100 * 100) 12
      · rw [if_pos bIf, kX12_isTm_31, kX12_isTm_32 rfl]; rfl
      · rw [if_neg bIt, kX12_isTm_27, kX12_isTm_32 rfl]; rfl
theorem s_isIn {d s k : Nat} {F : am_FT} {L : am_LT} {Q : am_QT} (hs : s < 2 ^ 31) (hk : k < 32) : wc am_S0 d mX12_isIn [.int (nI s), .int (nI k)] F L Q = Q (some (.int (bI (s.testBit k)))) F L := by
  rw [eX12_isIn, kX12_isIn_0, tb_shr s hs k hk]
  cases s.testBit k
  · rw [if_pos (by decide), kX12_isIn_13, kX12_isIn_14 rfl]; rfl
  · rw [if_neg (by decide), kX12_isIn_9, kX12_isIn_14 rfl]; rfl
theorem pop10 {s : Nat} (h : s < 1024) : pop s = cnt s.testBit 10 := by
  unfold pop
  have e : ∀ k, 10 ≤ k → s.testBit k = false := fun k hk => Nat.testBit_lt_two_pow (Nat.lt_of_lt_of_le h (two_le (n := 10) hk))
  show (if s.testBit 11 = true then _ else (if s.testBit 10 = true then _ else _)) = _
  rw [e 11 (by decide), e 10 (by decide)]
  rfl
theorem s_bitsOf_loop {d s : Nat} {F : am_FT} {L : am_LT} {Q : am_QT} (hs : s < 1024) : ∀ (j k : Nat), k + j = 10 → wt am_S0 d mX12_bitsOf 4 [some (.int (nI s)), some (.int (nI (cnt s.testBit k))), some (.int (nI k))] [] F L Q = Q (some (.int (nI (pop s)))) F L := by
  intro j
  induction j with
  | zero =>
    intro k hk
    have : k = 10 := by omega
    subst this
    rw [kX12_bitsOf_4, if_pos (by decide), kX12_bitsOf_24, pop10 hs]
  | succ j ih =>
    intro k hk
    have ih1 := ih (k + 1) (by omega)
    unfold cnt at ih1
    rw [kX12_bitsOf_4, if_neg (show ¬ (10 : Int32) ≤ nI k from nI_ge (b := 10) (by omega) (by decide)), kX12_bitsOf_10, tb_shr s (by omega) k (by omega), nI_1, nI_add]
    cases hb : s.testBit k
    · rw [hb] at ih1
      exact ih1
    · rw [hb] at ih1
      exact ih1
theorem s_bitsOf {d s : Nat} {F : am_FT} {L : am_LT} {Q : am_QT} (hs : s < 1024) : wc am_S0 d mX12_bitsOf [.int (nI s)] F L Q = Q (some (.int (nI (pop s)))) F L := by
  rw [eX12_bitsOf, kX12_bitsOf_0]
  exact s_bitsOf_loop hs 10 0 rfl
/-! shades -/
theorem m_rowsOf {d t m : Nat} {F : am_FT} {L : am_LT} {Q : am_QT} {v : am_V} (h : RM F v) (hv : wV v) (ht : t < vT v) (hm : m < 12) : wc am_S0 d mX12_rowsOf [.ref 45, .int (nI t), .int (nI m)] F L Q = Q (some (.int (nI (vN v 1 t * vN v 3 m / 3)))) F L := by
  have hT := hv.1
  have hp : vN v 1 t * vN v 3 m ≤ 9 * 9 := Nat.mul_le_mul (lb1 hv ht) (lb3 hv hm)
  have e1 : (nI (vN v 1 t) * nI (vN v 3 m) / 3 : Int32) = nI (vN v 1 t * vN v 3 m / 3) := by
    rw [iI_n, iI_n, iI_mul, iI_l, iI_div (by omega) (by omega) (by omega) (by omega), iI_n]
    congr 1
  rw [eX12_rowsOf, kX12_rowsOf_0 (by rw [a6]; exact oobN (by omega) (by decide)) (by rw [a18]; exact oobN (by omega) (by decide)), a6, a18, nI_clamp (by omega), nI_clamp (by omega), mm1 h ht, mm3 h hm, e1]
theorem m_isShaded {d t m c : Nat} {F : am_FT} {L : am_LT} {Q : am_QT} {v : am_V} (h : RM F v) (hv : wV v) (ht : t < vT v) (hm : m < 12) (hc : c < 256) : wc am_S0 (d + 1) mX12_isShaded [.ref 45, .int (nI t), .int (nI m), .int (nI c)] F L Q = Q (some (.int (bI (shd v t m (vN v 1 t) c)))) F L := by
  have hT := hv.1
  have b0 := lb0 hv ht
  have b2 := lb2 hv ht
  have hp : vN v 1 t * vN v 3 m ≤ 9 * 9 := Nat.mul_le_mul (lb1 hv ht) (lb3 hv hm)
  have e1 : decide (¬ (nI (vN v 0 t) / 16 - nI c / 16) < (1 : Int32) ∧ ¬ nI (vN v 1 t * vN v 3 m / 3) < (nI (vN v 0 t) / 16 - nI c / 16)) = decide (c / 16 + 1 ≤ vN v 0 t / 16 ∧ vN v 0 t / 16 ≤ c / 16 + vN v 1 t * vN v 3 m / 3) := by
    congr 1
    simp (disch := omega) only [iI_n, iI_l, iI_neg, iI_add, iI_sub, iI_mul, iI_div, iI_lt, iI_le, iI_eq]
    apply propext
    constructor
    · rintro ⟨a, b⟩; exact ⟨by omega, by omega⟩
    · rintro ⟨a, b⟩; exact ⟨by omega, by omega⟩
  have e2 : decide (¬ ((nI (vN v 0 t) - nI (vN v 0 t) / 16 * 16) - (nI c - nI c / 16 * 16)) < -nI (vN v 2 t) ∧ ¬ nI (vN v 2 t) < ((nI (vN v 0 t) - nI (vN v 0 t) / 16 * 16) - (nI c - nI c / 16 * 16))) = decide (vN v 0 t % 16 ≤ c % 16 + vN v 2 t ∧ c % 16 ≤ vN v 0 t % 16 + vN v 2 t) := by
    congr 1
    simp (disch := omega) only [iI_n, iI_l, iI_neg, iI_add, iI_sub, iI_mul, iI_div, iI_lt, iI_le, iI_eq]
    apply propext
    constructor
    · rintro ⟨a, b⟩; exact ⟨by omega, by omega⟩
    · rintro ⟨a, b⟩; exact ⟨by omega, by omega⟩
  have e3 : shd v t m (vN v 1 t) c = (decide (c / 16 + 1 ≤ vN v 0 t / 16 ∧ vN v 0 t / 16 ≤ c / 16 + vN v 1 t * vN v 3 m / 3) && decide (vN v 0 t % 16 ≤ c % 16 + vN v 2 t ∧ c % 16 ≤ vN v 0 t % 16 + vN v 2 t)) := by
    unfold shd shg
    rw [← Bool.decide_and]
    congr 1
    apply propext
    constructor
    · rintro ⟨a, b, c, d⟩; exact ⟨⟨a, b⟩, c, d⟩
    · rintro ⟨⟨a, b⟩, c, d⟩; exact ⟨a, b, c, d⟩
  rw [e3, eX12_isShaded, kX12_isShaded_0 (oobN (by omega) (by decide)), nI_clamp (by omega), mm0 h ht, kX12_isShaded_24 (by decide), m_rowsOf h hv ht hm]
  simp only [Option.toList_some, Option.toList_none, List.cons_append, List.nil_append]
  rw [kX12_isShaded_42, show (1 : Int64) = Int32.toInt64 1 from rfl, s_mwi, e1]
  simp only [Option.toList_some, Option.toList_none, List.cons_append, List.nil_append]
  rw [kX12_isShaded_46]
  cases decide (c / 16 + 1 ≤ vN v 0 t / 16 ∧ vN v 0 t / 16 ≤ c / 16 + vN v 1 t * vN v 3 m / 3)
  · rw [if_pos bIf, kX12_isShaded_83, kX12_isShaded_84 rfl]; rfl
  · rw [if_neg bIt, kX12_isShaded_49 (by rw [a12]; exact oobN (by omega) (by decide)), a12, nI_clamp (by omega), mm2 h ht, kX12_isShaded_72, s_mwi, e2]
    simp only [Option.toList_some, Option.toList_none, List.cons_append, List.nil_append]
    rw [kX12_isShaded_76]
    cases decide (vN v 0 t % 16 ≤ c % 16 + vN v 2 t ∧ c % 16 ≤ vN v 0 t % 16 + vN v 2 t)
    · rw [if_pos bIf, kX12_isShaded_83, kX12_isShaded_84 rfl]; rfl
    · rw [if_neg bIt, kX12_isShaded_79, kX12_isShaded_84 rfl]; rfl
