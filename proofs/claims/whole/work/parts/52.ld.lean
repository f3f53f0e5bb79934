/-! ===== the view: how many trees and people, numbers by what and whose, who stands, what the law makes of its names ===== -/
abbrev am_V : Type := Nat × Nat × (Nat → Nat → Nat) × (Nat → Bool) × (Int32 → Int32 → Int32 → Int32 → Int32 → Int32 → Int32)
def vT (v : am_V) : Nat := v.1
def vP (v : am_V) : Nat := v.2.1
def vN (v : am_V) : Nat → Nat → Nat := v.2.2.1
def vS (v : am_V) : Nat → Bool := v.2.2.2.1
def vL (v : am_V) : Int32 → Int32 → Int32 → Int32 → Int32 → Int32 → Int32 := v.2.2.2.2
def vO (v : am_V) (w : Nat) : Nat := if w < 3 then vT v else if w = 3 then 12 else if w < 7 then vP v else 0
def vLo (w : Nat) : Nat := if w = 1 then 1 else 0
def vHi (w : Nat) : Nat := [255, 9, 3, 9, 255, 63, 3].getD w 0
def wV (v : am_V) : Prop := vT v ≤ 6 ∧ vP v ≤ 10 ∧ ∀ w n, w < 7 → n < vO v w → vLo w ≤ vN v w n ∧ vN v w n ≤ vHi w
def RLand (f1 f2 : Nat → Int32) (v : am_V) : Prop := f1 1 = nI (vT v) ∧ f1 2 = nI (vP v) ∧ (∀ w n, w < 7 → n < vO v w → f2 (12 * w + n) = nI (vN v w n)) ∧ (∀ t, t < vT v → f2 (84 + t) = nI (if vS v t = true then 1 else 0))
def bI (b : Bool) : Int32 := nI (if b = true then 1 else 0)
theorem bI0 {b : Bool} : (bI b = 0) = (b = false) := by cases b <;> decide
theorem bI1 {b : Bool} : (bI b = 1) = (b = true) := by cases b <;> decide
theorem nb_b {b : Bool} : narrow .boolean (.int (bI b)) = .int (bI b) := by cases b <;> rfl
def inR (x : Int32) (n : Nat) : Bool := decide (¬ x < 0 ∧ ¬ nI n ≤ x)
theorem inR_ex {x : Int32} {n : Nat} (h : inR x n = true) (hn : n < 2 ^ 31) : ∃ k, k < n ∧ x = nI k := by
  have h1 := of_decide_eq_true h
  obtain ⟨z, hz1, hz2, rfl⟩ := iI_ex x
  have h2 := h1.1
  have h3 := h1.2
  revert h2 h3
  simp (disch := omega) only [iI_n, iI_l, iI_neg, iI_add, iI_sub, iI_mul, iI_div, iI_lt, iI_le, iI_eq]
  intro h2 h3
  exact ⟨z.toNat, by omega, by show iI z = iI _; congr 1; omega⟩
theorem inR_n {k n : Nat} (hk : k < n) (hn : n < 2 ^ 31) : inR (nI k) n = true := decide_eq_true ⟨nI_pos (by omega), nI_ge hk hn⟩
theorem bit_b {s k : Nat} (hs : s < 2 ^ 31) (hk : k < 32) : bitI (nI s) (nI k) = bI (s.testBit k) := by
  unfold bitI bI
  rw [tb_ushr s (by omega) k hk]
  cases s.testBit k <;> decide
/-! numbers of the land -/
theorem ld_at {F : am_FT} {n w : Nat} (hn : n < 12) (hw : w < 8) : ldI F (nI n) (nI w) = F 2 (12 * w + n) := by
  unfold ldI
  rw [show (nI w * 12 + nI n : Int32) = nI (12 * w + n) by rw [iI_l, iI_n, iI_n, iI_n, iI_mul, iI_add]; congr 1; omega]
  rw [if_neg (nI_pos (by omega)), if_neg, nI_clamp (by omega)]
  exact nI_ge (b := 96) (by omega) (by decide)
theorem vO_le {v : am_V} (hw : wV v) (w : Nat) : vO v w ≤ 12 := by
  have h1 := hw.1
  have h2 := hw.2.1
  unfold vO
  split
  · omega
  · split
    · omega
    · split <;> omega
theorem ld_n {F : am_FT} {v : am_V} (h : RLand (F 1) (F 2) v) (hv : wV v) {n w : Nat} (hw : w < 7) (hn : n < vO v w) : ldI F (nI n) (nI w) = nI (vN v w n) := by
  rw [ld_at (Nat.lt_of_lt_of_le hn (vO_le hv w)) (by omega)]
  exact h.2.2.1 w n hw hn
theorem ld_s {F : am_FT} {v : am_V} (h : RLand (F 1) (F 2) v) (hv : wV v) {t : Nat} (ht : t < vT v) : ldI F (nI t) (nI 7) = bI (vS v t) := by
  have := hv.1
  rw [ld_at (by omega) (by omega)]
  exact h.2.2.2 t ht
theorem lo4 {v : am_V} {p : Nat} (h : p < vP v) : p < vO v 4 := h
theorem lo5 {v : am_V} {p : Nat} (h : p < vP v) : p < vO v 5 := h
theorem lo6 {v : am_V} {p : Nat} (h : p < vP v) : p < vO v 6 := h
theorem lo0 {v : am_V} {p : Nat} (h : p < vT v) : p < vO v 0 := h
theorem lo1 {v : am_V} {p : Nat} (h : p < vT v) : p < vO v 1 := h
theorem lo2 {v : am_V} {p : Nat} (h : p < vT v) : p < vO v 2 := h
theorem lo3 {v : am_V} {p : Nat} (h : p < 12) : p < vO v 3 := h
theorem bIf : bI false = 0 := rfl
theorem bIt : ¬ bI true = 0 := by decide
theorem ld0 {F : am_FT} {v : am_V} (h : RLand (F 1) (F 2) v) (hv : wV v) {n : Nat} (hn : n < vT v) : ldI F (nI n) 0 = nI (vN v 0 n) := ld_n (w := 0) h hv (by decide) (lo0 hn)
theorem ld1 {F : am_FT} {v : am_V} (h : RLand (F 1) (F 2) v) (hv : wV v) {n : Nat} (hn : n < vT v) : ldI F (nI n) 1 = nI (vN v 1 n) := ld_n (w := 1) h hv (by decide) (lo1 hn)
theorem ld2 {F : am_FT} {v : am_V} (h : RLand (F 1) (F 2) v) (hv : wV v) {n : Nat} (hn : n < vT v) : ldI F (nI n) 2 = nI (vN v 2 n) := ld_n (w := 2) h hv (by decide) (lo2 hn)
theorem ld3 {F : am_FT} {v : am_V} (h : RLand (F 1) (F 2) v) (hv : wV v) {n : Nat} (hn : n < 12) : ldI F (nI n) 3 = nI (vN v 3 n) := ld_n (w := 3) h hv (by decide) (lo3 hn)
theorem ld4 {F : am_FT} {v : am_V} (h : RLand (F 1) (F 2) v) (hv : wV v) {n : Nat} (hn : n < vP v) : ldI F (nI n) 4 = nI (vN v 4 n) := ld_n (w := 4) h hv (by decide) (lo4 hn)
theorem ld5 {F : am_FT} {v : am_V} (h : RLand (F 1) (F 2) v) (hv : wV v) {n : Nat} (hn : n < vP v) : ldI F (nI n) 5 = nI (vN v 5 n) := ld_n (w := 5) h hv (by decide) (lo5 hn)
theorem ld6 {F : am_FT} {v : am_V} (h : RLand (F 1) (F 2) v) (hv : wV v) {n : Nat} (hn : n < vP v) : ldI F (nI n) 6 = nI (vN v 6 n) := ld_n (w := 6) h hv (by decide) (lo6 hn)
theorem ld7 {F : am_FT} {v : am_V} (h : RLand (F 1) (F 2) v) (hv : wV v) {t : Nat} (ht : t < vT v) : ldI F (nI t) 7 = bI (vS v t) := ld_s h hv ht
theorem lb0 {v : am_V} (hv : wV v) {n : Nat} (hn : n < vT v) : vN v 0 n ≤ 255 := (hv.2.2 0 n (by decide) (lo0 hn)).2
theorem lb1 {v : am_V} (hv : wV v) {n : Nat} (hn : n < vT v) : vN v 1 n ≤ 9 := (hv.2.2 1 n (by decide) (lo1 hn)).2
theorem lb2 {v : am_V} (hv : wV v) {n : Nat} (hn : n < vT v) : vN v 2 n ≤ 3 := (hv.2.2 2 n (by decide) (lo2 hn)).2
theorem lb3 {v : am_V} (hv : wV v) {n : Nat} (hn : n < 12) : vN v 3 n ≤ 9 := (hv.2.2 3 n (by decide) (lo3 hn)).2
theorem lb4 {v : am_V} (hv : wV v) {n : Nat} (hn : n < vP v) : vN v 4 n ≤ 255 := (hv.2.2 4 n (by decide) (lo4 hn)).2
theorem lb5 {v : am_V} (hv : wV v) {n : Nat} (hn : n < vP v) : vN v 5 n ≤ 63 := (hv.2.2 5 n (by decide) (lo5 hn)).2
theorem lb6 {v : am_V} (hv : wV v) {n : Nat} (hn : n < vP v) : vN v 6 n ≤ 3 := (hv.2.2 6 n (by decide) (lo6 hn)).2
theorem lb1p {v : am_V} (hv : wV v) {n : Nat} (hn : n < vT v) : 1 ≤ vN v 1 n := (hv.2.2 1 n (by decide) (lo1 hn)).1
/-! shades: cell, foot, rows, broad -/
def shg (c f r b : Nat) : Bool := decide (c / 16 + 1 ≤ f / 16 ∧ f / 16 ≤ c / 16 + r ∧ f % 16 ≤ c % 16 + b ∧ c % 16 ≤ f % 16 + b)
def shd (v : am_V) (t m h c : Nat) : Bool := shg c (vN v 0 t) (h * vN v 3 m / 3) (vN v 2 t)
def cov (v : am_V) (t m h : Nat) : Nat := bs (fun p => shd v t m h (vN v 4 p)) (vP v)
def wsh (v : am_V) (t : Nat) : Nat := bs (fun p => (vN v 5 p).testBit t) (vP v)
theorem li_b {c f r b : Nat} (hc : c < 256) (hf : f < 256) (hr : r < 256) (hb : b < 256) : liI (nI c) (nI f) (nI r) (nI b) = bI (shg c f r b) := by
  unfold liI bI shg
  simp (disch := omega) only [iI_n, iI_l, iI_neg, iI_add, iI_sub, iI_mul, iI_div, iI_lt, iI_le, iI_eq]
  by_cases h1 : c / 16 + 1 ≤ f / 16
  · by_cases h2 : f / 16 ≤ c / 16 + r
    · rw [if_neg (by omega), if_neg (by omega)]
      by_cases h3 : f % 16 ≤ c % 16 + b
      · by_cases h4 : c % 16 ≤ f % 16 + b
        · rw [if_neg, if_pos (by simp [h1, h2, h3, h4])]; rfl
          split <;> simp (disch := omega) only [iI_n, iI_l, iI_neg, iI_add, iI_sub, iI_mul, iI_div, iI_lt, iI_le, iI_eq] <;> omega
        · rw [if_pos, if_neg (by simp [h4])]; rfl
          split <;> simp (disch := omega) only [iI_n, iI_l, iI_neg, iI_add, iI_sub, iI_mul, iI_div, iI_lt, iI_le, iI_eq] <;> omega
      · rw [if_pos, if_neg (by simp [h3])]; rfl
        split <;> simp (disch := omega) only [iI_n, iI_l, iI_neg, iI_add, iI_sub, iI_mul, iI_div, iI_lt, iI_le, iI_eq] <;> omega
    · rw [if_neg (by omega), if_pos (by omega), if_neg (by simp [h2])]; rfl
  · rw [if_pos (by omega), if_neg (by simp [h1])]; rfl
theorem orF_bs {g : Nat → Int32} {p : Nat → Bool} {n : Nat} (hn : n ≤ 31) (h : ∀ k, k < n → g k = bI (p k)) : orF g n = nI (bs p n) := by
  induction n with
  | zero => rfl
  | succ n ih =>
    unfold orF bs
    simp only [h n (by omega), bI0, ih (by omega) fun k hk => h k (by omega), nI_sh n (by omega), nI_or]
    cases p n <;> rfl
/-! the land's methods -/
theorem wi_b {x a b : Int32} : wiI x a b = bI (decide (¬ x < a ∧ ¬ b < x)) := by
  unfold wiI bI
  by_cases h1 : x < a
  · rw [if_pos h1, if_neg (by simp [h1])]; rfl
  · rw [if_neg h1]
    by_cases h2 : b < x
    · rw [if_pos h2, if_neg (by simp [h2])]; rfl
    · rw [if_neg h2, if_pos (by simp [h1, h2])]; rfl
def ownI (F : am_FT) (w : Int32) : Int32 := if w = 0 then F 1 1 else if w = 1 then F 1 1 else if w = 2 then F 1 1 else if w = 3 then 12 else if w = 4 then F 1 2 else if w = 5 then F 1 2 else if w = 6 then F 1 2 else if w = 7 then F 1 1 else 0
theorem s_owners {d : Nat} {F : am_FT} {L : am_LT} {Q : am_QT} {w : Int32} : wc am_S0 d mX5_owners [.ref 1, .int w] F L Q = Q (some (.int (ownI F w))) F L := by
  unfold ownI
  simp only [eX5_owners, kX5_owners_0, kX5_owners_48, kX5_owners_53, kX5_owners_56, kX5_owners_61]
  repeat (split; rfl)
  rfl
def hasI (F : am_FT) (n w : Int32) : Bool := decide (¬ n < 0 ∧ ¬ ownI F w ≤ n)
theorem s_has {d : Nat} {F : am_FT} {L : am_LT} {Q : am_QT} {n w : Int32} : wc am_S0 (d + 1) mX5_has [.ref 1, .int n, .int w] F L Q = Q (some (.int (bI (hasI F n w)))) F L := by
  unfold hasI
  rw [eX5_has, kX5_has_0]
  by_cases h1 : n < 0
  · rw [if_pos h1, kX5_has_17, kX5_has_18 rfl, decide_eq_false (fun h => h.1 h1)]; rfl
  · rw [if_neg h1, kX5_has_4, s_owners]
    simp only [Option.toList_some, Option.toList_none, List.cons_append, List.nil_append]
    rw [kX5_has_10]
    by_cases h2 : ownI F w ≤ n
    · rw [if_pos h2, kX5_has_17, kX5_has_18 rfl, decide_eq_false (fun h => h.2 h2)]; rfl
    · rw [if_neg h2, kX5_has_13, kX5_has_18 rfl, decide_eq_true ⟨h1, h2⟩]; rfl
theorem has_0 {F : am_FT} {v : am_V} (h : RLand (F 1) (F 2) v) {x : Int32} : hasI F x 0 = inR x (vT v) := by
  unfold hasI inR
  rw [show ownI F 0 = F 1 1 from rfl, h.1]
theorem has_4 {F : am_FT} {v : am_V} (h : RLand (F 1) (F 2) v) {x : Int32} : hasI F x 4 = inR x (vP v) := by
  unfold hasI inR
  rw [show ownI F 4 = F 1 2 from rfl, h.2.1]
def fitI (w x : Int32) : Bool := decide (¬ w < 0 ∧ ¬ 6 < w) && decide (¬ x < rdZ 1 w ∧ ¬ rdZ 2 w < x)
theorem s_fits {d : Nat} {F : am_FT} {L : am_LT} {Q : am_QT} {w x : Int32} : wc am_S0 (d + 1) mX5_fits [.ref 1, .int w, .int x] F L Q = Q (some (.int (bI (fitI w x)))) F L := by
  unfold fitI
  rw [eX5_fits, kX5_fits_0, s_within, wi_b]
  simp only [Option.toList_some, Option.toList_none, List.cons_append, List.nil_append]
  rw [kX5_fits_7]
  cases h1 : decide (¬ w < 0 ∧ ¬ 6 < w)
  · rw [if_pos bIf, kX5_fits_35, kX5_fits_36 rfl, Bool.false_and]; rfl
  · rw [if_neg bIt, kX5_fits_10, show (1001 : Nat) = 1000 + 1 from rfl, s_atZ (by decide)]
    simp only [Option.toList_some, Option.toList_none, List.cons_append, List.nil_append]
    rw [kX5_fits_18, show (1002 : Nat) = 1000 + 2 from rfl, s_atZ (by decide)]
    simp only [Option.toList_some, Option.toList_none, List.cons_append, List.nil_append]
    rw [kX5_fits_25, s_within, wi_b]
    simp only [Option.toList_some, Option.toList_none, List.cons_append, List.nil_append]
    rw [kX5_fits_28]
    cases h2 : decide (¬ x < rdZ 1 w ∧ ¬ rdZ 2 w < x)
    · rw [if_pos bIf, kX5_fits_35, kX5_fits_36 rfl]; rfl
    · rw [if_neg bIt, kX5_fits_31, kX5_fits_36 rfl]; rfl
theorem c_shades {d : Nat} {F : am_FT} {L : am_LT} {Q : am_QT} {v : am_V} (h : RLand (F 1) (F 2) v) (hv : wV v) {t m c : Nat} (ht : t < vT v) (hm : m < 12) (hc : c < 256) : wc am_S0 (d + 2) mX5_shades [.ref 1, .int (nI t), .int (nI m), .int (nI c)] F L Q = Q (some (.int (bI (vS v t && shd v t m (vN v 1 t) c)))) F L := by
  have b1 := (hv.2.2 1 t (by decide) (lo1 ht)).2
  have b3 := (hv.2.2 3 m (by decide) (lo3 hm)).2
  have b0 := (hv.2.2 0 t (by decide) (lo0 ht)).2
  have b2 := (hv.2.2 2 t (by decide) (lo2 ht)).2
  have e1 : (nI (vN v 1 t) * nI (vN v 3 m) / 3 : Int32) = nI (vN v 1 t * vN v 3 m / 3) := by
    have hp : vN v 1 t * vN v 3 m ≤ 9 * 9 := Nat.mul_le_mul b1 b3
    rw [iI_n, iI_n, iI_mul, iI_l, iI_div (by omega) (by omega) (by omega) (by omega), iI_n]
    congr 1
  have hp : vN v 1 t * vN v 3 m ≤ 9 * 9 := Nat.mul_le_mul b1 b3
  have c0 : vN v 0 t ≤ 255 := b0
  have c2 : vN v 2 t ≤ 3 := b2
  rw [eX5_shades, kX5_shades_0, s_read, ld1 h hv ht]
  simp only [Option.toList_some, Option.toList_none, List.cons_append, List.nil_append]
  rw [kX5_shades_6, s_read, ld3 h hv hm]
  simp only [Option.toList_some, Option.toList_none, List.cons_append, List.nil_append]
  rw [kX5_shades_12, s_stands, ld7 h hv ht, e1]
  simp only [Option.toList_some, Option.toList_none, List.cons_append, List.nil_append]
  rw [kX5_shades_22]
  rw [show (if bI (vS v t) = 1 then (1 : Int32) else 0) = bI (vS v t) by cases vS v t <;> decide]
  cases hs : vS v t
  · rw [if_pos bIf, kX5_shades_50, kX5_shades_51 rfl]; rfl
  · rw [if_neg bIt, kX5_shades_25, s_read, ld0 h hv ht]
    simp only [Option.toList_some, Option.toList_none, List.cons_append, List.nil_append]
    rw [kX5_shades_32, s_read, ld2 h hv ht]
    simp only [Option.toList_some, Option.toList_none, List.cons_append, List.nil_append]
    rw [kX5_shades_40, s_lies, li_b hc (by omega) (by omega) (by omega)]
    simp only [Option.toList_some, Option.toList_none, List.cons_append, List.nil_append]
    rw [kX5_shades_43]
    unfold shd
    cases shg c (vN v 0 t) (vN v 1 t * vN v 3 m / 3) (vN v 2 t)
    · rw [if_pos bIf, kX5_shades_50, kX5_shades_51 rfl]; rfl
    · rw [if_neg bIt, kX5_shades_46, kX5_shades_51 rfl]; rfl
theorem c_coveredBy {d : Nat} {F : am_FT} {L : am_LT} {Q : am_QT} {v : am_V} (h : RLand (F 1) (F 2) v) (hv : wV v) {t m hh : Nat} (ht : t < vT v) (hm : m < 12) (hc : hh ≤ 9) : wc am_S0 (d + 2) mX5_coveredBy [.ref 1, .int (nI t), .int (nI m), .int (nI hh)] F L Q = Q (some (.int (nI (cov v t m hh)))) F L := by
  have c3 : vN v 3 m ≤ 9 := (hv.2.2 3 m (by decide) (lo3 hm)).2
  have c0 : vN v 0 t ≤ 255 := (hv.2.2 0 t (by decide) (lo0 ht)).2
  have c2 : vN v 2 t ≤ 3 := (hv.2.2 2 t (by decide) (lo2 ht)).2
  have hp : hh * vN v 3 m ≤ 9 * 9 := Nat.mul_le_mul hc c3
  have hP := hv.2.1
  have e1 : (nI hh * nI (vN v 3 m) / 3 : Int32) = nI (hh * vN v 3 m / 3) := by
    rw [iI_n, iI_n, iI_mul, iI_l, iI_div (by omega) (by omega) (by omega) (by omega), iI_n]
    congr 1
  rw [s_coveredBy h.2.1 (by omega)]
  unfold cvI cov
  congr 2
  congr 1
  congr 1
  apply orF_bs (by omega)
  intro k hk
  rw [ld4 h hv hk, ld0 h hv ht, ld3 h hv hm, ld2 h hv ht, e1]
  have c4 : vN v 4 k ≤ 255 := (hv.2.2 4 k (by decide) (lo4 hk)).2
  rw [li_b (by omega) (by omega) (by omega) (by omega)]
  rfl
theorem c_wishersOf_loop {d : Nat} {F : am_FT} {L : am_LT} {Q : am_QT} {v : am_V} (h : RLand (F 1) (F 2) v) (hv : wV v) {t : Nat} (ht : t < vT v) : ∀ (j k : Nat), k + j = vP v → wt am_S0 (d + 1) mX5_wishersOf 4 [some (.ref 1), some (.int (nI t)), some (.int (nI (bs (fun p => (vN v 5 p).testBit t) k))), some (.int (nI k))] [] F L Q = Q (some (.int (nI (wsh v t)))) F L := by
  have hP := hv.2.1
  have hT := hv.1
  intro j
  induction j with
  | zero =>
    intro k hk
    have : k = vP v := by omega
    subst this
    rw [kX5_wishersOf_4, h.2.1, if_pos (nI_le (Nat.le_refl _) (by omega)), kX5_wishersOf_37]
    rfl
  | succ j ih =>
    intro k hk
    rw [kX5_wishersOf_4, h.2.1, if_neg (nI_ge (by omega) (by omega)), kX5_wishersOf_12, s_read, ld5 h hv (n := k) (by omega)]
    simp only [Option.toList_some, Option.toList_none, List.cons_append, List.nil_append]
    have c5 : vN v 5 k ≤ 63 := (hv.2.2 5 k (by decide) (lo5 (by omega))).2
    rw [kX5_wishersOf_18, s_holds, bit_b (by omega) (by omega)]
    simp only [Option.toList_some, Option.toList_none, List.cons_append, List.nil_append]
    rw [kX5_wishersOf_22]
    have ih1 := ih (k + 1) (by omega)
    unfold bs at ih1
    cases hb : (vN v 5 k).testBit t
    · rw [if_pos bIf, kX5_wishersOf_31, nI_1]
      simp only [hb] at ih1
      exact ih1
    · rw [if_neg bIt, kX5_wishersOf_25, kX5_wishersOf_31, nI_1, nI_sh k (by omega), nI_or]
      simp only [hb] at ih1
      exact ih1
theorem c_wishersOf {d : Nat} {F : am_FT} {L : am_LT} {Q : am_QT} {v : am_V} (h : RLand (F 1) (F 2) v) (hv : wV v) {t : Nat} (ht : t < vT v) : wc am_S0 (d + 1) mX5_wishersOf [.ref 1, .int (nI t)] F L Q = Q (some (.int (nI (wsh v t)))) F L := by
  rw [eX5_wishersOf, kX5_wishersOf_0]
  exact c_wishersOf_loop h hv ht (vP v) 0 (by omega)
