/-! ===== numbers: Int32 by Int, by Nat, by bits ===== -/
def iI (z : Int) : Int32 := Int32.ofInt z
theorem iI_n (n : Nat) : nI n = iI (n : Int) := rfl
theorem iI_l (n : Nat) : (OfNat.ofNat n : Int32) = iI (OfNat.ofNat n) := rfl
theorem iI_neg (a : Int) : - iI a = iI (- a) := (Int32.ofInt_neg a).symm
theorem iI_add (a b : Int) : iI a + iI b = iI (a + b) := (Int32.ofInt_add a b).symm
theorem iI_sub (a b : Int) : iI a - iI b = iI (a - b) := (Int32.ofInt_sub a b).symm
theorem iI_mul (a b : Int) : iI a * iI b = iI (a * b) := (Int32.ofInt_mul a b).symm
theorem iI_toInt {z : Int} (h1 : -2147483648 ≤ z) (h2 : z < 2147483648) : (iI z).toInt = z := Int32.toInt_ofInt_of_le (by omega) (by omega)
theorem iI_ex (x : Int32) : ∃ z : Int, -2147483648 ≤ z ∧ z < 2147483648 ∧ x = iI z := ⟨x.toInt, by have := x.le_toInt; omega, by have := x.toInt_lt; omega, (Int32.ofInt_toInt x).symm⟩
theorem iI_lt {a b : Int} (h1 : -2147483648 ≤ a) (h2 : a < 2147483648) (h3 : -2147483648 ≤ b) (h4 : b < 2147483648) : (iI a < iI b) = (a < b) := propext (by rw [Int32.lt_iff_toInt_lt, iI_toInt h1 h2, iI_toInt h3 h4])
theorem iI_le {a b : Int} (h1 : -2147483648 ≤ a) (h2 : a < 2147483648) (h3 : -2147483648 ≤ b) (h4 : b < 2147483648) : (iI a ≤ iI b) = (a ≤ b) := propext (by rw [Int32.le_iff_toInt_le, iI_toInt h1 h2, iI_toInt h3 h4])
theorem iI_eq {a b : Int} (h1 : -2147483648 ≤ a) (h2 : a < 2147483648) (h3 : -2147483648 ≤ b) (h4 : b < 2147483648) : (iI a = iI b) = (a = b) := propext (by rw [← Int32.toInt_inj, iI_toInt h1 h2, iI_toInt h3 h4])
theorem iI_div {a b : Int} (h1 : 0 ≤ a) (h2 : a < 2147483648) (h3 : 0 < b) (h4 : b < 2147483648) : iI a / iI b = iI (a / b) := by
  have e1 : Int32.minValue.toInt = -2147483648 := by decide
  have e2 : Int32.maxValue.toInt = 2147483647 := by decide
  have h := Int32.ofInt_tdiv (a := a) (b := b) (by omega) (by omega) (by omega) (by omega)
  unfold iI
  rw [← h, Int.tdiv_eq_ediv_of_nonneg h1]
theorem iI_nat {z : Int} (h : 0 ≤ z) : ∃ n : Nat, z = (n : Int) ∧ iI z = nI n := ⟨z.toNat, by omega, by rw [iI_n]; congr 1; omega⟩
theorem nI_inj {a b : Nat} (ha : a < 2 ^ 31) (hb : b < 2 ^ 31) : (nI a = nI b) = (a = b) := by
  rw [iI_n, iI_n, iI_eq (by omega) (by omega) (by omega) (by omega)]
  exact propext ⟨fun h => by omega, fun h => by omega⟩
theorem nI_or (a b : Nat) : nI a ||| nI b = nI (a ||| b) := Int32.toBitVec_inj.1 (by rw [Int32.toBitVec_or]; exact BitVec.ofNat_or.symm)
theorem nI_and (a b : Nat) : nI a &&& nI b = nI (a &&& b) := Int32.toBitVec_inj.1 (by rw [Int32.toBitVec_and]; exact BitVec.ofNat_and.symm)
theorem nI_xor (a b : Nat) : nI a ^^^ nI b = nI (a ^^^ b) := Int32.toBitVec_inj.1 (by rw [Int32.toBitVec_xor]; exact BitVec.ofNat_xor.symm)
/-- those of a that b hasn't -/
def ndf (a b : Nat) : Nat := a ^^^ (a &&& b)
theorem ndf_bit (a b k : Nat) : (ndf a b).testBit k = (a.testBit k && !(b.testBit k)) := by
  unfold ndf
  rw [Nat.testBit_xor, Nat.testBit_and]
  cases a.testBit k <;> cases b.testBit k <;> rfl
theorem nI_bv (a : Nat) : (nI a).toBitVec = BitVec.ofNat 32 a := rfl
theorem nI_ndf (a b : Nat) : nI a &&& (nI b ^^^ (-1)) = nI (ndf a b) := by
  apply Int32.toBitVec_inj.1
  rw [Int32.toBitVec_and, Int32.toBitVec_xor, nI_bv, nI_bv, nI_bv, show (-1 : Int32).toBitVec = BitVec.allOnes 32 by decide]
  apply BitVec.eq_of_getLsbD_eq
  intro i hi
  rw [BitVec.getLsbD_and, BitVec.getLsbD_xor, BitVec.getLsbD_ofNat, BitVec.getLsbD_ofNat, BitVec.getLsbD_ofNat, BitVec.getLsbD_allOnes, ndf_bit]
  simp only [hi, decide_true, Bool.true_and, Bool.bne_true, bne_iff_ne, Bool.xor_true]
theorem nI_sh : ∀ k : Nat, k < 31 → (1 : Int32) <<< (nI k &&& 31) = nI (2 ^ k) := by decide +kernel
theorem and1 (x : Int32) : x &&& 1 = nI (x.toBitVec.toNat % 2) := by
  apply Int32.toBitVec_inj.1
  apply BitVec.eq_of_toNat_eq
  rw [Int32.toBitVec_and, BitVec.toNat_and, nI_bv, BitVec.toNat_ofNat, show (1 : Int32).toBitVec.toNat = 1 from rfl, Nat.and_one_is_mod]
  omega
theorem tb_ushr (s : Nat) (hs : s < 2 ^ 32) (k : Nat) (hk : k < 32) : ((Int32.toUInt32 (nI s) >>> (Int32.toUInt32 (nI k) &&& Int32.toUInt32 31)).toInt32 &&& 1) = nI (if s.testBit k then 1 else 0) := by
  have e : ∀ k : Nat, k < 32 → (Int32.toUInt32 (nI k) &&& Int32.toUInt32 31) = UInt32.ofNat k := by decide +kernel
  rw [and1, e k hk]
  congr 1
  show ((UInt32.ofNat s >>> UInt32.ofNat k).toNat) % 2 = _
  rw [UInt32.toNat_shiftRight, UInt32.toNat_ofNat', UInt32.toNat_ofNat', Nat.mod_eq_of_lt hs, Nat.mod_eq_of_lt (show k < 2 ^ 32 by omega), Nat.mod_eq_of_lt hk]
  rw [Nat.testBit_eq_decide_div_mod_eq, Nat.shiftRight_eq_div_pow]
  by_cases h : s / 2 ^ k % 2 = 1
  · rw [h]; rfl
  · rw [if_neg (by simpa using h)]; omega
theorem tb_shr (s : Nat) (hs : s < 2 ^ 31) (k : Nat) (hk : k < 32) : (nI s >>> (nI k &&& 31)) &&& 1 = nI (if s.testBit k then 1 else 0) := by
  have e : ∀ k : Nat, k < 32 → ((nI k &&& 31).toBitVec.smod 32).toNat = k := by decide +kernel
  rw [and1]
  congr 1
  rw [Int32.toBitVec_shiftRight]
  show ((nI s).toBitVec.sshiftRight (((nI k &&& 31).toBitVec.smod 32).toNat)).toNat % 2 = _
  rw [e k hk, nI_bv]
  have h0 : (BitVec.sshiftRight (BitVec.ofNat 32 s) k).getLsbD 0 = s.testBit k := by
    rw [BitVec.getLsbD_sshiftRight, BitVec.getLsbD_ofNat]
    have : k + 0 < 32 := by omega
    simp [hk]
  rw [← h0, BitVec.getLsbD, Nat.testBit_zero]
  by_cases h : (BitVec.sshiftRight (BitVec.ofNat 32 s) k).toNat % 2 = 1
  · rw [h]; rfl
  · rw [if_neg (by simpa using h)]; omega
/-! sets of the first n, as a number -/
def bs (p : Nat → Bool) : Nat → Nat
  | 0 => 0
  | n + 1 => if p n = true then bs p n ||| 2 ^ n else bs p n
def cnt (p : Nat → Bool) : Nat → Nat
  | 0 => 0
  | n + 1 => if p n = true then cnt p n + 1 else cnt p n
def sm (f : Nat → Nat) : Nat → Nat
  | 0 => 0
  | n + 1 => sm f n + f n
theorem bs_bit (p : Nat → Bool) (n k : Nat) : (bs p n).testBit k = (decide (k < n) && p k) := by
  induction n with
  | zero => simp [bs]
  | succ n ih =>
    unfold bs
    by_cases h : p n = true
    · rw [if_pos h, Nat.testBit_or, ih, Nat.testBit_two_pow]
      by_cases hk : n = k
      · subst hk; simp [h]
      · have : (k < n) = (k < n + 1) := propext ⟨fun h => by omega, fun h => by omega⟩
        simp [hk, this]
    · rw [if_neg h, ih]
      by_cases hk : n = k
      · subst hk; simp [h]
      · have : (k < n) = (k < n + 1) := propext ⟨fun h => by omega, fun h => by omega⟩
        simp [this]
theorem bs_lt (p : Nat → Bool) (n : Nat) : bs p n < 2 ^ n := by
  apply Nat.lt_pow_two_of_testBit
  intro i hi
  rw [bs_bit, decide_eq_false (by omega)]
  rfl
theorem bs_of {s n : Nat} (h : s < 2 ^ n) : bs s.testBit n = s := by
  apply Nat.eq_of_testBit_eq
  intro i
  rw [bs_bit]
  by_cases hi : i < n
  · simp [hi]
  · rw [Nat.testBit_lt_two_pow (Nat.lt_of_lt_of_le h (Nat.pow_le_pow_right (by omega) (by omega)))]
    simp
theorem bs_congr {p q : Nat → Bool} {n : Nat} (h : ∀ k, k < n → p k = q k) : bs p n = bs q n := by
  induction n with
  | zero => rfl
  | succ n ih => unfold bs; rw [h n (by omega), ih fun k hk => h k (by omega)]
theorem cnt_congr {p q : Nat → Bool} {n : Nat} (h : ∀ k, k < n → p k = q k) : cnt p n = cnt q n := by
  induction n with
  | zero => rfl
  | succ n ih => unfold cnt; rw [h n (by omega), ih fun k hk => h k (by omega)]
theorem sm_congr {p q : Nat → Nat} {n : Nat} (h : ∀ k, k < n → p k = q k) : sm p n = sm q n := by
  induction n with
  | zero => rfl
  | succ n ih => unfold sm; rw [h n (by omega), ih fun k hk => h k (by omega)]
theorem cnt_le (p : Nat → Bool) (n : Nat) : cnt p n ≤ n := by
  induction n with
  | zero => exact Nat.le_refl _
  | succ n ih => unfold cnt; split <;> omega
theorem sm_le {f : Nat → Nat} {m n : Nat} (h : ∀ k, k < n → f k ≤ m) : sm f n ≤ m * n := by
  induction n with
  | zero => exact Nat.zero_le _
  | succ n ih =>
    unfold sm
    have h1 := ih fun k hk => h k (by omega)
    have h2 := h n (by omega)
    rw [Nat.mul_succ]
    omega
