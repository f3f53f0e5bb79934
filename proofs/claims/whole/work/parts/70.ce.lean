/-! ===== how many cells a shade covers ===== -/
theorem cnt_add (f : Nat → Bool) (a : Nat) : ∀ b, cnt f (a + b) = cnt f a + cnt (fun i => f (a + i)) b := by
  intro b
  induction b with
  | zero => rfl
  | succ b ih =>
    show (if f (a + b) = true then cnt f (a + b) + 1 else cnt f (a + b)) = cnt f a + (if f (a + b) = true then cnt (fun i => f (a + i)) b + 1 else cnt (fun i => f (a + i)) b)
    rw [ih]
    split <;> omega
theorem cnt_and (a : Bool) (B : Nat → Bool) : ∀ n, cnt (fun i => a && B i) n = if a = true then cnt B n else 0 := by
  intro n
  induction n with
  | zero => cases a <;> rfl
  | succ n ih =>
    show (if (a && B n) = true then cnt (fun i => a && B i) n + 1 else cnt (fun i => a && B i) n) = _
    rw [ih]
    cases a
    · rfl
    · rfl
theorem cnt_grid (A B : Nat → Bool) : ∀ n, cnt (fun c => A (c / 16) && B (c % 16)) (16 * n) = cnt A n * cnt B 16 := by
  intro n
  induction n with
  | zero => show 0 = 0 * cnt B 16; rw [Nat.zero_mul]
  | succ n ih =>
    rw [Nat.mul_succ, cnt_add, ih]
    have e1 : cnt (fun i => (fun c => A (c / 16) && B (c % 16)) (16 * n + i)) 16 = cnt (fun i => A n && B i) 16 := by
      apply cnt_congr
      intro k hk
      show (A ((16 * n + k) / 16) && B ((16 * n + k) % 16)) = (A n && B k)
      rw [show (16 * n + k) / 16 = n by omega, show (16 * n + k) % 16 = k by omega]
    rw [e1, cnt_and]
    show cnt A n * cnt B 16 + _ = (if A n = true then cnt A n + 1 else cnt A n) * cnt B 16
    cases A n
    · rfl
    · show cnt A n * cnt B 16 + cnt B 16 = (cnt A n + 1) * cnt B 16
      rw [Nat.succ_mul]
theorem cel_r : ∀ R : Nat, R < 16 → ∀ r : Nat, r < 28 → cnt (fun i => decide (i + 1 ≤ R ∧ R ≤ i + r)) 16 = min r R := by decide +kernel
theorem cel_c : ∀ x : Nat, x < 16 → ∀ b : Nat, b < 4 → cnt (fun k => decide (x ≤ k + b ∧ k ≤ x + b)) 16 = min (x + b) 15 + 1 - (x - b) := by decide +kernel
def celN (f r b : Nat) : Nat := min r (f / 16) * (min (f % 16 + b) 15 + 1 - (f % 16 - b))
theorem cel_n {f r b : Nat} (hf : f < 256) (hr : r < 28) (hb : b < 4) : cnt (fun c => shg c f r b) 256 = celN f r b := by
  have h := cnt_grid (fun i => decide (i + 1 ≤ f / 16 ∧ f / 16 ≤ i + r)) (fun k => decide (f % 16 ≤ k + b ∧ k ≤ f % 16 + b)) 16
  rw [cel_r (f / 16) (by omega) r hr, cel_c (f % 16) (by omega) b hb] at h
  unfold celN
  rw [← h]
  apply cnt_congr
  intro k _
  unfold shg
  rw [← Bool.decide_and]
  exact decide_eq_decide.mpr ⟨fun h => ⟨⟨h.1, h.2.1⟩, h.2.2⟩, fun h => ⟨h.1.1, h.1.2, h.2⟩⟩
