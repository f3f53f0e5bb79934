/-! ===== the law's text, read: neutral ===== -/
/-- fault; or where it ends, the signs, what it gives by the names -/
abbrev am_P : Type := Nat ⊕ (Nat × List Nat × ((Nat → Int32) → Int32))
def byt (b : Nat → Nat) (n q : Nat) : Nat := if q < n then b q else 256
def lvl (c : Nat) : Nat := if c = 124 then 0 else if c = 38 then 1 else if c = 60 then 2 else if c = 61 then 2 else if c = 62 then 2 else if c = 43 then 3 else if c = 45 then 3 else if c = 42 then 4 else if c = 47 then 4 else if c = 37 then 4 else 9
def nmN (c : Nat) : Nat := if c = 119 then 0 else if c = 104 then 1 else if c = 109 then 2 else if c = 110 then 3 else if c = 116 then 4 else if c = 112 then 5 else 9
def op2 (c : Nat) (x y : Int32) : Int32 := if c = 124 then (if x = 0 then (if y = 0 then 0 else 1) else 1) else if c = 38 then (if x = 0 then 0 else if y = 0 then 0 else 1) else if c = 60 then (if x < y then 1 else 0) else if c = 61 then (if x = y then 1 else 0) else if c = 62 then (if y < x then 1 else 0) else if c = 43 then x + y else if c = 45 then x - y else if c = 42 then x * y else if c = 47 then (if y = 0 then 0 else x / y) else (if y = 0 then 0 else x - x / y * y)
def isD (c : Nat) : Bool := decide (48 ≤ c) && decide (c ≤ 57)
def dgs (B : Nat → Nat) : Nat → Nat → Nat → Nat × Nat
  | 0, q, x => (q, x)
  | k + 1, q, x => if isD (B q) = true then dgs B k (q + 1) (10 * x + (B q - 48)) else (q, x)
def lpJ (B : Nat → Nat) (s t : Nat × List Nat × ((Nat → Int32) → Int32)) : Nat × List Nat × ((Nat → Int32) → Int32) := (t.1, s.2.1 ++ (t.2.1 ++ [B s.1]), fun e => op2 (B s.1) (s.2.2 e) (t.2.2 e))
def lpC (B : Nat → Nat) (sub : Nat → am_P) (l : Nat) : Nat → (Nat × List Nat × ((Nat → Int32) → Int32)) → am_P
  | 0, s => .inr s
  | n + 1, s => if lvl (B s.1) = l then (match sub (s.1 + 1) with
      | .inl f => .inl f
      | .inr t => if l = 2 then .inr (lpJ B s t) else lpC B sub l n (lpJ B s t)) else .inr s
/-- an operand; what is open, and where -/
def pOp (B : Nat → Nat) (neg par : Nat → am_P) (o q : Nat) : am_P :=
  if isD (B q) = true then .inr ((dgs B 4 q 0).1, [1000 + (dgs B 4 q 0).2], fun _ => nI (dgs B 4 q 0).2)
  else if nmN (B q) < 6 then .inr (q + 1, [B q], fun e => e (nmN (B q)))
  else if 6 ≤ o then .inl q
  else if B q = 33 ∨ B q = 45 then (match neg (q + 1) with
    | .inl f => .inl f
    | .inr s => .inr (s.1, s.2.1 ++ [if B q = 33 then 33 else 256], fun e => if B q = 33 then (if s.2.2 e = 0 then 1 else 0) else - s.2.2 e))
  else if B q = 40 then (match par (q + 1) with
    | .inl f => .inl f
    | .inr s => if B s.1 = 41 then .inr (s.1 + 1, s.2.1, s.2.2) else .inl s.1)
  else .inl q
def pC (B : Nat → Nat) : Nat → Nat → Nat → Nat → am_P
  | 0, _, _, q => .inl q
  | d + 1, l, o, q => if l < 5 then (match pC B d (l + 1) o q with
      | .inl f => .inl f
      | .inr s => lpC B (pC B d (l + 1) o) l 120 s)
    else pOp B (pC B d 5 (o + 1)) (pC B d 0 (o + 1)) o q
/-! what a reading gives: it goes on, within the text; a sign a byte at most; no ; among the signs -/
def pOk (n q : Nat) (c : List Nat) : Nat × List Nat × ((Nat → Int32) → Int32) → Prop := fun s => q < s.1 ∧ s.1 ≤ n ∧ s.2.1.length + q ≤ s.1 + c.length ∧ ∀ x, x ∈ s.2.1 → x ∈ c ∨ (x ≠ 59 ∧ x < 20000)
theorem byt_le {b : Nat → Nat} {n : Nat} (hb : ∀ k, k < n → b k ≤ 255) (q : Nat) : byt b n q < 257 := by
  unfold byt
  split
  next h => have := hb q h; omega
  next => decide
theorem byt_lt {b : Nat → Nat} {n q : Nat} (h : byt b n q ≠ 256) : q < n := by
  unfold byt at h
  split at h
  next hh => exact hh
  next => exact absurd rfl h
theorem byt_s {b : Nat → Nat} {n q x : Nat} (h : byt b n q = x) (hx : x < 256) : q < n := byt_lt (by rw [h]; omega)
theorem lvl_b : ∀ c, c < 257 → lvl c ≠ 9 → c < 256 ∧ c ≠ 59 := by decide +kernel
theorem dgs_ok {B : Nat → Nat} {n : Nat} (hB : ∀ q, isD (B q) = true → q < n) : ∀ k q x, q ≤ n → q ≤ (dgs B k q x).1 ∧ (dgs B k q x).1 ≤ n ∧ (dgs B k q x).2 < (x + 1) * 10 ^ k := by
  intro k
  induction k with
  | zero => intro q x hq; exact ⟨Nat.le_refl _, hq, by simp [dgs]⟩
  | succ k ih =>
    intro q x hq
    unfold dgs
    by_cases h : isD (B q) = true
    · rw [if_pos h]
      have h1 := hB q h
      have h2 := ih (q + 1) (10 * x + (B q - 48)) h1
      unfold isD at h
      simp only [Bool.and_eq_true, decide_eq_true_eq] at h
      refine ⟨by omega, h2.2.1, Nat.lt_of_lt_of_le h2.2.2 ?_⟩
      rw [Nat.pow_succ, Nat.mul_comm (10 ^ k) 10, ← Nat.mul_assoc]
      exact Nat.mul_le_mul_right _ (by omega)
    · rw [if_neg h]
      refine ⟨Nat.le_refl _, hq, ?_⟩
      show x < (x + 1) * 10 ^ (k + 1)
      have : 1 ≤ 10 ^ (k + 1) := Nat.one_le_pow _ _ (by decide)
      calc x < (x + 1) * 1 := by omega
        _ ≤ _ := Nat.mul_le_mul_left _ this
theorem lpC_ok {B : Nat → Nat} {sub : Nat → am_P} {n l : Nat} (hB1 : ∀ q, B q < 257) (hB2 : ∀ q, B q ≠ 256 → q < n) (hs : ∀ q t, q ≤ n → sub q = .inr t → pOk n q [] t) (hl : l ≠ 9) {q0 : Nat} : ∀ k s, pOk n q0 [] s → ∀ r, lpC B sub l k s = .inr r → pOk n q0 [] r := by
  intro k
  induction k with
  | zero => intro s h r e; cases e; exact h
  | succ k ih =>
    intro s h r e
    unfold lpC at e
    by_cases h1 : lvl (B s.1) = l
    · rw [if_pos h1] at e
      have hb := lvl_b _ (hB1 s.1) (by rw [h1]; exact hl)
      have hlt := hB2 s.1 (by omega)
      have key : ∀ t, sub (s.1 + 1) = .inr t → pOk n q0 [] (lpJ B s t) := by
        intro t ht
        have h2 := hs (s.1 + 1) t hlt ht
        obtain ⟨a1, a2, a3, a4⟩ := h
        obtain ⟨b1, b2, b3, b4⟩ := h2
        refine ⟨by show q0 < t.1; omega, b2, ?_, ?_⟩
        · show (s.2.1 ++ (t.2.1 ++ [B s.1])).length + q0 ≤ t.1 + 0
          simp only [List.length_append, List.length_cons, List.length_nil] at a3 b3 ⊢
          omega
        · intro x hx
          have hx' : x ∈ s.2.1 ++ (t.2.1 ++ [B s.1]) := hx
          simp only [List.mem_append, List.mem_singleton] at hx'
          rcases hx' with hx' | hx' | hx'
          · exact a4 x hx'
          · exact b4 x hx'
          · subst hx'; exact Or.inr ⟨hb.2, by omega⟩
      split at e
      next => cases e
      next t ht =>
        split at e
        · cases e; exact key t ht
        · exact ih _ (key t ht) r e
    · rw [if_neg h1] at e
      cases e; exact h
theorem pC_ok {B : Nat → Nat} {n : Nat} (hB1 : ∀ q, B q < 257) (hB2 : ∀ q, B q ≠ 256 → q < n) : ∀ d l o q r, q ≤ n → pC B d l o q = .inr r → pOk n q [] r := by
  intro d
  induction d with
  | zero => intro l o q r _ e; cases e
  | succ d ih =>
    intro l o q r hq e
    unfold pC at e
    by_cases hl : l < 5
    · rw [if_pos hl] at e
      split at e
      next => cases e
      next s hs => exact lpC_ok hB1 hB2 (fun q t hq ht => ih (l + 1) o q t hq ht) (by omega) 120 s (ih _ _ _ _ hq hs) r e
    · rw [if_neg hl] at e
      have hD : ∀ q, isD (B q) = true → q < n := fun q h => hB2 q (by
        unfold isD at h
        simp only [Bool.and_eq_true, decide_eq_true_eq] at h
        omega)
      unfold pOp at e
      by_cases h1 : isD (B q) = true
      · rw [if_pos h1] at e
        cases e
        have h2 := dgs_ok hD 3 (q + 1) (10 * 0 + (B q - 48)) (hD q h1)
        have e2 : dgs B 4 q 0 = dgs B 3 (q + 1) (10 * 0 + (B q - 48)) := by
          show (if isD (B q) = true then _ else _) = _
          rw [if_pos h1]
        have h3 := dgs_ok hD 4 q 0 hq
        refine ⟨by show q < (dgs B 4 q 0).1; rw [e2]; omega, h3.2.1, ?_, ?_⟩
        · show 1 + q ≤ (dgs B 4 q 0).1 + 0
          rw [e2]; omega
        · intro x hx
          have hx' : x ∈ [1000 + (dgs B 4 q 0).2] := hx
          rw [List.mem_singleton] at hx'
          have := h3.2.2
          exact Or.inr ⟨by omega, by omega⟩
      · rw [if_neg h1] at e
        by_cases h2 : nmN (B q) < 6
        · rw [if_pos h2] at e
          cases e
          have hb : ∀ c, c < 257 → nmN c < 6 → c ≠ 256 ∧ c ≠ 59 := by decide +kernel
          have hb2 := hb _ (hB1 q) h2
          have := hB2 q hb2.1
          refine ⟨Nat.lt_succ_self _, this, by show 1 + q ≤ q + 1 + 0; omega, ?_⟩
          intro x hx
          have hx' : x ∈ [B q] := hx
          rw [List.mem_singleton] at hx'
          have := hB1 q
          exact Or.inr ⟨by omega, by omega⟩
        · rw [if_neg h2] at e
          by_cases h3 : 6 ≤ o
          · rw [if_pos h3] at e; cases e
          · rw [if_neg h3] at e
            by_cases h4 : B q = 33 ∨ B q = 45
            · rw [if_pos h4] at e
              have hlt := hB2 q (by omega)
              split at e
              next => cases e
              next s hs =>
                cases e
                obtain ⟨b1, b2, b3, b4⟩ := ih 5 (o + 1) (q + 1) s hlt hs
                refine ⟨by show q < s.1; omega, b2, ?_, ?_⟩
                · show (s.2.1 ++ [if B q = 33 then 33 else 256]).length + q ≤ s.1 + 0
                  simp only [List.length_append, List.length_cons, List.length_nil] at b3 ⊢
                  omega
                · intro x hx
                  have hx' : x ∈ s.2.1 ++ [if B q = 33 then 33 else 256] := hx
                  simp only [List.mem_append, List.mem_singleton] at hx'
                  rcases hx' with hx' | hx'
                  · exact b4 x hx'
                  · refine Or.inr ?_
                    subst hx'
                    split <;> exact ⟨by decide, by decide⟩
            · rw [if_neg h4] at e
              by_cases h5 : B q = 40
              · rw [if_pos h5] at e
                have hlt := hB2 q (by omega)
                split at e
                next => cases e
                next s hs =>
                  split at e
                  next h41 =>
                    cases e
                    obtain ⟨b1, b2, b3, b4⟩ := ih 0 (o + 1) (q + 1) s hlt hs
                    have := hB2 s.1 (by omega)
                    refine ⟨by show q < s.1 + 1; omega, this, ?_, b4⟩
                    show s.2.1.length + q ≤ s.1 + 1 + 0
                    simp only [List.length_nil] at b3
                    omega
                  next => cases e
              · rw [if_neg h5] at e; cases e
