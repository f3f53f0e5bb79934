/-! ===== the land changed ===== -/
def vset (v : am_V) (w n x : Nat) : am_V := (vT v, vP v, fun w' n' => if w' = w ∧ n' = n then x else vN v w' n', vS v, vL v)
def vstd (v : am_V) (f : Nat → Bool) : am_V := (vT v, vP v, vN v, f, vL v)
theorem s_write_n {d n w : Nat} {F : am_FT} {L : am_LT} {Q : am_QT} {x : Int32} (hn : n < 12) (hw : w < 8) : wc am_S0 (d + 1) mX5_write [.ref 1, .int (nI n), .int (nI w), .int x] F L Q = Q none (am_upF F 2 (12 * w + n) x) L := by
  rw [s_write, show (nI w * 12 + nI n : Int32) = nI (12 * w + n) by rw [iI_l, iI_n, iI_n, iI_n, iI_mul, iI_add]; congr 1; omega, wrA_n (by omega) (by decide)]
theorem wV_set {v : am_V} (hv : wV v) {w n x : Nat} (h1 : vLo w ≤ x) (h2 : x ≤ vHi w) : wV (vset v w n x) := by
  refine ⟨hv.1, hv.2.1, fun w' n' hw' hn' => ?_⟩
  show vLo w' ≤ (if w' = w ∧ n' = n then x else vN v w' n') ∧ (if w' = w ∧ n' = n then x else vN v w' n') ≤ vHi w'
  by_cases h : w' = w ∧ n' = n
  · rw [if_pos h, h.1]; exact ⟨h1, h2⟩
  · rw [if_neg h]; exact hv.2.2 w' n' hw' hn'
theorem RL_set {F : am_FT} {v : am_V} (h : RLand (F 1) (F 2) v) (hv : wV v) {w n x : Nat} (hw : w < 7) (hn : n < vO v w) : RLand (am_upF F 2 (12 * w + n) (nI x) 1) (am_upF F 2 (12 * w + n) (nI x) 2) (vset v w n x) := by
  have hn12 := vO_le hv w
  have hT := hv.1
  rw [up_o (by decide)]
  refine ⟨h.1, h.2.1, fun w' n' hw' hn' => ?_, fun t ht => ?_⟩
  · have h12 : n' < 12 := Nat.lt_of_lt_of_le hn' (vO_le hv w')
    show am_upF F 2 (12 * w + n) (nI x) 2 (12 * w' + n') = nI (if w' = w ∧ n' = n then x else vN v w' n')
    by_cases hh : w' = w ∧ n' = n
    · rw [if_pos hh, hh.1, hh.2, up_s]
    · rw [if_neg hh, up_n (by omega)]
      exact h.2.2.1 w' n' hw' hn'
  · have ht' : t < vT v := ht
    rw [up_n (by omega)]
    exact h.2.2.2 t ht'
theorem RL_std {F : am_FT} {v : am_V} (h : RLand (F 1) (F 2) v) (hv : wV v) {n : Nat} {b : Bool} (hn : n < vT v) : RLand (am_upF F 2 (12 * 7 + n) (bI b) 1) (am_upF F 2 (12 * 7 + n) (bI b) 2) (vstd v (fun t => if t = n then b else vS v t)) := by
  have hT := hv.1
  rw [up_o (by decide)]
  refine ⟨h.1, h.2.1, fun w' n' hw' hn' => ?_, fun t ht => ?_⟩
  · have h12 : n' < 12 := Nat.lt_of_lt_of_le hn' (vO_le hv w')
    rw [up_n (by omega)]
    exact h.2.2.1 w' n' hw' hn'
  · have ht' : t < vT v := ht
    show am_upF F 2 (12 * 7 + n) (bI b) 2 (84 + t) = nI (if (if t = n then b else vS v t) = true then 1 else 0)
    by_cases hh : t = n
    · subst hh
      rw [if_pos rfl, show 84 + t = 12 * 7 + t by omega, up_s]; rfl
    · rw [if_neg hh, up_n (by omega)]
      exact h.2.2.2 t ht'
