/-! ===== playTurns ===== -/
theorem csit_ltP (v : am_V) (t m : Nat) : csit v t m < 2 ^ vP v := by
  unfold csit
  split
  · exact bs_lt _ _
  · exact Nat.two_pow_pos _
def gvT (v : am_V) (t m n : Nat) : Bool := gvl (qq v t m) (vP v) n n (csit v t m)
def gvM (v : am_V) (t m n : Nat) : Int32 := lmv (fun p => gvl (qq v t m) (vP v) n (n - 1) (csit v t m ^^^ 2 ^ p)) (gvT v t m n) (vP v) 0
theorem pop_self (S : Nat) : pop (S ^^^ S) = 0 := by rw [Nat.xor_self]; decide
theorem pop_one (S p : Nat) : pop (S ^^^ 2 ^ p ^^^ S) ≤ 1 := by
  have h := pop_flip 0 p
  have h0 : pop 0 = 0 := by decide
  rw [show S ^^^ 2 ^ p ^^^ S = 0 ^^^ 2 ^ p by rw [Nat.xor_assoc, Nat.xor_comm (2 ^ p) S, ← Nat.xor_assoc, Nat.xor_self]]
  omega
theorem c_playTurns {d : Nat} {F : am_FT} {L : am_LT} {Q : am_QT} {v : am_V} (h : CV F v) {t m n : Nat} (ht : t < vT v) (hm : m < 12) (hn0 : 0 < n) (hn : n ≤ 4) (hq : ∀ G, SQ F G → G 16 4 = bI (gvT v t m n) → G 16 5 = gvM v t m n → Q none G L) : wc am_S0 (d + 8) mX4_playTurns [.ref 16, .int (nI t), .int (nI m), .int (nI n)] F L Q := by
  have hP := h.2.1.2.1
  have h2 : 2 ^ vP v ≤ 1024 := two_le (k := 10) hP
  have hS := csit_ltP v t m
  rw [eX4_playTurns, kX4_playTurns_0]
  apply c_open h ht hm
  intro G g1 g2
  have hG := SB_CV g1 h
  simp only [Option.toList_some, Option.toList_none, List.cons_append, List.nil_append]
  rw [kX4_playTurns_9, g2.2.1, hG.1.2.1, nI_sh _ (by omega), kX4_playTurns_41, show (0 : Int32) = nI 0 from rfl]
  refine c_turn_l1 ht hm hn (2 ^ vP v) 0 G (by omega) hG g2 (fun s hs => absurd hs (by omega)) ?_
  intro H h1 h3
  have hH := SW_CV h1 hG
  rw [kX4_playTurns_100, show (nI n - 1 : Int32) = nI (n - (0 + 1)) by
    simp (disch := omega) only [iI_n, iI_l, iI_neg, iI_add, iI_sub, iI_mul, iI_div, iI_lt, iI_le, iI_eq]
    congr 1
    omega]
  refine c_turn_l2 (q := qq v t m) hP hS hn (n - 1) 0 14 15 H _ (by omega) (Or.inl ⟨rfl, rfl⟩) hH.1.2.1 (fun s hs hps => h3 s hs (by omega)) ?_
  intro K e b l9 he k1 k2
  have hK1 : K 1 2 = nI (vP v) := by rw [k1 1 (by decide) (by decide)]; exact hH.1.2.1
  have hnb : ∀ p, p < vP v → K e (csit v t m ^^^ 2 ^ p) = bI (gvl (qq v t m) (vP v) n (n - 1) (csit v t m ^^^ 2 ^ p)) := fun p hp => k2 _ (xor_lt hS (Nat.pow_lt_pow_right (by decide) hp)) (pop_one _ p)
  have hse : K e (csit v t m) = bI (gvl (qq v t m) (vP v) n (n - 1) (csit v t m)) := k2 _ hS (by rw [pop_self]; omega)
  have eg := gvl_s (qq v t m) (vP v) n (n - 1) (csit v t m)
  rw [show n - 1 + 1 = n by omega, show decide ((n - n) % 2 = 0) = true from decide_eq_true (by omega)] at eg
  rw [kX4_playTurns_184, show (1 : Int32) = bI true from rfl, c_bestOf hK1 hP (tw_e he) hS hse hnb, ← eg]
  simp only [Option.toList_some, Option.toList_none, List.cons_append, List.nil_append]
  have e16 : e ≠ 16 := by rcases he with ⟨h, _⟩ | ⟨h, _⟩ <;> omega
  have hnb2 : ∀ p, p < vP v → am_upF K 16 4 (bI (gvl (qq v t m) (vP v) n n (csit v t m))) e (csit v t m ^^^ 2 ^ p) = bI (gvl (qq v t m) (vP v) n (n - 1) (csit v t m ^^^ 2 ^ p)) := fun p hp => by rw [up_o e16]; exact hnb p hp
  rw [kX4_playTurns_194, eX4_leastMove, kX4_leastMove_0, show (0 : Int32) = nI 0 from rfl, c_leastMove_loop (v := v) (f := fun p => gvl (qq v t m) (vP v) n (n - 1) (csit v t m ^^^ 2 ^ p)) (by rw [up_o (by decide)]; exact hK1) hP (tw_e he) hS hnb2 (vP v) 0 (by omega)]
  simp only [Option.toList_some, Option.toList_none, List.cons_append, List.nil_append]
  rw [kX4_playTurns_210]
  apply hq
  · refine SQ_tr (SB_SQ g1) (SQ_tr (SW_SQ h1) ⟨fun p hp => ?_, ?_⟩)
    · rw [up_o (by omega), up_o (by omega), k1 p (by omega) (by omega)]
    · rw [up_o (by decide), up_o (by decide), k1 6 (by decide) (by decide)]
  · rw [up_n (by decide), up_s]; rfl
  · rw [up_s]; rfl
