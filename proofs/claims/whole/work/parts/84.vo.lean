/-! ===== voters: whose body acts ===== -/
def ownT (k a : Nat) : Nat := [1, 10, 11, 2, 20, 0, 0, 0, 0, 30, 0, 0, 0, 41, 40, 0, 0, 0, 50, 0, 0, 0, 0, 60, 70, 0, 0, 0, 0, 80, 0, 81].getD (4 * k + a) 0
def abv (k : Nat) : Nat := [0, 0, 0, 2, 1, 3, 0, 4].getD k 0
def owL : Nat → Nat → Nat → Nat
  | 0, _, _ => 0
  | f + 1, k, a => if k = 0 then 0 else if ownT k a = 0 then owL f (abv k) a else k
def ow (k a : Nat) : Nat := owL 8 k a
abbrev am_O : Type := Option (List Nat × Int32)
def po1 (w : Nat) (r : am_O) (g : Int32 → Int32) : am_O := match r with
  | none => none
  | some a => some (w :: a.1, g a.2)
def po2 (w : Nat) (r s : am_O) (g : Int32 → Int32 → Int32) : am_O := match r with
  | none => none
  | some a => match s with
    | none => none
    | some b => some (w :: (a.1 ++ b.1), g a.2 b.2)
def pfB (w : Nat) (own sup : Nat → Int32 → am_O) (x n : Int32) : am_O :=
  if w = 1 then some ([w], x + n)
  else if w = 2 then po2 w (own 1 x) (own 2 1) (fun a b => a - b)
  else if w = 10 then po1 w (own 0 x) (fun a => a * 2)
  else if w = 11 then some ([w], x ^^^ n)
  else if w = 20 then po1 w (sup 0 x) (fun a => a + 3)
  else if w = 30 then po1 w (sup 1 x) (fun a => -a)
  else if w = 40 then po1 w (sup 2 x) (fun a => a * 3)
  else if w = 41 then po1 w (sup 1 (x + 1)) (fun a => a)
  else if w = 50 then po2 w (sup 2 x) (own 0 2) (fun a b => a - b)
  else if w = 60 then po1 w (sup 3 x) (fun a => a ^^^ 5)
  else if w = 70 then po1 w (sup 0 x) (fun a => a * 2)
  else if w = 80 then po2 w (sup 1 x) (own 2 2) (fun a b => a + b)
  else if w = 81 then po1 w (sup 3 x) (fun a => a - 1)
  else none
def pf (K : Nat) (n : Int32) : Nat → Nat → Nat → Int32 → am_O
  | 0, _, _, _ => none
  | f + 1, k, a, x => pfB (ownT (ow k a) a) (fun a x => pf K n f K a x) (fun a' x' => pf K n f (abv (ow k a)) a' x') x n
/-- what an act answers, and which bodies run -/
theorem pf_all : ∀ K, K < 8 → ∀ a, a < 4 → ∀ n x : Int32, ∃ r : List Nat × Int32, pf K n 12 K a x = some r ∧ r.1.length < 100 := by
  intro K hK a ha n x
  rcases (by omega : K = 0 ∨ K = 1 ∨ K = 2 ∨ K = 3 ∨ K = 4 ∨ K = 5 ∨ K = 6 ∨ K = 7) with rfl | rfl | rfl | rfl | rfl | rfl | rfl | rfl <;> rcases (by omega : a = 0 ∨ a = 1 ∨ a = 2 ∨ a = 3) with rfl | rfl | rfl | rfl <;> exact ⟨_, rfl, Nat.le_of_ble_eq_true rfl⟩
theorem ow_lt : ∀ k, k < 8 → ∀ a, a < 4 → ow k a < 8 ∧ ownT (ow k a) a < 100 := by decide +kernel
theorem abv_lt : ∀ k, k < 8 → abv k < 8 := by decide +kernel
theorem own_Z : ∀ k, k < 8 → ∀ a, a < 4 → rdZ 4 (nI k * 4 + nI a) = nI (ownT k a) := by decide +kernel
theorem abv_Z : ∀ k, k < 8 → k ≠ 0 → rdZ 3 (nI k) = nI (abv k) := by decide +kernel
theorem own_0 : ∀ k, k < 8 → ∀ a, a < 4 → ownT k a = 1 ∨ ownT k a = 2 ∨ ownT k a = 10 ∨ ownT k a = 11 ∨ k ≠ 0 := by decide +kernel
def TRl (F : am_FT) (ls : List Nat) : Prop := F 29 3 = nI ls.length ∧ ∀ i, i < 24 → i < ls.length → F 31 i = nI (ls.getD i 0)
theorem c_ownerOf_loop {d : Nat} {F : am_FT} {L : am_LT} {Q : am_QT} {l0 : Option Value} {a : Nat} (ha : a < 4) : ∀ (f j k : Nat), j + f = 8 → k < 8 → wt am_S0 (d + 1) mX10_ownerOf 4 [l0, some (.int (nI a)), some (.int (nI k)), some (.int (nI j))] [] F L Q = Q (some (.int (nI (owL f k a)))) F L := by
  intro f
  induction f with
  | zero =>
    intro j k hj hk
    have : j = 8 := by omega
    subst this
    rw [kX10_ownerOf_4, if_pos (by decide), kX10_ownerOf_44]
    rfl
  | succ f ih =>
    intro j k hj hk
    have e : owL (f + 1) k a = if k = 0 then 0 else if ownT k a = 0 then owL f (abv k) a else k := rfl
    rw [kX10_ownerOf_4, if_neg (show ¬ (8 : Int32) ≤ nI j from nI_ge (b := 8) (by omega) (by decide)), kX10_ownerOf_10]
    by_cases h0 : k = 0
    · subst h0
      rw [if_pos (by decide), kX10_ownerOf_44, e, if_pos rfl]; rfl
    · rw [if_neg (show ¬ nI k ≤ (0 : Int32) from nI_ge (a := 0) (b := k) (by omega) (by omega)), kX10_ownerOf_14, show (1004 : Nat) = 1000 + 4 from rfl, s_atZ (by decide), own_Z k hk a ha]
      simp only [Option.toList_some, Option.toList_none, List.cons_append, List.nil_append]
      rw [kX10_ownerOf_25, e, if_neg h0]
      have ho : ownT k a < 100 := by
        have : ∀ k, k < 8 → ∀ a, a < 4 → ownT k a < 100 := by decide +kernel
        exact this k hk a ha
      by_cases h1 : ownT k a = 0
      · rw [if_pos (show nI (ownT k a) = (0 : Int32) by rw [h1]; rfl), if_pos h1, kX10_ownerOf_30, show (1003 : Nat) = 1000 + 3 from rfl, s_atZ (by decide), abv_Z k hk h0]
        simp only [Option.toList_some, Option.toList_none, List.cons_append, List.nil_append]
        rw [kX10_ownerOf_37, nI_1]
        exact ih (j + 1) (abv k) (by omega) (abv_lt k hk)
      · rw [if_neg (show ¬ nI (ownT k a) = (0 : Int32) by rw [nI0' (by omega)]; exact h1), if_neg h1, kX10_ownerOf_28]
theorem c_ownerOf {d k a : Nat} {F : am_FT} {L : am_LT} {Q : am_QT} (ha : a < 4) (hk : k < 8) : wc am_S0 (d + 1) mX10_ownerOf [.int (nI k), .int (nI a)] F L Q = Q (some (.int (nI (ow k a)))) F L := by
  rw [eX10_ownerOf, kX10_ownerOf_0, show (some (.int 0) : Option Value) = some (.int (nI 0)) from rfl]
  exact c_ownerOf_loop ha 8 0 k rfl hk
theorem s_kindOf {d b K : Nat} {F : am_FT} {L : am_LT} {Q : am_QT} (hb : b < 50) (hK : F 30 b = nI K) : wc am_S0 (d + 1) mX10_kindOf [.ref 29, .int (nI b)] F L Q = Q (some (.int (nI K))) F L := by
  rw [eX10_kindOf, kX10_kindOf_0, s_at (p := 30) (n := 50) rfl (by decide), rdA_n hb (by decide), hK]
  simp only [Option.toList_some, Option.toList_none, List.cons_append, List.nil_append]
  rw [kX10_kindOf_8]
/-- the trace goes on: all else stands -/
def FV (F G : am_FT) : Prop := (∀ p, p ≠ 29 → p ≠ 31 → G p = F p) ∧ G 29 2 = F 29 2
theorem FV_tr {F G H : am_FT} (h : FV F G) (k : FV G H) : FV F H := ⟨fun p a b => (k.1 p a b).trans (h.1 p a b), k.2.trans h.2⟩
def vSp (L : am_LT) (b K D : Nat) (m : am_M) (args : List Value) (r : am_O) : Prop := ∀ (F : am_FT) (Q : am_QT) (ls : List Nat) (t : List Nat) (v : Int32), r = some (t, v) → F 30 b = nI K → TRl F ls → ls.length + t.length < 1000 → (∀ G : am_FT, FV F G → TRl G (ls ++ t) → Q (some (.int v)) G L) → wc am_S0 D m args F L Q
theorem po1_inv {w : Nat} {r : am_O} {g : Int32 → Int32} {t : List Nat} {v : Int32} (h : po1 w r g = some (t, v)) : ∃ a, r = some a ∧ t = w :: a.1 ∧ v = g a.2 := by
  unfold po1 at h
  split at h
  next => cases h
  next a => cases h; exact ⟨a, rfl, rfl, rfl⟩
theorem po2_inv {w : Nat} {r s : am_O} {g : Int32 → Int32 → Int32} {t : List Nat} {v : Int32} (h : po2 w r s g = some (t, v)) : ∃ a b, r = some a ∧ s = some b ∧ t = w :: (a.1 ++ b.1) ∧ v = g a.2 b.2 := by
  unfold po2 at h
  split at h
  next => cases h
  next a =>
    split at h
    next => cases h
    next b => cases h; exact ⟨a, b, rfl, rfl, rfl, rfl⟩
theorem TRl_app {G : am_FT} {ls t : List Nat} {w : Nat} (h : TRl G (ls ++ [w] ++ t)) : TRl G (ls ++ w :: t) := by
  rw [List.append_assoc] at h
  exact h
theorem TRl_add {F : am_FT} {ls : List Nat} {w : Nat} (h : TRl F ls) (hl : ls.length < 1000) : TRl (am_upF (wrA F 31 24 (nI ls.length) (nI w)) 29 3 (nI (ls.length + 1))) (ls ++ [w]) ∧ FV F (am_upF (wrA F 31 24 (nI ls.length) (nI w)) 29 3 (nI (ls.length + 1))) := by
  by_cases h24 : ls.length < 24
  · rw [wrA_n h24 (by decide)]
    refine ⟨⟨?_, fun i hi hi2 => ?_⟩, fun p p29 p31 => ?_, ?_⟩
    · rw [up_s, List.length_append]; rfl
    · rw [List.length_append] at hi2
      have hi3 : i < ls.length + 1 := hi2
      rw [up_o (by decide)]
      by_cases hx : i = ls.length
      · subst hx
        rw [up_s, show ls.length = ls.length + 0 from rfl, gd_r]; rfl
      · rw [up_n hx, gd_l (by omega)]; exact h.2 i hi (by omega)
    · rw [up_o p29, up_o p31]
    · rw [up_n (by decide), up_o (by decide)]
  · have e : wrA F 31 24 (nI ls.length) (nI w) = F := by
      unfold wrA
      rw [if_neg (nI_pos (by omega)), if_pos (show Int32.ofNat 24 ≤ nI ls.length from nI_le (a := 24) (by omega) (by omega))]
    rw [e]
    refine ⟨⟨?_, fun i hi hi2 => ?_⟩, fun p p29 p31 => ?_, ?_⟩
    · rw [up_s, List.length_append]; rfl
    · rw [up_o (by decide), gd_l (by omega)]; exact h.2 i hi (by omega)
    · rw [up_o p29]
    · rw [up_n (by decide)]
theorem c_run {L : am_LT} {b K D w o dp : Nat} {x : Int32} {own sup : Nat → Int32 → am_O} (hb : b < 50) (hw : w < 100) (hab : w ≠ 1 → w ≠ 2 → w ≠ 10 → w ≠ 11 → rdZ 3 (nI o) = nI (abv o)) (hown : ∀ a x, a < 4 → vSp L b K (D + 2) mX10_does [.ref 29, .int (nI b), .int (nI a), .int x, .int (nI dp)] (own a x)) (hsup : ∀ a x, a < 4 → vSp L b K (D + 2) mX10_perform [.ref 29, .int (nI b), .int (nI (abv o)), .int (nI a), .int x, .int (nI dp)] (sup a x)) : ∀ (F : am_FT) (Q : am_QT) (ls : List Nat) (t : List Nat) (v : Int32), pfB w own sup x (nI b) = some (t, v) → F 30 b = nI K → TRl F (ls ++ [w]) → ls.length + t.length < 1000 → (∀ G : am_FT, FV F G → TRl G (ls ++ t) → Q (some (.int v)) G L) → wc am_S0 (D + 3) mX10_run [.ref 29, .int (nI b), .int (nI o), .int (nI w), .int x, .int (nI dp)] F L Q := by
  intro F Q ls t v hp hK hT hl hq
  have one : ∀ (r : am_O) (g : Int32 → Int32) (m : am_M) (args : List Value) (Q' : am_QT), vSp L b K (D + 2) m args r → po1 w r g = some (t, v) → (∀ (u : Int32) (G : am_FT), v = g u → Q' (some (.int u)) G L = Q (some (.int v)) G L) → wc am_S0 (D + 2) m args F L Q' := by
    intro r g m args Q' hm h1 hQ
    obtain ⟨a, e1, e2, e3⟩ := po1_inv h1
    subst e2
    apply hm F Q' (ls ++ [w]) a.1 a.2 e1 hK hT (by rw [List.length_append]; rw [List.length_cons] at hl; show ls.length + 1 + _ < _; omega)
    intro G g1 g2
    rw [hQ a.2 G e3]
    exact hq G g1 (TRl_app g2)
  have two : ∀ (r s : am_O) (g : Int32 → Int32 → Int32) (m m' : am_M) (args args' : List Value) (Q' : am_QT) (Q2 : Int32 → am_QT), vSp L b K (D + 2) m args r → vSp L b K (D + 2) m' args' s → po2 w r s g = some (t, v) → (∀ (u : Int32) (G : am_FT), Q' (some (.int u)) G L = wc am_S0 (D + 2) m' args' G L (Q2 u)) → (∀ (u y : Int32) (G : am_FT), v = g u y → Q2 u (some (.int y)) G L = Q (some (.int v)) G L) → wc am_S0 (D + 2) m args F L Q' := by
    intro r s g m m' args args' Q' Q2 hm hm' h1 hQ1 hQ2
    obtain ⟨a, c, e1, e2, e3, e4⟩ := po2_inv h1
    subst e3
    have hl2 : ls.length + (1 + (a.1.length + c.1.length)) < 1000 := by
      rw [List.length_cons, List.length_append] at hl; omega
    apply hm F Q' (ls ++ [w]) a.1 a.2 e1 hK hT (by rw [List.length_append]; show ls.length + 1 + _ < _; omega)
    intro G g1 g2
    rw [hQ1 a.2 G]
    apply hm' G (Q2 a.2) (ls ++ [w] ++ a.1) c.1 c.2 e2 (by rw [g1.1 30 (by decide) (by decide)]; exact hK) g2 (by rw [List.length_append, List.length_append]; show ls.length + 1 + _ + _ < _; omega)
    intro H h1 h2
    rw [hQ2 a.2 c.2 H e4]
    apply hq H (FV_tr g1 h1)
    rw [show ls ++ w :: (a.1 ++ c.1) = ls ++ [w] ++ a.1 ++ c.1 by simp only [List.append_assoc, List.cons_append, List.nil_append]]
    exact h2
  rw [eX10_run, kX10_run_0, show (1003 : Nat) = 1000 + 3 from rfl, s_atZ (by decide)]
  simp only [Option.toList_some, Option.toList_none, List.cons_append, List.nil_append]
  rw [kX10_run_7]
  unfold pfB at hp
  by_cases h1 : w = 1
  · rw [if_pos h1] at hp
    cases hp
    rw [if_pos (show nI w = (1 : Int32) by rw [h1]; rfl), kX10_run_124]
    exact hq F ⟨fun _ _ _ => rfl, rfl⟩ hT
  rw [if_neg h1] at hp
  rw [if_neg (show ¬ nI w = (1 : Int32) from nI_ne (x := 1) (by omega) (by decide) h1)]
  by_cases h2 : w = 2
  · rw [if_pos h2] at hp
    rw [if_pos (show nI w = (2 : Int32) by rw [h2]; rfl), kX10_run_129]
    exact two _ _ _ _ _ _ _ _ _ (hown 1 x (by decide)) (hown 2 1 (by decide)) hp (fun u G => by
      simp only [Option.toList_some, Option.toList_none, List.cons_append, List.nil_append]
      exact kX10_run_139) (fun u y G e => by
      simp only [Option.toList_some, Option.toList_none, List.cons_append, List.nil_append]
      rw [kX10_run_148, e])
  rw [if_neg h2] at hp
  rw [if_neg (show ¬ nI w = (2 : Int32) from nI_ne (x := 2) (by omega) (by decide) h2)]
  by_cases h10 : w = 10
  · rw [if_pos h10] at hp
    rw [if_pos (show nI w = (10 : Int32) by rw [h10]; rfl), kX10_run_150]
    exact one _ _ _ _ _ (hown 0 x (by decide)) hp (fun u G e => by
      simp only [Option.toList_some, Option.toList_none, List.cons_append, List.nil_append]
      rw [kX10_run_160, e])
  rw [if_neg h10] at hp
  rw [if_neg (show ¬ nI w = (10 : Int32) from nI_ne (x := 10) (by omega) (by decide) h10)]
  by_cases h11 : w = 11
  · rw [if_pos h11] at hp
    cases hp
    rw [if_pos (show nI w = (11 : Int32) by rw [h11]; rfl), kX10_run_163]
    exact hq F ⟨fun _ _ _ => rfl, rfl⟩ hT
  rw [if_neg h11] at hp
  rw [if_neg (show ¬ nI w = (11 : Int32) from nI_ne (x := 11) (by omega) (by decide) h11), hab h1 h2 h10 h11]
  by_cases h20 : w = 20
  · rw [if_pos h20] at hp
    rw [if_pos (show nI w = (20 : Int32) by rw [h20]; rfl), kX10_run_168]
    exact one _ _ _ _ _ (hsup 0 x (by decide)) hp (fun u G e => by
      simp only [Option.toList_some, Option.toList_none, List.cons_append, List.nil_append]
      rw [kX10_run_180, e])
  rw [if_neg h20] at hp
  rw [if_neg (show ¬ nI w = (20 : Int32) from nI_ne (x := 20) (by omega) (by decide) h20)]
  by_cases h30 : w = 30
  · rw [if_pos h30] at hp
    rw [if_pos (show nI w = (30 : Int32) by rw [h30]; rfl), kX10_run_183]
    exact one _ _ _ _ _ (hsup 1 x (by decide)) hp (fun u G e => by
      simp only [Option.toList_some, Option.toList_none, List.cons_append, List.nil_append]
      rw [kX10_run_195, e])
  rw [if_neg h30] at hp
  rw [if_neg (show ¬ nI w = (30 : Int32) from nI_ne (x := 30) (by omega) (by decide) h30)]
  by_cases h40 : w = 40
  · rw [if_pos h40] at hp
    rw [if_pos (show nI w = (40 : Int32) by rw [h40]; rfl), kX10_run_197]
    exact one _ _ _ _ _ (hsup 2 x (by decide)) hp (fun u G e => by
      simp only [Option.toList_some, Option.toList_none, List.cons_append, List.nil_append]
      rw [kX10_run_209, e])
  rw [if_neg h40] at hp
  rw [if_neg (show ¬ nI w = (40 : Int32) from nI_ne (x := 40) (by omega) (by decide) h40)]
  by_cases h41 : w = 41
  · rw [if_pos h41] at hp
    rw [if_pos (show nI w = (41 : Int32) by rw [h41]; rfl), kX10_run_212]
    exact one _ _ _ _ _ (hsup 1 (x + 1) (by decide)) hp (fun u G e => by
      simp only [Option.toList_some, Option.toList_none, List.cons_append, List.nil_append]
      rw [kX10_run_226, e])
  rw [if_neg h41] at hp
  rw [if_neg (show ¬ nI w = (41 : Int32) from nI_ne (x := 41) (by omega) (by decide) h41)]
  by_cases h50 : w = 50
  · rw [if_pos h50] at hp
    rw [if_pos (show nI w = (50 : Int32) by rw [h50]; rfl), kX10_run_227]
    exact two _ _ _ _ _ _ _ _ _ (hsup 2 x (by decide)) (hown 0 2 (by decide)) hp (fun u G => by
      simp only [Option.toList_some, Option.toList_none, List.cons_append, List.nil_append]
      exact kX10_run_239) (fun u y G e => by
      simp only [Option.toList_some, Option.toList_none, List.cons_append, List.nil_append]
      rw [kX10_run_248, e])
  rw [if_neg h50] at hp
  rw [if_neg (show ¬ nI w = (50 : Int32) from nI_ne (x := 50) (by omega) (by decide) h50)]
  by_cases h60 : w = 60
  · rw [if_pos h60] at hp
    rw [if_pos (show nI w = (60 : Int32) by rw [h60]; rfl), kX10_run_250]
    exact one _ _ _ _ _ (hsup 3 x (by decide)) hp (fun u G e => by
      simp only [Option.toList_some, Option.toList_none, List.cons_append, List.nil_append]
      rw [kX10_run_262, e])
  rw [if_neg h60] at hp
  rw [if_neg (show ¬ nI w = (60 : Int32) from nI_ne (x := 60) (by omega) (by decide) h60)]
  by_cases h70 : w = 70
  · rw [if_pos h70] at hp
    rw [if_pos (show nI w = (70 : Int32) by rw [h70]; rfl), kX10_run_265]
    exact one _ _ _ _ _ (hsup 0 x (by decide)) hp (fun u G e => by
      simp only [Option.toList_some, Option.toList_none, List.cons_append, List.nil_append]
      rw [kX10_run_277, e])
  rw [if_neg h70] at hp
  rw [if_neg (show ¬ nI w = (70 : Int32) from nI_ne (x := 70) (by omega) (by decide) h70)]
  by_cases h80 : w = 80
  · rw [if_pos h80] at hp
    rw [if_pos (show nI w = (80 : Int32) by rw [h80]; rfl), kX10_run_280]
    exact two _ _ _ _ _ _ _ _ _ (hsup 1 x (by decide)) (hown 2 2 (by decide)) hp (fun u G => by
      simp only [Option.toList_some, Option.toList_none, List.cons_append, List.nil_append]
      exact kX10_run_292) (fun u y G e => by
      simp only [Option.toList_some, Option.toList_none, List.cons_append, List.nil_append]
      rw [kX10_run_301, e])
  rw [if_neg h80] at hp
  rw [if_neg (show ¬ nI w = (80 : Int32) from nI_ne (x := 80) (by omega) (by decide) h80)]
  by_cases h81 : w = 81
  · rw [if_pos h81] at hp
    rw [if_pos (show nI w = (81 : Int32) by rw [h81]; rfl), kX10_run_303]
    exact one _ _ _ _ _ (hsup 3 x (by decide)) hp (fun u G e => by
      simp only [Option.toList_some, Option.toList_none, List.cons_append, List.nil_append]
      rw [kX10_run_315, e])
  rw [if_neg h81] at hp
  cases hp
theorem c_perform {L : am_LT} {b K : Nat} (hb : b < 50) (hK8 : K < 8) : ∀ (f : Nat) (k a dp D : Nat) (x : Int32), k < 8 → a < 4 → dp + f ≤ 40 → 3 * f + 2 ≤ D → vSp L b K D mX10_perform [.ref 29, .int (nI b), .int (nI k), .int (nI a), .int x, .int (nI dp)] (pf K (nI b) f k a x) := by
  intro f
  induction f with
  | zero => intro k a dp D x _ _ _ _ F Q ls t v e; cases e
  | succ f ih =>
    intro k a dp D x hk ha hdp hD F Q ls t v e hK hT hl hq
    obtain ⟨D', rfl⟩ : ∃ D', D = D' + 4 := ⟨D - 4, by omega⟩
    have o := ow_lt k hk a ha
    have oz := own_Z (ow k a) o.1 a ha
    rw [eX10_perform, kX10_perform_0, if_pos (show nI dp ≤ (40 : Int32) from nI_le (b := 40) (by omega) (by decide)), kX10_perform_9, c_ownerOf ha hk]
    simp only [Option.toList_some, Option.toList_none, List.cons_append, List.nil_append]
    rw [kX10_perform_14, show (1004 : Nat) = 1000 + 4 from rfl, s_atZ (by decide), oz]
    simp only [Option.toList_some, Option.toList_none, List.cons_append, List.nil_append]
    rw [kX10_perform_28, hT.1, s_lay (p := 31) (n := 24) rfl (by decide)]
    simp only [Option.toList_some, Option.toList_none, List.cons_append, List.nil_append]
    have e3 : wrA F 31 24 (nI ls.length) (nI (ownT (ow k a) a)) 29 3 = nI ls.length := by
      unfold wrA
      split
      · exact hT.1
      · split
        · exact hT.1
        · rw [up_o (by decide)]; exact hT.1
    rw [kX10_perform_43, e3, nI_1, nI_1]
    have ta := TRl_add (w := ownT (ow k a) a) hT (by omega)
    refine c_run (K := K) (D := D') (own := fun a x => pf K (nI b) f K a x) (sup := fun a' x' => pf K (nI b) f (abv (ow k a)) a' x') hb o.2 ?_ ?_ ?_ _ _ ls t v e ?_ ta.1 hl ?_
    · intro h1 h2 h3 h4
      rcases own_0 (ow k a) o.1 a ha with h | h | h | h | h
      · exact absurd h h1
      · exact absurd h h2
      · exact absurd h h3
      · exact absurd h h4
      · exact abv_Z _ o.1 h
    · intro a' x' ha' F' Q' ls' t' v' e' hK' hT' hl' hq'
      rw [eX10_does, kX10_does_0, s_kindOf hb hK']
      simp only [Option.toList_some, Option.toList_none, List.cons_append, List.nil_append]
      rw [kX10_does_7]
      refine ih K a' (dp + 1) (D' + 1) x' hK8 ha' (by omega) (by omega) F' _ ls' t' v' e' hK' hT' hl' ?_
      intro G g1 g2
      simp only [Option.toList_some, Option.toList_none, List.cons_append, List.nil_append]
      rw [kX10_does_14]
      exact hq' G g1 g2
    · intro a' x' ha'
      exact ih (abv (ow k a)) a' (dp + 1) (D' + 2) x' (abv_lt _ o.1) ha' (by omega) (by omega)
    · rw [ta.2.1 30 (by decide) (by decide)]; exact hK
    · intro G g1 g2
      simp only [Option.toList_some, Option.toList_none, List.cons_append, List.nil_append]
      rw [kX10_perform_68]
      exact hq G (FV_tr ta.2 g1) g2
