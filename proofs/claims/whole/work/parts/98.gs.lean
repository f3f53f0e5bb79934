/-! ===== the whole state, neutral; the model's ===== -/
abbrev am_G : Type := am_V × (Nat × (Nat → Nat)) × am_C × am_D × (Nat × (Nat → Nat)) × List Nat × am_Sh
def gV (g : am_G) : am_V := g.1
def gT (g : am_G) : Nat × (Nat → Nat) := g.2.1
def gC (g : am_G) : am_C := g.2.2.1
def gD (g : am_G) : am_D := g.2.2.2.1
def gB (g : am_G) : Nat × (Nat → Nat) := g.2.2.2.2.1
def gL (g : am_G) : List Nat := g.2.2.2.2.2.1
def gS (g : am_G) : am_Sh := g.2.2.2.2.2.2
def RT (x : Int32) (f : Nat → Int32) (t : Nat × (Nat → Nat)) : Prop := x = nI t.1 ∧ ∀ k, k < t.1 → f k = nI (t.2 k)
def RTr (x : Int32) (f : Nat → Int32) (ls : List Nat) : Prop := x = nI ls.length ∧ ∀ i, i < 24 → i < ls.length → f i = nI (ls.getD i 0)
def RCm (x5 x4 : Int32) (f47 f48 f49 : Nat → Int32) (c : am_C) : Prop := x5 = nI c.1 ∧ x4 = nI (c.1 + c.2.1) ∧ ∀ i, i < c.1 + c.2.1 → f47 i = nI (pmN (c.2.2 i).2.1 + (c.2.2 i).1) ∧ f48 i = nI (c.2.2 i).2.2.1 ∧ f49 i = nI (c.2.2 i).2.2.2
def RDm (x19 x21 x22 x23 x24 x25 : Int32) (f53 f54 f55 f56 : Nat → Int32) (d : am_D) : Prop := (∀ k, k < 4 → f53 k = dL d k) ∧ x19 = dL d 4 ∧ x21 = bI (dK d) ∧ (dK d = true → x22 = nI (dT d) ∧ x23 = nI (dP d) ∧ x24 = nI (bs (dS d) (dT d)) ∧ x25 = dI d 4 ∧ (∀ t, t < dT d → f54 t = nI (dH d t)) ∧ (∀ t, t < dP d → f55 t = nI (dC d t)) ∧ ∀ k, k < 4 → f56 k = dI d k)
def Mdl (F : am_FT) (L : am_LT) (g : am_G) : Prop := MV F (gV g) ∧ RT (F 45 10) (F 50) (gT g) ∧ RCm (F 45 5) (F 45 4) (F 47) (F 48) (F 49) (gC g) ∧ RDm (F 45 19) (F 45 21) (F 45 22) (F 45 23) (F 45 24) (F 45 25) (F 53) (F 54) (F 55) (F 56) (gD g) ∧ RT (F 45 29) (F 57) (gB g) ∧ RTr (F 45 32) (F 58) (gL g) ∧ RSm F L (gS g)
def wC (v : am_V) (c : am_C) : Prop := c.1 + c.2.1 ≤ 40 ∧ ∀ i, i < c.1 + c.2.1 → (c.2.2 i).2.1 < 7 ∧ (c.2.2 i).1 < vO v (c.2.2 i).2.1 ∧ (vLo (c.2.2 i).2.1 ≤ (c.2.2 i).2.2.1 ∧ (c.2.2 i).2.2.1 ≤ vHi (c.2.2 i).2.1) ∧ (vLo (c.2.2 i).2.1 ≤ (c.2.2 i).2.2.2 ∧ (c.2.2 i).2.2.2 ≤ vHi (c.2.2 i).2.1)
def wG (g : am_G) : Prop := wV (gV g) ∧ ((gT g).1 ≤ 120 ∧ ∀ k, k < (gT g).1 → (gT g).2 k ≤ 255) ∧ wC (gV g) (gC g) ∧ wD (gV g) (gD g) ∧ ((gB g).1 ≤ 50 ∧ ∀ k, k < (gB g).1 → (gB g).2 k < 8) ∧ (gL g).length < 1000 ∧ wS (gS g) (gB g).1
theorem MV_fr {F G : am_FT} {v : am_V} (h : MV F v) (e6 : G 45 6 = F 45 6) (e7 : G 45 7 = F 45 7) (e8 : G 45 8 = F 45 8) (e12 : G 45 12 = F 45 12) (e46 : G 46 = F 46) (e51 : G 51 = F 51) : MV G v := by
  unfold MV RM
  rw [e6, e7, e8, e12, e46, e51]
  exact h
theorem RSm_fr {F G : am_FT} {L M : am_LT} {sh : am_Sh} (h : RSm F L sh) (e59 : G 59 = F 59) (e60 : G 60 = F 60) (e61 : M 61 = L 61) : RSm G M sh := by
  unfold RSm
  rw [e59, e60, e61]
  exact h
theorem Mdl_qM {F G : am_FT} {L : am_LT} {g : am_G} (h : Mdl F L g) (q : qM F G) : Mdl G L g := by
  obtain ⟨h1, h2, h3, h4, h5, h6, h7⟩ := h
  refine ⟨qM_MV q h1, ?_, ?_, ?_, ?_, ?_, RSm_qM h7 q⟩
  · rw [q.2 10 (by omega), q.1 50 (by decide) (by decide)]; exact h2
  · rw [q.2 5 (by omega), q.2 4 (by omega), q.1 47 (by decide) (by decide), q.1 48 (by decide) (by decide), q.1 49 (by decide) (by decide)]; exact h3
  · rw [q.2 19 (by omega), q.2 21 (by omega), q.2 22 (by omega), q.2 23 (by omega), q.2 24 (by omega), q.2 25 (by omega), q.1 53 (by decide) (by decide), q.1 54 (by decide) (by decide), q.1 55 (by decide) (by decide), q.1 56 (by decide) (by decide)]; exact h4
  · rw [q.2 29 (by omega), q.1 57 (by decide) (by decide)]; exact h5
  · rw [q.2 32 (by omega), q.1 58 (by decide) (by decide)]; exact h6
/-- a call of the model: it answers r, and shows g' then; the class's cells stand -/
def MC (m : am_M) (args : List Value) (g : am_G) (r : Value) (g' : am_G) : Prop := ∀ (F : am_FT) (L : am_LT) (Q : am_QT), Mdl F L g → (∀ (G : am_FT) (K : am_LT), (∀ p, p < 45 → G p = F p) → (∀ p, p < 45 → K p = L p) → Mdl G K g' → Q (some r) G K) → wc am_S0 2047 m args F L Q
theorem MC_q {m : am_M} {args : List Value} {g : am_G} {r : Value} (h : ∀ (F : am_FT) (L : am_LT) (Q : am_QT), Mdl F L g → (∀ G, qM F G → Q (some r) G L) → wc am_S0 2047 m args F L Q) : MC m args g r g := by
  intro F L Q hm hq
  apply h F L Q hm
  intro G g1
  exact hq G L (fun p hp => g1.1 p (by omega) (by omega)) (fun _ _ => rfl) (Mdl_qM hm g1)
/-! numbers changed -/
def fitN (w : Nat) (x : Int32) : Bool := decide (¬ x < nI (vLo w) ∧ ¬ nI (vHi w) < x)
theorem fitN_ex {w : Nat} {x : Int32} (h : fitN w x = true) : ∃ k, vLo w ≤ k ∧ k ≤ vHi w ∧ x = nI k := by
  have h1 := of_decide_eq_true h
  have hl : vLo w ≤ 1 := by unfold vLo; split <;> omega
  have hh : vHi w ≤ 255 := by
    have : ∀ w, w < 7 → vHi w ≤ 255 := by decide
    by_cases hw : w < 7
    · exact this w hw
    · have e : vHi w = 0 := by
        unfold vHi
        rw [List.getD_eq_getElem?_getD, List.getElem?_eq_none (by show 7 ≤ w; omega)]; rfl
      omega
  obtain ⟨z, z1, z2, rfl⟩ := iI_ex x
  obtain ⟨c1, c2⟩ := h1
  have hz : (vLo w : Int) ≤ z ∧ z ≤ vHi w := by
    revert c1 c2
    simp (disch := omega) only [iI_n, iI_l, iI_neg, iI_add, iI_sub, iI_mul, iI_div, iI_lt, iI_le, iI_eq]
    intro c1 c2
    exact ⟨by omega, by omega⟩
  exact ⟨z.toNat, by omega, by omega, iI_tn (by omega)⟩
theorem pmN_inj {v : am_V} (hv : wV v) {w n w' n' : Nat} (hw : w < 7) (hn : n < vO v w) (hw' : w' < 7) (hn' : n' < vO v w') (h : pmN w + n = pmN w' + n') : w = w' ∧ n = n' := by
  have hT := hv.1
  have hP := hv.2.1
  have b : ∀ w n, w < 7 → n < vO v w → n < [6, 6, 6, 12, 10, 10, 10].getD w 0 := by
    intro w n hw hn
    rcases (by omega : w = 0 ∨ w = 1 ∨ w = 2 ∨ w = 3 ∨ w = 4 ∨ w = 5 ∨ w = 6) with rfl | rfl | rfl | rfl | rfl | rfl | rfl
    · exact Nat.lt_of_lt_of_le hn hT
    · exact Nat.lt_of_lt_of_le hn hT
    · exact Nat.lt_of_lt_of_le hn hT
    · exact hn
    · exact Nat.lt_of_lt_of_le hn hP
    · exact Nat.lt_of_lt_of_le hn hP
    · exact Nat.lt_of_lt_of_le hn hP
  have b1 := b w n hw hn
  have b2 := b w' n' hw' hn'
  clear hn hn' b
  rcases (by omega : w = 0 ∨ w = 1 ∨ w = 2 ∨ w = 3 ∨ w = 4 ∨ w = 5 ∨ w = 6) with rfl | rfl | rfl | rfl | rfl | rfl | rfl <;> rcases (by omega : w' = 0 ∨ w' = 1 ∨ w' = 2 ∨ w' = 3 ∨ w' = 4 ∨ w' = 5 ∨ w' = 6) with rfl | rfl | rfl | rfl | rfl | rfl | rfl <;> simp [pmN] at h b1 b2 <;> omega
theorem RM_set {F G : am_FT} {v : am_V} (h : RM F v) (hv : wV v) {w n x : Nat} (hw : w < 7) (hn : n < vO v w) (e6 : G 45 6 = F 45 6) (e7 : G 45 7 = F 45 7) (e8 : G 45 8 = F 45 8) (e46 : G 46 = am_upF F 46 (pmN w + n) (nI x) 46) : RM G (vset v w n x) := by
  refine ⟨e6.trans h.1, e7.trans h.2.1, e8.trans h.2.2.1, fun w' n' hw' hn' => ?_⟩
  have hn2 : n' < vO v w' := hn'
  rw [e46]
  by_cases hx : w' = w ∧ n' = n
  · obtain ⟨rfl, rfl⟩ := hx
    rw [show vN (vset v w' n' x) w' n' = x from if_pos ⟨rfl, rfl⟩, up_s]
  · rw [show vN (vset v w n x) w' n' = vN v w' n' from if_neg hx, up_n (fun e => hx (pmN_inj hv hw' hn2 hw hn e))]
    exact h.2.2.2 w' n' hw' hn2
theorem pm_lt {v : am_V} (hv : wV v) {w n : Nat} (hw : w < 7) (hn : n < vO v w) : pmN w + n < 60 := by
  have hT := hv.1
  have hP := hv.2.1
  rcases (by omega : w = 0 ∨ w = 1 ∨ w = 2 ∨ w = 3 ∨ w = 4 ∨ w = 5 ∨ w = 6) with rfl | rfl | rfl | rfl | rfl | rfl | rfl
  · have : n < vT v := hn
    show 0 + n < 60
    omega
  · have : n < vT v := hn
    show 6 + n < 60
    omega
  · have : n < vT v := hn
    show 12 + n < 60
    omega
  · have : n < 12 := hn
    show 18 + n < 60
    omega
  · have : n < vP v := hn
    show 30 + n < 60
    omega
  · have : n < vP v := hn
    show 40 + n < 60
    omega
  · have : n < vP v := hn
    show 50 + n < 60
    omega
theorem sts_aT {v : am_V} {c h : Nat} : sts (vaT v c h) = sts v ||| 2 ^ vT v := by
  show (if (if vT v = vT v then true else vS v (vT v)) = true then bs (fun t => if t = vT v then true else vS v t) (vT v) ||| 2 ^ vT v else bs (fun t => if t = vT v then true else vS v t) (vT v)) = _
  rw [if_pos (show vT v = vT v from rfl), if_pos rfl]
  congr 1
  unfold sts
  apply bs_congr
  intro k hk
  rw [if_neg (by omega)]
theorem RM_aT {F G : am_FT} {v : am_V} (h : RM F v) (hv : wV v) (h6 : vT v < 6) {c hh : Nat} (e6 : G 45 6 = nI (vT v + 1)) (e7 : G 45 7 = F 45 7) (e8 : G 45 8 = nI (sts v ||| 2 ^ vT v)) (e46 : G 46 = am_upF (am_upF (am_upF F 46 (vT v) (nI c)) 46 (6 + vT v) (nI hh)) 46 (12 + vT v) 1 46) : RM G (vaT v c hh) := by
  have hP := hv.2.1
  refine ⟨e6, e7.trans h.2.1, by rw [e8, sts_aT], fun w n hw hn => ?_⟩
  rw [e46]
  show _ = nI (if n = vT v ∧ w < 3 then [c, hh, 1].getD w 0 else vN v w n)
  by_cases hx : n = vT v ∧ w < 3
  · rw [if_pos hx]
    obtain ⟨rfl, hx2⟩ := hx
    rcases (by omega : w = 0 ∨ w = 1 ∨ w = 2) with rfl | rfl | rfl
    · rw [up_n (by show 0 + vT v ≠ 12 + vT v; omega), up_n (by show 0 + vT v ≠ 6 + vT v; omega)]
      show am_upF F 46 (vT v) (nI c) 46 (0 + vT v) = nI c
      rw [Nat.zero_add, up_s]
    · rw [up_n (by show 6 + vT v ≠ 12 + vT v; omega)]
      exact up_s
    · exact up_s
  · rw [if_neg hx]
    have hn2 : n < vO v w := by
      unfold vO at hn ⊢
      by_cases hw3 : w < 3
      · rw [if_pos hw3] at hn ⊢
        have h1 : n < vT v + 1 := hn
        have hne : n ≠ vT v := fun he => hx ⟨he, hw3⟩
        omega
      · rw [if_neg hw3] at hn ⊢
        exact hn
    have hm := h.2.2.2 w n hw hn2
    have key : ∀ i, i = vT v ∨ i = 6 + vT v ∨ i = 12 + vT v → pmN w + n ≠ i := by
      intro i hi
      rcases (by omega : w = 0 ∨ w = 1 ∨ w = 2 ∨ w = 3 ∨ w = 4 ∨ w = 5 ∨ w = 6) with rfl | rfl | rfl | rfl | rfl | rfl | rfl
      · have : n < vT v := hn2
        show 0 + n ≠ i
        omega
      · have : n < vT v := hn2
        show 6 + n ≠ i
        omega
      · have : n < vT v := hn2
        show 12 + n ≠ i
        omega
      · show 18 + n ≠ i
        omega
      · show 30 + n ≠ i
        omega
      · show 40 + n ≠ i
        omega
      · show 50 + n ≠ i
        omega
    rw [up_n (key _ (Or.inr (Or.inr rfl))), up_n (key _ (Or.inr (Or.inl rfl))), up_n (key _ (Or.inl rfl))]
    exact hm
theorem RM_aP {F G : am_FT} {v : am_V} (h : RM F v) (hv : wV v) (h6 : vP v < 10) {c x g : Nat} (e6 : G 45 6 = F 45 6) (e7 : G 45 7 = nI (vP v + 1)) (e8 : G 45 8 = F 45 8) (e46 : G 46 = am_upF (am_upF (am_upF F 46 (30 + vP v) (nI c)) 46 (40 + vP v) (nI x)) 46 (50 + vP v) (nI g) 46) : RM G (vaP v c x g) := by
  have hT := hv.1
  refine ⟨e6.trans h.1, e7, e8.trans h.2.2.1, fun w n hw hn => ?_⟩
  rw [e46]
  show _ = nI (if n = vP v ∧ 4 ≤ w ∧ w < 7 then [c, x, g].getD (w - 4) 0 else vN v w n)
  by_cases hx : n = vP v ∧ 4 ≤ w ∧ w < 7
  · rw [if_pos hx]
    obtain ⟨rfl, hx2⟩ := hx
    rcases (by omega : w = 4 ∨ w = 5 ∨ w = 6) with rfl | rfl | rfl
    · rw [up_n (by show 30 + vP v ≠ 50 + vP v; omega), up_n (by show 30 + vP v ≠ 40 + vP v; omega)]
      exact up_s
    · rw [up_n (by show 40 + vP v ≠ 50 + vP v; omega)]
      exact up_s
    · exact up_s
  · rw [if_neg hx]
    have hn2 : n < vO v w := by
      unfold vO at hn ⊢
      by_cases hw3 : w < 3
      · rw [if_pos hw3] at hn ⊢
        exact hn
      · rw [if_neg hw3] at hn ⊢
        by_cases hw4 : w = 3
        · rw [if_pos hw4] at hn ⊢
          exact hn
        · rw [if_neg hw4, if_pos hw] at hn ⊢
          have h1 : n < vP v + 1 := hn
          have hne : n ≠ vP v := fun he => hx ⟨he, by omega, hw⟩
          omega
    have hm := h.2.2.2 w n hw hn2
    have key : ∀ i, i = 30 + vP v ∨ i = 40 + vP v ∨ i = 50 + vP v → pmN w + n ≠ i := by
      intro i hi
      rcases (by omega : w = 0 ∨ w = 1 ∨ w = 2 ∨ w = 3 ∨ w = 4 ∨ w = 5 ∨ w = 6) with rfl | rfl | rfl | rfl | rfl | rfl | rfl
      · have : n < vT v := hn2
        show 0 + n ≠ i
        omega
      · have : n < vT v := hn2
        show 6 + n ≠ i
        omega
      · have : n < vT v := hn2
        show 12 + n ≠ i
        omega
      · have : n < 12 := hn2
        show 18 + n ≠ i
        omega
      · have : n < vP v := hn2
        show 30 + n ≠ i
        omega
      · have : n < vP v := hn2
        show 40 + n ≠ i
        omega
      · have : n < vP v := hn2
        show 50 + n ≠ i
        omega
    rw [up_n (key _ (Or.inr (Or.inr rfl))), up_n (key _ (Or.inr (Or.inl rfl))), up_n (key _ (Or.inl rfl))]
    exact hm
/-! the state with a part changed -/
def sV (g : am_G) (v : am_V) : am_G := (v, gT g, gC g, gD g, gB g, gL g, gS g)
def sT (g : am_G) (t : Nat × (Nat → Nat)) : am_G := (gV g, t, gC g, gD g, gB g, gL g, gS g)
def sC (g : am_G) (v : am_V) (c : am_C) : am_G := (v, gT g, c, gD g, gB g, gL g, gS g)
def sD (g : am_G) (v : am_V) (d : am_D) : am_G := (v, gT g, gC g, d, gB g, gL g, gS g)
def sB (g : am_G) (b : Nat × (Nat → Nat)) : am_G := (gV g, gT g, gC g, gD g, b, gL g, gS g)
def sL (g : am_G) (l : List Nat) : am_G := (gV g, gT g, gC g, gD g, gB g, l, gS g)
def sS (g : am_G) (s : am_Sh) : am_G := (gV g, gT g, gC g, gD g, gB g, gL g, s)
/-! tree, person -/
def gTree (g : am_G) (x y : Int32) : Int32 × am_G := if (fitN 0 x && fitN 1 y) = true then (if vT (gV g) = 6 then (-3, g) else (nI (vT (gV g)), sV g (vaT (gV g) x.toNatClampNeg y.toNatClampNeg))) else (-1, g)
theorem fit_c (x : Int32) : inR x 256 = fitN 0 x := (inR_c (n := 255) (by decide)).symm
theorem m_isCell2 {d : Nat} {F : am_FT} {L : am_LT} {Q : am_QT} {x : Int32} : wc am_S0 (d + 1) mX12_isCell [.long x.toInt64] F L Q = Q (some (.int (bI (fitN 0 x)))) F L := by rw [m_isCell, fit_c]
theorem m_fit {d w : Nat} {F : am_FT} {L : am_LT} {Q : am_QT} {x : Int32} : wc am_S0 d mX12_within [.long x.toInt64, .long (nI (vLo w)).toInt64, .long (nI (vHi w)).toInt64] F L Q = Q (some (.int (bI (fitN w x)))) F L := s_mwi
theorem mc_tree (g : am_G) (x y : Int32) : MC mX12_tree [.ref 45, .int x, .int y] g (.int (gTree g x y).1) (gTree g x y).2 := by
  intro F L Q hm hq
  have hv := hm.1.2.1
  have hT := hv.1
  unfold gTree at hq
  rw [eX12_tree, kX12_tree_0, m_isCell2]
  simp only [Option.toList_some, Option.toList_none, List.cons_append, List.nil_append]
  rw [kX12_tree_5]
  cases hx : fitN 0 x
  · rw [hx, Bool.false_and, if_neg (by decide)] at hq
    rw [if_pos bIf, kX12_tree_20]
    exact hq F L (fun _ _ => rfl) (fun _ _ => rfl) hm
  · rw [hx, Bool.true_and] at hq
    rw [if_neg bIt, kX12_tree_8, show (1 : Int64) = (nI (vLo 1)).toInt64 from rfl, show (9 : Int64) = (nI (vHi 1)).toInt64 from rfl, m_fit]
    simp only [Option.toList_some, Option.toList_none, List.cons_append, List.nil_append]
    rw [kX12_tree_17]
    cases hy : fitN 1 y
    · rw [hy, if_neg (by decide)] at hq
      rw [if_neg (by decide), kX12_tree_20]
      exact hq F L (fun _ _ => rfl) (fun _ _ => rfl) hm
    · rw [hy, if_pos rfl] at hq
      rw [if_pos bIt, kX12_tree_22, hm.1.1.1]
      by_cases h6 : vT (gV g) = 6
      · rw [if_pos h6] at hq
        rw [if_neg (fun hh => hh (by rw [h6]; rfl)), kX12_tree_31]
        exact hq F L (fun _ _ => rfl) (fun _ _ => rfl) hm
      · rw [if_neg h6] at hq
        obtain ⟨c, c1, c2, rfl⟩ := fitN_ex hx
        obtain ⟨k, k1, k2, rfl⟩ := fitN_ex hy
        have c2' : c ≤ 255 := c2
        have k2' : k ≤ 9 := k2
        rw [nI_clamp (by omega), nI_clamp (by omega)] at hq
        have e6 := hm.1.1.1
        rw [if_pos (show ¬ nI (vT (gV g)) = (6 : Int32) from nI_ne (x := 6) (by omega) (by decide) h6), kX12_tree_34 (by rw [e6]; exact oobN (by omega) (by decide)) (by rw [e6, a6]; exact oobN (by omega) (by decide)), e6, a6, nI_clamp (by omega), nI_clamp (by omega), kX12_tree_61 (by rw [up_o (by decide), up_o (by decide), e6, a12]; exact oobN (by omega) (by decide)), kX12_tree_86]
        simp (disch := decide) only [up_o, up_n, up_s]
        rw [e6, a12, nI_clamp (by omega), nI_sh _ (by omega), hm.1.1.2.2.1, nI_or, nI_1, nI_m1 (by omega), Nat.add_sub_cancel]
        apply hq
        · intro p hp
          rw [up_o (by omega), up_o (by omega), up_o (by omega), up_o (by omega), up_o (by omega)]
        · intro p _; rfl
        · obtain ⟨h1, h2, h3, h4, h5, h6', h7⟩ := hm
          refine ⟨⟨RM_aT h1.1 hv (by omega) ?_ ?_ ?_ ?_, wV_aT hv (by omega) c2' k1 k2', ?_⟩, ?_, ?_, ?_, ?_, ?_, RSm_fr h7 ?_ ?_ rfl⟩
          · rw [up_s]
          · simp (disch := decide) only [up_o, up_n]
          · simp (disch := decide) only [up_o, up_n, up_s]
          · simp (disch := decide) only [up_o, up_n]
          · simp (disch := decide) only [up_o, up_n]; exact h1.2.2
          · simp (disch := decide) only [up_o, up_n]; exact h2
          · simp (disch := decide) only [up_o, up_n]; exact h3
          · simp (disch := decide) only [up_o, up_n]; exact h4
          · simp (disch := decide) only [up_o, up_n]; exact h5
          · simp (disch := decide) only [up_o, up_n]; exact h6'
          · simp (disch := decide) only [up_o, up_n]
          · simp (disch := decide) only [up_o, up_n]
theorem m_adds {d c w k : Nat} {F : am_FT} {L : am_LT} {Q : am_QT} {g : am_G} (hm : Mdl F L g) (h10 : vP (gV g) < 10) (hc : c ≤ 255) (hw : w ≤ 63) (hk : k ≤ 3) (hq : ∀ G : am_FT, (∀ p, p < 45 → G p = F p) → Mdl G L (sV g (vaP (gV g) c w k)) → G 45 7 = nI (vP (gV g) + 1) → Q none G L) : wc am_S0 d mX12_adds [.ref 45, .int (nI c), .int (nI w), .int (nI k)] F L Q := by
  have hv := hm.1.2.1
  have hP := hv.2.1
  have e7 := hm.1.1.2.1
  rw [eX12_adds, kX12_adds_0 (by rw [e7, a30]; exact oobN (by omega) (by decide)) (by rw [e7, a40]; exact oobN (by omega) (by decide)), e7, a30, a40, nI_clamp (by omega), nI_clamp (by omega), kX12_adds_26 (by rw [up_o (by decide), up_o (by decide), e7, a50]; exact oobN (by omega) (by decide))]
  simp (disch := decide) only [up_o, up_n, up_s]
  rw [e7, a50, nI_clamp (by omega), nI_1]
  apply hq
  · intro p hp
    rw [up_o (by omega), up_o (by omega), up_o (by omega), up_o (by omega)]
  · obtain ⟨h1, h2, h3, h4, h5, h6', h7⟩ := hm
    refine ⟨⟨RM_aP h1.1 hv h10 ?_ ?_ ?_ ?_, wV_aP hv h10 hc hw hk, ?_⟩, ?_, ?_, ?_, ?_, ?_, RSm_fr h7 ?_ ?_ rfl⟩
    · simp (disch := decide) only [up_o, up_n]
    · rw [up_s]
    · simp (disch := decide) only [up_o, up_n]
    · simp (disch := decide) only [up_o, up_n]
    · simp (disch := decide) only [up_o, up_n]; exact h1.2.2
    · simp (disch := decide) only [up_o, up_n]; exact h2
    · simp (disch := decide) only [up_o, up_n]; exact h3
    · simp (disch := decide) only [up_o, up_n]; exact h4
    · simp (disch := decide) only [up_o, up_n]; exact h5
    · simp (disch := decide) only [up_o, up_n]; exact h6'
    · simp (disch := decide) only [up_o, up_n]
    · simp (disch := decide) only [up_o, up_n]
  · rw [up_s]
def gPerson (g : am_G) (x y : Int32) : Int32 × am_G := if (fitN 4 x && fitN 5 y) = true then (if vP (gV g) = 10 then (-3, g) else (nI (vP (gV g)), sV g (vaP (gV g) x.toNatClampNeg y.toNatClampNeg 1))) else (-1, g)
theorem mc_person (g : am_G) (x y : Int32) : MC mX12_person [.ref 45, .int x, .int y] g (.int (gPerson g x y).1) (gPerson g x y).2 := by
  intro F L Q hm hq
  have hv := hm.1.2.1
  have hP := hv.2.1
  unfold gPerson at hq
  rw [show fitN 4 x = fitN 0 x from rfl] at hq
  rw [eX12_person, kX12_person_0, m_isCell2]
  simp only [Option.toList_some, Option.toList_none, List.cons_append, List.nil_append]
  rw [kX12_person_5]
  cases hx : fitN 0 x
  · rw [hx, Bool.false_and, if_neg (by decide)] at hq
    rw [if_pos bIf, kX12_person_20]
    exact hq F L (fun _ _ => rfl) (fun _ _ => rfl) hm
  · rw [hx, Bool.true_and] at hq
    rw [if_neg bIt, kX12_person_8, show (0 : Int64) = (nI (vLo 5)).toInt64 from rfl, show (63 : Int64) = (nI (vHi 5)).toInt64 from rfl, m_fit]
    simp only [Option.toList_some, Option.toList_none, List.cons_append, List.nil_append]
    rw [kX12_person_17]
    cases hy : fitN 5 y
    · rw [hy, if_neg (by decide)] at hq
      rw [if_neg (by decide), kX12_person_20]
      exact hq F L (fun _ _ => rfl) (fun _ _ => rfl) hm
    · rw [hy, if_pos rfl] at hq
      rw [if_pos bIt, kX12_person_22, hm.1.1.2.1]
      by_cases h6 : vP (gV g) = 10
      · rw [if_pos h6] at hq
        rw [if_neg (fun hh => hh (by rw [h6]; rfl)), kX12_person_31]
        exact hq F L (fun _ _ => rfl) (fun _ _ => rfl) hm
      · rw [if_neg h6] at hq
        obtain ⟨c, c1, c2, rfl⟩ := fitN_ex hx
        obtain ⟨k, k1, k2, rfl⟩ := fitN_ex hy
        have c2' : c ≤ 255 := c2
        have k2' : k ≤ 63 := k2
        rw [nI_clamp (by omega), nI_clamp (by omega)] at hq
        rw [if_pos (show ¬ nI (vP (gV g)) = (10 : Int32) from nI_ne (x := 10) (by omega) (by decide) h6), kX12_person_34, show (1 : Int32) = nI 1 from rfl]
        apply m_adds hm (by omega) c2' k2' (by decide)
        intro G g1 g2 g3
        simp only [Option.toList_some, Option.toList_none, List.cons_append, List.nil_append]
        rw [kX12_person_41, g3, nI_m1 (by omega), Nat.add_sub_cancel]
        exact hq G L g1 (fun _ _ => rfl) g2
