/-! ===== the model's changes, 4: the image laid back; voters ===== -/
def vback (v : am_V) (d : am_D) : am_V := (vT v, vP v, fun w n => if w = 1 ∧ n < dT d then dH d n else if w = 4 ∧ n < dP d then dC d n else vN v w n, fun t => if t < dT d then dS d t else true, vL v)
def gBack (g : am_G) : Int32 × am_G := if dK (gD g) = true then (dI (gD g) 0, sD g (vback (gV g) (gD g)) (dWi (gD g) (dI (gD g)))) else (-5, g)
theorem wV_back {v : am_V} {d : am_D} (hv : wV v) (hd : wD v d) (hk : dK d = true) : wV (vback v d) := by
  obtain ⟨_, h⟩ := hd
  obtain ⟨h1, h2, h3, h4, _⟩ := h hk
  refine ⟨hv.1, hv.2.1, fun w n hw hn => ?_⟩
  show vLo w ≤ (if w = 1 ∧ n < dT d then dH d n else if w = 4 ∧ n < dP d then dC d n else vN v w n) ∧ (if w = 1 ∧ n < dT d then dH d n else if w = 4 ∧ n < dP d then dC d n else vN v w n) ≤ vHi w
  by_cases a : w = 1 ∧ n < dT d
  · rw [if_pos a, a.1]; exact h3 n a.2
  · rw [if_neg a]
    by_cases b : w = 4 ∧ n < dP d
    · rw [if_pos b, b.1]; exact ⟨Nat.zero_le _, h4 n b.2⟩
    · rw [if_neg b]; exact hv.2.2 w n hw hn
theorem m_bk_l0 {d : Nat} {L : am_LT} {Q : am_QT} {T : Nat} {p : Nat → Bool} (hT : T ≤ 6) {k0 : Nat} : ∀ (j k : Nat) (F : am_FT), k + j = T → k0 ≤ k → F 45 6 = nI T → F 45 8 = nI (bs (fun t => if t < k0 then p t else true) k) → (∀ G : am_FT, (∀ q, q ≠ 45 → G q = F q) → (∀ i, i ≠ 8 → G 45 i = F 45 i) → G 45 8 = nI (bs (fun t => if t < k0 then p t else true) T) → wt am_S0 d mX12_back 49 [some (.ref 45), some (.int (nI T))] [] G L Q) → wt am_S0 d mX12_back 23 [some (.ref 45), some (.int (nI k))] [] F L Q := by
  intro j
  induction j with
  | zero =>
    intro k F hk hk0 h6 h8 hq
    have : k = T := by omega
    subst this
    rw [kX12_back_23, h6, if_pos (nI_le (Nat.le_refl _) (by omega))]
    exact hq F (fun _ _ => rfl) (fun _ _ => rfl) h8
  | succ j ih =>
    intro k F hk hk0 h6 h8 hq
    have e : bs (fun t => if t < k0 then p t else true) (k + 1) = bs (fun t => if t < k0 then p t else true) k ||| 2 ^ k := by
      show (if (if k < k0 then p k else true) = true then _ else _) = _
      rw [if_neg (show ¬ k < k0 by omega), if_pos rfl]
    rw [kX12_back_23, h6, if_neg (nI_ge (by omega) (by omega)), kX12_back_31, h8, nI_sh k (by omega), nI_or, nI_1]
    refine ih (k + 1) _ (by omega) (by omega) (by rw [up_n (by decide)]; exact h6) (by rw [up_s, e]) ?_
    intro G g1 g2 g3
    exact hq G (fun q hq => (g1 q hq).trans (up_o hq)) (fun i hi => (g2 i hi).trans (up_n hi)) g3
theorem m_bk_l1 {d T o : Nat} {L : am_LT} {Q : am_QT} {f : Nat → Nat} (hT : T ≤ 6) : ∀ (j k : Nat) (F : am_FT), k + j = T → F 45 22 = nI T → (∀ t, t < T → F 54 t = nI (f t)) → (∀ G : am_FT, (∀ q, q ≠ 46 → G q = F q) → (∀ i, G 46 i = if k + 6 ≤ i ∧ i < T + 6 then nI (f (i - 6)) else F 46 i) → wt am_S0 d mX12_back 88 [some (.ref 45), some (.int (nI T))] [] G L Q) → wt am_S0 d mX12_back 59 [some (.ref 45), some (.int (nI k))] [] F L Q := by
  intro j
  induction j with
  | zero =>
    intro k F hk h22 h54 hq
    have : k = T := by omega
    subst this
    rw [kX12_back_59, h22, if_pos (nI_le (Nat.le_refl _) (by omega))]
    exact hq F (fun _ _ => rfl) (fun i => by rw [if_neg (by omega)])
  | succ j ih =>
    intro k F hk h22 h54 hq
    rw [kX12_back_59, h22, if_neg (nI_ge (by omega) (by omega)), kX12_back_67 (oobN (by omega) (by decide)) (by rw [a6]; exact oobN (by omega) (by decide)), a6, nI_clamp (by omega), nI_clamp (by omega), h54 k (by omega), nI_1]
    refine ih (k + 1) _ (by omega) (by rw [up_o (by decide)]; exact h22) (fun t ht => by rw [up_o (by decide)]; exact h54 t ht) ?_
    intro G g1 g2
    refine hq G (fun q hq => (g1 q hq).trans (up_o hq)) (fun i => ?_)
    rw [g2 i]
    by_cases hi : i = 6 + k
    · rw [if_neg (by omega), if_pos (by omega), hi, up_s, show 6 + k - 6 = k by omega]
    · by_cases h2 : k + 1 + 6 ≤ i ∧ i < T + 6
      · rw [if_pos h2, if_pos (by omega)]
      · rw [if_neg h2, if_neg (by omega), up_n hi]
theorem m_bk_l2 {d P : Nat} {L : am_LT} {Q : am_QT} {f : Nat → Nat} (hP : P ≤ 10) : ∀ (j k : Nat) (F : am_FT), k + j = P → F 45 23 = nI P → (∀ t, t < P → F 55 t = nI (f t)) → (∀ G : am_FT, (∀ q, q ≠ 46 → G q = F q) → (∀ i, G 46 i = if k + 30 ≤ i ∧ i < P + 30 then nI (f (i - 30)) else F 46 i) → wt am_S0 d mX12_back 119 [some (.ref 45), some (.int (nI P))] [] G L Q) → wt am_S0 d mX12_back 90 [some (.ref 45), some (.int (nI k))] [] F L Q := by
  intro j
  induction j with
  | zero =>
    intro k F hk h22 h54 hq
    have : k = P := by omega
    subst this
    rw [kX12_back_90, h22, if_pos (nI_le (Nat.le_refl _) (by omega))]
    exact hq F (fun _ _ => rfl) (fun i => by rw [if_neg (by omega)])
  | succ j ih =>
    intro k F hk h22 h54 hq
    rw [kX12_back_90, h22, if_neg (nI_ge (by omega) (by omega)), kX12_back_98 (oobN (by omega) (by decide)) (by rw [a30]; exact oobN (by omega) (by decide)), a30, nI_clamp (by omega), nI_clamp (by omega), h54 k (by omega), nI_1]
    refine ih (k + 1) _ (by omega) (by rw [up_o (by decide)]; exact h22) (fun t ht => by rw [up_o (by decide)]; exact h54 t ht) ?_
    intro G g1 g2
    refine hq G (fun q hq => (g1 q hq).trans (up_o hq)) (fun i => ?_)
    rw [g2 i]
    by_cases hi : i = 30 + k
    · rw [if_neg (by omega), if_pos (by omega), hi, up_s, show 30 + k - 30 = k by omega]
    · by_cases h2 : k + 1 + 30 ≤ i ∧ i < P + 30
      · rw [if_pos h2, if_pos (by omega)]
      · rw [if_neg h2, if_neg (by omega), up_n hi]
theorem m_bk_l3 {d : Nat} {L : am_LT} {Q : am_QT} {f : Nat → Int32} : ∀ (j k : Nat) (F : am_FT), k + j = 4 → (∀ t, t < 4 → F 56 t = f t) → (∀ t, t < k → F 53 t = f t) → (∀ G : am_FT, (∀ p, p ≠ 53 → G p = F p) → (∀ t, t < 4 → G 53 t = f t) → wt am_S0 d mX12_back 144 [some (.ref 45), some (.int (nI 4))] [] G L Q) → wt am_S0 d mX12_back 121 [some (.ref 45), some (.int (nI k))] [] F L Q := by
  intro j
  induction j with
  | zero =>
    intro k F hk h hi hq
    have : k = 4 := by omega
    subst this
    rw [kX12_back_121, if_pos (by decide)]
    exact hq F (fun _ _ => rfl) hi
  | succ j ih =>
    intro k F hk h hi hq
    rw [kX12_back_121, if_neg (show ¬ (4 : Int32) ≤ nI k from nI_ge (b := 4) (by omega) (by decide)), kX12_back_126 (oobN (by omega) (by decide)), nI_clamp (by omega), h k (by omega), nI_1]
    refine ih (k + 1) _ (by omega) ?_ ?_ ?_
    · intro t ht
      rw [up_o (by decide)]; exact h t ht
    · intro t ht
      by_cases htk : t = k
      · rw [htk, up_s]
      · rw [up_n htk]; exact hi t (by omega)
    · intro G g1 g2
      exact hq G (fun p hp => (g1 p hp).trans (up_o hp)) g2
theorem mc_back (g : am_G) (hg : wG g) : MC mX12_back [.ref 45] g (.int (gBack g).1) (gBack g).2 := by
  intro F L Q hm hq
  have hv := hm.1.2.1
  have hT := hv.1
  have hP := hv.2.1
  obtain ⟨h1, h2, h3, ⟨d1, d2, d3, d4⟩, h5, h6, h7⟩ := hm
  unfold gBack at hq
  rw [eX12_back, kX12_back_0, d3]
  cases hk : dK (gD g)
  · rw [hk, if_neg (by decide)] at hq
    rw [if_neg (by decide), kX12_back_7]
    exact hq F L (fun _ _ => rfl) (fun _ _ => rfl) ⟨h1, h2, h3, ⟨d1, d2, d3, d4⟩, h5, h6, h7⟩
  · rw [hk, if_pos rfl] at hq
    obtain ⟨e22, e23, e24, e25, e54, e55, e56⟩ := d4 hk
    obtain ⟨w1, w2, w3, w4, w5⟩ := hg.2.2.2.1.2 hk
    rw [if_pos bIt, kX12_back_10, e22, e24]
    refine m_bk_l0 (T := vT (gV g)) (p := dS (gD g)) (k0 := dT (gD g)) hT (vT (gV g) - dT (gD g)) (dT (gD g)) _ (by omega) (Nat.le_refl _) (by rw [up_n (by decide)]; exact h1.1.1) ?_ ?_
    · rw [up_s]
      congr 1
      apply bs_congr
      intro t ht
      rw [if_pos ht]
    intro G g1 g2 g3
    have G45 : ∀ i, i ≠ 8 → G 45 i = F 45 i := fun i hi => (g2 i hi).trans (up_n hi)
    have Gp : ∀ p, p ≠ 45 → G p = F p := fun p hp => (g1 p hp).trans (up_o hp)
    rw [kX12_back_49, G45 25 (by decide), e25, show (some (.int 0) : Option Value) = some (.int (nI 0)) from rfl]
    refine m_bk_l1 (o := 0) (T := dT (gD g)) (f := dH (gD g)) (by omega) (dT (gD g)) 0 _ (by omega) (by rw [up_n (by decide), G45 22 (by decide)]; exact e22) (fun t ht => by rw [up_o (by decide), Gp 54 (by decide)]; exact e54 t ht) ?_
    intro H k1 k2
    have H45 : H 45 = am_upF G 45 19 (dI (gD g) 4) 45 := k1 45 (by decide)
    have Hp : ∀ p, p ≠ 45 → p ≠ 46 → H p = F p := fun p a b => (k1 p b).trans ((up_o a).trans (Gp p a))
    rw [kX12_back_88, show (some (.int 0) : Option Value) = some (.int (nI 0)) from rfl]
    refine m_bk_l2 (P := dP (gD g)) (f := dC (gD g)) (by omega) (dP (gD g)) 0 _ (by omega) (by rw [H45, up_n (by decide), G45 23 (by decide)]; exact e23) (fun t ht => by rw [Hp 55 (by decide) (by decide)]; exact e55 t ht) ?_
    intro J q1 q2
    have J45 : J 45 = am_upF G 45 19 (dI (gD g) 4) 45 := (q1 45 (by decide)).trans H45
    have Jp : ∀ p, p ≠ 45 → p ≠ 46 → J p = F p := fun p a b => (q1 p b).trans (Hp p a b)
    rw [kX12_back_119, show (some (.int 0) : Option Value) = some (.int (nI 0)) from rfl]
    refine m_bk_l3 (f := dI (gD g)) 4 0 _ rfl (fun t ht => by rw [Jp 56 (by decide) (by decide)]; exact e56 t ht) (fun t ht => absurd ht (by omega)) ?_
    intro K r1 r2
    have K45 : K 45 = am_upF G 45 19 (dI (gD g) 4) 45 := (r1 45 (by decide)).trans J45
    have Kp : ∀ p, p ≠ 45 → p ≠ 46 → p ≠ 53 → K p = F p := fun p a b c => (r1 p c).trans (Jp p a b)
    have K46 : ∀ i, K 46 i = if 30 ≤ i ∧ i < dP (gD g) + 30 then nI (dC (gD g) (i - 30)) else if 6 ≤ i ∧ i < dT (gD g) + 6 then nI (dH (gD g) (i - 6)) else F 46 i := by
      intro i
      rw [r1 46 (by decide), q2 i, k2 i, up_o (by decide), Gp 46 (by decide), Nat.zero_add, Nat.zero_add]
    rw [kX12_back_144 rfl, show Int32.toNatClampNeg 0 = 0 from rfl, r2 0 (by decide)]
    apply hq
    · intro p hp
      exact Kp p (by omega) (by omega) (by omega)
    · intro p _; rfl
    · refine ⟨⟨⟨?_, ?_, ?_, ?_⟩, wV_back hv hg.2.2.2.1 hk, ?_⟩, ?_, ?_, ⟨r2, ?_, ?_, ?_⟩, ?_, ?_, RSm_fr h7 (Kp 59 (by decide) (by decide) (by decide)) (Kp 60 (by decide) (by decide) (by decide)) rfl⟩
      · rw [K45, up_n (by decide), G45 6 (by decide)]; exact h1.1.1
      · rw [K45, up_n (by decide), G45 7 (by decide)]; exact h1.1.2.1
      · rw [K45, up_n (by decide), g3]; rfl
      · intro w n hw hn
        have hn2 : n < vO (gV g) w := hn
        rw [K46]
        show _ = nI (if w = 1 ∧ n < dT (gD g) then dH (gD g) n else if w = 4 ∧ n < dP (gD g) then dC (gD g) n else vN (gV g) w n)
        have hb : w < 3 → n < 6 := fun h3 => by
          unfold vO at hn2
          rw [if_pos h3] at hn2
          omega
        have hb3 : w = 3 → n < 12 := fun h3 => by subst h3; exact hn2
        have hb4 : 4 ≤ w → n < 10 := fun h3 => by
          unfold vO at hn2
          rw [if_neg (by omega), if_neg (by omega), if_pos hw] at hn2
          omega
        have hm := h1.1.2.2.2 w n hw hn2
        rcases (by omega : w = 0 ∨ w = 1 ∨ w = 2 ∨ w = 3 ∨ w = 4 ∨ w = 5 ∨ w = 6) with rfl | rfl | rfl | rfl | rfl | rfl | rfl
        · have := hb (by decide)
          have e : pmN 0 + n = n := Nat.zero_add n
          rw [if_neg (by rw [e]; omega), if_neg (by rw [e]; omega), if_neg (by omega), if_neg (by omega)]
          exact hm
        · have := hb (by decide)
          have e : pmN 1 + n = 6 + n := rfl
          by_cases hx : n < dT (gD g)
          · rw [if_neg (by rw [e]; omega), if_pos (by rw [e]; omega), if_pos ⟨rfl, hx⟩, e, show 6 + n - 6 = n by omega]
          · rw [if_neg (by rw [e]; omega), if_neg (by rw [e]; omega), if_neg (fun hh => hx hh.2), if_neg (by omega)]
            exact hm
        · have := hb (by decide)
          have e : pmN 2 + n = 12 + n := rfl
          rw [if_neg (by rw [e]; omega), if_neg (by rw [e]; omega), if_neg (by omega), if_neg (by omega)]
          exact hm
        · have := hb3 rfl
          have e : pmN 3 + n = 18 + n := rfl
          rw [if_neg (by rw [e]; omega), if_neg (by rw [e]; omega), if_neg (by omega), if_neg (by omega)]
          exact hm
        · have := hb4 (by decide)
          have e : pmN 4 + n = 30 + n := rfl
          by_cases hx : n < dP (gD g)
          · rw [if_pos (by rw [e]; omega), if_neg (by omega), if_pos ⟨rfl, hx⟩, e, show 30 + n - 30 = n by omega]
          · rw [if_neg (by rw [e]; omega), if_neg (by rw [e]; omega), if_neg (by omega), if_neg (fun hh => hx hh.2)]
            exact hm
        · have := hb4 (by decide)
          have e : pmN 5 + n = 40 + n := rfl
          rw [if_neg (by rw [e]; omega), if_neg (by rw [e]; omega), if_neg (by omega), if_neg (by omega)]
          exact hm
        · have := hb4 (by decide)
          have e : pmN 6 + n = 50 + n := rfl
          rw [if_neg (by rw [e]; omega), if_neg (by rw [e]; omega), if_neg (by omega), if_neg (by omega)]
          exact hm
      · rw [K45, up_n (by decide), G45 12 (by decide), Kp 51 (by decide) (by decide) (by decide)]; exact h1.2.2
      · rw [K45, up_n (by decide), G45 10 (by decide), Kp 50 (by decide) (by decide) (by decide)]; exact h2
      · rw [K45, up_n (by decide), G45 5 (by decide), up_n (by decide), G45 4 (by decide), Kp 47 (by decide) (by decide) (by decide), Kp 48 (by decide) (by decide) (by decide), Kp 49 (by decide) (by decide) (by decide)]; exact h3
      · rw [K45, up_s]; rfl
      · rw [K45, up_n (by decide), G45 21 (by decide)]; exact d3
      · intro hk2
        rw [K45, up_n (by decide), G45 22 (by decide), up_n (by decide), G45 23 (by decide), up_n (by decide), G45 24 (by decide), up_n (by decide), G45 25 (by decide), Kp 54 (by decide) (by decide) (by decide), Kp 55 (by decide) (by decide) (by decide), Kp 56 (by decide) (by decide) (by decide)]
        exact d4 hk
      · rw [K45, up_n (by decide), G45 29 (by decide), Kp 57 (by decide) (by decide) (by decide)]; exact h5
      · rw [K45, up_n (by decide), G45 32 (by decide), Kp 58 (by decide) (by decide) (by decide)]; exact h6
/-! voters of the model -/
def FA (F G : am_FT) : Prop := (∀ p, p ≠ 45 → p ≠ 58 → G p = F p) ∧ ∀ k, k ≠ 32 → G 45 k = F 45 k
theorem FA_tr {F G H : am_FT} (h : FA F G) (k : FA G H) : FA F H := ⟨fun p a b => (k.1 p a b).trans (h.1 p a b), fun i a => (k.2 i a).trans (h.2 i a)⟩
theorem s_runs {d w : Nat} {F : am_FT} {L : am_LT} {Q : am_QT} {ls : List Nat} (hT : RTr (F 45 32) (F 58) ls) (hl : ls.length < 1000) (hq : ∀ G, FA F G → RTr (G 45 32) (G 58) (ls ++ [w]) → Q none G L) : wc am_S0 d mX12_runs [.ref 45, .int (nI w)] F L Q := by
  rw [eX12_runs, kX12_runs_0, hT.1]
  by_cases h24 : 24 ≤ ls.length
  · rw [if_pos (show (24 : Int32) ≤ nI ls.length from nI_le (a := 24) h24 (by omega)), kX12_runs_19, hT.1, nI_1]
    refine hq _ ⟨fun p a _ => up_o a, fun k hk => up_n hk⟩ ⟨?_, fun i hi hi2 => ?_⟩
    · rw [up_s, List.length_append]; rfl
    · rw [up_o (by decide), gd_l (by omega)]; exact hT.2 i hi (by omega)
  · rw [if_neg (show ¬ (24 : Int32) ≤ nI ls.length from nI_ge (b := 24) (by omega) (by decide)), kX12_runs_9 (by rw [hT.1]; exact oobN (by omega) (by decide)), hT.1, nI_clamp (by omega), kX12_runs_19, up_o (q := 45) (p := 58) (by decide), hT.1, nI_1]
    refine hq _ ⟨fun p a b => by rw [up_o a, up_o b], fun k hk => by rw [up_n hk, up_o (by decide)]⟩ ⟨?_, fun i hi hi2 => ?_⟩
    · rw [up_s, List.length_append]; rfl
    · rw [List.length_append] at hi2
      have hi3 : i < ls.length + 1 := hi2
      rw [up_o (by decide)]
      by_cases hx : i = ls.length
      · subst hx
        rw [up_s, show ls.length = ls.length + 0 from rfl, gd_r]; rfl
      · rw [up_n hx, gd_l (by omega)]; exact hT.2 i hi (by omega)
def actM (a : Nat) : am_M := if a = 0 then mX12_sitsAs else if a = 1 then mX12_votesAs else if a = 2 then mX12_movesAs else mX12_tellsAs
def mSp (L : am_LT) (b K D : Nat) (m : am_M) (args : List Value) (r : am_O) : Prop := ∀ (F : am_FT) (Q : am_QT) (ls : List Nat) (t : List Nat) (v : Int32), r = some (t, v) → F 45 33 = nI K → F 45 34 = nI b → RTr (F 45 32) (F 58) ls → ls.length + t.length < 1000 → (∀ G : am_FT, FA F G → RTr (G 45 32) (G 58) (ls ++ t) → Q (some (.int v)) G L) → wc am_S0 D m args F L Q
/-- a body that runs, then one act, then an end -/
theorem m_b1 {L : am_LT} {b K D w : Nat} {m1 : am_M} {args : List Value} {r : am_O} {gg : Int32 → Int32} {F : am_FT} {Q Qr Q1 : am_QT} {ls t : List Nat} {v : Int32} (hm : mSp L b K D m1 args r) (hp : po1 w r gg = some (t, v)) (hK : F 45 33 = nI K) (hb : F 45 34 = nI b) (hT : RTr (F 45 32) (F 58) ls) (hl : ls.length + t.length < 1000) (hQr : ∀ G, Qr none G L = wc am_S0 D m1 args G L Q1) (hQ1 : ∀ (u : Int32) (G : am_FT), v = gg u → Q1 (some (.int u)) G L = Q (some (.int v)) G L) (hq : ∀ G : am_FT, FA F G → RTr (G 45 32) (G 58) (ls ++ t) → Q (some (.int v)) G L) : wc am_S0 D mX12_runs [.ref 45, .int (nI w)] F L Qr := by
  obtain ⟨a, e1, e2, e3⟩ := po1_inv hp
  subst e2
  rw [List.length_cons] at hl
  apply s_runs hT (by omega)
  intro G g1 g2
  rw [hQr]
  apply hm G Q1 (ls ++ [w]) a.1 a.2 e1 (by rw [g1.2 33 (by decide)]; exact hK) (by rw [g1.2 34 (by decide)]; exact hb) g2 (by rw [List.length_append]; show ls.length + 1 + _ < _; omega)
  intro H h1 h2
  rw [hQ1 a.2 H e3]
  rw [List.append_assoc] at h2
  exact hq H (FA_tr g1 h1) h2
theorem m_b2 {L : am_LT} {b K D w : Nat} {m1 m2 : am_M} {args args2 : List Value} {r s : am_O} {gg : Int32 → Int32 → Int32} {F : am_FT} {Q Qr Q1 : am_QT} {Q2 : Int32 → am_QT} {ls t : List Nat} {v : Int32} (hm : mSp L b K D m1 args r) (hm2 : mSp L b K D m2 args2 s) (hp : po2 w r s gg = some (t, v)) (hK : F 45 33 = nI K) (hb : F 45 34 = nI b) (hT : RTr (F 45 32) (F 58) ls) (hl : ls.length + t.length < 1000) (hQr : ∀ G, G 45 33 = nI K → Qr none G L = wc am_S0 D m1 args G L Q1) (hQ1 : ∀ (u : Int32) (G : am_FT), G 45 33 = nI K → Q1 (some (.int u)) G L = wc am_S0 D m2 args2 G L (Q2 u)) (hQ2 : ∀ (u y : Int32) (G : am_FT), v = gg u y → Q2 u (some (.int y)) G L = Q (some (.int v)) G L) (hq : ∀ G : am_FT, FA F G → RTr (G 45 32) (G 58) (ls ++ t) → Q (some (.int v)) G L) : wc am_S0 D mX12_runs [.ref 45, .int (nI w)] F L Qr := by
  obtain ⟨a, c, e1, e2, e3, e4⟩ := po2_inv hp
  subst e3
  rw [List.length_cons, List.length_append] at hl
  apply s_runs hT (by omega)
  intro G g1 g2
  have gK : G 45 33 = nI K := by rw [g1.2 33 (by decide)]; exact hK
  have gb : G 45 34 = nI b := by rw [g1.2 34 (by decide)]; exact hb
  rw [hQr G gK]
  apply hm G Q1 (ls ++ [w]) a.1 a.2 e1 gK gb g2 (by rw [List.length_append]; show ls.length + 1 + _ < _; omega)
  intro H h1 h2
  have kK : H 45 33 = nI K := by rw [h1.2 33 (by decide)]; exact gK
  rw [hQ1 a.2 H kK]
  apply hm2 H (Q2 a.2) (ls ++ [w] ++ a.1) c.1 c.2 e2 kK (by rw [h1.2 34 (by decide)]; exact gb) h2 (by rw [List.length_append, List.length_append]; show ls.length + 1 + _ + _ < _; omega)
  intro J j1 j2
  rw [hQ2 a.2 c.2 J e4]
  apply hq J (FA_tr g1 (FA_tr h1 j1))
  rw [show ls ++ w :: (a.1 ++ c.1) = ls ++ [w] ++ a.1 ++ c.1 by simp only [List.append_assoc, List.cons_append, List.nil_append]]
  exact j2
theorem m_acts {L : am_LT} {b K : Nat} (hK8 : K < 8) : ∀ (f k a D : Nat) (x : Int32), k < 8 → a < 4 → f + 2 ≤ D → mSp L b K D (actM a) [.ref 45, .int (nI k), .int x] (pf K (nI b) f k a x) := by
  intro f
  induction f with
  | zero => intro k a D x _ _ _ F Q ls t v e; cases e
  | succ f ih =>
    intro k a D x hk ha hD F Q ls t v e hK hb hT hl hq
    obtain ⟨D', rfl⟩ : ∃ D', D = D' + 1 := ⟨D - 1, by omega⟩
    have own : ∀ a x, a < 4 → mSp L b K D' (actM a) [.ref 45, .int (nI K), .int x] (pf K (nI b) f K a x) := fun a x h => ih K a D' x hK8 h (by omega)
    have sup : ∀ k a x, k < 8 → a < 4 → mSp L b K D' (actM a) [.ref 45, .int (nI k), .int x] (pf K (nI b) f k a x) := fun k a x h1 h => ih k a D' x h1 h (by omega)
    rcases (by omega : a = 0 ∨ a = 1 ∨ a = 2 ∨ a = 3) with rfl | rfl | rfl | rfl
    · show wc am_S0 (D' + 1) mX12_sitsAs [.ref 45, .int (nI k), .int x] F L Q
      have c20 : po1 20 (pf K (nI b) f 0 0 x) (fun a => a + 3) = some (t, v) → wt am_S0 (D' + 1) mX12_sitsAs 16 [some (.ref 45), some (.int (nI k)), some (.int x)] [] F L Q := by
        intro h
        rw [kX12_sitsAs_16]
        exact m_b1 (sup 0 0 x (by decide) (by decide)) h hK hb hT hl (fun G => by
          simp only [Option.toList_some, Option.toList_none, List.cons_append, List.nil_append]
          exact kX12_sitsAs_22) (fun u G e => by
          simp only [Option.toList_some, Option.toList_none, List.cons_append, List.nil_append]
          rw [kX12_sitsAs_28, e]) hq
      have c70 : po1 70 (pf K (nI b) f 0 0 x) (fun a => a * 2) = some (t, v) → wt am_S0 (D' + 1) mX12_sitsAs 37 [some (.ref 45), some (.int (nI k)), some (.int x)] [] F L Q := by
        intro h
        rw [kX12_sitsAs_37]
        exact m_b1 (sup 0 0 x (by decide) (by decide)) h hK hb hT hl (fun G => by
          simp only [Option.toList_some, Option.toList_none, List.cons_append, List.nil_append]
          exact kX12_sitsAs_43) (fun u G e => by
          simp only [Option.toList_some, Option.toList_none, List.cons_append, List.nil_append]
          rw [kX12_sitsAs_49, e]) hq
      have c1 : some ([1], x + nI b) = some (t, v) → wt am_S0 (D' + 1) mX12_sitsAs 52 [some (.ref 45), some (.int (nI k)), some (.int x)] [] F L Q := by
        intro h
        cases h
        rw [kX12_sitsAs_52, show (1 : Int32) = nI 1 from rfl]
        apply s_runs hT (by simp only [List.length_cons, List.length_nil] at hl; omega)
        intro G g1 g2
        simp only [Option.toList_some, Option.toList_none, List.cons_append, List.nil_append]
        rw [kX12_sitsAs_57, g1.2 34 (by decide), hb]
        exact hq G g1 g2
      rw [eX12_sitsAs, kX12_sitsAs_0]
      rcases (by omega : k = 0 ∨ k = 1 ∨ k = 2 ∨ k = 3 ∨ k = 4 ∨ k = 5 ∨ k = 6 ∨ k = 7) with rfl | rfl | rfl | rfl | rfl | rfl | rfl | rfl
      · rw [if_neg (by decide), kX12_sitsAs_5, if_neg (by decide), kX12_sitsAs_10, if_pos (by decide), kX12_sitsAs_31, if_pos (by decide)]; exact c1 e
      · rw [if_pos (by decide)]; exact c20 e
      · rw [if_neg (by decide), kX12_sitsAs_5, if_neg (by decide), kX12_sitsAs_10, if_pos (by decide), kX12_sitsAs_31, if_pos (by decide)]; exact c1 e
      · rw [if_neg (by decide), kX12_sitsAs_5, if_neg (by decide), kX12_sitsAs_10, if_pos (by decide), kX12_sitsAs_31, if_pos (by decide)]; exact c1 e
      · rw [if_neg (by decide), kX12_sitsAs_5, if_pos (by decide)]; exact c20 e
      · rw [if_neg (by decide), kX12_sitsAs_5, if_neg (by decide), kX12_sitsAs_10, if_pos (by decide), kX12_sitsAs_31, if_pos (by decide)]; exact c1 e
      · rw [if_neg (by decide), kX12_sitsAs_5, if_neg (by decide), kX12_sitsAs_10, if_pos (by decide), kX12_sitsAs_31, if_neg (by decide)]; exact c70 e
      · rw [if_neg (by decide), kX12_sitsAs_5, if_neg (by decide), kX12_sitsAs_10, if_neg (by decide)]; exact c20 e
    · show wc am_S0 (D' + 1) mX12_votesAs [.ref 45, .int (nI k), .int x] F L Q
      have c41 : po1 41 (pf K (nI b) f 2 1 (x + 1)) (fun a => a) = some (t, v) → wt am_S0 (D' + 1) mX12_votesAs 10 [some (.ref 45), some (.int (nI k)), some (.int x), none] [] F L Q := by
        intro h
        rw [kX12_votesAs_10]
        exact m_b1 (sup 2 1 (x + 1) (by decide) (by decide)) h hK hb hT hl (fun G => by
          simp only [Option.toList_some, Option.toList_none, List.cons_append, List.nil_append]
          exact kX12_votesAs_16) (fun u G e => by
          simp only [Option.toList_some, Option.toList_none, List.cons_append, List.nil_append]
          rw [kX12_votesAs_24, e]) hq
      have c30 : po1 30 (pf K (nI b) f 0 1 x) (fun a => -a) = some (t, v) → wt am_S0 (D' + 1) mX12_votesAs 30 [some (.ref 45), some (.int (nI k)), some (.int x), none] [] F L Q := by
        intro h
        rw [kX12_votesAs_30]
        exact m_b1 (sup 0 1 x (by decide) (by decide)) h hK hb hT hl (fun G => by
          simp only [Option.toList_some, Option.toList_none, List.cons_append, List.nil_append]
          exact kX12_votesAs_36) (fun u G e => by
          simp only [Option.toList_some, Option.toList_none, List.cons_append, List.nil_append]
          rw [kX12_votesAs_42, e]) hq
      have c80 : po2 80 (pf K (nI b) f 4 1 x) (pf K (nI b) f K 2 2) (fun a b => a + b) = some (t, v) → wt am_S0 (D' + 1) mX12_votesAs 50 [some (.ref 45), some (.int (nI k)), some (.int x), none] [] F L Q := by
        intro h
        rw [kX12_votesAs_50]
        exact m_b2 (sup 4 1 x (by decide) (by decide)) (own 2 2 (by decide)) h hK hb hT hl (fun G _ => by
          simp only [Option.toList_some, Option.toList_none, List.cons_append, List.nil_append]
          exact kX12_votesAs_56) (fun u G gK => by
          simp only [Option.toList_some, Option.toList_none, List.cons_append, List.nil_append]
          rw [kX12_votesAs_62, gK]; rfl) (fun u y G e => by
          simp only [Option.toList_some, Option.toList_none, List.cons_append, List.nil_append]
          rw [kX12_votesAs_73, e]) hq
      have c10 : po1 10 (pf K (nI b) f K 0 x) (fun a => a * 2) = some (t, v) → wt am_S0 (D' + 1) mX12_votesAs 75 [some (.ref 45), some (.int (nI k)), some (.int x), none] [] F L Q := by
        intro h
        obtain ⟨a, e1, e2, e3⟩ := po1_inv h
        subst e2
        rw [List.length_cons] at hl
        rw [kX12_votesAs_75, show (10 : Int32) = nI 10 from rfl]
        apply s_runs hT (by omega)
        intro G g1 g2
        have gK : G 45 33 = nI K := by rw [g1.2 33 (by decide)]; exact hK
        simp only [Option.toList_some, Option.toList_none, List.cons_append, List.nil_append]
        rw [kX12_votesAs_81, gK]
        refine own 0 x (by decide) G _ (ls ++ [10]) a.1 a.2 e1 gK (by rw [g1.2 34 (by decide)]; exact hb) g2 (by rw [List.length_append]; show ls.length + 1 + _ < _; omega) ?_
        intro H h1 h2
        simp only [Option.toList_some, Option.toList_none, List.cons_append, List.nil_append]
        rw [kX12_votesAs_90, ← e3]
        rw [List.append_assoc] at h2
        exact hq H (FA_tr g1 h1) h2
      rw [eX12_votesAs, kX12_votesAs_0]
      rcases (by omega : k = 0 ∨ k = 1 ∨ k = 2 ∨ k = 3 ∨ k = 4 ∨ k = 5 ∨ k = 6 ∨ k = 7) with rfl | rfl | rfl | rfl | rfl | rfl | rfl | rfl
      · rw [if_neg (by decide), kX12_votesAs_5, if_pos (by decide), kX12_votesAs_25, if_pos (by decide), kX12_votesAs_44, if_pos (by decide)]; exact c10 e
      · rw [if_neg (by decide), kX12_votesAs_5, if_pos (by decide), kX12_votesAs_25, if_pos (by decide), kX12_votesAs_44, if_pos (by decide)]; exact c10 e
      · rw [if_neg (by decide), kX12_votesAs_5, if_pos (by decide), kX12_votesAs_25, if_neg (by decide)]; exact c30 e
      · rw [if_pos (by decide)]; exact c41 e
      · rw [if_neg (by decide), kX12_votesAs_5, if_pos (by decide), kX12_votesAs_25, if_pos (by decide), kX12_votesAs_44, if_pos (by decide)]; exact c10 e
      · rw [if_neg (by decide), kX12_votesAs_5, if_neg (by decide)]; exact c41 e
      · rw [if_neg (by decide), kX12_votesAs_5, if_pos (by decide), kX12_votesAs_25, if_pos (by decide), kX12_votesAs_44, if_pos (by decide)]; exact c10 e
      · rw [if_neg (by decide), kX12_votesAs_5, if_pos (by decide), kX12_votesAs_25, if_pos (by decide), kX12_votesAs_44, if_neg (by decide)]; exact c80 e
    · show wc am_S0 (D' + 1) mX12_movesAs [.ref 45, .int (nI k), .int x] F L Q
      have c40 : po1 40 (pf K (nI b) f 2 2 x) (fun a => a * 3) = some (t, v) → wt am_S0 (D' + 1) mX12_movesAs 10 [some (.ref 45), some (.int (nI k)), some (.int x), none] [] F L Q := by
        intro h
        rw [kX12_movesAs_10]
        exact m_b1 (sup 2 2 x (by decide) (by decide)) h hK hb hT hl (fun G => by
          simp only [Option.toList_some, Option.toList_none, List.cons_append, List.nil_append]
          exact kX12_movesAs_16) (fun u G e => by
          simp only [Option.toList_some, Option.toList_none, List.cons_append, List.nil_append]
          rw [kX12_movesAs_22, e]) hq
      have c50 : po2 50 (pf K (nI b) f 1 2 x) (pf K (nI b) f K 0 2) (fun a b => a - b) = some (t, v) → wt am_S0 (D' + 1) mX12_movesAs 36 [some (.ref 45), some (.int (nI k)), some (.int x), none] [] F L Q := by
        intro h
        rw [kX12_movesAs_36]
        exact m_b2 (sup 1 2 x (by decide) (by decide)) (own 0 2 (by decide)) h hK hb hT hl (fun G _ => by
          simp only [Option.toList_some, Option.toList_none, List.cons_append, List.nil_append]
          exact kX12_movesAs_42) (fun u G gK => by
          simp only [Option.toList_some, Option.toList_none, List.cons_append, List.nil_append]
          rw [kX12_movesAs_48, gK]; rfl) (fun u y G e => by
          simp only [Option.toList_some, Option.toList_none, List.cons_append, List.nil_append]
          rw [kX12_movesAs_59, e]) hq
      have c11 : some ([11], x ^^^ nI b) = some (t, v) → wt am_S0 (D' + 1) mX12_movesAs 61 [some (.ref 45), some (.int (nI k)), some (.int x), none] [] F L Q := by
        intro h
        cases h
        rw [kX12_movesAs_61, show (11 : Int32) = nI 11 from rfl]
        apply s_runs hT (by simp only [List.length_cons, List.length_nil] at hl; omega)
        intro G g1 g2
        simp only [Option.toList_some, Option.toList_none, List.cons_append, List.nil_append]
        rw [kX12_movesAs_67, g1.2 34 (by decide), hb]
        exact hq G g1 g2
      rw [eX12_movesAs, kX12_movesAs_0]
      rcases (by omega : k = 0 ∨ k = 1 ∨ k = 2 ∨ k = 3 ∨ k = 4 ∨ k = 5 ∨ k = 6 ∨ k = 7) with rfl | rfl | rfl | rfl | rfl | rfl | rfl | rfl
      · rw [if_neg (by decide), kX12_movesAs_5, if_pos (by decide), kX12_movesAs_25, if_neg (by decide), kX12_movesAs_30, if_pos (by decide)]; exact c11 e
      · rw [if_neg (by decide), kX12_movesAs_5, if_pos (by decide), kX12_movesAs_25, if_neg (by decide), kX12_movesAs_30, if_pos (by decide)]; exact c11 e
      · rw [if_neg (by decide), kX12_movesAs_5, if_pos (by decide), kX12_movesAs_25, if_neg (by decide), kX12_movesAs_30, if_pos (by decide)]; exact c11 e
      · rw [if_pos (by decide)]; exact c40 e
      · rw [if_neg (by decide), kX12_movesAs_5, if_pos (by decide), kX12_movesAs_25, if_pos (by decide)]; exact c50 e
      · rw [if_neg (by decide), kX12_movesAs_5, if_neg (by decide)]; exact c40 e
      · rw [if_neg (by decide), kX12_movesAs_5, if_pos (by decide), kX12_movesAs_25, if_neg (by decide), kX12_movesAs_30, if_pos (by decide)]; exact c11 e
      · rw [if_neg (by decide), kX12_movesAs_5, if_pos (by decide), kX12_movesAs_25, if_neg (by decide), kX12_movesAs_30, if_neg (by decide)]; exact c50 e
    · show wc am_S0 (D' + 1) mX12_tellsAs [.ref 45, .int (nI k), .int x] F L Q
      have c60 : po1 60 (pf K (nI b) f 3 3 x) (fun a => a ^^^ 5) = some (t, v) → wt am_S0 (D' + 1) mX12_tellsAs 5 [some (.ref 45), some (.int (nI k)), some (.int x), none] [] F L Q := by
        intro h
        rw [kX12_tellsAs_5]
        exact m_b1 (sup 3 3 x (by decide) (by decide)) h hK hb hT hl (fun G => by
          simp only [Option.toList_some, Option.toList_none, List.cons_append, List.nil_append]
          exact kX12_tellsAs_11) (fun u G e => by
          simp only [Option.toList_some, Option.toList_none, List.cons_append, List.nil_append]
          rw [kX12_tellsAs_17, e]) hq
      have c81 : po1 81 (pf K (nI b) f 4 3 x) (fun a => a - 1) = some (t, v) → wt am_S0 (D' + 1) mX12_tellsAs 26 [some (.ref 45), some (.int (nI k)), some (.int x), none] [] F L Q := by
        intro h
        rw [kX12_tellsAs_26]
        exact m_b1 (sup 4 3 x (by decide) (by decide)) h hK hb hT hl (fun G => by
          simp only [Option.toList_some, Option.toList_none, List.cons_append, List.nil_append]
          exact kX12_tellsAs_32) (fun u G e => by
          simp only [Option.toList_some, Option.toList_none, List.cons_append, List.nil_append]
          rw [kX12_tellsAs_38, e]) hq
      have c2 : po2 2 (pf K (nI b) f K 1 x) (pf K (nI b) f K 2 1) (fun a b => a - b) = some (t, v) → wt am_S0 (D' + 1) mX12_tellsAs 41 [some (.ref 45), some (.int (nI k)), some (.int x), none] [] F L Q := by
        intro h
        rw [kX12_tellsAs_41]
        exact m_b2 (own 1 x (by decide)) (own 2 1 (by decide)) h hK hb hT hl (fun G gK => by
          simp only [Option.toList_some, Option.toList_none, List.cons_append, List.nil_append]
          rw [kX12_tellsAs_46, gK]; rfl) (fun u G gK => by
          simp only [Option.toList_some, Option.toList_none, List.cons_append, List.nil_append]
          rw [kX12_tellsAs_55, gK]; rfl) (fun u y G e => by
          simp only [Option.toList_some, Option.toList_none, List.cons_append, List.nil_append]
          rw [kX12_tellsAs_66, e]) hq
      rw [eX12_tellsAs, kX12_tellsAs_0]
      rcases (by omega : k = 0 ∨ k = 1 ∨ k = 2 ∨ k = 3 ∨ k = 4 ∨ k = 5 ∨ k = 6 ∨ k = 7) with rfl | rfl | rfl | rfl | rfl | rfl | rfl | rfl
      · rw [if_pos (by decide), kX12_tellsAs_20, if_pos (by decide)]; exact c2 e
      · rw [if_pos (by decide), kX12_tellsAs_20, if_pos (by decide)]; exact c2 e
      · rw [if_pos (by decide), kX12_tellsAs_20, if_pos (by decide)]; exact c2 e
      · rw [if_pos (by decide), kX12_tellsAs_20, if_pos (by decide)]; exact c2 e
      · rw [if_pos (by decide), kX12_tellsAs_20, if_pos (by decide)]; exact c2 e
      · rw [if_neg (by decide)]; exact c60 e
      · rw [if_pos (by decide), kX12_tellsAs_20, if_pos (by decide)]; exact c2 e
      · rw [if_pos (by decide), kX12_tellsAs_20, if_neg (by decide)]; exact c81 e
