/-! ===== the face's rows of people ===== -/
def wE (sh : am_Sh) : Prop := ∀ d, d < 6 → sK sh d = 52 → ∀ i, i < 60 → (sE sh d i).toInt32.toInt64 = sE sh d i
theorem fitL_N {w : Nat} {x : Int64} (h : x.toInt32.toInt64 = x) : fitL w x = fitN w x.toInt32 := by
  have h1 : (x < (nI (vLo w)).toInt64) = (x.toInt32 < nI (vLo w)) := by rw [← l64_lt, h]
  have h2 : ((nI (vHi w)).toInt64 < x) = (nI (vHi w) < x.toInt32) := by rw [← l64_lt, h]
  unfold fitL fitN
  simp only [h1, h2]
theorem at_i {i c : Nat} (hi : i < 2 ^ 31) (hc : c < 10) : ((nI i).toInt64 + (3 * nI c).toInt64).toInt = (i : Int) + 3 * c := by
  have e : (3 * nI c : Int32) = nI (3 * c) := by
    rw [iI_l, iI_n, iI_n, iI_mul]; congr 1
  rw [e, Int64.toInt_add, Int32.toInt_toInt64, Int32.toInt_toInt64, nI_toInt (by omega), nI_toInt (by omega), Int.bmod_eq_of_le (by omega) (by omega)]
  omega
theorem c_comesFrom {D j i c : Nat} {F : am_FT} {L : am_LT} {Q : am_QT} {v : am_V} {el : Nat → Int64} {M : Nat} (h : RLand (F 1) (F 2) v) (hv : wV v) (hj : j < 6) (hc : c < 10) (hi : i < 2 ^ 31) (hM : M ≤ 60) (h1 : F (33 + 2 * j) 1 ≠ -1) (h2 : F (33 + 2 * j) 2 = nI M) (hE : ∀ i, i < 60 → L (34 + 2 * j) i = el i) (hs : ∀ i, i < 60 → (el i).toInt32.toInt64 = el i) (hq0 : pplOk el M i c v = false → Q (some (.int 0)) F L) (hq1 : pplOk el M i c v = true → ∀ G : am_FT, (∀ p, p ≠ 1 → p ≠ 2 → G p = F p) → RLand (G 1) (G 2) (vaP v (eN el (i + 3 * c)) (eN el (i + 3 * c + 1)) (eN el (i + 3 * c + 2))) → Q (some (.int 1)) G L) : wc am_S0 (D + 3) mX11_comesFrom [.ref 0, .ref (33 + 2 * j), .long ((nI i).toInt64 + (3 * nI c).toInt64)] F L Q := by
  have hP := hv.2.1
  have eo : pplOk el M i c v = (decide (i + 3 * c + 3 ≤ M) && (decide (vP v < 10) && (fitL 4 (el (i + 3 * c)) && (fitL 5 (el (i + 3 * c + 1)) && fitL 6 (el (i + 3 * c + 2)))))) := rfl
  have ha := at_i hi hc
  obtain ⟨x, hx⟩ : ∃ x, (nI i).toInt64 + (3 * nI c).toInt64 = x := ⟨_, rfl⟩
  rw [hx] at ha ⊢
  have b27 : ∀ l3 l4 l5 l6 l7 : Option Value, pplOk el M i c v = false → wt am_S0 (D + 3) mX11_comesFrom 27 [some (.ref 0), some (.ref (33 + 2 * j)), some (.long x), l3, l4, l5, l6, l7] [] F L Q := by
    intro l3 l4 l5 l6 l7 hb
    rw [kX11_comesFrom_27]
    exact hq0 hb
  have b104 : ∀ l3 l4 l5 l6 l7 : Option Value, pplOk el M i c v = false → wt am_S0 (D + 3) mX11_comesFrom 104 [some (.ref 0), some (.ref (33 + 2 * j)), some (.long x), l3, l4, l5, l6, l7] [] F L Q := by
    intro l3 l4 l5 l6 l7 hb
    rw [kX11_comesFrom_104]
    exact hq0 hb
  rw [eX11_comesFrom, kX11_comesFrom_0 (shP_j hj).1, s_isRow (shP_j hj), decide_eq_false h1]
  simp only [Option.toList_some, Option.toList_none, List.cons_append, List.nil_append]
  rw [kX11_comesFrom_4, if_neg (by decide), kX11_comesFrom_7]
  simp only [lgc_lt]
  rw [if_neg (show ¬ x < 0 by rw [Int64.lt_iff_toInt_lt, ha]; show ¬ _ < (0 : Int); omega), kX11_comesFrom_13 (shP_j hj).1, s_size (shP_j hj), h2]
  simp only [Option.toList_some, Option.toList_none, List.cons_append, List.nil_append]
  rw [kX11_comesFrom_22]
  have a3 : (x + 3).toInt = (i : Int) + 3 * c + 3 := by
    rw [Int64.toInt_add, ha, show (3 : Int64).toInt = 3 from rfl, Int.bmod_eq_of_le (by omega) (by omega)]
  have hle : (lg_cmp (x + 3) (nI M).toInt64 ≤ 0) = (i + 3 * c + 3 ≤ M) := by
    have hg := lgc_gt (x + 3) (nI M).toInt64
    rw [Int64.lt_iff_toInt_lt, a3, Int32.toInt_toInt64, nI_toInt (by omega)] at hg
    have hn : (lg_cmp (x + 3) (nI M).toInt64 ≤ 0) = ¬ (0 < lg_cmp (x + 3) (nI M).toInt64) := by
      obtain ⟨z, z1, z2, hz⟩ := iI_ex (lg_cmp (x + 3) (nI M).toInt64)
      rw [hz]
      simp (disch := omega) only [iI_n, iI_l, iI_neg, iI_add, iI_sub, iI_mul, iI_div, iI_lt, iI_le, iI_eq]
      exact propext ⟨fun h => by omega, fun h => by omega⟩
    rw [hn, hg]
    exact propext ⟨fun h => by omega, fun h => by omega⟩
  by_cases hm : i + 3 * c + 3 ≤ M
  · rw [decide_eq_true hm, Bool.true_and] at eo
    rw [if_pos (hle.mpr hm)]
    have ex : x.toInt32 = nI (i + 3 * c) := by
      rw [← Int32.toInt_inj, nI_toInt (by omega), Int64.toInt_toInt32, ha, Int.bmod_eq_of_le (by omega) (by omega)]
      omega
    have ea2 : nI (i + 3 * c) + 2 = nI (i + 3 * c + 2) := nI_add _ 2
    rw [kX11_comesFrom_29 (shP_j hj).1, ex, s_valueAt (shP_j hj) (by omega), hE _ (by omega)]
    simp only [Option.toList_some, Option.toList_none, List.cons_append, List.nil_append]
    rw [kX11_comesFrom_39 (shP_j hj).1, nI_1, s_valueAt (shP_j hj) (by omega), hE _ (by omega)]
    simp only [Option.toList_some, Option.toList_none, List.cons_append, List.nil_append]
    rw [kX11_comesFrom_50 (shP_j hj).1, ea2, s_valueAt (shP_j hj) (by omega), hE _ (by omega)]
    simp only [Option.toList_some, Option.toList_none, List.cons_append, List.nil_append]
    rw [fitL_N (hs _ (by omega)), fitL_N (hs _ (by omega)), fitL_N (hs _ (by omega))] at eo
    rw [kX11_comesFrom_61, s_fits, fit_4]
    simp only [Option.toList_some, Option.toList_none, List.cons_append, List.nil_append]
    rw [kX11_comesFrom_74]
    cases f4 : fitN 4 (el (i + 3 * c)).toInt32
    · rw [f4, Bool.false_and, Bool.and_false] at eo
      rw [if_pos bIf]; exact b104 _ _ _ _ _ eo
    rw [f4, Bool.true_and] at eo
    rw [if_neg bIt, kX11_comesFrom_77, s_fits, fit_5]
    simp only [Option.toList_some, Option.toList_none, List.cons_append, List.nil_append]
    rw [kX11_comesFrom_87]
    cases f5 : fitN 5 (el (i + 3 * c + 1)).toInt32
    · rw [f5, Bool.false_and, Bool.and_false] at eo
      rw [if_pos bIf]; exact b104 _ _ _ _ _ eo
    rw [f5, Bool.true_and] at eo
    rw [if_neg bIt, kX11_comesFrom_90, s_fits, fit_6]
    simp only [Option.toList_some, Option.toList_none, List.cons_append, List.nil_append]
    rw [kX11_comesFrom_101]
    cases f6 : fitN 6 (el (i + 3 * c + 2)).toInt32
    · rw [f6, Bool.and_false] at eo
      rw [if_neg (by decide)]; exact b104 _ _ _ _ _ eo
    rw [f6, Bool.and_true] at eo
    obtain ⟨k4, l4, u4, t4⟩ := fitN_ex f4
    obtain ⟨k5, l5, u5, t5⟩ := fitN_ex f5
    obtain ⟨k6, l6, u6, t6⟩ := fitN_ex f6
    have u4' : k4 ≤ 255 := u4
    have u5' : k5 ≤ 63 := u5
    have u6' : k6 ≤ 3 := u6
    unfold eN at hq1
    rw [t4, t5, t6, nI_clamp (by omega), nI_clamp (by omega), nI_clamp (by omega)] at hq1
    rw [if_pos bIt, kX11_comesFrom_106, t4, t5, t6]
    apply c_addPerson h hv
    · intro h10
      rw [decide_eq_false (show ¬ vP v < 10 by omega)] at eo
      simp only [Option.toList_some, Option.toList_none, List.cons_append, List.nil_append]
      rw [kX11_comesFrom_119, if_pos rfl, kX11_comesFrom_128, kX11_comesFrom_129 rfl]
      exact hq0 eo
    · intro h10 G g1 g2
      rw [decide_eq_true h10] at eo
      simp only [Option.toList_some, Option.toList_none, List.cons_append, List.nil_append]
      have n3 : ¬ nI (vP v) = (-3 : Int32) := by
        have e1 : (-3 : Int32) = iI (-3) := rfl
        rw [e1, iI_n, iI_eq (by omega) (by omega) (by omega) (by omega)]
        omega
      rw [kX11_comesFrom_119, if_neg n3, kX11_comesFrom_124, kX11_comesFrom_129 rfl]
      exact hq1 eo G g1 g2
  · rw [decide_eq_false hm, Bool.false_and] at eo
    rw [if_neg (fun hh => hm (hle.mp hh))]
    exact b27 _ _ _ _ _ eo
theorem c_ppl_loop {D d i n M : Nat} {L : am_LT} {Q : am_QT} {g0 : am_G} {el : Nat → Int64} {l1 : Option Value} (hd : d < 6) (hi : i < 2 ^ 31) (hn : n ≤ 10) (hM : M ≤ 60) (hel : sE (gS g0) d = el) (hMM : sM (gS g0) d = M) (hK : sK (gS g0) d = 52) (hs : ∀ i, i < 60 → (el i).toInt32.toInt64 = el i) : ∀ (f c : Nat) (v : am_V) (F : am_FT), c + f = n → Cls F L (sV g0 v) → (∀ G : am_FT, (∀ p, 45 ≤ p → G p = F p) → Cls G L (sV g0 (ppl el M i f c v).2) → Q (some (.int (nI (ppl el M i f c v).1))) G L) → wt am_S0 (D + 4) mX11_people 50 [some (.ref 0), l1, some (.int (nI i)), some (.int (nI n)), some (.ref (33 + 2 * d)), some (.int (nI c)), some (.int (nI c))] [] F L Q := by
  intro f
  induction f with
  | zero =>
    intro c v F hc hm hq
    have : c = n := by omega
    subst this
    rw [kX11_people_50, if_pos (nI_le (Nat.le_refl _) (by omega)), kX11_people_85]
    exact hq F (fun _ _ => rfl) hm
  | succ f ih =>
    intro c v F hc hm hq
    have hv : wV v := hm.1.2.1
    have hr := hm.2.2.2.2.2.2 d hd
    have er : ppl el M i (f + 1) c v = if pplOk el M i c v = true then ppl el M i f (c + 1) (vaP v (eN el (i + 3 * c)) (eN el (i + 3 * c + 1)) (eN el (i + 3 * c + 2))) else (c, v) := rfl
    have eo : pplOk el M i c v = (decide (i + 3 * c + 3 ≤ M) && (decide (vP v < 10) && (fitL 4 (el (i + 3 * c)) && (fitL 5 (el (i + 3 * c + 1)) && fitL 6 (el (i + 3 * c + 2)))))) := rfl
    have r1 : F (33 + 2 * d) 1 = nI 1 := by
      rw [hr.1]
      show shK (sK (gS g0) d) = _
      rw [hK]; rfl
    have r2 : F (33 + 2 * d) 2 = nI M := by
      rw [hr.2.1]
      show nI (sM (gS g0) d) = _
      rw [hMM]
    have r4 : ∀ i, i < 60 → L (34 + 2 * d) i = el i := fun i hi => by
      rw [hr.2.2.2 i hi]
      show sE (gS g0) d i = _
      rw [hel]
    rw [kX11_people_50, if_neg (nI_ge (by omega) (by omega)), kX11_people_56]
    apply c_comesFrom (D := D) (v := v) (el := el) (M := M) hm.1.1 hv hd (by omega) hi hM (by rw [r1]; decide) r2 r4 hs
    · intro hb
      rw [hb, if_neg (by decide)] at er
      rw [er] at hq
      simp only [Option.toList_some, Option.toList_none, List.cons_append, List.nil_append]
      rw [kX11_people_70, if_neg (by decide), kX11_people_73, kX11_people_85]
      exact hq F (fun _ _ => rfl) hm
    · intro hb G g1 g2
      rw [hb, if_pos rfl] at er
      rw [er] at hq
      rw [hb] at eo
      have eo' := eo.symm
      simp only [Bool.and_eq_true] at eo'
      obtain ⟨_, h10, f4, f5, f6⟩ := eo'
      have h10' := of_decide_eq_true h10
      obtain ⟨k4, l4, u4, t4, _⟩ := fitL_ex (by decide) f4
      obtain ⟨k5, l5, u5, t5, _⟩ := fitL_ex (by decide) f5
      obtain ⟨k6, l6, u6, t6, _⟩ := fitL_ex (by decide) f6
      have u4' : k4 ≤ 255 := u4
      have u5' : k5 ≤ 63 := u5
      have u6' : k6 ≤ 3 := u6
      have n4 : eN el (i + 3 * c) = k4 := by unfold eN; rw [t4, nI_clamp (by omega)]
      have n5 : eN el (i + 3 * c + 1) = k5 := by unfold eN; rw [t5, nI_clamp (by omega)]
      have n6 : eN el (i + 3 * c + 2) = k6 := by unfold eN; rw [t6, nI_clamp (by omega)]
      rw [n4, n5, n6] at hq g2
      simp only [Option.toList_some, Option.toList_none, List.cons_append, List.nil_append]
      rw [kX11_people_70, if_pos (by decide), kX11_people_76, nI_1]
      exact ih (c + 1) (vaP v k4 k5 k6) G (by omega) (Cls_ld (g := sV g0 v) hm g1 g2 (wV_aP hv h10' u4' u5' u6') rfl) fun H h1 h2 => hq H (fun p hp => (h1 p hp).trans (g1 p (by omega) (by omega))) h2
theorem cc_people (g : am_G) (hg : wG g) (he : wE (gS g)) (x y n : Int32) : CC mX11_people [.ref 0, .int x, .int y, .int n] g (.int (gPeople g x y n).1) (gPeople g x y n).2 := by
  intro F L Q hm hq
  have hS := hg.2.2.2.2.2.2
  have hr := hm.2.2.2.2.2.2
  unfold gPeople at hq
  rw [eX11_people, kX11_people_0]
  cases hx : inR x 6
  · rw [hx, Bool.false_and, if_neg (by decide)] at hq
    rw [c_shelfN hx]
    simp only [Option.toList_some, Option.toList_none, List.cons_append, List.nil_append]
    rw [kX11_people_5N, kX11_people_22]
    exact hq F L (fun _ _ => rfl) (fun _ _ => rfl) hm
  obtain ⟨a, a1, rfl⟩ := inR_ex hx (by decide)
  have ha := hS a a1
  rw [hx, Bool.true_and, nI_clamp (by omega)] at hq
  rw [c_shelf a1]
  simp only [Option.toList_some, Option.toList_none, List.cons_append, List.nil_append]
  rw [kX11_people_5, kX11_people_12, s_within, wi_b]
  simp only [Option.toList_some, Option.toList_none, List.cons_append, List.nil_append]
  rw [kX11_people_19]
  cases hn : decide (¬ n < 1 ∧ ¬ 10 < n)
  · rw [hn, if_neg (by decide)] at hq
    rw [if_neg (by decide), kX11_people_22]
    exact hq F L (fun _ _ => rfl) (fun _ _ => rfl) hm
  rw [hn, if_pos (show true = true from rfl)] at hq
  obtain ⟨m, m1, m2, rfl⟩ := wi_ex (a := 1) (b := 10) (by decide) (by decide) hn
  rw [nI_clamp (by omega)] at hq
  have z0 : (some (.int 0) : Option Value) = some (.int (nI 0)) := rfl
  rw [if_pos bIt, kX11_people_24 (shP_j a1).1, c_isEmpty hr hS a1]
  simp only [Option.toList_some, Option.toList_none, List.cons_append, List.nil_append]
  rw [kX11_people_29]
  by_cases h0 : sK (gS g) a = 0
  · rw [if_pos h0] at hq
    rw [decide_eq_true h0, if_pos bIt, kX11_people_44, kX11_people_50, if_neg (show ¬ nI m ≤ (0 : Int32) from nI_ge (a := 0) (by omega) (by omega)), kX11_people_56, eX11_comesFrom, kX11_comesFrom_0 (shP_j a1).1, c_isRow hr hS a1, decide_eq_true (show sK (gS g) a ≤ 50 by omega)]
    simp only [Option.toList_some, Option.toList_none, List.cons_append, List.nil_append]
    rw [kX11_comesFrom_4, if_pos (show bI (!true) = 0 from rfl), kX11_comesFrom_27]
    simp only [Option.toList_some, Option.toList_none, List.cons_append, List.nil_append]
    rw [kX11_people_70, if_neg (by decide), kX11_people_73, kX11_people_85]
    exact hq F L (fun _ _ => rfl) (fun _ _ => rfl) hm
  rw [if_neg h0] at hq
  rw [decide_eq_false h0, if_neg (by decide), kX11_people_32 (shP_j a1).1, show (1 : Int32) = nI 1 from rfl, c_isRowOf hr hS a1 (by decide)]
  simp only [Option.toList_some, Option.toList_none, List.cons_append, List.nil_append]
  rw [kX11_people_38]
  by_cases h52 : sK (gS g) a = 52
  · rw [if_pos h52] at hq
    rw [decide_eq_true (show sK (gS g) a = 51 + 1 from h52), if_pos bIt, kX11_people_44]
    by_cases hy : y < 0
    · rw [if_pos hy] at hq
      have r1 : F (33 + 2 * a) 1 = nI 1 := by rw [(hr a a1).1, h52]; rfl
      rw [kX11_people_50, if_neg (show ¬ nI m ≤ (0 : Int32) from nI_ge (a := 0) (by omega) (by omega)), kX11_people_56, eX11_comesFrom, kX11_comesFrom_0 (shP_j a1).1, c_isRow hr hS a1, decide_eq_false (show ¬ sK (gS g) a ≤ 50 by omega)]
      simp only [Option.toList_some, Option.toList_none, List.cons_append, List.nil_append]
      rw [kX11_comesFrom_4, if_neg (by decide), kX11_comesFrom_7]
      simp only [lgc_lt]
      have hneg : y.toInt64 + (3 * (0 : Int32)).toInt64 < 0 := by
        rw [show (3 * (0 : Int32)).toInt64 = 0 from rfl, Int64.add_zero, show (0 : Int64) = (0 : Int32).toInt64 from rfl, l64_lt]
        exact hy
      rw [if_pos hneg, kX11_comesFrom_27]
      simp only [Option.toList_some, Option.toList_none, List.cons_append, List.nil_append]
      rw [kX11_people_70, if_neg (by decide), kX11_people_73, kX11_people_85]
      exact hq F L (fun _ _ => rfl) (fun _ _ => rfl) hm
    · rw [if_neg hy] at hq
      obtain ⟨i, hi, rfl⟩ := nI_of hy
      rw [nI_clamp hi] at hq
      rw [z0]
      exact c_ppl_loop (D := 2043) (g0 := g) a1 hi m2 ha.2.1 rfl rfl h52 (he a a1 h52) m 0 (gV g) F (by omega) hm fun G g1 g2 => hq G L g1 (fun _ _ => rfl) g2
  · rw [if_neg h52] at hq
    rw [decide_eq_false (show ¬ sK (gS g) a = 51 + 1 from h52), if_neg (by decide), kX11_people_41]
    exact hq F L (fun _ _ => rfl) (fun _ _ => rfl) hm
