/-! ===== the model's bodies and shelves ===== -/
theorem m_isBody {d nb : Nat} {F : am_FT} {L : am_LT} {Q : am_QT} {x : Int32} (h : F 45 29 = nI nb) (hn : nb ≤ 50) : wc am_S0 (d + 1) mX12_isBody [.ref 45, .int x] F L Q = Q (some (.int (bI (inR x nb)))) F L := by
  rw [eX12_isBody, kX12_isBody_0, h, show (0 : Int64) = Int32.toInt64 0 from rfl, s_mwi, inR_m (by omega)]
  simp only [Option.toList_some, Option.toList_none, List.cons_append, List.nil_append]
  rw [kX12_isBody_13 nb_b]
def gBody (g : am_G) (k : Int32) : Int32 × am_G := if inR k 8 = true then (if (gB g).1 = 50 then (-3, g) else (nI (gB g).1, sB g ((gB g).1 + 1, fun i => if i = (gB g).1 then k.toNatClampNeg else (gB g).2 i))) else (-1, g)
theorem mc_body (g : am_G) (hg : wG g) (x : Int32) : MC mX12_body [.ref 45, .int x] g (.int (gBody g x).1) (gBody g x).2 := by
  intro F L Q hm hq
  have hB := hg.2.2.2.2.1.1
  have e29 : F 45 29 = nI (gB g).1 := hm.2.2.2.2.1.1
  unfold gBody at hq
  rw [eX12_body, kX12_body_0, show (7 : Int64) = (nI 7).toInt64 from rfl, m_w (by decide)]
  simp only [Option.toList_some, Option.toList_none, List.cons_append, List.nil_append]
  rw [kX12_body_9]
  cases hx : inR x 8
  · rw [hx, if_neg (by decide)] at hq
    rw [if_neg (by decide), kX12_body_12]
    exact hq F L (fun _ _ => rfl) (fun _ _ => rfl) hm
  · rw [hx, if_pos rfl] at hq
    rw [if_pos bIt, kX12_body_14, e29]
    by_cases h5 : (gB g).1 = 50
    · rw [if_pos h5] at hq
      rw [if_neg (fun hh => hh (by rw [h5]; rfl)), kX12_body_23]
      exact hq F L (fun _ _ => rfl) (fun _ _ => rfl) hm
    · rw [if_neg h5] at hq
      obtain ⟨k, k1, rfl⟩ := inR_ex hx (by decide)
      rw [nI_clamp (by omega)] at hq
      rw [if_pos (show ¬ nI (gB g).1 = (50 : Int32) from nI_ne (x := 50) (by omega) (by decide) h5), kX12_body_26 (by rw [e29]; exact oobN (by omega) (by decide)), e29, nI_clamp (by omega), nI_1, nI_m1 (by omega), Nat.add_sub_cancel, kX12_body_52]
      apply hq
      · intro p hp; rw [up_o (by omega), up_o (by omega)]
      · intro p _; rfl
      · obtain ⟨h1, h2, h3, h4, h5', h6, h7⟩ := hm
        refine ⟨MV_fr h1 ?_ ?_ ?_ ?_ ?_ ?_, ?_, ?_, ?_, ⟨?_, ?_⟩, ?_, RSm_fr h7 ?_ ?_ rfl⟩
        · simp (disch := decide) only [up_o, up_n]
        · simp (disch := decide) only [up_o, up_n]
        · simp (disch := decide) only [up_o, up_n]
        · simp (disch := decide) only [up_o, up_n]
        · simp (disch := decide) only [up_o, up_n]
        · simp (disch := decide) only [up_o, up_n]
        · simp (disch := decide) only [up_o, up_n]; exact h2
        · simp (disch := decide) only [up_o, up_n]; exact h3
        · simp (disch := decide) only [up_o, up_n]; exact h4
        · exact up_s
        · intro i hi
          have hi' : i < (gB g).1 + 1 := hi
          rw [up_o (by decide)]
          show _ = nI (if i = (gB g).1 then k else (gB g).2 i)
          by_cases he : i = (gB g).1
          · rw [if_pos he, he, up_s]
          · rw [if_neg he, up_n he]
            exact h5'.2 i (by omega)
        · simp (disch := decide) only [up_o, up_n]; exact h6
        · simp (disch := decide) only [up_o, up_n]
        · simp (disch := decide) only [up_o, up_n]
def actR (o : am_O) (g : am_G) : Int32 × am_G := match o with
  | some r => (r.2, sL g r.1)
  | none => (0, sL g [])
def gAct (g : am_G) (b a x : Int32) : Int32 × am_G := if inR b (gB g).1 = true then (if inR a 4 = true then actR (pf ((gB g).2 b.toNatClampNeg) b 12 ((gB g).2 b.toNatClampNeg) a.toNatClampNeg x) g else (0, sL g [])) else (0, sL g [])
theorem mc_act (g : am_G) (hg : wG g) (b a x : Int32) : MC mX12_act [.ref 45, .int b, .int a, .int x] g (.int (gAct g b a x).1) (gAct g b a x).2 := by
  intro F L Q hm hq
  have hB := hg.2.2.2.2.1
  have hB1 := hB.1
  unfold gAct at hq
  obtain ⟨h1, h2, h3, h4, h5, h6, h7⟩ := hm
  have e29 : F 45 29 = nI (gB g).1 := h5.1
  have m0 : ∀ (G : am_FT), FA F G → ∀ ls, RTr (G 45 32) (G 58) ls → Mdl G L (sL g ls) := by
    intro G ga ls ht
    refine ⟨MV_fr h1 (ga.2 6 (by decide)) (ga.2 7 (by decide)) (ga.2 8 (by decide)) (ga.2 12 (by decide)) (ga.1 46 (by decide) (by decide)) (ga.1 51 (by decide) (by decide)), ?_, ?_, ?_, ?_, ht, RSm_fr h7 (ga.1 59 (by decide) (by decide)) (ga.1 60 (by decide) (by decide)) rfl⟩
    · rw [ga.2 10 (by decide), ga.1 50 (by decide) (by decide)]; exact h2
    · rw [ga.2 5 (by decide), ga.2 4 (by decide), ga.1 47 (by decide) (by decide), ga.1 48 (by decide) (by decide), ga.1 49 (by decide) (by decide)]; exact h3
    · rw [ga.2 19 (by decide), ga.2 21 (by decide), ga.2 22 (by decide), ga.2 23 (by decide), ga.2 24 (by decide), ga.2 25 (by decide), ga.1 53 (by decide) (by decide), ga.1 54 (by decide) (by decide), ga.1 55 (by decide) (by decide), ga.1 56 (by decide) (by decide)]; exact h4
    · rw [ga.2 29 (by decide), ga.1 57 (by decide) (by decide)]; exact h5
  have t0 : ∀ f : Nat → Int32, RTr 0 f [] := fun f => ⟨rfl, fun i _ hi => absurd hi (Nat.not_lt_zero i)⟩
  have f0 : FA F (am_upF F 45 32 0) := ⟨fun p a _ => up_o a, fun k hk => up_n hk⟩
  rw [eX12_act, kX12_act_0, m_isBody (nb := (gB g).1) (by rw [up_n (by decide)]; exact e29) hB1]
  simp only [Option.toList_some, Option.toList_none, List.cons_append, List.nil_append]
  rw [kX12_act_10]
  cases hb : inR b (gB g).1
  · rw [hb, if_neg (by decide)] at hq
    rw [if_neg (by decide), kX12_act_13]
    exact hq _ L (fun p hp => up_o (by omega)) (fun _ _ => rfl) (m0 _ f0 [] (by rw [up_s]; exact t0 _))
  · rw [hb, if_pos rfl] at hq
    obtain ⟨n, n1, rfl⟩ := inR_ex hb (by omega)
    rw [nI_clamp (by omega)] at hq
    have hK := hB.2 n n1
    obtain ⟨K, hKe⟩ : ∃ K, (gB g).2 n = K := ⟨_, rfl⟩
    rw [hKe] at hq hK
    have e57 : F 57 n = nI K := by rw [← hKe]; exact h5.2 n n1
    have f1 : FA F (am_upF (am_upF (am_upF F 45 32 0) 45 33 (nI K)) 45 34 (nI n)) → True := fun _ => trivial
    rw [if_pos bIt, kX12_act_15 (oobN (by omega) (by decide)), nI_clamp (by omega), up_o (show (57 : Nat) ≠ 45 by decide), e57]
    obtain ⟨F1, hF1⟩ : ∃ F1, F1 = am_upF (am_upF (am_upF F 45 32 0) 45 33 (nI K)) 45 34 (nI n) := ⟨_, rfl⟩
    rw [← hF1]
    have s33 : F1 45 33 = nI K := by rw [hF1, up_n (by decide), up_s]
    have s34 : F1 45 34 = nI n := by rw [hF1, up_s]
    have s32 : F1 45 32 = 0 := by rw [hF1, up_n (by decide), up_n (by decide), up_s]
    have so : ∀ p, p ≠ 45 → F1 p = F p := fun p hp => by rw [hF1, up_o hp, up_o hp, up_o hp]
    have sk : ∀ k, k ≠ 32 → k ≠ 33 → k ≠ 34 → F1 45 k = F 45 k := fun k a b c => by rw [hF1, up_n c, up_n b, up_n a]
    have m1 : ∀ (G : am_FT), FA F1 G → ∀ ls, RTr (G 45 32) (G 58) ls → Mdl G L (sL g ls) := by
      intro G ga ls ht
      have k : ∀ k, k ≠ 32 → k ≠ 33 → k ≠ 34 → G 45 k = F 45 k := fun k a b c => (ga.2 k a).trans (sk k a b c)
      have o : ∀ p, p ≠ 45 → p ≠ 58 → G p = F p := fun p a b => (ga.1 p a b).trans (so p a)
      refine ⟨MV_fr h1 (k 6 (by decide) (by decide) (by decide)) (k 7 (by decide) (by decide) (by decide)) (k 8 (by decide) (by decide) (by decide)) (k 12 (by decide) (by decide) (by decide)) (o 46 (by decide) (by decide)) (o 51 (by decide) (by decide)), ?_, ?_, ?_, ?_, ht, RSm_fr h7 (o 59 (by decide) (by decide)) (o 60 (by decide) (by decide)) rfl⟩
      · rw [k 10 (by decide) (by decide) (by decide), o 50 (by decide) (by decide)]; exact h2
      · rw [k 5 (by decide) (by decide) (by decide), k 4 (by decide) (by decide) (by decide), o 47 (by decide) (by decide), o 48 (by decide) (by decide), o 49 (by decide) (by decide)]; exact h3
      · rw [k 19 (by decide) (by decide) (by decide), k 21 (by decide) (by decide) (by decide), k 22 (by decide) (by decide) (by decide), k 23 (by decide) (by decide) (by decide), k 24 (by decide) (by decide) (by decide), k 25 (by decide) (by decide) (by decide), o 53 (by decide) (by decide), o 54 (by decide) (by decide), o 55 (by decide) (by decide), o 56 (by decide) (by decide)]; exact h4
      · rw [k 29 (by decide) (by decide) (by decide), o 57 (by decide) (by decide)]; exact h5
    have run : ∀ a', a' < 4 → actR (pf K (nI n) 12 K a' x) g = actR (pf K (nI n) 12 K a.toNatClampNeg x) g → inR a 4 = true → ∀ Qr : am_QT, (∀ v G, Qr (some (.int v)) G L = Q (some (.int v)) G L) → wc am_S0 2046 (actM a') [.ref 45, .int (nI K), .int x] F1 L Qr := by
      intro a' ha' he hin Qr hQr
      rw [hin, if_pos rfl, ← he] at hq
      obtain ⟨r, r1, r2⟩ := pf_all K hK a' ha' (nI n) x
      rw [r1] at hq
      apply m_acts hK 12 K a' 2046 x hK ha' (by decide) F1 Qr [] r.1 r.2 r1 s33 s34 (by rw [s32]; exact t0 _) (by rw [List.length_nil]; omega)
      intro G ga gt
      rw [hQr]
      exact hq G L (fun p hp => (ga.1 p (by omega) (by omega)).trans (so p (by omega))) (fun _ _ => rfl) (m1 G ga _ gt)
    by_cases a0 : a = 0
    · subst a0
      rw [if_pos rfl, kX12_act_60, s33]
      apply run 0 (by decide) rfl rfl
      intro v G
      simp only [Option.toList_some, Option.toList_none, List.cons_append, List.nil_append]
      rw [kX12_act_69]
    · by_cases a1 : a = 1
      · subst a1
        rw [if_neg (by decide), if_pos rfl, kX12_act_70, s33]
        apply run 1 (by decide) rfl rfl
        intro v G
        simp only [Option.toList_some, Option.toList_none, List.cons_append, List.nil_append]
        rw [kX12_act_79]
      · by_cases a2 : a = 2
        · subst a2
          rw [if_neg (by decide), if_neg (by decide), if_pos rfl, kX12_act_80, s33]
          apply run 2 (by decide) rfl rfl
          intro v G
          simp only [Option.toList_some, Option.toList_none, List.cons_append, List.nil_append]
          rw [kX12_act_89]
        · by_cases a3 : a = 3
          · subst a3
            rw [if_neg (by decide), if_neg (by decide), if_neg (by decide), if_pos rfl, kX12_act_90, s33]
            apply run 3 (by decide) rfl rfl
            intro v G
            simp only [Option.toList_some, Option.toList_none, List.cons_append, List.nil_append]
            rw [kX12_act_99]
          · have hin : inR a 4 = false := by
              cases h : inR a 4
              · rfl
              · obtain ⟨k, k1, rfl⟩ := inR_ex h (by decide)
                rcases (by omega : k = 0 ∨ k = 1 ∨ k = 2 ∨ k = 3) with rfl | rfl | rfl | rfl
                · exact absurd rfl a0
                · exact absurd rfl a1
                · exact absurd rfl a2
                · exact absurd rfl a3
            rw [hin, if_neg (by decide)] at hq
            rw [if_neg a0, if_neg a1, if_neg a2, if_neg a3, kX12_act_100]
            refine hq _ L (fun p hp => so p (by omega)) (fun _ _ => rfl) (m1 _ ⟨fun _ _ _ => rfl, fun _ _ => rfl⟩ [] (by rw [s32]; exact t0 _))
def qTrace (g : am_G) (i : Int32) : Int32 := if i < 0 then -1 else if nI (gL g).length ≤ i then -1 else if 24 ≤ i then -1 else nI ((gL g).getD i.toNatClampNeg 0)
theorem mc_trace (g : am_G) (hg : wG g) (x : Int32) : MC mX12_trace [.ref 45, .int x] g (.int (qTrace g x)) g := by
  intro F L Q hm hq
  have hq' : Q (some (.int (qTrace g x))) F L := hq F L (fun _ _ => rfl) (fun _ _ => rfl) hm
  have hl := hg.2.2.2.2.2.1
  have hr := hm.2.2.2.2.2.1
  clear hq
  unfold qTrace at hq'
  rw [eX12_trace, kX12_trace_0]
  by_cases h0 : x < 0
  · rw [if_pos h0] at hq'
    rw [if_pos h0, kX12_trace_27, kX12_trace_28]
    exact hq'
  · rw [if_neg h0] at hq'
    rw [if_neg h0, kX12_trace_4, hr.1]
    by_cases h1 : nI (gL g).length ≤ x
    · rw [if_pos h1] at hq'
      rw [if_pos h1, kX12_trace_27, kX12_trace_28]
      exact hq'
    · rw [if_neg h1] at hq'
      rw [if_neg h1, kX12_trace_12]
      by_cases h2 : 24 ≤ x
      · rw [if_pos h2] at hq'
        rw [if_pos h2, kX12_trace_27, kX12_trace_28]
        exact hq'
      · rw [if_neg h2] at hq'
        obtain ⟨k, k1, rfl⟩ := nI_of h0
        have k24 : k < 24 := by
          apply Nat.lt_of_not_le
          intro h
          exact h2 (nI_le (a := 24) h k1)
        have kl : k < (gL g).length := by
          apply Nat.lt_of_not_le
          intro h
          exact h1 (nI_le h k1)
        rw [nI_clamp k1] at hq'
        rw [if_neg h2, kX12_trace_18 (oobN k24 (by decide)), nI_clamp k1, kX12_trace_28, hr.2 k k24 kl]
        exact hq'
