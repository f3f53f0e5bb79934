/-! ===== the law's signs, run by the class ===== -/
def XS (F : am_FT) (cl : Nat → Nat) (len : Nat) (e : Nat → Int32) : Prop := F 6 2 = nI len ∧ (∀ i, i < len → F 7 i = nI (cl i)) ∧ ∀ k, k < 6 → F 6 (3 + k) = e k
theorem XS_8 {F G : am_FT} {cl : Nat → Nat} {len : Nat} {e : Nat → Int32} (h : XS F cl len e) (g : ∀ p, p ≠ 8 → G p = F p) : XS G cl len e := by
  unfold XS
  rw [g 6 (by decide), g 7 (by decide)]
  exact h
def opI (F : am_FT) (x : Int32) : Int32 := if x = 104 then F 6 4 else if x = 105 then x - 1000 else if x = 106 then x - 1000 else if x = 107 then x - 1000 else if x = 108 then x - 1000 else if x = 109 then F 6 5 else if x = 110 then F 6 6 else if x = 111 then x - 1000 else if x = 112 then F 6 8 else if x = 113 then x - 1000 else if x = 114 then x - 1000 else if x = 115 then x - 1000 else if x = 116 then F 6 7 else if x = 117 then x - 1000 else if x = 118 then x - 1000 else if x = 119 then F 6 3 else x - 1000
theorem s_operand {d : Nat} {F : am_FT} {L : am_LT} {Q : am_QT} {x : Int32} : wc am_S0 d mX6_operand [.ref 6, .int x] F L Q = Q (some (.int (opI F x))) F L := by
  unfold opI
  rw [eX6_operand, kX6_operand_0]
  by_cases h104 : x = 104
  · rw [if_pos h104, if_pos h104, kX6_operand_85]
  rw [if_neg h104, if_neg h104]
  by_cases h105 : x = 105
  · rw [if_pos h105, if_pos h105, kX6_operand_110]
  rw [if_neg h105, if_neg h105]
  by_cases h106 : x = 106
  · rw [if_pos h106, if_pos h106, kX6_operand_110]
  rw [if_neg h106, if_neg h106]
  by_cases h107 : x = 107
  · rw [if_pos h107, if_pos h107, kX6_operand_110]
  rw [if_neg h107, if_neg h107]
  by_cases h108 : x = 108
  · rw [if_pos h108, if_pos h108, kX6_operand_110]
  rw [if_neg h108, if_neg h108]
  by_cases h109 : x = 109
  · rw [if_pos h109, if_pos h109, kX6_operand_90]
  rw [if_neg h109, if_neg h109]
  by_cases h110 : x = 110
  · rw [if_pos h110, if_pos h110, kX6_operand_95]
  rw [if_neg h110, if_neg h110]
  by_cases h111 : x = 111
  · rw [if_pos h111, if_pos h111, kX6_operand_110]
  rw [if_neg h111, if_neg h111]
  by_cases h112 : x = 112
  · rw [if_pos h112, if_pos h112, kX6_operand_105]
  rw [if_neg h112, if_neg h112]
  by_cases h113 : x = 113
  · rw [if_pos h113, if_pos h113, kX6_operand_110]
  rw [if_neg h113, if_neg h113]
  by_cases h114 : x = 114
  · rw [if_pos h114, if_pos h114, kX6_operand_110]
  rw [if_neg h114, if_neg h114]
  by_cases h115 : x = 115
  · rw [if_pos h115, if_pos h115, kX6_operand_110]
  rw [if_neg h115, if_neg h115]
  by_cases h116 : x = 116
  · rw [if_pos h116, if_pos h116, kX6_operand_100]
  rw [if_neg h116, if_neg h116]
  by_cases h117 : x = 117
  · rw [if_pos h117, if_pos h117, kX6_operand_110]
  rw [if_neg h117, if_neg h117]
  by_cases h118 : x = 118
  · rw [if_pos h118, if_pos h118, kX6_operand_110]
  rw [if_neg h118, if_neg h118]
  by_cases h119 : x = 119
  · rw [if_pos h119, if_pos h119, kX6_operand_80]
  rw [if_neg h119, if_neg h119]
  rw [kX6_operand_110]
def ofI (x a b : Int32) : Int32 := if x = 38 then (if a = 0 then 0 else if b = 0 then 0 else 1) else if x = 42 then a * b else if x = 43 then a + b else if x = 45 then a - b else if x = 47 then (if b = 0 then 0 else a / b) else if x = 60 then (if b ≤ a then 0 else 1) else if x = 61 then (if a = b then 1 else 0) else if x = 62 then (if a ≤ b then 0 else 1) else if x = 124 then (if a = 0 then (if b = 0 then 0 else 1) else 1) else (if b = 0 then 0 else a - a / b * b)
theorem s_ofTwo {d : Nat} {F : am_FT} {L : am_LT} {Q : am_QT} {x a b : Int32} : wc am_S0 d mX6_ofTwo [.int x, .int a, .int b] F L Q = Q (some (.int (ofI x a b))) F L := by
  unfold ofI
  rw [eX6_ofTwo, kX6_ofTwo_0]
  by_cases h1 : x = 38
  · rw [if_pos h1, if_pos h1, kX6_ofTwo_98]
    by_cases ha : a = 0
    · rw [if_pos ha, if_pos ha, kX6_ofTwo_110, kX6_ofTwo_111]
    · rw [if_neg ha, if_neg ha, kX6_ofTwo_102]
      by_cases hb : b = 0
      · rw [if_pos hb, if_pos hb, kX6_ofTwo_110, kX6_ofTwo_111]
      · rw [if_neg hb, if_neg hb, kX6_ofTwo_106, kX6_ofTwo_111]
  rw [if_neg h1, if_neg h1]
  by_cases h2 : x = 42
  · rw [if_pos h2, if_pos h2, kX6_ofTwo_153]
  rw [if_neg h2, if_neg h2]
  by_cases h3 : x = 43
  · rw [if_pos h3, if_pos h3, kX6_ofTwo_145]
  rw [if_neg h3, if_neg h3]
  by_cases h4 : x = 45
  · rw [if_pos h4, if_pos h4, kX6_ofTwo_149]
  rw [if_neg h4, if_neg h4]
  by_cases h5 : x = 47
  · rw [if_pos h5, if_pos h5, kX6_ofTwo_157]
    by_cases hb : b = 0
    · rw [if_neg (fun hh => hh hb), if_pos hb, kX6_ofTwo_161, kX6_ofTwo_168]
    · rw [if_pos hb, if_neg hb, kX6_ofTwo_165 hb, kX6_ofTwo_168]
  rw [if_neg h5, if_neg h5]
  by_cases h6 : x = 60
  · rw [if_pos h6, if_pos h6, kX6_ofTwo_112]
    by_cases hb : b ≤ a
    · rw [if_pos hb, if_pos hb, kX6_ofTwo_121, kX6_ofTwo_122]
    · rw [if_neg hb, if_neg hb, kX6_ofTwo_117, kX6_ofTwo_122]
  rw [if_neg h6, if_neg h6]
  by_cases h7 : x = 61
  · rw [if_pos h7, if_pos h7, kX6_ofTwo_123]
    by_cases hb : a = b
    · rw [if_neg (fun hh => hh hb), if_pos hb, kX6_ofTwo_128, kX6_ofTwo_133]
    · rw [if_pos hb, if_neg hb, kX6_ofTwo_132, kX6_ofTwo_133]
  rw [if_neg h7, if_neg h7]
  by_cases h8 : x = 62
  · rw [if_pos h8, if_pos h8, kX6_ofTwo_134]
    by_cases hb : a ≤ b
    · rw [if_pos hb, if_pos hb, kX6_ofTwo_143, kX6_ofTwo_144]
    · rw [if_neg hb, if_neg hb, kX6_ofTwo_139, kX6_ofTwo_144]
  rw [if_neg h8, if_neg h8]
  by_cases h9 : x = 124
  · rw [if_pos h9, if_pos h9, kX6_ofTwo_84]
    by_cases ha : a = 0
    · rw [if_neg (fun hh => hh ha), if_pos ha, kX6_ofTwo_88]
      by_cases hb : b = 0
      · rw [if_pos hb, if_pos hb, kX6_ofTwo_96, kX6_ofTwo_97]
      · rw [if_neg hb, if_neg hb, kX6_ofTwo_92, kX6_ofTwo_97]
    · rw [if_pos ha, if_neg ha, kX6_ofTwo_92, kX6_ofTwo_97]
  rw [if_neg h9, if_neg h9, kX6_ofTwo_169]
  by_cases hb : b = 0
  · rw [if_neg (fun hh => hh hb), if_pos hb, kX6_ofTwo_173, kX6_ofTwo_180]
  · rw [if_pos hb, if_neg hb, kX6_ofTwo_177 hb, kX6_ofTwo_180]
theorem i32_nle {a b : Int32} : (¬ b ≤ a) = (a < b) := propext Int32.not_le
theorem ite_le (a b : Int32) : (if b ≤ a then (0 : Int32) else 1) = if a < b then 1 else 0 := by
  by_cases h : b ≤ a
  · rw [if_pos h, if_neg (Int32.not_lt.mpr h)]
  · rw [if_neg h, if_pos (Int32.not_le.mp h)]
theorem lvl_ten : ∀ c, c < 257 → lvl c ≠ 9 → c = 124 ∨ c = 38 ∨ c = 60 ∨ c = 61 ∨ c = 62 ∨ c = 43 ∨ c = 45 ∨ c = 42 ∨ c = 47 ∨ c = 37 := by decide +kernel
theorem of_c {c : Nat} (hc : c < 257) (h : lvl c ≠ 9) (a b : Int32) : ofI (nI c) a b = op2 c a b := by
  rcases lvl_ten c hc h with rfl | rfl | rfl | rfl | rfl | rfl | rfl | rfl | rfl | rfl
  · rfl
  · rfl
  · exact ite_le a b
  · rfl
  · exact ite_le b a
  · rfl
  · rfl
  · rfl
  · rfl
  · rfl
theorem nI_ne {c x : Nat} (hc : c < 2 ^ 31) (hx : x < 2 ^ 31) (h : c ≠ x) : ¬ nI c = nI x := by rw [nI_inj hc hx]; exact h
theorem lv_big {c : Nat} (h1 : 256 ≤ c) (h2 : c < 20000) : lvI (nI c) = -1 := by
  have ne : ∀ x, x < 256 → ¬ nI c = nI x := fun x hx => nI_ne (by omega) (by omega) (by omega)
  unfold lvI
  rw [if_neg (show ¬ nI c = (37 : Int32) from ne 37 (by decide)), if_neg (show ¬ nI c = (38 : Int32) from ne 38 (by decide)), if_neg (show ¬ nI c = (42 : Int32) from ne 42 (by decide)), if_neg (show ¬ nI c = (43 : Int32) from ne 43 (by decide)), if_neg (show ¬ nI c = (45 : Int32) from ne 45 (by decide)), if_neg (show ¬ nI c = (47 : Int32) from ne 47 (by decide)), if_neg (show ¬ nI c = (60 : Int32) from ne 60 (by decide)), if_neg (show ¬ nI c = (61 : Int32) from ne 61 (by decide)), if_neg (show ¬ nI c = (62 : Int32) from ne 62 (by decide)), if_neg (show ¬ nI c = (124 : Int32) from ne 124 (by decide))]
theorem op_big {F : am_FT} {c : Nat} (h2 : c < 10000) : opI F (nI (1000 + c)) = nI c := by
  have ne : ∀ x, x < 256 → ¬ nI (1000 + c) = nI x := fun x hx => nI_ne (by omega) (by omega) (by omega)
  have e : (nI (1000 + c) - 1000 : Int32) = nI c := by
    rw [iI_l, iI_n, iI_n, iI_sub]; congr 1; omega
  unfold opI
  rw [if_neg (show ¬ nI (1000 + c) = (104 : Int32) from ne 104 (by decide)), if_neg (show ¬ nI (1000 + c) = (105 : Int32) from ne 105 (by decide)), if_neg (show ¬ nI (1000 + c) = (106 : Int32) from ne 106 (by decide)), if_neg (show ¬ nI (1000 + c) = (107 : Int32) from ne 107 (by decide)), if_neg (show ¬ nI (1000 + c) = (108 : Int32) from ne 108 (by decide)), if_neg (show ¬ nI (1000 + c) = (109 : Int32) from ne 109 (by decide)), if_neg (show ¬ nI (1000 + c) = (110 : Int32) from ne 110 (by decide)), if_neg (show ¬ nI (1000 + c) = (111 : Int32) from ne 111 (by decide)), if_neg (show ¬ nI (1000 + c) = (112 : Int32) from ne 112 (by decide)), if_neg (show ¬ nI (1000 + c) = (113 : Int32) from ne 113 (by decide)), if_neg (show ¬ nI (1000 + c) = (114 : Int32) from ne 114 (by decide)), if_neg (show ¬ nI (1000 + c) = (115 : Int32) from ne 115 (by decide)), if_neg (show ¬ nI (1000 + c) = (116 : Int32) from ne 116 (by decide)), if_neg (show ¬ nI (1000 + c) = (117 : Int32) from ne 117 (by decide)), if_neg (show ¬ nI (1000 + c) = (118 : Int32) from ne 118 (by decide)), if_neg (show ¬ nI (1000 + c) = (119 : Int32) from ne 119 (by decide)), e]
theorem nmN_six : ∀ c, c < 257 → nmN c < 6 → c = 119 ∨ c = 104 ∨ c = 109 ∨ c = 110 ∨ c = 116 ∨ c = 112 := by decide +kernel
theorem op_nm {F : am_FT} {cl : Nat → Nat} {len c : Nat} {e : Nat → Int32} (h : XS F cl len e) (hc : c < 257) (hN : nmN c < 6) : opI F (nI c) = e (nmN c) := by
  rcases nmN_six c hc hN with rfl | rfl | rfl | rfl | rfl | rfl
  · exact h.2.2 0 (by decide)
  · exact h.2.2 1 (by decide)
  · exact h.2.2 2 (by decide)
  · exact h.2.2 3 (by decide)
  · exact h.2.2 4 (by decide)
  · exact h.2.2 5 (by decide)
theorem lv_nm : ∀ c, c < 257 → nmN c < 6 → lvl c = 9 ∧ c ≠ 59 ∧ c ≠ 63 ∧ c ≠ 33 ∧ c ≠ 256 := by decide +kernel
/-- the head of the loop: the sign is read, nothing is skipped -/
theorem x_head {d k i len : Nat} {F : am_FT} {L : am_LT} {Q : am_QT} {cl : Nat → Nat} {e : Nat → Int32} {l4 l5 : Option Value} (h : XS F cl len e) (hl : len ≤ 121) (hi : i < len) : wt am_S0 (d + 3) mX6_value 18 [some (.ref 6), some (.int (nI k)), some (.int 0), some (.int (nI i)), l4, l5] [] F L Q = wt am_S0 (d + 3) mX6_value 56 [some (.ref 6), some (.int (nI k)), some (.int 0), some (.int (nI i)), some (.int (nI (cl i))), l5] [] F L Q := by
  rw [kX6_value_18, h.1, if_neg (nI_ge hi (by omega)), kX6_value_26, s_at (p := 7) (n := 121) rfl (by decide), rdA_n (by omega) (by decide), h.2.1 i hi]
  simp only [Option.toList_some, Option.toList_none, List.cons_append, List.nil_append]
  rw [kX6_value_34, if_pos rfl]
theorem x_push {d k i len : Nat} {F : am_FT} {L : am_LT} {Q : am_QT} {cl : Nat → Nat} {e : Nat → Int32} {l4 l5 : Option Value} {v : Int32} (h : XS F cl len e) (hl : len ≤ 121) (hi : i < len) (hk : k < 121) (h1 : cl i < 20000) (h2 : cl i ≠ 59) (h3 : cl i ≠ 63) (h4 : cl i ≠ 33) (h5 : cl i ≠ 256) (h6 : lvI (nI (cl i)) = -1) (h7 : opI F (nI (cl i)) = v) : wt am_S0 (d + 3) mX6_value 18 [some (.ref 6), some (.int (nI k)), some (.int 0), some (.int (nI i)), l4, l5] [] F L Q = wt am_S0 (d + 3) mX6_value 18 [some (.ref 6), some (.int (nI (k + 1))), some (.int 0), some (.int (nI (i + 1))), some (.int (nI (cl i))), l5] [] (am_upF F 8 k v) L Q := by
  rw [x_head h hl hi, kX6_value_56, if_pos (show ¬ nI (cl i) = (59 : Int32) from nI_ne (x := 59) (by omega) (by decide) h2), kX6_value_74, if_pos (show ¬ nI (cl i) = (63 : Int32) from nI_ne (x := 63) (by omega) (by decide) h3), kX6_value_104, if_neg (show ¬ nI (cl i) = (33 : Int32) from nI_ne (x := 33) (by omega) (by decide) h4), kX6_value_111, if_pos (show ¬ nI (cl i) = (256 : Int32) from nI_ne (x := 256) (by omega) (by decide) h5), kX6_value_168, s_levelOf, h6]
  simp only [Option.toList_some, Option.toList_none, List.cons_append, List.nil_append]
  rw [kX6_value_173, if_pos (by decide), kX6_value_215, s_operand, h7]
  simp only [Option.toList_some, Option.toList_none, List.cons_append, List.nil_append]
  rw [kX6_value_226, s_lay (p := 8) (n := 121) rfl (by decide), wrA_n hk (by decide)]
  simp only [Option.toList_some, Option.toList_none, List.cons_append, List.nil_append]
  rw [kX6_value_229, kX6_value_232, nI_1, nI_1]
theorem x_un {d k i len : Nat} {F : am_FT} {L : am_LT} {Q : am_QT} {cl : Nat → Nat} {e : Nat → Int32} {l4 l5 : Option Value} {v : Int32} (h : XS F cl len e) (hl : len ≤ 121) (hi : i < len) (hk : k < 121) (h1 : cl i = 33 ∨ cl i = 256) (h7 : F 8 k = v) : wt am_S0 (d + 3) mX6_value 18 [some (.ref 6), some (.int (nI (k + 1))), some (.int 0), some (.int (nI i)), l4, l5] [] F L Q = wt am_S0 (d + 3) mX6_value 18 [some (.ref 6), some (.int (nI (k + 1))), some (.int 0), some (.int (nI (i + 1))), some (.int (nI (cl i))), some (.int v)] [] (am_upF F 8 k (if cl i = 33 then (if v = 0 then 1 else 0) else -v)) L Q := by
  have e33 : (33 : Int32) = nI 33 := rfl
  have e256 : (256 : Int32) = nI 256 := rfl
  have hlay : ∀ x : Int32, ∀ l4 l5 : Option Value, wt am_S0 (d + 3) mX6_value 162 [some (.ref 6), some (.int (nI (k + 1))), some (.int 0), some (.int (nI i)), l4, l5] [.int x, .int (nI k), .ref 8] F L Q = wt am_S0 (d + 3) mX6_value 18 [some (.ref 6), some (.int (nI (k + 1))), some (.int 0), some (.int (nI (i + 1))), l4, l5] [] (am_upF F 8 k x) L Q := by
    intro x l4 l5
    rw [kX6_value_162, s_lay (p := 8) (n := 121) rfl (by decide), wrA_n hk (by decide)]
    simp only [Option.toList_some, Option.toList_none, List.cons_append, List.nil_append]
    rw [kX6_value_165, kX6_value_232, nI_1]
  have hat : wt am_S0 (d + 3) mX6_value 119 [some (.ref 6), some (.int (nI (k + 1))), some (.int 0), some (.int (nI i)), some (.int (nI (cl i))), l5] [] F L Q = wt am_S0 (d + 3) mX6_value 129 [some (.ref 6), some (.int (nI (k + 1))), some (.int 0), some (.int (nI i)), some (.int (nI (cl i))), l5] [.int v] F L Q := by
    rw [kX6_value_119, nI_m1 (by omega), Nat.add_sub_cancel, s_at (p := 8) (n := 121) rfl (by decide), rdA_n hk (by decide), h7]
    simp only [Option.toList_some, Option.toList_none, List.cons_append, List.nil_append]
  rw [x_head h hl hi, kX6_value_56, if_pos (show ¬ nI (cl i) = (59 : Int32) from nI_ne (x := 59) (by omega) (by decide) (by omega)), kX6_value_74, if_pos (show ¬ nI (cl i) = (63 : Int32) from nI_ne (x := 63) (by omega) (by decide) (by omega)), kX6_value_104]
  by_cases h33 : cl i = 33
  · rw [if_pos (show nI (cl i) = (33 : Int32) by rw [h33]; rfl), hat, kX6_value_129, if_pos (show ¬ nI (cl i) = (256 : Int32) from nI_ne (x := 256) (by omega) (by decide) (by omega)), nI_m1 (by omega), Nat.add_sub_cancel, kX6_value_152, if_pos h33]
    by_cases hv : v = 0
    · rw [if_neg (fun hh => hh hv), kX6_value_157, hlay, if_pos hv]
    · rw [if_pos hv, kX6_value_161, hlay, if_neg hv]
  · have h256 : cl i = 256 := by omega
    rw [if_neg (show ¬ nI (cl i) = (33 : Int32) from nI_ne (x := 33) (by omega) (by decide) h33), kX6_value_111, if_neg (fun hh => hh (show nI (cl i) = (256 : Int32) by rw [h256]; rfl)), hat, kX6_value_129, if_neg (fun hh => hh (show nI (cl i) = (256 : Int32) by rw [h256]; rfl)), nI_m1 (by omega), Nat.add_sub_cancel, kX6_value_146, hlay, if_neg h33]
theorem x_bin {d k i len : Nat} {F : am_FT} {L : am_LT} {Q : am_QT} {cl : Nat → Nat} {e : Nat → Int32} {l4 l5 : Option Value} {a b : Int32} (h : XS F cl len e) (hl : len ≤ 121) (hi : i < len) (hk : k + 1 < 121) (hc : cl i < 257) (h1 : lvl (cl i) ≠ 9) (ha : F 8 k = a) (hb : F 8 (k + 1) = b) : wt am_S0 (d + 3) mX6_value 18 [some (.ref 6), some (.int (nI (k + 2))), some (.int 0), some (.int (nI i)), l4, l5] [] F L Q = wt am_S0 (d + 3) mX6_value 18 [some (.ref 6), some (.int (nI (k + 1))), some (.int 0), some (.int (nI (i + 1))), some (.int (nI (cl i))), l5] [] (am_upF F 8 k (op2 (cl i) a b)) L Q := by
  have hb2 : ∀ c, c < 257 → lvl c ≠ 9 → c ≠ 59 ∧ c ≠ 63 ∧ c ≠ 33 ∧ c ≠ 256 ∧ ¬ lvI (nI c) < 0 := by decide +kernel
  obtain ⟨c1, c2, c3, c4, c5⟩ := hb2 _ hc h1
  have e1 : (nI (k + 2) + (-1) : Int32) = nI (k + 1) := by
    rw [iI_n, show (-1 : Int32) = iI (-1) from rfl, iI_add, iI_n]; congr 1; omega
  have e2 : (nI (k + 1) - 1 : Int32) = nI k := by rw [nI_m1 (by omega), Nat.add_sub_cancel]
  rw [x_head h hl hi, kX6_value_56, if_pos (show ¬ nI (cl i) = (59 : Int32) from nI_ne (x := 59) (by omega) (by decide) c1), kX6_value_74, if_pos (show ¬ nI (cl i) = (63 : Int32) from nI_ne (x := 63) (by omega) (by decide) c2), kX6_value_104, if_neg (show ¬ nI (cl i) = (33 : Int32) from nI_ne (x := 33) (by omega) (by decide) c3), kX6_value_111, if_pos (show ¬ nI (cl i) = (256 : Int32) from nI_ne (x := 256) (by omega) (by decide) c4), kX6_value_168, s_levelOf]
  simp only [Option.toList_some, Option.toList_none, List.cons_append, List.nil_append]
  rw [kX6_value_173, if_neg c5, kX6_value_176, e1, e2, s_at (p := 8) (n := 121) rfl (by decide), rdA_n (by omega) (by decide), ha]
  simp only [Option.toList_some, Option.toList_none, List.cons_append, List.nil_append]
  rw [kX6_value_198, s_at (p := 8) (n := 121) rfl (by decide), rdA_n hk (by decide), hb]
  simp only [Option.toList_some, Option.toList_none, List.cons_append, List.nil_append]
  rw [kX6_value_206, s_ofTwo, of_c hc h1]
  simp only [Option.toList_some, Option.toList_none, List.cons_append, List.nil_append]
  rw [kX6_value_209, s_lay (p := 8) (n := 121) rfl (by decide), wrA_n (by omega) (by decide)]
  simp only [Option.toList_some, Option.toList_none, List.cons_append, List.nil_append]
  rw [kX6_value_212, kX6_value_232, nI_1]
