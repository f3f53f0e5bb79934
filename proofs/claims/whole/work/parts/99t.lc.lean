/-! ===== the law's loop (mk_loop.py) ===== -/
theorem and63 (x : Int32) : ∃ k, k < 64 ∧ x &&& 63 = nI k := by
  refine ⟨(x.toBitVec &&& 63#32).toNat, ?_, Int32.toBitVec_inj.1 ?_⟩
  · rw [BitVec.toNat_and]
    exact Nat.lt_of_le_of_lt Nat.and_le_right (by decide)
  · rw [Int32.toBitVec_and]
    exact BitVec.eq_of_toNat_eq (Nat.mod_eq_of_lt (x.toBitVec &&& 63#32).isLt).symm
theorem lw_sw : decode mL_law.2.2.1 33 = .ok (.tableswitch 1491 0 41 #[183, 216, 249, 292, 335, 368, 391, 404, 427, 460, 483, 506, 539, 572, 595, 639, 672, 705, 738, 771, 804, 847, 880, 913, 956, 969, 1002, 1025, 1048, 1061, 1074, 1087, 1100, 1123, 1166, 1189, 1222, 1265, 1338, 1372, 1435, 1468], 183) := by decide +kernel
/-- the loop, from 18, for the script of n numbers -/
theorem lw_loop {n : Nat} {xs : Nat → Int32} {Q : am_QT} (hn : n ≤ 3072) (hQ : ∀ (F : am_FT) (L : am_LT), Q (some (.int 1)) F L) : ∀ (f i : Nat) (F : am_FT) (L : am_LT) (g : am_G), n < i + f → i < n + 10 → wA g → Mdl F L g → Cls F L g → wl (am_Zl n xs) 2048 mL_law 18 (lvL i) [] F L Q := by
  intro f
  induction f with
  | zero =>
    intro i F L g hf hi hw hM hC
    apply wl_iload_n (n := 3) (x := nI i) (by decide +kernel) rfl
    apply wl_aload_n (n := 0) (x := .ref 1005) (by decide +kernel) rfl rfl
    apply wl_len (by decide +kernel)
    apply wl_bipush (n := 6) (v := 6) (by decide +kernel) rfl
    apply wl_isub (by decide +kernel)
    apply wl_gtT (off := 1506) (t := 1530) (by decide +kernel) rfl (by
      simp (disch := omega) only [iI_n, iI_l, iI_neg, iI_add, iI_sub, iI_mul, iI_div, iI_lt, iI_le, iI_eq]
      omega)
    apply wl_iconst (n := 1) (v := 1) (by decide +kernel) rfl
    exact wl_ret (r := some (.int 1)) (i := .ireturn) (len := 1) (by decide +kernel) rfl (hQ F L)
  | succ f ih =>
    intro i F L g hf hi hw hM hC
    apply wl_iload_n (n := 3) (x := nI i) (by decide +kernel) rfl
    apply wl_aload_n (n := 0) (x := .ref 1005) (by decide +kernel) rfl rfl
    apply wl_len (by decide +kernel)
    apply wl_bipush (n := 6) (v := 6) (by decide +kernel) rfl
    apply wl_isub (by decide +kernel)
    by_cases h6 : n < i + 6
    · apply wl_gtT (off := 1506) (t := 1530) (by decide +kernel) rfl (by
        simp (disch := omega) only [iI_n, iI_l, iI_neg, iI_add, iI_sub, iI_mul, iI_div, iI_lt, iI_le, iI_eq]
        omega)
      apply wl_iconst (n := 1) (v := 1) (by decide +kernel) rfl
      exact wl_ret (r := some (.int 1)) (i := .ireturn) (len := 1) (by decide +kernel) rfl (hQ F L)
    · have hi6 : i + 6 ≤ n := by omega
      have hn31 : n < 2 ^ 31 := by omega
      apply wl_gtF (off := 1506) (t := 1530) (by decide +kernel) rfl (by
        simp (disch := omega) only [iI_n, iI_l, iI_neg, iI_add, iI_sub, iI_mul, iI_div, iI_lt, iI_le, iI_eq]
        omega)
      apply wl_aload_n (n := 0) (x := .ref 1005) (by decide +kernel) rfl rfl
      apply wl_iload_n (n := 3) (x := nI i) (by decide +kernel) rfl
      apply wl_ld (by decide +kernel) (show i < n by omega) hn31
      apply wl_bipush (n := 63) (v := 63) (by decide +kernel) rfl
      apply wl_iand (by decide +kernel)
      obtain ⟨k, k1, k2⟩ := and63 (xs i)
      rw [k2]
      have next : ∀ (G : am_FT) (K : am_LT) (g' : am_G), wA g' → Mdl G K g' → Cls G K g' → wl (am_Zl n xs) 2048 mL_law 1524 (lvL i) [] G K Q := by
        intro G K g' a b c
        apply wl_iinc (n := 3) (k := 6) (x := nI i) (v := 6) (lv1 := lvL (i + 6)) (by decide +kernel) rfl (Nat.le_of_ble_eq_true rfl) rfl (by
          rw [show nI i + 6 = nI (i + 6) from nI_add i 6]; rfl)
        apply wl_goto (off := -1509) (t := 18) (by decide +kernel) rfl
        exact ih (i + 6) G K g' (by omega) (by omega) a b c
      by_cases k42 : 42 ≤ k
      · apply wl_tableO lw_sw (Or.inr (by rw [nI_toInt (by omega)]; omega)) (t := 1524) rfl
        exact next F L g hw hM hC
      · rcases (by omega : k = 0 ∨ k = 1 ∨ k = 2 ∨ k = 3 ∨ k = 4 ∨ k = 5 ∨ k = 6 ∨ k = 7 ∨ k = 8 ∨ k = 9 ∨ k = 10 ∨ k = 11 ∨ k = 12 ∨ k = 13 ∨ k = 14 ∨ k = 15 ∨ k = 16 ∨ k = 17 ∨ k = 18 ∨ k = 19 ∨ k = 20 ∨ k = 21 ∨ k = 22 ∨ k = 23 ∨ k = 24 ∨ k = 25 ∨ k = 26 ∨ k = 27 ∨ k = 28 ∨ k = 29 ∨ k = 30 ∨ k = 31 ∨ k = 32 ∨ k = 33 ∨ k = 34 ∨ k = 35 ∨ k = 36 ∨ k = 37 ∨ k = 38 ∨ k = 39 ∨ k = 40 ∨ k = 41) with rfl | rfl | rfl | rfl | rfl | rfl | rfl | rfl | rfl | rfl | rfl | rfl | rfl | rfl | rfl | rfl | rfl | rfl | rfl | rfl | rfl | rfl | rfl | rfl | rfl | rfl | rfl | rfl | rfl | rfl | rfl | rfl | rfl | rfl | rfl | rfl | rfl | rfl | rfl | rfl | rfl | rfl
        · exact wl_tableI lw_sw (off := 183) (t := 216) (by decide) (by decide) rfl (lw_0 hi6 hn31 hw hM hC next)
        · exact wl_tableI lw_sw (off := 216) (t := 249) (by decide) (by decide) rfl (lw_1 hi6 hn31 hw hM hC next)
        · exact wl_tableI lw_sw (off := 249) (t := 282) (by decide) (by decide) rfl (lw_2 hi6 hn31 hw hM hC next)
        · exact wl_tableI lw_sw (off := 292) (t := 325) (by decide) (by decide) rfl (lw_3 hi6 hn31 hw hM hC next)
        · exact wl_tableI lw_sw (off := 335) (t := 368) (by decide) (by decide) rfl (lw_4 hi6 hn31 hw hM hC next)
        · exact wl_tableI lw_sw (off := 368) (t := 401) (by decide) (by decide) rfl (lw_5 hi6 hn31 hw hM hC next)
        · exact wl_tableI lw_sw (off := 391) (t := 424) (by decide) (by decide) rfl (lw_6 hi6 hn31 hw hM hC next)
        · exact wl_tableI lw_sw (off := 404) (t := 437) (by decide) (by decide) rfl (lw_7 hi6 hn31 hw hM hC next)
        · exact wl_tableI lw_sw (off := 427) (t := 460) (by decide) (by decide) rfl (lw_8 hi6 hn31 hw hM hC next)
        · exact wl_tableI lw_sw (off := 460) (t := 493) (by decide) (by decide) rfl (lw_9 hi6 hn31 hw hM hC next)
        · exact wl_tableI lw_sw (off := 483) (t := 516) (by decide) (by decide) rfl (lw_10 hi6 hn31 hw hM hC next)
        · exact wl_tableI lw_sw (off := 506) (t := 539) (by decide) (by decide) rfl (lw_11 hi6 hn31 hw hM hC next)
        · exact wl_tableI lw_sw (off := 539) (t := 572) (by decide) (by decide) rfl (lw_12 hi6 hn31 hw hM hC next)
        · exact wl_tableI lw_sw (off := 572) (t := 605) (by decide) (by decide) rfl (lw_13 hi6 hn31 hw hM hC next)
        · exact wl_tableI lw_sw (off := 595) (t := 628) (by decide) (by decide) rfl (lw_14 hi6 hn31 hw hM hC next)
        · exact wl_tableI lw_sw (off := 639) (t := 672) (by decide) (by decide) rfl (lw_15 hi6 hn31 hw hM hC next)
        · exact wl_tableI lw_sw (off := 672) (t := 705) (by decide) (by decide) rfl (lw_16 hi6 hn31 hw hM hC next)
        · exact wl_tableI lw_sw (off := 705) (t := 738) (by decide) (by decide) rfl (lw_17 hi6 hn31 hw hM hC next)
        · exact wl_tableI lw_sw (off := 738) (t := 771) (by decide) (by decide) rfl (lw_18 hi6 hn31 hw hM hC next)
        · exact wl_tableI lw_sw (off := 771) (t := 804) (by decide) (by decide) rfl (lw_19 hi6 hn31 hw hM hC next)
        · exact wl_tableI lw_sw (off := 804) (t := 837) (by decide) (by decide) rfl (lw_20 hi6 hn31 hw hM hC next)
        · exact wl_tableI lw_sw (off := 847) (t := 880) (by decide) (by decide) rfl (lw_21 hi6 hn31 hw hM hC next)
        · exact wl_tableI lw_sw (off := 880) (t := 913) (by decide) (by decide) rfl (lw_22 hi6 hn31 hw hM hC next)
        · exact wl_tableI lw_sw (off := 913) (t := 946) (by decide) (by decide) rfl (lw_23 hi6 hn31 hw hM hC next)
        · exact wl_tableI lw_sw (off := 956) (t := 989) (by decide) (by decide) rfl (lw_24 hi6 hn31 hw hM hC next)
        · exact wl_tableI lw_sw (off := 969) (t := 1002) (by decide) (by decide) rfl (lw_25 hi6 hn31 hw hM hC next)
        · exact wl_tableI lw_sw (off := 1002) (t := 1035) (by decide) (by decide) rfl (lw_26 hi6 hn31 hw hM hC next)
        · exact wl_tableI lw_sw (off := 1025) (t := 1058) (by decide) (by decide) rfl (lw_27 hi6 hn31 hw hM hC next)
        · exact wl_tableI lw_sw (off := 1048) (t := 1081) (by decide) (by decide) rfl (lw_28 hi6 hn31 hw hM hC next)
        · exact wl_tableI lw_sw (off := 1061) (t := 1094) (by decide) (by decide) rfl (lw_29 hi6 hn31 hw hM hC next)
        · exact wl_tableI lw_sw (off := 1074) (t := 1107) (by decide) (by decide) rfl (lw_30 hi6 hn31 hw hM hC next)
        · exact wl_tableI lw_sw (off := 1087) (t := 1120) (by decide) (by decide) rfl (lw_31 hi6 hn31 hw hM hC next)
        · exact wl_tableI lw_sw (off := 1100) (t := 1133) (by decide) (by decide) rfl (lw_32 hi6 hn31 hw hM hC next)
        · exact wl_tableI lw_sw (off := 1123) (t := 1156) (by decide) (by decide) rfl (lw_33 hi6 hn31 hw hM hC next)
        · exact wl_tableI lw_sw (off := 1166) (t := 1199) (by decide) (by decide) rfl (lw_34 hi6 hn31 hw hM hC next)
        · exact wl_tableI lw_sw (off := 1189) (t := 1222) (by decide) (by decide) rfl (lw_35 hi6 hn31 hw hM hC next)
        · exact wl_tableI lw_sw (off := 1222) (t := 1255) (by decide) (by decide) rfl (lw_36 hi6 hn31 hw hM hC next)
        · exact wl_tableI lw_sw (off := 1265) (t := 1298) (by decide) (by decide) rfl (lw_37 hi6 hn31 hw hM hC next)
        · exact wl_tableI lw_sw (off := 1338) (t := 1371) (by decide) (by decide) rfl (lw_38 hi6 hn31 hw hM hC next)
        · exact wl_tableI lw_sw (off := 1372) (t := 1405) (by decide) (by decide) rfl (lw_39 hi6 hn31 hw hM hC next)
        · exact wl_tableI lw_sw (off := 1435) (t := 1468) (by decide) (by decide) rfl (lw_40 hi6 hn31 hw hM hC next)
        · exact wl_tableI lw_sw (off := 1468) (t := 1501) (by decide) (by decide) rfl (lw_41 hi6 hn31 hw hM hC next)
