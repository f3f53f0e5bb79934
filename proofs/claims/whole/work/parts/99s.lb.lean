/-! ===== the cases of the law's loop (mk_law.py) ===== -/
theorem lgc_self (x : Int64) : lg_cmp x x = 0 := by
  have a := lgc_lt x x
  have b := lgc_gt x x
  have c : ¬ x < x := by rw [Int64.lt_iff_toInt_lt]; omega
  obtain ⟨z, z1, z2, hz⟩ := iI_ex (lg_cmp x x)
  rw [hz] at a b ⊢
  have a' : ¬ iI z < 0 := by rw [a]; exact c
  have b' : ¬ 0 < iI z := by rw [b]; exact c
  revert a' b'
  simp (disch := omega) only [iI_n, iI_l, iI_neg, iI_add, iI_sub, iI_mul, iI_div, iI_lt, iI_le, iI_eq]
  intro a' b'
  omega
/-- 0: tree -/
theorem lw_0 {n i : Nat} {xs : Nat → Int32} {F : am_FT} {L : am_LT} {Q : am_QT} {g : am_G} (hi : i + 6 ≤ n) (hn : n < 2 ^ 31) (hw : wA g) (hM : Mdl F L g) (hC : Cls F L g) (next : ∀ (G : am_FT) (K : am_LT) (g' : am_G), wA g' → Mdl G K g' → Cls G K g' → wl (am_Zl n xs) 2048 mL_law 1524 (lvL i) [] G K Q) : wl (am_Zl n xs) 2048 mL_law 216 (lvL i) [] F L Q := by
  apply wl_aload_n (n := 1) (x := .ref 0) (by decide +kernel) rfl rfl
  apply wl_arg (j := 1) (k := 1) (by decide +kernel) (by decide +kernel) (by decide +kernel) (by decide +kernel) (by decide +kernel) rfl (by omega) hn
  apply wl_arg (j := 2) (k := 2) (by decide +kernel) (by decide +kernel) (by decide +kernel) (by decide +kernel) (by decide +kernel) rfl (by omega) hn
  apply wl_cc (idx := 13) (as := [.int (xs (i + 1)), .int (xs (i + 2))]) (cc_tree g (xs (i + 1)) (xs (i + 2))) hM hC (by decide +kernel) rfl rfl rfl rfl (Nat.le_of_ble_eq_true rfl)
  intro G1 K1 hM1 hC1
  apply wl_aload_n (n := 2) (x := .ref 45) (by decide +kernel) rfl rfl
  apply wl_arg (j := 1) (k := 1) (by decide +kernel) (by decide +kernel) (by decide +kernel) (by decide +kernel) (by decide +kernel) rfl (by omega) hn
  apply wl_arg (j := 2) (k := 2) (by decide +kernel) (by decide +kernel) (by decide +kernel) (by decide +kernel) (by decide +kernel) rfl (by omega) hn
  apply wl_mc (idx := 17) (as := [.int (xs (i + 1)), .int (xs (i + 2))]) (mc_tree g (xs (i + 1)) (xs (i + 2))) hM1 hC1 (by decide +kernel) rfl rfl rfl (Nat.le_of_ble_eq_true rfl) rfl (Nat.le_of_ble_eq_true rfl)
  intro G2 K2 hM2 hC2
  apply wl_eq (off := 1280) (t := 1524) (by decide +kernel) rfl
  exact next _ _ _ (w_tree hw (xs (i + 1)) (xs (i + 2))) hM2 hC2
/-- 1: person -/
theorem lw_1 {n i : Nat} {xs : Nat → Int32} {F : am_FT} {L : am_LT} {Q : am_QT} {g : am_G} (hi : i + 6 ≤ n) (hn : n < 2 ^ 31) (hw : wA g) (hM : Mdl F L g) (hC : Cls F L g) (next : ∀ (G : am_FT) (K : am_LT) (g' : am_G), wA g' → Mdl G K g' → Cls G K g' → wl (am_Zl n xs) 2048 mL_law 1524 (lvL i) [] G K Q) : wl (am_Zl n xs) 2048 mL_law 249 (lvL i) [] F L Q := by
  apply wl_aload_n (n := 1) (x := .ref 0) (by decide +kernel) rfl rfl
  apply wl_arg (j := 1) (k := 1) (by decide +kernel) (by decide +kernel) (by decide +kernel) (by decide +kernel) (by decide +kernel) rfl (by omega) hn
  apply wl_arg (j := 2) (k := 2) (by decide +kernel) (by decide +kernel) (by decide +kernel) (by decide +kernel) (by decide +kernel) rfl (by omega) hn
  apply wl_cc (idx := 18) (as := [.int (xs (i + 1)), .int (xs (i + 2))]) (cc_person g (xs (i + 1)) (xs (i + 2))) hM hC (by decide +kernel) rfl rfl rfl rfl (Nat.le_of_ble_eq_true rfl)
  intro G1 K1 hM1 hC1
  apply wl_aload_n (n := 2) (x := .ref 45) (by decide +kernel) rfl rfl
  apply wl_arg (j := 1) (k := 1) (by decide +kernel) (by decide +kernel) (by decide +kernel) (by decide +kernel) (by decide +kernel) rfl (by omega) hn
  apply wl_arg (j := 2) (k := 2) (by decide +kernel) (by decide +kernel) (by decide +kernel) (by decide +kernel) (by decide +kernel) rfl (by omega) hn
  apply wl_mc (idx := 21) (as := [.int (xs (i + 1)), .int (xs (i + 2))]) (mc_person g (xs (i + 1)) (xs (i + 2))) hM1 hC1 (by decide +kernel) rfl rfl rfl (Nat.le_of_ble_eq_true rfl) rfl (Nat.le_of_ble_eq_true rfl)
  intro G2 K2 hM2 hC2
  apply wl_eq (off := 1247) (t := 1524) (by decide +kernel) rfl
  exact next _ _ _ (w_person hw (xs (i + 1)) (xs (i + 2))) hM2 hC2
/-- 2: people -/
theorem lw_2 {n i : Nat} {xs : Nat → Int32} {F : am_FT} {L : am_LT} {Q : am_QT} {g : am_G} (hi : i + 6 ≤ n) (hn : n < 2 ^ 31) (hw : wA g) (hM : Mdl F L g) (hC : Cls F L g) (next : ∀ (G : am_FT) (K : am_LT) (g' : am_G), wA g' → Mdl G K g' → Cls G K g' → wl (am_Zl n xs) 2048 mL_law 1524 (lvL i) [] G K Q) : wl (am_Zl n xs) 2048 mL_law 282 (lvL i) [] F L Q := by
  apply wl_aload_n (n := 1) (x := .ref 0) (by decide +kernel) rfl rfl
  apply wl_arg (j := 1) (k := 1) (by decide +kernel) (by decide +kernel) (by decide +kernel) (by decide +kernel) (by decide +kernel) rfl (by omega) hn
  apply wl_arg (j := 2) (k := 2) (by decide +kernel) (by decide +kernel) (by decide +kernel) (by decide +kernel) (by decide +kernel) rfl (by omega) hn
  apply wl_arg (j := 3) (k := 3) (by decide +kernel) (by decide +kernel) (by decide +kernel) (by decide +kernel) (by decide +kernel) rfl (by omega) hn
  apply wl_cc (idx := 22) (as := [.int (xs (i + 1)), .int (xs (i + 2)), .int (xs (i + 3))]) (cc_people g hw.1 hw.2 (xs (i + 1)) (xs (i + 2)) (xs (i + 3))) hM hC (by decide +kernel) rfl rfl rfl rfl (Nat.le_of_ble_eq_true rfl)
  intro G1 K1 hM1 hC1
  apply wl_aload_n (n := 2) (x := .ref 45) (by decide +kernel) rfl rfl
  apply wl_arg (j := 1) (k := 1) (by decide +kernel) (by decide +kernel) (by decide +kernel) (by decide +kernel) (by decide +kernel) rfl (by omega) hn
  apply wl_arg (j := 2) (k := 2) (by decide +kernel) (by decide +kernel) (by decide +kernel) (by decide +kernel) (by decide +kernel) rfl (by omega) hn
  apply wl_arg (j := 3) (k := 3) (by decide +kernel) (by decide +kernel) (by decide +kernel) (by decide +kernel) (by decide +kernel) rfl (by omega) hn
  apply wl_mc (idx := 26) (as := [.int (xs (i + 1)), .int (xs (i + 2)), .int (xs (i + 3))]) (mc_people g hw.1 (xs (i + 1)) (xs (i + 2)) (xs (i + 3))) hM1 hC1 (by decide +kernel) rfl rfl rfl (Nat.le_of_ble_eq_true rfl) rfl (Nat.le_of_ble_eq_true rfl)
  intro G2 K2 hM2 hC2
  apply wl_eq (off := 1204) (t := 1524) (by decide +kernel) rfl
  exact next _ _ _ (w_people hw (xs (i + 1)) (xs (i + 2)) (xs (i + 3))) hM2 hC2
/-- 3: mend -/
theorem lw_3 {n i : Nat} {xs : Nat → Int32} {F : am_FT} {L : am_LT} {Q : am_QT} {g : am_G} (hi : i + 6 ≤ n) (hn : n < 2 ^ 31) (hw : wA g) (hM : Mdl F L g) (hC : Cls F L g) (next : ∀ (G : am_FT) (K : am_LT) (g' : am_G), wA g' → Mdl G K g' → Cls G K g' → wl (am_Zl n xs) 2048 mL_law 1524 (lvL i) [] G K Q) : wl (am_Zl n xs) 2048 mL_law 325 (lvL i) [] F L Q := by
  apply wl_aload_n (n := 1) (x := .ref 0) (by decide +kernel) rfl rfl
  apply wl_arg (j := 1) (k := 1) (by decide +kernel) (by decide +kernel) (by decide +kernel) (by decide +kernel) (by decide +kernel) rfl (by omega) hn
  apply wl_arg (j := 2) (k := 2) (by decide +kernel) (by decide +kernel) (by decide +kernel) (by decide +kernel) (by decide +kernel) rfl (by omega) hn
  apply wl_arg (j := 3) (k := 3) (by decide +kernel) (by decide +kernel) (by decide +kernel) (by decide +kernel) (by decide +kernel) rfl (by omega) hn
  apply wl_cc (idx := 27) (as := [.int (xs (i + 1)), .int (xs (i + 2)), .int (xs (i + 3))]) (cc_mend g (xs (i + 1)) (xs (i + 2)) (xs (i + 3))) hM hC (by decide +kernel) rfl rfl rfl rfl (Nat.le_of_ble_eq_true rfl)
  intro G1 K1 hM1 hC1
  apply wl_aload_n (n := 2) (x := .ref 45) (by decide +kernel) rfl rfl
  apply wl_arg (j := 1) (k := 1) (by decide +kernel) (by decide +kernel) (by decide +kernel) (by decide +kernel) (by decide +kernel) rfl (by omega) hn
  apply wl_arg (j := 2) (k := 2) (by decide +kernel) (by decide +kernel) (by decide +kernel) (by decide +kernel) (by decide +kernel) rfl (by omega) hn
  apply wl_arg (j := 3) (k := 3) (by decide +kernel) (by decide +kernel) (by decide +kernel) (by decide +kernel) (by decide +kernel) rfl (by omega) hn
  apply wl_mc (idx := 30) (as := [.int (xs (i + 1)), .int (xs (i + 2)), .int (xs (i + 3))]) (mc_mend g hw.1 (xs (i + 1)) (xs (i + 2)) (xs (i + 3))) hM1 hC1 (by decide +kernel) rfl rfl rfl (Nat.le_of_ble_eq_true rfl) rfl (Nat.le_of_ble_eq_true rfl)
  intro G2 K2 hM2 hC2
  apply wl_eq (off := 1161) (t := 1524) (by decide +kernel) rfl
  exact next _ _ _ (w_mend hw (xs (i + 1)) (xs (i + 2)) (xs (i + 3))) hM2 hC2
/-- 4: of -/
theorem lw_4 {n i : Nat} {xs : Nat → Int32} {F : am_FT} {L : am_LT} {Q : am_QT} {g : am_G} (hi : i + 6 ≤ n) (hn : n < 2 ^ 31) (hw : wA g) (hM : Mdl F L g) (hC : Cls F L g) (next : ∀ (G : am_FT) (K : am_LT) (g' : am_G), wA g' → Mdl G K g' → Cls G K g' → wl (am_Zl n xs) 2048 mL_law 1524 (lvL i) [] G K Q) : wl (am_Zl n xs) 2048 mL_law 368 (lvL i) [] F L Q := by
  apply wl_aload_n (n := 1) (x := .ref 0) (by decide +kernel) rfl rfl
  apply wl_arg (j := 1) (k := 1) (by decide +kernel) (by decide +kernel) (by decide +kernel) (by decide +kernel) (by decide +kernel) rfl (by omega) hn
  apply wl_arg (j := 2) (k := 2) (by decide +kernel) (by decide +kernel) (by decide +kernel) (by decide +kernel) (by decide +kernel) rfl (by omega) hn
  apply wl_cc (idx := 31) (as := [.int (xs (i + 1)), .int (xs (i + 2))]) (cc_of g (xs (i + 1)) (xs (i + 2))) hM hC (by decide +kernel) rfl rfl rfl rfl (Nat.le_of_ble_eq_true rfl)
  intro G1 K1 hM1 hC1
  apply wl_aload_n (n := 2) (x := .ref 45) (by decide +kernel) rfl rfl
  apply wl_arg (j := 1) (k := 1) (by decide +kernel) (by decide +kernel) (by decide +kernel) (by decide +kernel) (by decide +kernel) rfl (by omega) hn
  apply wl_arg (j := 2) (k := 2) (by decide +kernel) (by decide +kernel) (by decide +kernel) (by decide +kernel) (by decide +kernel) rfl (by omega) hn
  apply wl_mc (idx := 34) (as := [.int (xs (i + 1)), .int (xs (i + 2))]) (mc_of g (xs (i + 1)) (xs (i + 2))) hM1 hC1 (by decide +kernel) rfl rfl rfl (Nat.le_of_ble_eq_true rfl) rfl (Nat.le_of_ble_eq_true rfl)
  intro G2 K2 hM2 hC2
  apply wl_eq (off := 1128) (t := 1524) (by decide +kernel) rfl
  exact next _ _ _ hw hM2 hC2
/-- 5: feed -/
theorem lw_5 {n i : Nat} {xs : Nat → Int32} {F : am_FT} {L : am_LT} {Q : am_QT} {g : am_G} (hi : i + 6 ≤ n) (hn : n < 2 ^ 31) (hw : wA g) (hM : Mdl F L g) (hC : Cls F L g) (next : ∀ (G : am_FT) (K : am_LT) (g' : am_G), wA g' → Mdl G K g' → Cls G K g' → wl (am_Zl n xs) 2048 mL_law 1524 (lvL i) [] G K Q) : wl (am_Zl n xs) 2048 mL_law 401 (lvL i) [] F L Q := by
  apply wl_aload_n (n := 1) (x := .ref 0) (by decide +kernel) rfl rfl
  apply wl_arg (j := 1) (k := 1) (by decide +kernel) (by decide +kernel) (by decide +kernel) (by decide +kernel) (by decide +kernel) rfl (by omega) hn
  apply wl_cc (idx := 35) (as := [.int (xs (i + 1))]) (cc_feed g hw.1 (xs (i + 1))) hM hC (by decide +kernel) rfl rfl rfl rfl (Nat.le_of_ble_eq_true rfl)
  intro G1 K1 hM1 hC1
  apply wl_aload_n (n := 2) (x := .ref 45) (by decide +kernel) rfl rfl
  apply wl_arg (j := 1) (k := 1) (by decide +kernel) (by decide +kernel) (by decide +kernel) (by decide +kernel) (by decide +kernel) rfl (by omega) hn
  apply wl_mc (idx := 39) (as := [.int (xs (i + 1))]) (mc_feed g hw.1 (xs (i + 1))) hM1 hC1 (by decide +kernel) rfl rfl rfl (Nat.le_of_ble_eq_true rfl) rfl (Nat.le_of_ble_eq_true rfl)
  intro G2 K2 hM2 hC2
  apply wl_eq (off := 1105) (t := 1524) (by decide +kernel) rfl
  exact next _ _ _ (w_feed hw (xs (i + 1))) hM2 hC2
/-- 6: law -/
theorem lw_6 {n i : Nat} {xs : Nat → Int32} {F : am_FT} {L : am_LT} {Q : am_QT} {g : am_G} (hi : i + 6 ≤ n) (hn : n < 2 ^ 31) (hw : wA g) (hM : Mdl F L g) (hC : Cls F L g) (next : ∀ (G : am_FT) (K : am_LT) (g' : am_G), wA g' → Mdl G K g' → Cls G K g' → wl (am_Zl n xs) 2048 mL_law 1524 (lvL i) [] G K Q) : wl (am_Zl n xs) 2048 mL_law 424 (lvL i) [] F L Q := by
  apply wl_aload_n (n := 1) (x := .ref 0) (by decide +kernel) rfl rfl
  apply wl_cc (idx := 40) (as := []) (cc_law g hw.1 ) hM hC (by decide +kernel) rfl rfl rfl rfl (Nat.le_of_ble_eq_true rfl)
  intro G1 K1 hM1 hC1
  apply wl_aload_n (n := 2) (x := .ref 45) (by decide +kernel) rfl rfl
  apply wl_mc (idx := 44) (as := []) (mc_law g hw.1 ) hM1 hC1 (by decide +kernel) rfl rfl rfl (Nat.le_of_ble_eq_true rfl) rfl (Nat.le_of_ble_eq_true rfl)
  intro G2 K2 hM2 hC2
  apply wl_eq (off := 1092) (t := 1524) (by decide +kernel) rfl
  exact next _ _ _ (w_law hw ) hM2 hC2
/-- 7: shade -/
theorem lw_7 {n i : Nat} {xs : Nat → Int32} {F : am_FT} {L : am_LT} {Q : am_QT} {g : am_G} (hi : i + 6 ≤ n) (hn : n < 2 ^ 31) (hw : wA g) (hM : Mdl F L g) (hC : Cls F L g) (next : ∀ (G : am_FT) (K : am_LT) (g' : am_G), wA g' → Mdl G K g' → Cls G K g' → wl (am_Zl n xs) 2048 mL_law 1524 (lvL i) [] G K Q) : wl (am_Zl n xs) 2048 mL_law 437 (lvL i) [] F L Q := by
  apply wl_aload_n (n := 1) (x := .ref 0) (by decide +kernel) rfl rfl
  apply wl_arg (j := 1) (k := 1) (by decide +kernel) (by decide +kernel) (by decide +kernel) (by decide +kernel) (by decide +kernel) rfl (by omega) hn
  apply wl_cc (idx := 45) (as := [.int (xs (i + 1))]) (cc_shade g (xs (i + 1))) hM hC (by decide +kernel) rfl rfl rfl rfl (Nat.le_of_ble_eq_true rfl)
  intro G1 K1 hM1 hC1
  apply wl_aload_n (n := 2) (x := .ref 45) (by decide +kernel) rfl rfl
  apply wl_arg (j := 1) (k := 1) (by decide +kernel) (by decide +kernel) (by decide +kernel) (by decide +kernel) (by decide +kernel) rfl (by omega) hn
  apply wl_mc (idx := 48) (as := [.int (xs (i + 1))]) (mc_shade g hw.1 (xs (i + 1))) hM1 hC1 (by decide +kernel) rfl rfl rfl (Nat.le_of_ble_eq_true rfl) rfl (Nat.le_of_ble_eq_true rfl)
  intro G2 K2 hM2 hC2
  apply wl_eq (off := 1069) (t := 1524) (by decide +kernel) rfl
  exact next _ _ _ hw hM2 hC2
/-- 8: votes -/
theorem lw_8 {n i : Nat} {xs : Nat → Int32} {F : am_FT} {L : am_LT} {Q : am_QT} {g : am_G} (hi : i + 6 ≤ n) (hn : n < 2 ^ 31) (hw : wA g) (hM : Mdl F L g) (hC : Cls F L g) (next : ∀ (G : am_FT) (K : am_LT) (g' : am_G), wA g' → Mdl G K g' → Cls G K g' → wl (am_Zl n xs) 2048 mL_law 1524 (lvL i) [] G K Q) : wl (am_Zl n xs) 2048 mL_law 460 (lvL i) [] F L Q := by
  apply wl_aload_n (n := 1) (x := .ref 0) (by decide +kernel) rfl rfl
  apply wl_arg (j := 1) (k := 1) (by decide +kernel) (by decide +kernel) (by decide +kernel) (by decide +kernel) (by decide +kernel) rfl (by omega) hn
  apply wl_arg (j := 2) (k := 2) (by decide +kernel) (by decide +kernel) (by decide +kernel) (by decide +kernel) (by decide +kernel) rfl (by omega) hn
  apply wl_cc (idx := 49) (as := [.int (xs (i + 1)), .int (xs (i + 2))]) (cc_votes g (xs (i + 1)) (xs (i + 2))) hM hC (by decide +kernel) rfl rfl rfl rfl (Nat.le_of_ble_eq_true rfl)
  intro G1 K1 hM1 hC1
  apply wl_aload_n (n := 2) (x := .ref 45) (by decide +kernel) rfl rfl
  apply wl_arg (j := 1) (k := 1) (by decide +kernel) (by decide +kernel) (by decide +kernel) (by decide +kernel) (by decide +kernel) rfl (by omega) hn
  apply wl_arg (j := 2) (k := 2) (by decide +kernel) (by decide +kernel) (by decide +kernel) (by decide +kernel) (by decide +kernel) rfl (by omega) hn
  apply wl_mc (idx := 52) (as := [.int (xs (i + 1)), .int (xs (i + 2))]) (mc_votes g hw.1 (xs (i + 1)) (xs (i + 2))) hM1 hC1 (by decide +kernel) rfl rfl rfl (Nat.le_of_ble_eq_true rfl) rfl (Nat.le_of_ble_eq_true rfl)
  intro G2 K2 hM2 hC2
  apply wl_eq (off := 1036) (t := 1524) (by decide +kernel) rfl
  exact next _ _ _ hw hM2 hC2
/-- 9: falls -/
theorem lw_9 {n i : Nat} {xs : Nat → Int32} {F : am_FT} {L : am_LT} {Q : am_QT} {g : am_G} (hi : i + 6 ≤ n) (hn : n < 2 ^ 31) (hw : wA g) (hM : Mdl F L g) (hC : Cls F L g) (next : ∀ (G : am_FT) (K : am_LT) (g' : am_G), wA g' → Mdl G K g' → Cls G K g' → wl (am_Zl n xs) 2048 mL_law 1524 (lvL i) [] G K Q) : wl (am_Zl n xs) 2048 mL_law 493 (lvL i) [] F L Q := by
  apply wl_aload_n (n := 1) (x := .ref 0) (by decide +kernel) rfl rfl
  apply wl_arg (j := 1) (k := 1) (by decide +kernel) (by decide +kernel) (by decide +kernel) (by decide +kernel) (by decide +kernel) rfl (by omega) hn
  apply wl_cc (idx := 53) (as := [.int (xs (i + 1))]) (cc_falls g (xs (i + 1))) hM hC (by decide +kernel) rfl rfl rfl rfl (Nat.le_of_ble_eq_true rfl)
  intro G1 K1 hM1 hC1
  apply wl_aload_n (n := 2) (x := .ref 45) (by decide +kernel) rfl rfl
  apply wl_arg (j := 1) (k := 1) (by decide +kernel) (by decide +kernel) (by decide +kernel) (by decide +kernel) (by decide +kernel) rfl (by omega) hn
  apply wl_mc (idx := 56) (as := [.int (xs (i + 1))]) (mc_falls g hw.1 (xs (i + 1))) hM1 hC1 (by decide +kernel) rfl rfl rfl (Nat.le_of_ble_eq_true rfl) rfl (Nat.le_of_ble_eq_true rfl)
  intro G2 K2 hM2 hC2
  apply wl_eq (off := 1013) (t := 1524) (by decide +kernel) rfl
  exact next _ _ _ hw hM2 hC2
/-- 10: first -/
theorem lw_10 {n i : Nat} {xs : Nat → Int32} {F : am_FT} {L : am_LT} {Q : am_QT} {g : am_G} (hi : i + 6 ≤ n) (hn : n < 2 ^ 31) (hw : wA g) (hM : Mdl F L g) (hC : Cls F L g) (next : ∀ (G : am_FT) (K : am_LT) (g' : am_G), wA g' → Mdl G K g' → Cls G K g' → wl (am_Zl n xs) 2048 mL_law 1524 (lvL i) [] G K Q) : wl (am_Zl n xs) 2048 mL_law 516 (lvL i) [] F L Q := by
  apply wl_aload_n (n := 1) (x := .ref 0) (by decide +kernel) rfl rfl
  apply wl_arg (j := 1) (k := 1) (by decide +kernel) (by decide +kernel) (by decide +kernel) (by decide +kernel) (by decide +kernel) rfl (by omega) hn
  apply wl_cc (idx := 57) (as := [.int (xs (i + 1))]) (cc_first g (xs (i + 1))) hM hC (by decide +kernel) rfl rfl rfl rfl (Nat.le_of_ble_eq_true rfl)
  intro G1 K1 hM1 hC1
  apply wl_aload_n (n := 2) (x := .ref 45) (by decide +kernel) rfl rfl
  apply wl_arg (j := 1) (k := 1) (by decide +kernel) (by decide +kernel) (by decide +kernel) (by decide +kernel) (by decide +kernel) rfl (by omega) hn
  apply wl_mc (idx := 60) (as := [.int (xs (i + 1))]) (mc_first g hw.1 (xs (i + 1))) hM1 hC1 (by decide +kernel) rfl rfl rfl (Nat.le_of_ble_eq_true rfl) rfl (Nat.le_of_ble_eq_true rfl)
  intro G2 K2 hM2 hC2
  apply wl_eq (off := 990) (t := 1524) (by decide +kernel) rfl
  exact next _ _ _ hw hM2 hC2
/-- 11: left -/
theorem lw_11 {n i : Nat} {xs : Nat → Int32} {F : am_FT} {L : am_LT} {Q : am_QT} {g : am_G} (hi : i + 6 ≤ n) (hn : n < 2 ^ 31) (hw : wA g) (hM : Mdl F L g) (hC : Cls F L g) (next : ∀ (G : am_FT) (K : am_LT) (g' : am_G), wA g' → Mdl G K g' → Cls G K g' → wl (am_Zl n xs) 2048 mL_law 1524 (lvL i) [] G K Q) : wl (am_Zl n xs) 2048 mL_law 539 (lvL i) [] F L Q := by
  apply wl_aload_n (n := 1) (x := .ref 0) (by decide +kernel) rfl rfl
  apply wl_arg (j := 1) (k := 1) (by decide +kernel) (by decide +kernel) (by decide +kernel) (by decide +kernel) (by decide +kernel) rfl (by omega) hn
  apply wl_arg (j := 2) (k := 2) (by decide +kernel) (by decide +kernel) (by decide +kernel) (by decide +kernel) (by decide +kernel) rfl (by omega) hn
  apply wl_cc (idx := 61) (as := [.int (xs (i + 1)), .int (xs (i + 2))]) (cc_left g (xs (i + 1)) (xs (i + 2))) hM hC (by decide +kernel) rfl rfl rfl rfl (Nat.le_of_ble_eq_true rfl)
  intro G1 K1 hM1 hC1
  apply wl_aload_n (n := 2) (x := .ref 45) (by decide +kernel) rfl rfl
  apply wl_arg (j := 1) (k := 1) (by decide +kernel) (by decide +kernel) (by decide +kernel) (by decide +kernel) (by decide +kernel) rfl (by omega) hn
  apply wl_arg (j := 2) (k := 2) (by decide +kernel) (by decide +kernel) (by decide +kernel) (by decide +kernel) (by decide +kernel) rfl (by omega) hn
  apply wl_mc (idx := 64) (as := [.int (xs (i + 1)), .int (xs (i + 2))]) (mc_left g hw.1 (xs (i + 1)) (xs (i + 2))) hM1 hC1 (by decide +kernel) rfl rfl rfl (Nat.le_of_ble_eq_true rfl) rfl (Nat.le_of_ble_eq_true rfl)
  intro G2 K2 hM2 hC2
  apply wl_eq (off := 957) (t := 1524) (by decide +kernel) rfl
  exact next _ _ _ hw hM2 hC2
/-- 12: turn -/
theorem lw_12 {n i : Nat} {xs : Nat → Int32} {F : am_FT} {L : am_LT} {Q : am_QT} {g : am_G} (hi : i + 6 ≤ n) (hn : n < 2 ^ 31) (hw : wA g) (hM : Mdl F L g) (hC : Cls F L g) (next : ∀ (G : am_FT) (K : am_LT) (g' : am_G), wA g' → Mdl G K g' → Cls G K g' → wl (am_Zl n xs) 2048 mL_law 1524 (lvL i) [] G K Q) : wl (am_Zl n xs) 2048 mL_law 572 (lvL i) [] F L Q := by
  apply wl_aload_n (n := 1) (x := .ref 0) (by decide +kernel) rfl rfl
  apply wl_arg (j := 1) (k := 1) (by decide +kernel) (by decide +kernel) (by decide +kernel) (by decide +kernel) (by decide +kernel) rfl (by omega) hn
  apply wl_arg (j := 2) (k := 2) (by decide +kernel) (by decide +kernel) (by decide +kernel) (by decide +kernel) (by decide +kernel) rfl (by omega) hn
  apply wl_cc (idx := 65) (as := [.int (xs (i + 1)), .int (xs (i + 2))]) (cc_turn g (xs (i + 1)) (xs (i + 2))) hM hC (by decide +kernel) rfl rfl rfl rfl (Nat.le_of_ble_eq_true rfl)
  intro G1 K1 hM1 hC1
  apply wl_aload_n (n := 2) (x := .ref 45) (by decide +kernel) rfl rfl
  apply wl_arg (j := 1) (k := 1) (by decide +kernel) (by decide +kernel) (by decide +kernel) (by decide +kernel) (by decide +kernel) rfl (by omega) hn
  apply wl_arg (j := 2) (k := 2) (by decide +kernel) (by decide +kernel) (by decide +kernel) (by decide +kernel) (by decide +kernel) rfl (by omega) hn
  apply wl_mc (idx := 68) (as := [.int (xs (i + 1)), .int (xs (i + 2))]) (mc_turn g hw.1 (xs (i + 1)) (xs (i + 2))) hM1 hC1 (by decide +kernel) rfl rfl rfl (Nat.le_of_ble_eq_true rfl) rfl (Nat.le_of_ble_eq_true rfl)
  intro G2 K2 hM2 hC2
  apply wl_eq (off := 924) (t := 1524) (by decide +kernel) rfl
  exact next _ _ _ hw hM2 hC2
/-- 13: chair -/
theorem lw_13 {n i : Nat} {xs : Nat → Int32} {F : am_FT} {L : am_LT} {Q : am_QT} {g : am_G} (hi : i + 6 ≤ n) (hn : n < 2 ^ 31) (hw : wA g) (hM : Mdl F L g) (hC : Cls F L g) (next : ∀ (G : am_FT) (K : am_LT) (g' : am_G), wA g' → Mdl G K g' → Cls G K g' → wl (am_Zl n xs) 2048 mL_law 1524 (lvL i) [] G K Q) : wl (am_Zl n xs) 2048 mL_law 605 (lvL i) [] F L Q := by
  apply wl_aload_n (n := 1) (x := .ref 0) (by decide +kernel) rfl rfl
  apply wl_arg (j := 1) (k := 1) (by decide +kernel) (by decide +kernel) (by decide +kernel) (by decide +kernel) (by decide +kernel) rfl (by omega) hn
  apply wl_cc (idx := 69) (as := [.int (xs (i + 1))]) (cc_chair g (xs (i + 1))) hM hC (by decide +kernel) rfl rfl rfl rfl (Nat.le_of_ble_eq_true rfl)
  intro G1 K1 hM1 hC1
  apply wl_aload_n (n := 2) (x := .ref 45) (by decide +kernel) rfl rfl
  apply wl_arg (j := 1) (k := 1) (by decide +kernel) (by decide +kernel) (by decide +kernel) (by decide +kernel) (by decide +kernel) rfl (by omega) hn
  apply wl_mc (idx := 72) (as := [.int (xs (i + 1))]) (mc_chair g hw.1 (xs (i + 1))) hM1 hC1 (by decide +kernel) rfl rfl rfl (Nat.le_of_ble_eq_true rfl) rfl (Nat.le_of_ble_eq_true rfl)
  intro G2 K2 hM2 hC2
  apply wl_eq (off := 901) (t := 1524) (by decide +kernel) rfl
  exact next _ _ _ hw hM2 hC2
/-- 14: power -/
theorem lw_14 {n i : Nat} {xs : Nat → Int32} {F : am_FT} {L : am_LT} {Q : am_QT} {g : am_G} (hi : i + 6 ≤ n) (hn : n < 2 ^ 31) (hw : wA g) (hM : Mdl F L g) (hC : Cls F L g) (next : ∀ (G : am_FT) (K : am_LT) (g' : am_G), wA g' → Mdl G K g' → Cls G K g' → wl (am_Zl n xs) 2048 mL_law 1524 (lvL i) [] G K Q) : wl (am_Zl n xs) 2048 mL_law 628 (lvL i) [] F L Q := by
  apply wl_aload_n (n := 1) (x := .ref 0) (by decide +kernel) rfl rfl
  apply wl_arg (j := 1) (k := 1) (by decide +kernel) (by decide +kernel) (by decide +kernel) (by decide +kernel) (by decide +kernel) rfl (by omega) hn
  apply wl_arg (j := 2) (k := 2) (by decide +kernel) (by decide +kernel) (by decide +kernel) (by decide +kernel) (by decide +kernel) rfl (by omega) hn
  apply wl_arg (j := 3) (k := 3) (by decide +kernel) (by decide +kernel) (by decide +kernel) (by decide +kernel) (by decide +kernel) rfl (by omega) hn
  apply wl_cc (idx := 73) (as := [.int (xs (i + 1)), .int (xs (i + 2)), .int (xs (i + 3))]) (cc_power g (xs (i + 1)) (xs (i + 2)) (xs (i + 3))) hM hC (by decide +kernel) rfl rfl rfl rfl (Nat.le_of_ble_eq_true rfl)
  intro G1 K1 hM1 hC1
  apply wl_aload_n (n := 2) (x := .ref 45) (by decide +kernel) rfl rfl
  apply wl_arg (j := 1) (k := 1) (by decide +kernel) (by decide +kernel) (by decide +kernel) (by decide +kernel) (by decide +kernel) rfl (by omega) hn
  apply wl_arg (j := 2) (k := 2) (by decide +kernel) (by decide +kernel) (by decide +kernel) (by decide +kernel) (by decide +kernel) rfl (by omega) hn
  apply wl_arg (j := 3) (k := 3) (by decide +kernel) (by decide +kernel) (by decide +kernel) (by decide +kernel) (by decide +kernel) rfl (by omega) hn
  apply wl_mc (idx := 77) (as := [.int (xs (i + 1)), .int (xs (i + 2)), .int (xs (i + 3))]) (mc_power g hw.1 (xs (i + 1)) (xs (i + 2)) (xs (i + 3))) hM1 hC1 (by decide +kernel) rfl rfl rfl (Nat.le_of_ble_eq_true rfl) rfl (Nat.le_of_ble_eq_true rfl)
  intro G2 K2 hM2 hC2
  apply wl_lcmp (by decide +kernel)
  rw [lgc_self]
  apply wl_z (off := 857) (t := 1524) (by decide +kernel) rfl
  exact next _ _ _ hw hM2 hC2
/-- 15: lop -/
theorem lw_15 {n i : Nat} {xs : Nat → Int32} {F : am_FT} {L : am_LT} {Q : am_QT} {g : am_G} (hi : i + 6 ≤ n) (hn : n < 2 ^ 31) (hw : wA g) (hM : Mdl F L g) (hC : Cls F L g) (next : ∀ (G : am_FT) (K : am_LT) (g' : am_G), wA g' → Mdl G K g' → Cls G K g' → wl (am_Zl n xs) 2048 mL_law 1524 (lvL i) [] G K Q) : wl (am_Zl n xs) 2048 mL_law 672 (lvL i) [] F L Q := by
  apply wl_aload_n (n := 1) (x := .ref 0) (by decide +kernel) rfl rfl
  apply wl_arg (j := 1) (k := 1) (by decide +kernel) (by decide +kernel) (by decide +kernel) (by decide +kernel) (by decide +kernel) rfl (by omega) hn
  apply wl_arg (j := 2) (k := 2) (by decide +kernel) (by decide +kernel) (by decide +kernel) (by decide +kernel) (by decide +kernel) rfl (by omega) hn
  apply wl_cc (idx := 78) (as := [.int (xs (i + 1)), .int (xs (i + 2))]) (cc_lop g (xs (i + 1)) (xs (i + 2))) hM hC (by decide +kernel) rfl rfl rfl rfl (Nat.le_of_ble_eq_true rfl)
  intro G1 K1 hM1 hC1
  apply wl_aload_n (n := 2) (x := .ref 45) (by decide +kernel) rfl rfl
  apply wl_arg (j := 1) (k := 1) (by decide +kernel) (by decide +kernel) (by decide +kernel) (by decide +kernel) (by decide +kernel) rfl (by omega) hn
  apply wl_arg (j := 2) (k := 2) (by decide +kernel) (by decide +kernel) (by decide +kernel) (by decide +kernel) (by decide +kernel) rfl (by omega) hn
  apply wl_mc (idx := 81) (as := [.int (xs (i + 1)), .int (xs (i + 2))]) (mc_lop g hw.1 (xs (i + 1)) (xs (i + 2))) hM1 hC1 (by decide +kernel) rfl rfl rfl (Nat.le_of_ble_eq_true rfl) rfl (Nat.le_of_ble_eq_true rfl)
  intro G2 K2 hM2 hC2
  apply wl_eq (off := 824) (t := 1524) (by decide +kernel) rfl
  exact next _ _ _ hw hM2 hC2
/-- 16: byTurns -/
theorem lw_16 {n i : Nat} {xs : Nat → Int32} {F : am_FT} {L : am_LT} {Q : am_QT} {g : am_G} (hi : i + 6 ≤ n) (hn : n < 2 ^ 31) (hw : wA g) (hM : Mdl F L g) (hC : Cls F L g) (next : ∀ (G : am_FT) (K : am_LT) (g' : am_G), wA g' → Mdl G K g' → Cls G K g' → wl (am_Zl n xs) 2048 mL_law 1524 (lvL i) [] G K Q) : wl (am_Zl n xs) 2048 mL_law 705 (lvL i) [] F L Q := by
  apply wl_aload_n (n := 1) (x := .ref 0) (by decide +kernel) rfl rfl
  apply wl_arg (j := 1) (k := 1) (by decide +kernel) (by decide +kernel) (by decide +kernel) (by decide +kernel) (by decide +kernel) rfl (by omega) hn
  apply wl_arg (j := 2) (k := 2) (by decide +kernel) (by decide +kernel) (by decide +kernel) (by decide +kernel) (by decide +kernel) rfl (by omega) hn
  apply wl_cc (idx := 82) (as := [.int (xs (i + 1)), .int (xs (i + 2))]) (cc_byTurns g (xs (i + 1)) (xs (i + 2))) hM hC (by decide +kernel) rfl rfl rfl rfl (Nat.le_of_ble_eq_true rfl)
  intro G1 K1 hM1 hC1
  apply wl_aload_n (n := 2) (x := .ref 45) (by decide +kernel) rfl rfl
  apply wl_arg (j := 1) (k := 1) (by decide +kernel) (by decide +kernel) (by decide +kernel) (by decide +kernel) (by decide +kernel) rfl (by omega) hn
  apply wl_arg (j := 2) (k := 2) (by decide +kernel) (by decide +kernel) (by decide +kernel) (by decide +kernel) (by decide +kernel) rfl (by omega) hn
  apply wl_mc (idx := 85) (as := [.int (xs (i + 1)), .int (xs (i + 2))]) (mc_byTurns g hw.1 (xs (i + 1)) (xs (i + 2))) hM1 hC1 (by decide +kernel) rfl rfl rfl (Nat.le_of_ble_eq_true rfl) rfl (Nat.le_of_ble_eq_true rfl)
  intro G2 K2 hM2 hC2
  apply wl_eq (off := 791) (t := 1524) (by decide +kernel) rfl
  exact next _ _ _ hw hM2 hC2
/-- 17: deepest -/
theorem lw_17 {n i : Nat} {xs : Nat → Int32} {F : am_FT} {L : am_LT} {Q : am_QT} {g : am_G} (hi : i + 6 ≤ n) (hn : n < 2 ^ 31) (hw : wA g) (hM : Mdl F L g) (hC : Cls F L g) (next : ∀ (G : am_FT) (K : am_LT) (g' : am_G), wA g' → Mdl G K g' → Cls G K g' → wl (am_Zl n xs) 2048 mL_law 1524 (lvL i) [] G K Q) : wl (am_Zl n xs) 2048 mL_law 738 (lvL i) [] F L Q := by
  apply wl_aload_n (n := 1) (x := .ref 0) (by decide +kernel) rfl rfl
  apply wl_arg (j := 1) (k := 1) (by decide +kernel) (by decide +kernel) (by decide +kernel) (by decide +kernel) (by decide +kernel) rfl (by omega) hn
  apply wl_arg (j := 2) (k := 2) (by decide +kernel) (by decide +kernel) (by decide +kernel) (by decide +kernel) (by decide +kernel) rfl (by omega) hn
  apply wl_cc (idx := 86) (as := [.int (xs (i + 1)), .int (xs (i + 2))]) (cc_deepest g (xs (i + 1)) (xs (i + 2))) hM hC (by decide +kernel) rfl rfl rfl rfl (Nat.le_of_ble_eq_true rfl)
  intro G1 K1 hM1 hC1
  apply wl_aload_n (n := 2) (x := .ref 45) (by decide +kernel) rfl rfl
  apply wl_arg (j := 1) (k := 1) (by decide +kernel) (by decide +kernel) (by decide +kernel) (by decide +kernel) (by decide +kernel) rfl (by omega) hn
  apply wl_arg (j := 2) (k := 2) (by decide +kernel) (by decide +kernel) (by decide +kernel) (by decide +kernel) (by decide +kernel) rfl (by omega) hn
  apply wl_mc (idx := 89) (as := [.int (xs (i + 1)), .int (xs (i + 2))]) (mc_deepest g hw.1 (xs (i + 1)) (xs (i + 2))) hM1 hC1 (by decide +kernel) rfl rfl rfl (Nat.le_of_ble_eq_true rfl) rfl (Nat.le_of_ble_eq_true rfl)
  intro G2 K2 hM2 hC2
  apply wl_eq (off := 758) (t := 1524) (by decide +kernel) rfl
  exact next _ _ _ hw hM2 hC2
/-- 18: shadiest -/
theorem lw_18 {n i : Nat} {xs : Nat → Int32} {F : am_FT} {L : am_LT} {Q : am_QT} {g : am_G} (hi : i + 6 ≤ n) (hn : n < 2 ^ 31) (hw : wA g) (hM : Mdl F L g) (hC : Cls F L g) (next : ∀ (G : am_FT) (K : am_LT) (g' : am_G), wA g' → Mdl G K g' → Cls G K g' → wl (am_Zl n xs) 2048 mL_law 1524 (lvL i) [] G K Q) : wl (am_Zl n xs) 2048 mL_law 771 (lvL i) [] F L Q := by
  apply wl_aload_n (n := 1) (x := .ref 0) (by decide +kernel) rfl rfl
  apply wl_arg (j := 1) (k := 1) (by decide +kernel) (by decide +kernel) (by decide +kernel) (by decide +kernel) (by decide +kernel) rfl (by omega) hn
  apply wl_arg (j := 2) (k := 2) (by decide +kernel) (by decide +kernel) (by decide +kernel) (by decide +kernel) (by decide +kernel) rfl (by omega) hn
  apply wl_cc (idx := 90) (as := [.int (xs (i + 1)), .int (xs (i + 2))]) (cc_shadiest g (xs (i + 1)) (xs (i + 2))) hM hC (by decide +kernel) rfl rfl rfl rfl (Nat.le_of_ble_eq_true rfl)
  intro G1 K1 hM1 hC1
  apply wl_aload_n (n := 2) (x := .ref 45) (by decide +kernel) rfl rfl
  apply wl_arg (j := 1) (k := 1) (by decide +kernel) (by decide +kernel) (by decide +kernel) (by decide +kernel) (by decide +kernel) rfl (by omega) hn
  apply wl_arg (j := 2) (k := 2) (by decide +kernel) (by decide +kernel) (by decide +kernel) (by decide +kernel) (by decide +kernel) rfl (by omega) hn
  apply wl_mc (idx := 93) (as := [.int (xs (i + 1)), .int (xs (i + 2))]) (mc_shadiest g hw.1 (xs (i + 1)) (xs (i + 2))) hM1 hC1 (by decide +kernel) rfl rfl rfl (Nat.le_of_ble_eq_true rfl) rfl (Nat.le_of_ble_eq_true rfl)
  intro G2 K2 hM2 hC2
  apply wl_eq (off := 725) (t := 1524) (by decide +kernel) rfl
  exact next _ _ _ hw hM2 hC2
/-- 19: judge -/
theorem lw_19 {n i : Nat} {xs : Nat → Int32} {F : am_FT} {L : am_LT} {Q : am_QT} {g : am_G} (hi : i + 6 ≤ n) (hn : n < 2 ^ 31) (hw : wA g) (hM : Mdl F L g) (hC : Cls F L g) (next : ∀ (G : am_FT) (K : am_LT) (g' : am_G), wA g' → Mdl G K g' → Cls G K g' → wl (am_Zl n xs) 2048 mL_law 1524 (lvL i) [] G K Q) : wl (am_Zl n xs) 2048 mL_law 804 (lvL i) [] F L Q := by
  apply wl_aload_n (n := 1) (x := .ref 0) (by decide +kernel) rfl rfl
  apply wl_arg (j := 1) (k := 1) (by decide +kernel) (by decide +kernel) (by decide +kernel) (by decide +kernel) (by decide +kernel) rfl (by omega) hn
  apply wl_arg (j := 2) (k := 2) (by decide +kernel) (by decide +kernel) (by decide +kernel) (by decide +kernel) (by decide +kernel) rfl (by omega) hn
  apply wl_cc (idx := 94) (as := [.int (xs (i + 1)), .int (xs (i + 2))]) (cc_judge g hw.1 (xs (i + 1)) (xs (i + 2))) hM hC (by decide +kernel) rfl rfl rfl rfl (Nat.le_of_ble_eq_true rfl)
  intro G1 K1 hM1 hC1
  apply wl_aload_n (n := 2) (x := .ref 45) (by decide +kernel) rfl rfl
  apply wl_arg (j := 1) (k := 1) (by decide +kernel) (by decide +kernel) (by decide +kernel) (by decide +kernel) (by decide +kernel) rfl (by omega) hn
  apply wl_arg (j := 2) (k := 2) (by decide +kernel) (by decide +kernel) (by decide +kernel) (by decide +kernel) (by decide +kernel) rfl (by omega) hn
  apply wl_mc (idx := 97) (as := [.int (xs (i + 1)), .int (xs (i + 2))]) (mc_judge g hw.1 (xs (i + 1)) (xs (i + 2))) hM1 hC1 (by decide +kernel) rfl rfl rfl (Nat.le_of_ble_eq_true rfl) rfl (Nat.le_of_ble_eq_true rfl)
  intro G2 K2 hM2 hC2
  apply wl_eq (off := 692) (t := 1524) (by decide +kernel) rfl
  exact next _ _ _ hw hM2 hC2
/-- 20: wishes -/
theorem lw_20 {n i : Nat} {xs : Nat → Int32} {F : am_FT} {L : am_LT} {Q : am_QT} {g : am_G} (hi : i + 6 ≤ n) (hn : n < 2 ^ 31) (hw : wA g) (hM : Mdl F L g) (hC : Cls F L g) (next : ∀ (G : am_FT) (K : am_LT) (g' : am_G), wA g' → Mdl G K g' → Cls G K g' → wl (am_Zl n xs) 2048 mL_law 1524 (lvL i) [] G K Q) : wl (am_Zl n xs) 2048 mL_law 837 (lvL i) [] F L Q := by
  apply wl_aload_n (n := 1) (x := .ref 0) (by decide +kernel) rfl rfl
  apply wl_arg (j := 1) (k := 1) (by decide +kernel) (by decide +kernel) (by decide +kernel) (by decide +kernel) (by decide +kernel) rfl (by omega) hn
  apply wl_arg (j := 2) (k := 2) (by decide +kernel) (by decide +kernel) (by decide +kernel) (by decide +kernel) (by decide +kernel) rfl (by omega) hn
  apply wl_arg (j := 3) (k := 3) (by decide +kernel) (by decide +kernel) (by decide +kernel) (by decide +kernel) (by decide +kernel) rfl (by omega) hn
  apply wl_cc (idx := 98) (as := [.int (xs (i + 1)), .int (xs (i + 2)), .int (xs (i + 3))]) (cc_wishes g hw.1 (xs (i + 1)) (xs (i + 2)) (xs (i + 3))) hM hC (by decide +kernel) rfl rfl rfl rfl (Nat.le_of_ble_eq_true rfl)
  intro G1 K1 hM1 hC1
  apply wl_aload_n (n := 2) (x := .ref 45) (by decide +kernel) rfl rfl
  apply wl_arg (j := 1) (k := 1) (by decide +kernel) (by decide +kernel) (by decide +kernel) (by decide +kernel) (by decide +kernel) rfl (by omega) hn
  apply wl_arg (j := 2) (k := 2) (by decide +kernel) (by decide +kernel) (by decide +kernel) (by decide +kernel) (by decide +kernel) rfl (by omega) hn
  apply wl_arg (j := 3) (k := 3) (by decide +kernel) (by decide +kernel) (by decide +kernel) (by decide +kernel) (by decide +kernel) rfl (by omega) hn
  apply wl_mc (idx := 101) (as := [.int (xs (i + 1)), .int (xs (i + 2)), .int (xs (i + 3))]) (mc_wishes g hw.1 (xs (i + 1)) (xs (i + 2)) (xs (i + 3))) hM1 hC1 (by decide +kernel) rfl rfl rfl (Nat.le_of_ble_eq_true rfl) rfl (Nat.le_of_ble_eq_true rfl)
  intro G2 K2 hM2 hC2
  apply wl_eq (off := 649) (t := 1524) (by decide +kernel) rfl
  exact next _ _ _ hw hM2 hC2
/-- 21: save -/
theorem lw_21 {n i : Nat} {xs : Nat → Int32} {F : am_FT} {L : am_LT} {Q : am_QT} {g : am_G} (hi : i + 6 ≤ n) (hn : n < 2 ^ 31) (hw : wA g) (hM : Mdl F L g) (hC : Cls F L g) (next : ∀ (G : am_FT) (K : am_LT) (g' : am_G), wA g' → Mdl G K g' → Cls G K g' → wl (am_Zl n xs) 2048 mL_law 1524 (lvL i) [] G K Q) : wl (am_Zl n xs) 2048 mL_law 880 (lvL i) [] F L Q := by
  apply wl_aload_n (n := 1) (x := .ref 0) (by decide +kernel) rfl rfl
  apply wl_arg (j := 1) (k := 1) (by decide +kernel) (by decide +kernel) (by decide +kernel) (by decide +kernel) (by decide +kernel) rfl (by omega) hn
  apply wl_arg (j := 2) (k := 2) (by decide +kernel) (by decide +kernel) (by decide +kernel) (by decide +kernel) (by decide +kernel) rfl (by omega) hn
  apply wl_cc (idx := 102) (as := [.int (xs (i + 1)), .int (xs (i + 2))]) (cc_save g (xs (i + 1)) (xs (i + 2))) hM hC (by decide +kernel) rfl rfl rfl rfl (Nat.le_of_ble_eq_true rfl)
  intro G1 K1 hM1 hC1
  apply wl_aload_n (n := 2) (x := .ref 45) (by decide +kernel) rfl rfl
  apply wl_arg (j := 1) (k := 1) (by decide +kernel) (by decide +kernel) (by decide +kernel) (by decide +kernel) (by decide +kernel) rfl (by omega) hn
  apply wl_arg (j := 2) (k := 2) (by decide +kernel) (by decide +kernel) (by decide +kernel) (by decide +kernel) (by decide +kernel) rfl (by omega) hn
  apply wl_mc (idx := 105) (as := [.int (xs (i + 1)), .int (xs (i + 2))]) (mc_save g hw.1 (xs (i + 1)) (xs (i + 2))) hM1 hC1 (by decide +kernel) rfl rfl rfl (Nat.le_of_ble_eq_true rfl) rfl (Nat.le_of_ble_eq_true rfl)
  intro G2 K2 hM2 hC2
  apply wl_eq (off := 616) (t := 1524) (by decide +kernel) rfl
  exact next _ _ _ hw hM2 hC2
/-- 22: alike -/
theorem lw_22 {n i : Nat} {xs : Nat → Int32} {F : am_FT} {L : am_LT} {Q : am_QT} {g : am_G} (hi : i + 6 ≤ n) (hn : n < 2 ^ 31) (hw : wA g) (hM : Mdl F L g) (hC : Cls F L g) (next : ∀ (G : am_FT) (K : am_LT) (g' : am_G), wA g' → Mdl G K g' → Cls G K g' → wl (am_Zl n xs) 2048 mL_law 1524 (lvL i) [] G K Q) : wl (am_Zl n xs) 2048 mL_law 913 (lvL i) [] F L Q := by
  apply wl_aload_n (n := 1) (x := .ref 0) (by decide +kernel) rfl rfl
  apply wl_arg (j := 1) (k := 1) (by decide +kernel) (by decide +kernel) (by decide +kernel) (by decide +kernel) (by decide +kernel) rfl (by omega) hn
  apply wl_arg (j := 2) (k := 2) (by decide +kernel) (by decide +kernel) (by decide +kernel) (by decide +kernel) (by decide +kernel) rfl (by omega) hn
  apply wl_cc (idx := 106) (as := [.int (xs (i + 1)), .int (xs (i + 2))]) (cc_alike g (xs (i + 1)) (xs (i + 2))) hM hC (by decide +kernel) rfl rfl rfl rfl (Nat.le_of_ble_eq_true rfl)
  intro G1 K1 hM1 hC1
  apply wl_aload_n (n := 2) (x := .ref 45) (by decide +kernel) rfl rfl
  apply wl_arg (j := 1) (k := 1) (by decide +kernel) (by decide +kernel) (by decide +kernel) (by decide +kernel) (by decide +kernel) rfl (by omega) hn
  apply wl_arg (j := 2) (k := 2) (by decide +kernel) (by decide +kernel) (by decide +kernel) (by decide +kernel) (by decide +kernel) rfl (by omega) hn
  apply wl_mc (idx := 109) (as := [.int (xs (i + 1)), .int (xs (i + 2))]) (mc_alike g hw.1 (xs (i + 1)) (xs (i + 2))) hM1 hC1 (by decide +kernel) rfl rfl rfl (Nat.le_of_ble_eq_true rfl) rfl (Nat.le_of_ble_eq_true rfl)
  intro G2 K2 hM2 hC2
  apply wl_eq (off := 583) (t := 1524) (by decide +kernel) rfl
  exact next _ _ _ hw hM2 hC2
/-- 23: drawn -/
theorem lw_23 {n i : Nat} {xs : Nat → Int32} {F : am_FT} {L : am_LT} {Q : am_QT} {g : am_G} (hi : i + 6 ≤ n) (hn : n < 2 ^ 31) (hw : wA g) (hM : Mdl F L g) (hC : Cls F L g) (next : ∀ (G : am_FT) (K : am_LT) (g' : am_G), wA g' → Mdl G K g' → Cls G K g' → wl (am_Zl n xs) 2048 mL_law 1524 (lvL i) [] G K Q) : wl (am_Zl n xs) 2048 mL_law 946 (lvL i) [] F L Q := by
  apply wl_aload_n (n := 1) (x := .ref 0) (by decide +kernel) rfl rfl
  apply wl_arg (j := 1) (k := 1) (by decide +kernel) (by decide +kernel) (by decide +kernel) (by decide +kernel) (by decide +kernel) rfl (by omega) hn
  apply wl_arg (j := 2) (k := 2) (by decide +kernel) (by decide +kernel) (by decide +kernel) (by decide +kernel) (by decide +kernel) rfl (by omega) hn
  apply wl_arg (j := 3) (k := 3) (by decide +kernel) (by decide +kernel) (by decide +kernel) (by decide +kernel) (by decide +kernel) rfl (by omega) hn
  apply wl_cc (idx := 110) (as := [.int (xs (i + 1)), .int (xs (i + 2)), .int (xs (i + 3))]) (cc_drawn g (xs (i + 1)) (xs (i + 2)) (xs (i + 3))) hM hC (by decide +kernel) rfl rfl rfl rfl (Nat.le_of_ble_eq_true rfl)
  intro G1 K1 hM1 hC1
  apply wl_aload_n (n := 2) (x := .ref 45) (by decide +kernel) rfl rfl
  apply wl_arg (j := 1) (k := 1) (by decide +kernel) (by decide +kernel) (by decide +kernel) (by decide +kernel) (by decide +kernel) rfl (by omega) hn
  apply wl_arg (j := 2) (k := 2) (by decide +kernel) (by decide +kernel) (by decide +kernel) (by decide +kernel) (by decide +kernel) rfl (by omega) hn
  apply wl_arg (j := 3) (k := 3) (by decide +kernel) (by decide +kernel) (by decide +kernel) (by decide +kernel) (by decide +kernel) rfl (by omega) hn
  apply wl_mc (idx := 113) (as := [.int (xs (i + 1)), .int (xs (i + 2)), .int (xs (i + 3))]) (mc_drawn g hw.1 (xs (i + 1)) (xs (i + 2)) (xs (i + 3))) hM1 hC1 (by decide +kernel) rfl rfl rfl (Nat.le_of_ble_eq_true rfl) rfl (Nat.le_of_ble_eq_true rfl)
  intro G2 K2 hM2 hC2
  apply wl_eq (off := 540) (t := 1524) (by decide +kernel) rfl
  exact next _ _ _ hw hM2 hC2
/-- 24: noon -/
theorem lw_24 {n i : Nat} {xs : Nat → Int32} {F : am_FT} {L : am_LT} {Q : am_QT} {g : am_G} (hi : i + 6 ≤ n) (hn : n < 2 ^ 31) (hw : wA g) (hM : Mdl F L g) (hC : Cls F L g) (next : ∀ (G : am_FT) (K : am_LT) (g' : am_G), wA g' → Mdl G K g' → Cls G K g' → wl (am_Zl n xs) 2048 mL_law 1524 (lvL i) [] G K Q) : wl (am_Zl n xs) 2048 mL_law 989 (lvL i) [] F L Q := by
  apply wl_aload_n (n := 1) (x := .ref 0) (by decide +kernel) rfl rfl
  apply wl_cc (idx := 114) (as := []) (cc_noon g hw.1 ) hM hC (by decide +kernel) rfl rfl rfl rfl (Nat.le_of_ble_eq_true rfl)
  intro G1 K1 hM1 hC1
  apply wl_aload_n (n := 2) (x := .ref 45) (by decide +kernel) rfl rfl
  apply wl_mc (idx := 117) (as := []) (mc_noon g hw.1 ) hM1 hC1 (by decide +kernel) rfl rfl rfl (Nat.le_of_ble_eq_true rfl) rfl (Nat.le_of_ble_eq_true rfl)
  intro G2 K2 hM2 hC2
  apply wl_eq (off := 527) (t := 1524) (by decide +kernel) rfl
  exact next _ _ _ (w_noon hw ) hM2 hC2
/-- 25: sits -/
theorem lw_25 {n i : Nat} {xs : Nat → Int32} {F : am_FT} {L : am_LT} {Q : am_QT} {g : am_G} (hi : i + 6 ≤ n) (hn : n < 2 ^ 31) (hw : wA g) (hM : Mdl F L g) (hC : Cls F L g) (next : ∀ (G : am_FT) (K : am_LT) (g' : am_G), wA g' → Mdl G K g' → Cls G K g' → wl (am_Zl n xs) 2048 mL_law 1524 (lvL i) [] G K Q) : wl (am_Zl n xs) 2048 mL_law 1002 (lvL i) [] F L Q := by
  apply wl_aload_n (n := 1) (x := .ref 0) (by decide +kernel) rfl rfl
  apply wl_arg (j := 1) (k := 1) (by decide +kernel) (by decide +kernel) (by decide +kernel) (by decide +kernel) (by decide +kernel) rfl (by omega) hn
  apply wl_arg (j := 2) (k := 2) (by decide +kernel) (by decide +kernel) (by decide +kernel) (by decide +kernel) (by decide +kernel) rfl (by omega) hn
  apply wl_cc (idx := 118) (as := [.int (xs (i + 1)), .int (xs (i + 2))]) (cc_sits g (xs (i + 1)) (xs (i + 2))) hM hC (by decide +kernel) rfl rfl rfl rfl (Nat.le_of_ble_eq_true rfl)
  intro G1 K1 hM1 hC1
  apply wl_aload_n (n := 2) (x := .ref 45) (by decide +kernel) rfl rfl
  apply wl_arg (j := 1) (k := 1) (by decide +kernel) (by decide +kernel) (by decide +kernel) (by decide +kernel) (by decide +kernel) rfl (by omega) hn
  apply wl_arg (j := 2) (k := 2) (by decide +kernel) (by decide +kernel) (by decide +kernel) (by decide +kernel) (by decide +kernel) rfl (by omega) hn
  apply wl_mc (idx := 121) (as := [.int (xs (i + 1)), .int (xs (i + 2))]) (mc_sits g (xs (i + 1)) (xs (i + 2))) hM1 hC1 (by decide +kernel) rfl rfl rfl (Nat.le_of_ble_eq_true rfl) rfl (Nat.le_of_ble_eq_true rfl)
  intro G2 K2 hM2 hC2
  apply wl_eq (off := 494) (t := 1524) (by decide +kernel) rfl
  exact next _ _ _ (w_sits hw (xs (i + 1)) (xs (i + 2))) hM2 hC2
/-- 26: lopped -/
theorem lw_26 {n i : Nat} {xs : Nat → Int32} {F : am_FT} {L : am_LT} {Q : am_QT} {g : am_G} (hi : i + 6 ≤ n) (hn : n < 2 ^ 31) (hw : wA g) (hM : Mdl F L g) (hC : Cls F L g) (next : ∀ (G : am_FT) (K : am_LT) (g' : am_G), wA g' → Mdl G K g' → Cls G K g' → wl (am_Zl n xs) 2048 mL_law 1524 (lvL i) [] G K Q) : wl (am_Zl n xs) 2048 mL_law 1035 (lvL i) [] F L Q := by
  apply wl_aload_n (n := 1) (x := .ref 0) (by decide +kernel) rfl rfl
  apply wl_arg (j := 1) (k := 1) (by decide +kernel) (by decide +kernel) (by decide +kernel) (by decide +kernel) (by decide +kernel) rfl (by omega) hn
  apply wl_cc (idx := 122) (as := [.int (xs (i + 1))]) (cc_lopped g (xs (i + 1))) hM hC (by decide +kernel) rfl rfl rfl rfl (Nat.le_of_ble_eq_true rfl)
  intro G1 K1 hM1 hC1
  apply wl_aload_n (n := 2) (x := .ref 45) (by decide +kernel) rfl rfl
  apply wl_arg (j := 1) (k := 1) (by decide +kernel) (by decide +kernel) (by decide +kernel) (by decide +kernel) (by decide +kernel) rfl (by omega) hn
  apply wl_mc (idx := 125) (as := [.int (xs (i + 1))]) (mc_lopped g (xs (i + 1))) hM1 hC1 (by decide +kernel) rfl rfl rfl (Nat.le_of_ble_eq_true rfl) rfl (Nat.le_of_ble_eq_true rfl)
  intro G2 K2 hM2 hC2
  apply wl_eq (off := 471) (t := 1524) (by decide +kernel) rfl
  exact next _ _ _ (w_lopped hw (xs (i + 1))) hM2 hC2
/-- 27: led -/
theorem lw_27 {n i : Nat} {xs : Nat → Int32} {F : am_FT} {L : am_LT} {Q : am_QT} {g : am_G} (hi : i + 6 ≤ n) (hn : n < 2 ^ 31) (hw : wA g) (hM : Mdl F L g) (hC : Cls F L g) (next : ∀ (G : am_FT) (K : am_LT) (g' : am_G), wA g' → Mdl G K g' → Cls G K g' → wl (am_Zl n xs) 2048 mL_law 1524 (lvL i) [] G K Q) : wl (am_Zl n xs) 2048 mL_law 1058 (lvL i) [] F L Q := by
  apply wl_aload_n (n := 1) (x := .ref 0) (by decide +kernel) rfl rfl
  apply wl_arg (j := 1) (k := 1) (by decide +kernel) (by decide +kernel) (by decide +kernel) (by decide +kernel) (by decide +kernel) rfl (by omega) hn
  apply wl_cc (idx := 126) (as := [.int (xs (i + 1))]) (cc_led g (xs (i + 1))) hM hC (by decide +kernel) rfl rfl rfl rfl (Nat.le_of_ble_eq_true rfl)
  intro G1 K1 hM1 hC1
  apply wl_aload_n (n := 2) (x := .ref 45) (by decide +kernel) rfl rfl
  apply wl_arg (j := 1) (k := 1) (by decide +kernel) (by decide +kernel) (by decide +kernel) (by decide +kernel) (by decide +kernel) rfl (by omega) hn
  apply wl_mc (idx := 129) (as := [.int (xs (i + 1))]) (mc_led g (xs (i + 1))) hM1 hC1 (by decide +kernel) rfl rfl rfl (Nat.le_of_ble_eq_true rfl) rfl (Nat.le_of_ble_eq_true rfl)
  intro G2 K2 hM2 hC2
  apply wl_eq (off := 448) (t := 1524) (by decide +kernel) rfl
  exact next _ _ _ hw hM2 hC2
/-- 28: image -/
theorem lw_28 {n i : Nat} {xs : Nat → Int32} {F : am_FT} {L : am_LT} {Q : am_QT} {g : am_G} (hi : i + 6 ≤ n) (hn : n < 2 ^ 31) (hw : wA g) (hM : Mdl F L g) (hC : Cls F L g) (next : ∀ (G : am_FT) (K : am_LT) (g' : am_G), wA g' → Mdl G K g' → Cls G K g' → wl (am_Zl n xs) 2048 mL_law 1524 (lvL i) [] G K Q) : wl (am_Zl n xs) 2048 mL_law 1081 (lvL i) [] F L Q := by
  apply wl_aload_n (n := 1) (x := .ref 0) (by decide +kernel) rfl rfl
  apply wl_cc (idx := 130) (as := []) (cc_image g ) hM hC (by decide +kernel) rfl rfl rfl rfl (Nat.le_of_ble_eq_true rfl)
  intro G1 K1 hM1 hC1
  apply wl_aload_n (n := 2) (x := .ref 45) (by decide +kernel) rfl rfl
  apply wl_mc (idx := 133) (as := []) (mc_image g ) hM1 hC1 (by decide +kernel) rfl rfl rfl (Nat.le_of_ble_eq_true rfl) rfl (Nat.le_of_ble_eq_true rfl)
  intro G2 K2 hM2 hC2
  apply wl_eq (off := 435) (t := 1524) (by decide +kernel) rfl
  exact next _ _ _ (w_image hw ) hM2 hC2
/-- 29: back -/
theorem lw_29 {n i : Nat} {xs : Nat → Int32} {F : am_FT} {L : am_LT} {Q : am_QT} {g : am_G} (hi : i + 6 ≤ n) (hn : n < 2 ^ 31) (hw : wA g) (hM : Mdl F L g) (hC : Cls F L g) (next : ∀ (G : am_FT) (K : am_LT) (g' : am_G), wA g' → Mdl G K g' → Cls G K g' → wl (am_Zl n xs) 2048 mL_law 1524 (lvL i) [] G K Q) : wl (am_Zl n xs) 2048 mL_law 1094 (lvL i) [] F L Q := by
  apply wl_aload_n (n := 1) (x := .ref 0) (by decide +kernel) rfl rfl
  apply wl_cc (idx := 134) (as := []) (cc_back g hw.1 ) hM hC (by decide +kernel) rfl rfl rfl rfl (Nat.le_of_ble_eq_true rfl)
  intro G1 K1 hM1 hC1
  apply wl_aload_n (n := 2) (x := .ref 45) (by decide +kernel) rfl rfl
  apply wl_mc (idx := 137) (as := []) (mc_back g hw.1 ) hM1 hC1 (by decide +kernel) rfl rfl rfl (Nat.le_of_ble_eq_true rfl) rfl (Nat.le_of_ble_eq_true rfl)
  intro G2 K2 hM2 hC2
  apply wl_eq (off := 422) (t := 1524) (by decide +kernel) rfl
  exact next _ _ _ (w_back hw ) hM2 hC2
/-- 30: undo -/
theorem lw_30 {n i : Nat} {xs : Nat → Int32} {F : am_FT} {L : am_LT} {Q : am_QT} {g : am_G} (hi : i + 6 ≤ n) (hn : n < 2 ^ 31) (hw : wA g) (hM : Mdl F L g) (hC : Cls F L g) (next : ∀ (G : am_FT) (K : am_LT) (g' : am_G), wA g' → Mdl G K g' → Cls G K g' → wl (am_Zl n xs) 2048 mL_law 1524 (lvL i) [] G K Q) : wl (am_Zl n xs) 2048 mL_law 1107 (lvL i) [] F L Q := by
  apply wl_aload_n (n := 1) (x := .ref 0) (by decide +kernel) rfl rfl
  apply wl_cc (idx := 138) (as := []) (cc_undo g hw.1 ) hM hC (by decide +kernel) rfl rfl rfl rfl (Nat.le_of_ble_eq_true rfl)
  intro G1 K1 hM1 hC1
  apply wl_aload_n (n := 2) (x := .ref 45) (by decide +kernel) rfl rfl
  apply wl_mc (idx := 141) (as := []) (mc_undo g hw.1 ) hM1 hC1 (by decide +kernel) rfl rfl rfl (Nat.le_of_ble_eq_true rfl) rfl (Nat.le_of_ble_eq_true rfl)
  intro G2 K2 hM2 hC2
  apply wl_eq (off := 409) (t := 1524) (by decide +kernel) rfl
  exact next _ _ _ (w_undo hw ) hM2 hC2
/-- 31: redo -/
theorem lw_31 {n i : Nat} {xs : Nat → Int32} {F : am_FT} {L : am_LT} {Q : am_QT} {g : am_G} (hi : i + 6 ≤ n) (hn : n < 2 ^ 31) (hw : wA g) (hM : Mdl F L g) (hC : Cls F L g) (next : ∀ (G : am_FT) (K : am_LT) (g' : am_G), wA g' → Mdl G K g' → Cls G K g' → wl (am_Zl n xs) 2048 mL_law 1524 (lvL i) [] G K Q) : wl (am_Zl n xs) 2048 mL_law 1120 (lvL i) [] F L Q := by
  apply wl_aload_n (n := 1) (x := .ref 0) (by decide +kernel) rfl rfl
  apply wl_cc (idx := 142) (as := []) (cc_redo g hw.1 ) hM hC (by decide +kernel) rfl rfl rfl rfl (Nat.le_of_ble_eq_true rfl)
  intro G1 K1 hM1 hC1
  apply wl_aload_n (n := 2) (x := .ref 45) (by decide +kernel) rfl rfl
  apply wl_mc (idx := 145) (as := []) (mc_redo g hw.1 ) hM1 hC1 (by decide +kernel) rfl rfl rfl (Nat.le_of_ble_eq_true rfl) rfl (Nat.le_of_ble_eq_true rfl)
  intro G2 K2 hM2 hC2
  apply wl_eq (off := 396) (t := 1524) (by decide +kernel) rfl
  exact next _ _ _ (w_redo hw ) hM2 hC2
/-- 32: body -/
theorem lw_32 {n i : Nat} {xs : Nat → Int32} {F : am_FT} {L : am_LT} {Q : am_QT} {g : am_G} (hi : i + 6 ≤ n) (hn : n < 2 ^ 31) (hw : wA g) (hM : Mdl F L g) (hC : Cls F L g) (next : ∀ (G : am_FT) (K : am_LT) (g' : am_G), wA g' → Mdl G K g' → Cls G K g' → wl (am_Zl n xs) 2048 mL_law 1524 (lvL i) [] G K Q) : wl (am_Zl n xs) 2048 mL_law 1133 (lvL i) [] F L Q := by
  apply wl_aload_n (n := 1) (x := .ref 0) (by decide +kernel) rfl rfl
  apply wl_arg (j := 1) (k := 1) (by decide +kernel) (by decide +kernel) (by decide +kernel) (by decide +kernel) (by decide +kernel) rfl (by omega) hn
  apply wl_cc (idx := 146) (as := [.int (xs (i + 1))]) (cc_body g hw.1 (xs (i + 1))) hM hC (by decide +kernel) rfl rfl rfl rfl (Nat.le_of_ble_eq_true rfl)
  intro G1 K1 hM1 hC1
  apply wl_aload_n (n := 2) (x := .ref 45) (by decide +kernel) rfl rfl
  apply wl_arg (j := 1) (k := 1) (by decide +kernel) (by decide +kernel) (by decide +kernel) (by decide +kernel) (by decide +kernel) rfl (by omega) hn
  apply wl_mc (idx := 149) (as := [.int (xs (i + 1))]) (mc_body g hw.1 (xs (i + 1))) hM1 hC1 (by decide +kernel) rfl rfl rfl (Nat.le_of_ble_eq_true rfl) rfl (Nat.le_of_ble_eq_true rfl)
  intro G2 K2 hM2 hC2
  apply wl_eq (off := 373) (t := 1524) (by decide +kernel) rfl
  exact next _ _ _ (w_body hw (xs (i + 1))) hM2 hC2
/-- 33: act -/
theorem lw_33 {n i : Nat} {xs : Nat → Int32} {F : am_FT} {L : am_LT} {Q : am_QT} {g : am_G} (hi : i + 6 ≤ n) (hn : n < 2 ^ 31) (hw : wA g) (hM : Mdl F L g) (hC : Cls F L g) (next : ∀ (G : am_FT) (K : am_LT) (g' : am_G), wA g' → Mdl G K g' → Cls G K g' → wl (am_Zl n xs) 2048 mL_law 1524 (lvL i) [] G K Q) : wl (am_Zl n xs) 2048 mL_law 1156 (lvL i) [] F L Q := by
  apply wl_aload_n (n := 1) (x := .ref 0) (by decide +kernel) rfl rfl
  apply wl_arg (j := 1) (k := 1) (by decide +kernel) (by decide +kernel) (by decide +kernel) (by decide +kernel) (by decide +kernel) rfl (by omega) hn
  apply wl_arg (j := 2) (k := 2) (by decide +kernel) (by decide +kernel) (by decide +kernel) (by decide +kernel) (by decide +kernel) rfl (by omega) hn
  apply wl_arg (j := 3) (k := 3) (by decide +kernel) (by decide +kernel) (by decide +kernel) (by decide +kernel) (by decide +kernel) rfl (by omega) hn
  apply wl_cc (idx := 150) (as := [.int (xs (i + 1)), .int (xs (i + 2)), .int (xs (i + 3))]) (cc_act g hw.1 (xs (i + 1)) (xs (i + 2)) (xs (i + 3))) hM hC (by decide +kernel) rfl rfl rfl rfl (Nat.le_of_ble_eq_true rfl)
  intro G1 K1 hM1 hC1
  apply wl_aload_n (n := 2) (x := .ref 45) (by decide +kernel) rfl rfl
  apply wl_arg (j := 1) (k := 1) (by decide +kernel) (by decide +kernel) (by decide +kernel) (by decide +kernel) (by decide +kernel) rfl (by omega) hn
  apply wl_arg (j := 2) (k := 2) (by decide +kernel) (by decide +kernel) (by decide +kernel) (by decide +kernel) (by decide +kernel) rfl (by omega) hn
  apply wl_arg (j := 3) (k := 3) (by decide +kernel) (by decide +kernel) (by decide +kernel) (by decide +kernel) (by decide +kernel) rfl (by omega) hn
  apply wl_mc (idx := 153) (as := [.int (xs (i + 1)), .int (xs (i + 2)), .int (xs (i + 3))]) (mc_act g hw.1 (xs (i + 1)) (xs (i + 2)) (xs (i + 3))) hM1 hC1 (by decide +kernel) rfl rfl rfl (Nat.le_of_ble_eq_true rfl) rfl (Nat.le_of_ble_eq_true rfl)
  intro G2 K2 hM2 hC2
  apply wl_eq (off := 330) (t := 1524) (by decide +kernel) rfl
  exact next _ _ _ (w_act hw (xs (i + 1)) (xs (i + 2)) (xs (i + 3))) hM2 hC2
/-- 34: trace -/
theorem lw_34 {n i : Nat} {xs : Nat → Int32} {F : am_FT} {L : am_LT} {Q : am_QT} {g : am_G} (hi : i + 6 ≤ n) (hn : n < 2 ^ 31) (hw : wA g) (hM : Mdl F L g) (hC : Cls F L g) (next : ∀ (G : am_FT) (K : am_LT) (g' : am_G), wA g' → Mdl G K g' → Cls G K g' → wl (am_Zl n xs) 2048 mL_law 1524 (lvL i) [] G K Q) : wl (am_Zl n xs) 2048 mL_law 1199 (lvL i) [] F L Q := by
  apply wl_aload_n (n := 1) (x := .ref 0) (by decide +kernel) rfl rfl
  apply wl_arg (j := 1) (k := 1) (by decide +kernel) (by decide +kernel) (by decide +kernel) (by decide +kernel) (by decide +kernel) rfl (by omega) hn
  apply wl_cc (idx := 154) (as := [.int (xs (i + 1))]) (cc_trace g hw.1 (xs (i + 1))) hM hC (by decide +kernel) rfl rfl rfl rfl (Nat.le_of_ble_eq_true rfl)
  intro G1 K1 hM1 hC1
  apply wl_aload_n (n := 2) (x := .ref 45) (by decide +kernel) rfl rfl
  apply wl_arg (j := 1) (k := 1) (by decide +kernel) (by decide +kernel) (by decide +kernel) (by decide +kernel) (by decide +kernel) rfl (by omega) hn
  apply wl_mc (idx := 157) (as := [.int (xs (i + 1))]) (mc_trace g hw.1 (xs (i + 1))) hM1 hC1 (by decide +kernel) rfl rfl rfl (Nat.le_of_ble_eq_true rfl) rfl (Nat.le_of_ble_eq_true rfl)
  intro G2 K2 hM2 hC2
  apply wl_eq (off := 307) (t := 1524) (by decide +kernel) rfl
  exact next _ _ _ hw hM2 hC2
/-- 35: keep -/
theorem lw_35 {n i : Nat} {xs : Nat → Int32} {F : am_FT} {L : am_LT} {Q : am_QT} {g : am_G} (hi : i + 6 ≤ n) (hn : n < 2 ^ 31) (hw : wA g) (hM : Mdl F L g) (hC : Cls F L g) (next : ∀ (G : am_FT) (K : am_LT) (g' : am_G), wA g' → Mdl G K g' → Cls G K g' → wl (am_Zl n xs) 2048 mL_law 1524 (lvL i) [] G K Q) : wl (am_Zl n xs) 2048 mL_law 1222 (lvL i) [] F L Q := by
  apply wl_aload_n (n := 1) (x := .ref 0) (by decide +kernel) rfl rfl
  apply wl_arg (j := 1) (k := 1) (by decide +kernel) (by decide +kernel) (by decide +kernel) (by decide +kernel) (by decide +kernel) rfl (by omega) hn
  apply wl_arg (j := 2) (k := 2) (by decide +kernel) (by decide +kernel) (by decide +kernel) (by decide +kernel) (by decide +kernel) rfl (by omega) hn
  apply wl_cc (idx := 158) (as := [.int (xs (i + 1)), .int (xs (i + 2))]) (cc_keep g hw.1 (xs (i + 1)) (xs (i + 2))) hM hC (by decide +kernel) rfl rfl rfl rfl (Nat.le_of_ble_eq_true rfl)
  intro G1 K1 hM1 hC1
  apply wl_aload_n (n := 2) (x := .ref 45) (by decide +kernel) rfl rfl
  apply wl_arg (j := 1) (k := 1) (by decide +kernel) (by decide +kernel) (by decide +kernel) (by decide +kernel) (by decide +kernel) rfl (by omega) hn
  apply wl_arg (j := 2) (k := 2) (by decide +kernel) (by decide +kernel) (by decide +kernel) (by decide +kernel) (by decide +kernel) rfl (by omega) hn
  apply wl_mc (idx := 161) (as := [.int (xs (i + 1)), .int (xs (i + 2))]) (mc_keep g hw.1 (xs (i + 1)) (xs (i + 2))) hM1 hC1 (by decide +kernel) rfl rfl rfl (Nat.le_of_ble_eq_true rfl) rfl (Nat.le_of_ble_eq_true rfl)
  intro G2 K2 hM2 hC2
  apply wl_eq (off := 274) (t := 1524) (by decide +kernel) rfl
  exact next _ _ _ (w_keep hw (xs (i + 1)) (xs (i + 2))) hM2 hC2
/-- 36: row -/
theorem lw_36 {n i : Nat} {xs : Nat → Int32} {F : am_FT} {L : am_LT} {Q : am_QT} {g : am_G} (hi : i + 6 ≤ n) (hn : n < 2 ^ 31) (hw : wA g) (hM : Mdl F L g) (hC : Cls F L g) (next : ∀ (G : am_FT) (K : am_LT) (g' : am_G), wA g' → Mdl G K g' → Cls G K g' → wl (am_Zl n xs) 2048 mL_law 1524 (lvL i) [] G K Q) : wl (am_Zl n xs) 2048 mL_law 1255 (lvL i) [] F L Q := by
  apply wl_aload_n (n := 1) (x := .ref 0) (by decide +kernel) rfl rfl
  apply wl_arg (j := 1) (k := 1) (by decide +kernel) (by decide +kernel) (by decide +kernel) (by decide +kernel) (by decide +kernel) rfl (by omega) hn
  apply wl_arg (j := 2) (k := 2) (by decide +kernel) (by decide +kernel) (by decide +kernel) (by decide +kernel) (by decide +kernel) rfl (by omega) hn
  apply wl_arg (j := 3) (k := 3) (by decide +kernel) (by decide +kernel) (by decide +kernel) (by decide +kernel) (by decide +kernel) rfl (by omega) hn
  apply wl_cc (idx := 162) (as := [.int (xs (i + 1)), .int (xs (i + 2)), .int (xs (i + 3))]) (cc_row g (xs (i + 1)) (xs (i + 2)) (xs (i + 3))) hM hC (by decide +kernel) rfl rfl rfl rfl (Nat.le_of_ble_eq_true rfl)
  intro G1 K1 hM1 hC1
  apply wl_aload_n (n := 2) (x := .ref 45) (by decide +kernel) rfl rfl
  apply wl_arg (j := 1) (k := 1) (by decide +kernel) (by decide +kernel) (by decide +kernel) (by decide +kernel) (by decide +kernel) rfl (by omega) hn
  apply wl_arg (j := 2) (k := 2) (by decide +kernel) (by decide +kernel) (by decide +kernel) (by decide +kernel) (by decide +kernel) rfl (by omega) hn
  apply wl_arg (j := 3) (k := 3) (by decide +kernel) (by decide +kernel) (by decide +kernel) (by decide +kernel) (by decide +kernel) rfl (by omega) hn
  apply wl_mc (idx := 165) (as := [.int (xs (i + 1)), .int (xs (i + 2)), .int (xs (i + 3))]) (mc_row g (xs (i + 1)) (xs (i + 2)) (xs (i + 3))) hM1 hC1 (by decide +kernel) rfl rfl rfl (Nat.le_of_ble_eq_true rfl) rfl (Nat.le_of_ble_eq_true rfl)
  intro G2 K2 hM2 hC2
  apply wl_eq (off := 231) (t := 1524) (by decide +kernel) rfl
  exact next _ _ _ (w_row hw (xs (i + 1)) (xs (i + 2)) (xs (i + 3))) hM2 hC2
/-- 37: put -/
theorem lw_37 {n i : Nat} {xs : Nat → Int32} {F : am_FT} {L : am_LT} {Q : am_QT} {g : am_G} (hi : i + 6 ≤ n) (hn : n < 2 ^ 31) (hw : wA g) (hM : Mdl F L g) (hC : Cls F L g) (next : ∀ (G : am_FT) (K : am_LT) (g' : am_G), wA g' → Mdl G K g' → Cls G K g' → wl (am_Zl n xs) 2048 mL_law 1524 (lvL i) [] G K Q) : wl (am_Zl n xs) 2048 mL_law 1298 (lvL i) [] F L Q := by
  apply wl_aload_n (n := 1) (x := .ref 0) (by decide +kernel) rfl rfl
  apply wl_arg (j := 1) (k := 1) (by decide +kernel) (by decide +kernel) (by decide +kernel) (by decide +kernel) (by decide +kernel) rfl (by omega) hn
  apply wl_arg (j := 2) (k := 2) (by decide +kernel) (by decide +kernel) (by decide +kernel) (by decide +kernel) (by decide +kernel) rfl (by omega) hn
  apply wl_arg (j := 3) (k := 3) (by decide +kernel) (by decide +kernel) (by decide +kernel) (by decide +kernel) (by decide +kernel) rfl (by omega) hn
  apply wl_i2l (by decide +kernel)
  apply wl_bipush (n := 32) (v := 32) (by decide +kernel) rfl
  apply wl_lshl (by decide +kernel)
  apply wl_arg (j := 4) (k := 4) (by decide +kernel) (by decide +kernel) (by decide +kernel) (by decide +kernel) (by decide +kernel) rfl (by omega) hn
  apply wl_i2l (by decide +kernel)
  apply wl_ldc2 (k := 166) (v := 4294967295) (by decide +kernel) (by decide +kernel)
  apply wl_land (by decide +kernel)
  apply wl_lor (by decide +kernel)
  apply wl_cc (idx := 168) (as := [.int (xs (i + 1)), .int (xs (i + 2)), .long ((((xs (i + 3))).toInt64 <<< ((32 : Int32).toInt64 &&& 63)) ||| (((xs (i + 4))).toInt64 &&& 4294967295))]) (cc_put g hw.1 (xs (i + 1)) (xs (i + 2)) ((((xs (i + 3))).toInt64 <<< ((32 : Int32).toInt64 &&& 63)) ||| (((xs (i + 4))).toInt64 &&& 4294967295))) hM hC (by decide +kernel) rfl rfl rfl rfl (Nat.le_of_ble_eq_true rfl)
  intro G1 K1 hM1 hC1
  apply wl_aload_n (n := 2) (x := .ref 45) (by decide +kernel) rfl rfl
  apply wl_arg (j := 1) (k := 1) (by decide +kernel) (by decide +kernel) (by decide +kernel) (by decide +kernel) (by decide +kernel) rfl (by omega) hn
  apply wl_arg (j := 2) (k := 2) (by decide +kernel) (by decide +kernel) (by decide +kernel) (by decide +kernel) (by decide +kernel) rfl (by omega) hn
  apply wl_arg (j := 3) (k := 3) (by decide +kernel) (by decide +kernel) (by decide +kernel) (by decide +kernel) (by decide +kernel) rfl (by omega) hn
  apply wl_i2l (by decide +kernel)
  apply wl_bipush (n := 32) (v := 32) (by decide +kernel) rfl
  apply wl_lshl (by decide +kernel)
  apply wl_arg (j := 4) (k := 4) (by decide +kernel) (by decide +kernel) (by decide +kernel) (by decide +kernel) (by decide +kernel) rfl (by omega) hn
  apply wl_i2l (by decide +kernel)
  apply wl_ldc2 (k := 166) (v := 4294967295) (by decide +kernel) (by decide +kernel)
  apply wl_land (by decide +kernel)
  apply wl_lor (by decide +kernel)
  apply wl_mc (idx := 172) (as := [.int (xs (i + 1)), .int (xs (i + 2)), .long ((((xs (i + 3))).toInt64 <<< ((32 : Int32).toInt64 &&& 63)) ||| (((xs (i + 4))).toInt64 &&& 4294967295))]) (mc_put g hw.1 (xs (i + 1)) (xs (i + 2)) ((((xs (i + 3))).toInt64 <<< ((32 : Int32).toInt64 &&& 63)) ||| (((xs (i + 4))).toInt64 &&& 4294967295))) hM1 hC1 (by decide +kernel) rfl rfl rfl (Nat.le_of_ble_eq_true rfl) rfl (Nat.le_of_ble_eq_true rfl)
  intro G2 K2 hM2 hC2
  apply wl_eq (off := 158) (t := 1524) (by decide +kernel) rfl
  exact next _ _ _ (w_put hw (xs (i + 1)) (xs (i + 2)) ((((xs (i + 3))).toInt64 <<< ((32 : Int32).toInt64 &&& 63)) ||| (((xs (i + 4))).toInt64 &&& 4294967295))) hM2 hC2
/-- 38: element -/
theorem lw_38 {n i : Nat} {xs : Nat → Int32} {F : am_FT} {L : am_LT} {Q : am_QT} {g : am_G} (hi : i + 6 ≤ n) (hn : n < 2 ^ 31) (hw : wA g) (hM : Mdl F L g) (hC : Cls F L g) (next : ∀ (G : am_FT) (K : am_LT) (g' : am_G), wA g' → Mdl G K g' → Cls G K g' → wl (am_Zl n xs) 2048 mL_law 1524 (lvL i) [] G K Q) : wl (am_Zl n xs) 2048 mL_law 1371 (lvL i) [] F L Q := by
  apply wl_aload_n (n := 1) (x := .ref 0) (by decide +kernel) rfl rfl
  apply wl_arg (j := 1) (k := 1) (by decide +kernel) (by decide +kernel) (by decide +kernel) (by decide +kernel) (by decide +kernel) rfl (by omega) hn
  apply wl_arg (j := 2) (k := 2) (by decide +kernel) (by decide +kernel) (by decide +kernel) (by decide +kernel) (by decide +kernel) rfl (by omega) hn
  apply wl_cc (idx := 173) (as := [.int (xs (i + 1)), .int (xs (i + 2))]) (cc_element g hw.1 (xs (i + 1)) (xs (i + 2))) hM hC (by decide +kernel) rfl rfl rfl rfl (Nat.le_of_ble_eq_true rfl)
  intro G1 K1 hM1 hC1
  apply wl_aload_n (n := 2) (x := .ref 45) (by decide +kernel) rfl rfl
  apply wl_arg (j := 1) (k := 1) (by decide +kernel) (by decide +kernel) (by decide +kernel) (by decide +kernel) (by decide +kernel) rfl (by omega) hn
  apply wl_arg (j := 2) (k := 2) (by decide +kernel) (by decide +kernel) (by decide +kernel) (by decide +kernel) (by decide +kernel) rfl (by omega) hn
  apply wl_mc (idx := 177) (as := [.int (xs (i + 1)), .int (xs (i + 2))]) (mc_element g hw.1 (xs (i + 1)) (xs (i + 2))) hM1 hC1 (by decide +kernel) rfl rfl rfl (Nat.le_of_ble_eq_true rfl) rfl (Nat.le_of_ble_eq_true rfl)
  intro G2 K2 hM2 hC2
  apply wl_lcmp (by decide +kernel)
  rw [lgc_self]
  apply wl_z (off := 124) (t := 1524) (by decide +kernel) rfl
  exact next _ _ _ hw hM2 hC2
/-- 39: shift -/
theorem lw_39 {n i : Nat} {xs : Nat → Int32} {F : am_FT} {L : am_LT} {Q : am_QT} {g : am_G} (hi : i + 6 ≤ n) (hn : n < 2 ^ 31) (hw : wA g) (hM : Mdl F L g) (hC : Cls F L g) (next : ∀ (G : am_FT) (K : am_LT) (g' : am_G), wA g' → Mdl G K g' → Cls G K g' → wl (am_Zl n xs) 2048 mL_law 1524 (lvL i) [] G K Q) : wl (am_Zl n xs) 2048 mL_law 1405 (lvL i) [] F L Q := by
  apply wl_aload_n (n := 1) (x := .ref 0) (by decide +kernel) rfl rfl
  apply wl_arg (j := 1) (k := 1) (by decide +kernel) (by decide +kernel) (by decide +kernel) (by decide +kernel) (by decide +kernel) rfl (by omega) hn
  apply wl_arg (j := 2) (k := 2) (by decide +kernel) (by decide +kernel) (by decide +kernel) (by decide +kernel) (by decide +kernel) rfl (by omega) hn
  apply wl_arg (j := 3) (k := 3) (by decide +kernel) (by decide +kernel) (by decide +kernel) (by decide +kernel) (by decide +kernel) rfl (by omega) hn
  apply wl_arg (j := 4) (k := 4) (by decide +kernel) (by decide +kernel) (by decide +kernel) (by decide +kernel) (by decide +kernel) rfl (by omega) hn
  apply wl_arg (j := 5) (k := 5) (by decide +kernel) (by decide +kernel) (by decide +kernel) (by decide +kernel) (by decide +kernel) rfl (by omega) hn
  apply wl_cc (idx := 178) (as := [.int (xs (i + 1)), .int (xs (i + 2)), .int (xs (i + 3)), .int (xs (i + 4)), .int (xs (i + 5))]) (cc_shift g hw.1 (xs (i + 1)) (xs (i + 2)) (xs (i + 3)) (xs (i + 4)) (xs (i + 5))) hM hC (by decide +kernel) rfl rfl rfl rfl (Nat.le_of_ble_eq_true rfl)
  intro G1 K1 hM1 hC1
  apply wl_aload_n (n := 2) (x := .ref 45) (by decide +kernel) rfl rfl
  apply wl_arg (j := 1) (k := 1) (by decide +kernel) (by decide +kernel) (by decide +kernel) (by decide +kernel) (by decide +kernel) rfl (by omega) hn
  apply wl_arg (j := 2) (k := 2) (by decide +kernel) (by decide +kernel) (by decide +kernel) (by decide +kernel) (by decide +kernel) rfl (by omega) hn
  apply wl_arg (j := 3) (k := 3) (by decide +kernel) (by decide +kernel) (by decide +kernel) (by decide +kernel) (by decide +kernel) rfl (by omega) hn
  apply wl_arg (j := 4) (k := 4) (by decide +kernel) (by decide +kernel) (by decide +kernel) (by decide +kernel) (by decide +kernel) rfl (by omega) hn
  apply wl_arg (j := 5) (k := 5) (by decide +kernel) (by decide +kernel) (by decide +kernel) (by decide +kernel) (by decide +kernel) rfl (by omega) hn
  apply wl_mc (idx := 182) (as := [.int (xs (i + 1)), .int (xs (i + 2)), .int (xs (i + 3)), .int (xs (i + 4)), .int (xs (i + 5))]) (mc_shift g hw.1 (xs (i + 1)) (xs (i + 2)) (xs (i + 3)) (xs (i + 4)) (xs (i + 5))) hM1 hC1 (by decide +kernel) rfl rfl rfl (Nat.le_of_ble_eq_true rfl) rfl (Nat.le_of_ble_eq_true rfl)
  intro G2 K2 hM2 hC2
  apply wl_eq (off := 61) (t := 1524) (by decide +kernel) rfl
  exact next _ _ _ (w_shift hw (xs (i + 1)) (xs (i + 2)) (xs (i + 3)) (xs (i + 4)) (xs (i + 5))) hM2 hC2
/-- 40: taken -/
theorem lw_40 {n i : Nat} {xs : Nat → Int32} {F : am_FT} {L : am_LT} {Q : am_QT} {g : am_G} (hi : i + 6 ≤ n) (hn : n < 2 ^ 31) (hw : wA g) (hM : Mdl F L g) (hC : Cls F L g) (next : ∀ (G : am_FT) (K : am_LT) (g' : am_G), wA g' → Mdl G K g' → Cls G K g' → wl (am_Zl n xs) 2048 mL_law 1524 (lvL i) [] G K Q) : wl (am_Zl n xs) 2048 mL_law 1468 (lvL i) [] F L Q := by
  apply wl_aload_n (n := 1) (x := .ref 0) (by decide +kernel) rfl rfl
  apply wl_arg (j := 1) (k := 1) (by decide +kernel) (by decide +kernel) (by decide +kernel) (by decide +kernel) (by decide +kernel) rfl (by omega) hn
  apply wl_arg (j := 2) (k := 2) (by decide +kernel) (by decide +kernel) (by decide +kernel) (by decide +kernel) (by decide +kernel) rfl (by omega) hn
  apply wl_cc (idx := 183) (as := [.int (xs (i + 1)), .int (xs (i + 2))]) (cc_taken g hw.1 (xs (i + 1)) (xs (i + 2))) hM hC (by decide +kernel) rfl rfl rfl rfl (Nat.le_of_ble_eq_true rfl)
  intro G1 K1 hM1 hC1
  apply wl_aload_n (n := 2) (x := .ref 45) (by decide +kernel) rfl rfl
  apply wl_arg (j := 1) (k := 1) (by decide +kernel) (by decide +kernel) (by decide +kernel) (by decide +kernel) (by decide +kernel) rfl (by omega) hn
  apply wl_arg (j := 2) (k := 2) (by decide +kernel) (by decide +kernel) (by decide +kernel) (by decide +kernel) (by decide +kernel) rfl (by omega) hn
  apply wl_mc (idx := 186) (as := [.int (xs (i + 1)), .int (xs (i + 2))]) (mc_taken g hw.1 (xs (i + 1)) (xs (i + 2))) hM1 hC1 (by decide +kernel) rfl rfl rfl (Nat.le_of_ble_eq_true rfl) rfl (Nat.le_of_ble_eq_true rfl)
  intro G2 K2 hM2 hC2
  apply wl_eq (off := 28) (t := 1524) (by decide +kernel) rfl
  exact next _ _ _ hw hM2 hC2
/-- 41: count -/
theorem lw_41 {n i : Nat} {xs : Nat → Int32} {F : am_FT} {L : am_LT} {Q : am_QT} {g : am_G} (hi : i + 6 ≤ n) (hn : n < 2 ^ 31) (hw : wA g) (hM : Mdl F L g) (hC : Cls F L g) (next : ∀ (G : am_FT) (K : am_LT) (g' : am_G), wA g' → Mdl G K g' → Cls G K g' → wl (am_Zl n xs) 2048 mL_law 1524 (lvL i) [] G K Q) : wl (am_Zl n xs) 2048 mL_law 1501 (lvL i) [] F L Q := by
  apply wl_aload_n (n := 1) (x := .ref 0) (by decide +kernel) rfl rfl
  apply wl_arg (j := 1) (k := 1) (by decide +kernel) (by decide +kernel) (by decide +kernel) (by decide +kernel) (by decide +kernel) rfl (by omega) hn
  apply wl_cc (idx := 187) (as := [.int (xs (i + 1))]) (cc_count g (xs (i + 1))) hM hC (by decide +kernel) rfl rfl rfl rfl (Nat.le_of_ble_eq_true rfl)
  intro G1 K1 hM1 hC1
  apply wl_aload_n (n := 2) (x := .ref 45) (by decide +kernel) rfl rfl
  apply wl_arg (j := 1) (k := 1) (by decide +kernel) (by decide +kernel) (by decide +kernel) (by decide +kernel) (by decide +kernel) rfl (by omega) hn
  apply wl_mc (idx := 190) (as := [.int (xs (i + 1))]) (mc_count g (xs (i + 1))) hM1 hC1 (by decide +kernel) rfl rfl rfl (Nat.le_of_ble_eq_true rfl) rfl (Nat.le_of_ble_eq_true rfl)
  intro G2 K2 hM2 hC2
  apply wl_eq (off := 5) (t := 1524) (by decide +kernel) rfl
  exact next _ _ _ hw hM2 hC2
