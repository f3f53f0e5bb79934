theorem am_ok_ifnull (Z : am_Z) (off : Int) : am_SOk Z (.ifnull off) := by
  intro p l e R s m args below meth c Q D κ zs α A d M pc len cells slots lv lv' st st' h h' pc' H locs ls hX hW hL hd hs hc hz kk
  replace hs : (match st with | .ref _ :: r => am_go len 3 pc lv r h | .null :: r => if len = 3 then am_jp pc off lv r h else none | _ => none) = some (Sum.inl (pc', lv', st', h')) := hs
  split at hs
  next a r =>
    obtain ⟨rfl, rfl, rfl, rfl, rfl⟩ := am_go_some hs
    exact lv_ifnull hX.1 hX.2.1 hd (am_k0 rfl rfl kk H locs ls hW hL)
  next r =>
    split at hs
    next hl =>
      subst hl
      obtain ⟨ht, rfl, rfl, rfl⟩ := am_jp_some hs
      exact lv_ifnullN hX.1 hX.2.1 hd ht (am_k0 rfl rfl kk H locs ls hW hL)
    next => cases hs
  next => cases hs
theorem am_ok_ifnonnull (Z : am_Z) (off : Int) : am_SOk Z (.ifnonnull off) := by
  intro p l e R s m args below meth c Q D κ zs α A d M pc len cells slots lv lv' st st' h h' pc' H locs ls hX hW hL hd hs hc hz kk
  replace hs : (match st with | .ref _ :: r => if len = 3 then am_jp pc off lv r h else none | .null :: r => am_go len 3 pc lv r h | _ => none) = some (Sum.inl (pc', lv', st', h')) := hs
  split at hs
  next a r =>
    split at hs
    next hl =>
      subst hl
      obtain ⟨ht, rfl, rfl, rfl⟩ := am_jp_some hs
      exact lv_ifnonnull hX.1 hX.2.1 hd ht (am_k0 rfl rfl kk H locs ls hW hL)
    next => cases hs
  next r =>
    obtain ⟨rfl, rfl, rfl, rfl, rfl⟩ := am_go_some hs
    exact lv_ifnonnullN hX.1 hX.2.1 hd (am_k0 rfl rfl kk H locs ls hW hL)
  next => cases hs
theorem am_ok_tableswitch (Z : am_Z) (df lo hi : Int) (offs : Array Int) : am_SOk Z (.tableswitch df lo hi offs) := by
  intro p l e R s m args below meth c Q D κ zs α A d M pc len cells slots lv lv' st st' h h' pc' H locs ls hX hW hL hd hs hc hz kk
  replace hs : (am_p1 st fun x r => if x.toInt < lo ∨ hi < x.toInt then am_jp pc df lv r h else match offs[(x.toInt - lo).toNat]? with | some off => am_jp pc off lv r h | none => none) = some (Sum.inl (pc', lv', st', h')) := hs
  have hs2 := am_p1_some hs
  clear hs
  obtain ⟨x, r, rfl, hs⟩ := hs2
  split at hs
  next hn =>
    obtain ⟨ht, rfl, rfl, rfl⟩ := am_jp_some hs
    exact lv_tableOut hX.1 hX.2.1 hd hn ht (am_k0 rfl rfl kk H locs ls hW hL)
  next hn =>
    split at hs
    next off ho =>
      obtain ⟨ht, rfl, rfl, rfl⟩ := am_jp_some hs
      exact lv_tableIn hX.1 hX.2.1 hd (fun z => hn (Or.inl z)) (fun z => hn (Or.inr z)) ho ht (am_k0 rfl rfl kk H locs ls hW hL)
    next => cases hs
theorem am_ok_lookupswitch (Z : am_Z) (df : Int) (ps : Array (Int × Int)) : am_SOk Z (.lookupswitch df ps) := by
  intro p l e R s m args below meth c Q D κ zs α A d M pc len cells slots lv lv' st st' h h' pc' H locs ls hX hW hL hd hs hc hz kk
  replace hs : (am_p1 st fun x r => if (ps.toList.zip (ps.toList.drop 1)).all (fun (a, next) => a.1 < next.1) = true then am_jp pc (Op.lookupswitch.offset ps.toList df x.toInt) lv r h else none) = some (Sum.inl (pc', lv', st', h')) := hs
  have hs2 := am_p1_some hs
  clear hs
  obtain ⟨x, r, rfl, hs⟩ := hs2
  split at hs
  next hn =>
    obtain ⟨ht, rfl, rfl, rfl⟩ := am_jp_some hs
    exact lv_lookup hX.1 hX.2.1 hd hn rfl ht (am_k0 rfl rfl kk H locs ls hW hL)
  next => cases hs
theorem am_s6 {q : Nat} (a : q < 1006) (b : ¬ q < 1000) : q - 1000 < 6 := by omega
theorem am_fs_at {α zs : Nat → Nat} {rs : List (Option Nat)} {F : Nat → Nat → Int32} {p ci k : Nat} (hk : k < am_nf ci) : ((List.range (am_nf ci)).map (fun k => am_c α zs (am_fv rs F p ci k)))[k]? = some (am_c α zs (am_fv rs F p ci k)) := by
  rw [List.getElem?_map, List.getElem?_range hk]
  rfl
theorem am_ok_getfield (Z : am_Z) (idx : Nat) : am_SOk Z (.getfield idx) := by
  intro p l e R s m args below meth c Q D κ zs α A d M pc len cells slots lv lv' st st' h h' pc' H locs ls hX hW hL hd hs hc hz kk
  replace hs : (match am_fld M.1 idx with | none => none | some (ci, k, _) => am_a1 st fun p r => am_at h p ci fun _ rs => am_go len 3 pc lv (am_fv rs h.2.1 p ci k :: r) h) = some (Sum.inl (pc', lv', st', h')) := hs
  cases hf : am_fld M.1 idx with
  | none => rw [hf] at hs; cases hs
  | some x =>
    obtain ⟨ci, k, b⟩ := x
    rw [hf] at hs
    replace hs : (am_a1 st fun p r => am_at h p ci fun _ rs => am_go len 3 pc lv (am_fv rs h.2.1 p ci k :: r) h) = some (Sum.inl (pc', lv', st', h')) := hs
    have hs2 := am_a1_some hs
    clear hs
    obtain ⟨q, r, rfl, hs⟩ := hs2
    have hs2 := am_at_some hs
    clear hs
    obtain ⟨n, rs, hp, hs⟩ := hs2
    obtain ⟨rfl, rfl, rfl, rfl, rfl⟩ := am_go_some hs
    obtain ⟨hci, hk, hl⟩ := am_fld_ok hf
    have ha := am_pl (α := α) (zs := zs) hW.2.2.2 hp
    have he := am_ws_at (α := α) (zs := zs) (κ := κ) hp
    rw [am_cell_obj hci] at he
    have k1 := am_k0 rfl rfl kk H locs ls hW hL
    show W p l e R s m args below meth c H locs cells slots Q (F0 m pc ls (.ref (am_ad α zs q) :: r.map (am_c α zs)))
    rw [ha]
    cases b with
    | true => exact va_get hX.1 hX.2.1 hX.2.2.2.2.1 (am_u hci) hX.2.2.2.1 hX.2.2.2.2.2.2.2.2.1 hW.1 q he (am_clok hci) k hk (hX.ts hl rfl) (fun _ h9 => h9) (am_fs_at hk) hd k1
    | false => exact va_getN hX.1 hX.2.1 hX.2.2.2.2.1 (am_u hci) hX.2.2.2.1 hX.2.2.2.2.2.2.2.2.1 hW.1 q he (am_clok hci) k hk (va_Nw.use rfl (hX.nw hl rfl)) (fun _ h9 => h9) (am_fs_at hk) hd k1
theorem am_ws_F {α zs κ : Nat → Nat} {h : am_H} {q ci k n : Nat} {rs : List (Option Nat)} {x : Int32} (hci : ci < 13) (hr : am_isref ci k = false) (hp : h.1[q]? = some (ci, n, rs)) :
    am_ws α zs κ (h.1, am_upF h.2.1 q k x, h.2.2) = (am_ws α zs κ h).set q (α q, .inr (ci, ((List.range (am_nf ci)).map (fun k => am_c α zs (am_fv rs h.2.1 q ci k))).set k (.int x))) := by
  rw [am_ws_upd (h' := (h.1, am_upF h.2.1 q k x, h.2.2)) (x' := (ci, n, rs)) hp (fun j => by
    by_cases e : j = q
    · subst e; rw [if_pos rfl]; exact hp
    · rw [if_neg e]) (fun j y hj => am_cell_congr (if_neg hj) rfl), am_cell_obj hci]
  congr 4
  have hF : am_upF h.2.1 q k x q = upd (h.2.1 q) k x := if_pos rfl
  refine am_map_set ?_ fun j hj => ?_
  · show am_c α zs (am_fv rs (am_upF h.2.1 q k x) q ci k) = _
    unfold am_fv
    rw [if_neg (by rw [hr]; exact Bool.false_ne_true), hF]
    show Value.int (upd _ k x k) = _
    rw [show upd (h.2.1 q) k x k = x from if_pos rfl]
  · show am_c α zs (am_fv rs (am_upF h.2.1 q k x) q ci j) = am_c α zs (am_fv rs h.2.1 q ci j)
    unfold am_fv
    split
    · rfl
    · rw [hF, show upd (h.2.1 q) k x j = h.2.1 q j from if_neg hj]
theorem am_narr {ci k a : Nat} (hr : am_isref ci k = true) : narrow (am_ty ci k) (.ref a) = .ref a ∧ fits (am_ty ci k) (.ref a) = true := by
  unfold am_isref at hr
  cases e : am_ty ci k <;> rw [e] at hr <;> first | exact ⟨rfl, rfl⟩ | cases hr
theorem am_ws_R {α zs κ : Nat → Nat} {h : am_H} {q ci k n v : Nat} {rs : List (Option Nat)} (hci : ci < 13) (hr : am_isref ci k = true) (hp : h.1[q]? = some (ci, n, rs)) (hk : k < rs.length) (hv : am_ad α zs v = α v) :
    am_ws α zs κ (h.1.set q (ci, n, rs.set k (some v)), h.2.1, h.2.2) = (am_ws α zs κ h).set q (α q, .inr (ci, ((List.range (am_nf ci)).map (fun k => am_c α zs (am_fv rs h.2.1 q ci k))).set k (.ref (α v)))) := by
  have hlq := (List.getElem?_eq_some_iff.mp hp).1
  rw [am_ws_upd (h' := (h.1.set q (ci, n, rs.set k (some v)), h.2.1, h.2.2)) (x' := (ci, n, rs.set k (some v))) hp (fun j => by
    show (h.1.set q (ci, n, rs.set k (some v)))[j]? = _
    by_cases e : j = q
    · subst e; rw [if_pos rfl, List.getElem?_set_self hlq]
    · rw [if_neg e, List.getElem?_set_ne (fun z => e z.symm)]) (fun j y hj => rfl), am_cell_obj hci]
  congr 4
  refine am_map_set ?_ fun j hj => ?_
  · show am_c α zs (am_fv (rs.set k (some v)) h.2.1 q ci k) = _
    unfold am_fv
    rw [if_pos hr, am_c_rf, am_rf_set hk, if_pos rfl]
    show Value.ref _ = _
    rw [hv]
  · show am_c α zs (am_fv (rs.set k (some v)) h.2.1 q ci j) = am_c α zs (am_fv rs h.2.1 q ci j)
    unfold am_fv
    split
    · rw [am_rf_set hk, if_neg hj]
    · rfl
theorem am_ok_putfield (Z : am_Z) (idx : Nat) : am_SOk Z (.putfield idx) := by
  intro p l e R s m args below meth c Q D κ zs α A d M pc len cells slots lv lv' st st' h h' pc' H locs ls hX hW hL hd hs hc hz kk
  replace hs : (match am_fld M.1 idx with
    | none => none
    | some (ci, k, b) => match st with
      | .int x :: .ref p :: r => am_at h p ci fun _ _ => if (am_T ci k).2.2.2 = false ∧ am_isref ci k = false ∧ narrow (am_ty ci k) (.int x) = .int x ∧ fits (am_ty ci k) (.int x) = true then am_go len 3 pc lv r (h.1, am_upF h.2.1 p k x, h.2.2) else none
      | .ref q :: .ref p :: r => am_at h p ci fun n rs => if b = true ∧ (am_T ci k).2.2.2 = true ∧ M.2.1.name = "<init>" ∧ (am_T ci k).1 = am_cn M.1 ∧ am_isref ci k = true ∧ q < h.1.length ∧ k < rs.length then am_go len 3 pc lv r (h.1.set p (ci, n, rs.set k (some q)), h.2.1, h.2.2) else none
      | _ => none) = some (Sum.inl (pc', lv', st', h')) := hs
  cases hf : am_fld M.1 idx with
  | none => rw [hf] at hs; cases hs
  | some x =>
    obtain ⟨ci, k, b⟩ := x
    rw [hf] at hs
    dsimp only at hs
    obtain ⟨hci, hk, hl⟩ := am_fld_ok hf
    split at hs
    next x q r =>
      have hs2 := am_at_some hs
      clear hs
      obtain ⟨n, rs, hp, hs⟩ := hs2
      split at hs
      next hg =>
        obtain ⟨g1, g2, g3, g4⟩ := hg
        obtain ⟨rfl, rfl, rfl, rfl, rfl⟩ := am_go_some hs
        have ha := am_pl (α := α) (zs := zs) hW.2.2.2 hp
        have he := am_ws_at (α := α) (zs := zs) (κ := κ) hp
        rw [am_cell_obj hci] at he
        have k1 := am_k0 (h := h) (h' := (h.1, am_upF h.2.1 q k x, h.2.2)) rfl rfl kk
        have hw := am_ws_F (α := α) (zs := zs) (κ := κ) (x := x) hci g2 hp
        show W p l e R s m args below meth c H locs cells slots Q (F0 m pc ls (.int x :: .ref (am_ad α zs q) :: st'.map (am_c α zs)))
        rw [ha]
        cases b with
        | true => exact va_put hX.1 hX.2.1 hX.2.2.2.2.1 (am_u hci) (am_ty ci) (am_tyok hci) (am_nmok hci) hX.2.2.2.1 hX.2.2.2.2.2.2.2.2.1 hW.1 hW.2.1 hW.2.2.1 q he (am_clok hci) k hk (hX.ts hl rfl) (fun _ h9 => h9) g1 (am_tyok hci k hk) g3 g4 (by rw [List.length_map, List.length_range]; exact hk) hd (fun H1 locs1 a1 a2 a3 => k1 H1 locs1 ls ⟨by rw [hw]; exact a1, by rw [hw]; exact a2, a3, hW.2.2.2⟩ hL)
        | false => exact va_putN hX.1 hX.2.1 hX.2.2.2.2.1 (am_u hci) (am_ty ci) (am_tyok hci) (am_nmok hci) hX.2.2.2.1 hX.2.2.2.2.2.2.2.2.1 hW.1 hW.2.1 hW.2.2.1 q he (am_clok hci) k hk (va_Nw.use rfl (hX.nw hl rfl)) (fun _ h9 => h9) g1 (am_tyok hci k hk) g3 g4 (by rw [List.length_map, List.length_range]; exact hk) hd (fun H1 locs1 a1 a2 a3 => k1 H1 locs1 ls ⟨by rw [hw]; exact a1, by rw [hw]; exact a2, a3, hW.2.2.2⟩ hL)
      next => cases hs
    next v q r =>
      have hs2 := am_at_some hs
      clear hs
      obtain ⟨n, rs, hp, hs⟩ := hs2
      split at hs
      next hg =>
        obtain ⟨rfl, g1, g2, g3, g4, g5, g6⟩ := hg
        obtain ⟨rfl, rfl, rfl, rfl, rfl⟩ := am_go_some hs
        have ha := am_pl (α := α) (zs := zs) hW.2.2.2 hp
        have hav : am_ad α zs v = α v := if_pos (Nat.lt_of_lt_of_le g5 hW.2.2.2.1)
        have he := am_ws_at (α := α) (zs := zs) (κ := κ) hp
        rw [am_cell_obj hci] at he
        have hw := am_ws_R (α := α) (zs := zs) (κ := κ) hci g4 hp g6 hav
        have k1 := am_k0 (h := h) (h' := (h.1.set q (ci, n, rs.set k (some v)), h.2.1, h.2.2)) (by show (h.1.set q _).length = _; rw [List.length_set]; rfl) (am_z_set hp) kk
        show W p l e R s m args below meth c H locs cells slots Q (F0 m pc ls (.ref (am_ad α zs v) :: .ref (am_ad α zs q) :: st'.map (am_c α zs)))
        rw [ha, hav]
        exact va_putF hX.1 hX.2.1 hX.2.2.2.2.1 (am_u hci) (am_ty ci) (am_tyok hci) (am_nmok hci) hX.2.2.2.1 hX.2.2.2.2.2.2.2.2.1 hW.1 hW.2.1 hW.2.2.1 q he (am_clok hci) k hk (hX.ts hl rfl) (fun _ h9 => h9) g1 (hX.2.2.2.2.2.2.2.1 g2) g3 (am_tyok hci k hk) (am_narr g4).1 (am_narr g4).2 (by rw [List.length_map, List.length_range]; exact hk) hd (fun H1 locs1 a1 a2 a3 => k1 H1 locs1 ls ⟨by rw [hw]; exact a1, by rw [hw]; exact a2, a3, am_wf_set hW.2.2.2 hp g5⟩ hL)
      next => cases hs
    next => cases hs
theorem am_ok_getstatic (Z : am_Z) (idx : Nat) : am_SOk Z (.getstatic idx) := by
  intro p l e R s m args below meth c Q D κ zs α A d M pc len cells slots lv lv' st st' h h' pc' H locs ls hX hW hL hd hs hc hz kk
  replace hs : (match am_stat M.1 idx with | none => none | some j => am_go len 3 pc lv (.ref (1000 + j) :: st) h) = some (Sum.inl (pc', lv', st', h')) := hs
  cases hf : am_stat M.1 idx with
  | none => rw [hf] at hs; cases hs
  | some j =>
    rw [hf] at hs
    dsimp only at hs
    obtain ⟨rfl, rfl, rfl, rfl, rfl⟩ := am_go_some hs
    obtain ⟨hj, hl⟩ := am_stat_ok hf
    have k1 := am_k0 rfl rfl kk H locs ls hW hL
    have ha : am_c α zs (.ref (1000 + j)) = .ref (zs j) := by show Value.ref _ = _; unfold am_ad; rw [if_neg (by omega), Nat.add_sub_cancel_left]
    refine va_gets hX.1 hX.2.1 (hX.2.2.2.2.2.2.2.2.2.2.2.1 j hj) hW.2.2.1 hX.2.2.2.1 (hX.ts hl rfl) (fun _ h9 => h9) hd ?_
    rw [← ha]
    exact k1
theorem am_ok_arraylength (Z : am_Z) : am_SOk Z (.arraylength) := by
  intro p l e R s m args below meth c Q D κ zs α A d M pc len cells slots lv lv' st st' h h' pc' H locs ls hX hW hL hd hs hc hz kk
  replace hs : (am_a1 st fun p r => if p < 1000 then (match h.1[p]? with
      | some (k, n, _) => if k = 100 ∨ k = 101 ∨ k = 102 then am_go len 1 pc lv (.int (Int32.ofNat n) :: r) h else none
      | none => none) else if p < 1006 then (match Z (p - 1000) with
      | some z => am_go len 1 pc lv (.int (Int32.ofNat z.1) :: r) h
      | none => none) else none) = some (Sum.inl (pc', lv', st', h')) := hs
  have hs2 := am_a1_some hs
  clear hs
  obtain ⟨q, r, rfl, hs⟩ := hs2
  split at hs
  next hq =>
    split at hs
    next k n rs hp =>
      split at hs
      next hk =>
        obtain ⟨rfl, rfl, rfl, rfl, rfl⟩ := am_go_some hs
        have k1 := am_k0 rfl rfl kk H locs ls hW hL
        have ha := am_pl (α := α) (zs := zs) hW.2.2.2 hp
        have he := am_ws_at (α := α) (zs := zs) (κ := κ) hp
        show W p l e R s m args below meth c H locs cells slots Q (F0 m pc ls (.ref (am_ad α zs q) :: r.map (am_c α zs)))
        rw [ha]
        rcases hk with rfl | rfl | rfl
        · exact va_alen hX.1 hX.2.1 hX.2.2.2.2.2.2.2.2.1 hW.1 q 0 (x := (n, .inl _)) (by rw [he, am_cell_i]) (ty := .int) rfl rfl hd k1
        · exact va_alen hX.1 hX.2.1 hX.2.2.2.2.2.2.2.2.1 hW.1 q 1 (x := (n, .inr (.inl _))) (by rw [he, am_cell_l]) (ty := .long) rfl rfl hd k1
        · exact va_alen hX.1 hX.2.1 hX.2.2.2.2.2.2.2.2.1 hW.1 q 2 (x := (n, .inr (.inr (.inr (.inr _))))) (by rw [he, am_cell_q]) (ty := .object RX8) rfl rfl hd k1
      next => cases hs
    next => cases hs
  next hq =>
    split at hs
    next hq2 =>
      split at hs
      next z hz9 =>
        obtain ⟨rfl, rfl, rfl, rfl, rfl⟩ := am_go_some hs
        have k1 := am_k0 rfl rfl kk H locs ls hW hL
        have z1 := hX.2.2.2.2.2.2.2.2.2.2.1 (q - 1000) z (by omega) hz9
        have ha : am_ad α zs q = zs (q - 1000) := if_neg hq
        show W p l e R s m args below meth c H locs cells slots Q (F0 m pc ls (.ref (am_ad α zs q) :: r.map (am_c α zs)))
        rw [ha]
        exact va_tlen hX.1 hX.2.1 z1 hW.2.2.1 rfl hd k1
      next => cases hs
    next => cases hs
theorem am_ok_iaload (Z : am_Z) : am_SOk Z (.iaload) := by
  intro p l e R s m args below meth c Q D κ zs α A d M pc len cells slots lv lv' st st' h h' pc' H locs ls hX hW hL hd hs hc hz kk
  replace hs : (match st with
    | .int i :: .ref p :: r => if p < 1000 then am_at h p 100 fun n _ => if am_oob i n = true then none else am_go len 1 pc lv (.int (h.2.1 p i.toNatClampNeg) :: r) h
        else if p < 1006 then (match Z (p - 1000) with
          | some z => if am_oob i z.1 = true then none else am_go len 1 pc lv (.int (z.2 i.toNatClampNeg) :: r) h
          | none => none) else none
    | _ => none) = some (Sum.inl (pc', lv', st', h')) := hs
  split at hs
  next i q r =>
    split at hs
    next hq =>
      have hs2 := am_at_some hs
      clear hs
      obtain ⟨n, rs, hp, hs⟩ := hs2
      split at hs
      next => cases hs
      next hi =>
        obtain ⟨rfl, rfl, rfl, rfl, rfl⟩ := am_go_some hs
        have k1 := am_k0 rfl rfl kk H locs ls hW hL
        have ha := am_pl (α := α) (zs := zs) hW.2.2.2 hp
        have he := am_ws_at (α := α) (zs := zs) (κ := κ) hp
        show W p l e R s m args below meth c H locs cells slots Q (F0 m pc ls (.int i :: .ref (am_ad α zs q) :: r.map (am_c α zs)))
        rw [ha]
        exact va_iald hX.1 hX.2.1 hX.2.2.2.2.2.2.2.2.1 hW.1 q 0 (by rw [he, am_cell_i]) rfl (am_oob_in (by simpa using hi)) hd k1
    next hq =>
      split at hs
      next hg =>
        split at hs
        next z hz9 =>
          split at hs
          next => cases hs
          next hi =>
            obtain ⟨rfl, rfl, rfl, rfl, rfl⟩ := am_go_some hs
            have k1 := am_k0 rfl rfl kk H locs ls hW hL
            have z1 := hX.2.2.2.2.2.2.2.2.2.2.1 (q - 1000) z (am_s6 hg hq) hz9
            have ha : am_ad α zs q = zs (q - 1000) := if_neg hq
            show W p l e R s m args below meth c H locs cells slots Q (F0 m pc ls (.int i :: .ref (am_ad α zs q) :: r.map (am_c α zs)))
            rw [ha]
            exact va_ti hX.1 hX.2.1 z1 hW.2.2.1 (am_oob_in (by simpa using hi)) rfl hd k1
        next => cases hs
      next => cases hs
  next => cases hs
theorem am_ok_laload (Z : am_Z) : am_SOk Z (.laload) := by
  intro p l e R s m args below meth c Q D κ zs α A d M pc len cells slots lv lv' st st' h h' pc' H locs ls hX hW hL hd hs hc hz kk
  replace hs : (match st with
    | .int i :: .ref p :: r => am_at h p 101 fun n _ => if am_oob i n = true then none else am_go len 1 pc lv (.long (h.2.2 p i.toNatClampNeg) :: r) h
    | _ => none) = some (Sum.inl (pc', lv', st', h')) := hs
  split at hs
  next i q r =>
    have hs2 := am_at_some hs
    clear hs
    obtain ⟨n, rs, hp, hs⟩ := hs2
    split at hs
    next => cases hs
    next hi =>
      obtain ⟨rfl, rfl, rfl, rfl, rfl⟩ := am_go_some hs
      have k1 := am_k0 rfl rfl kk H locs ls hW hL
      have ha := am_pl (α := α) (zs := zs) hW.2.2.2 hp
      have he := am_ws_at (α := α) (zs := zs) (κ := κ) hp
      show W p l e R s m args below meth c H locs cells slots Q (F0 m pc ls (.int i :: .ref (am_ad α zs q) :: r.map (am_c α zs)))
      rw [ha]
      exact va_lald hX.1 hX.2.1 hX.2.2.2.2.2.2.2.2.1 hW.1 q 1 (by rw [he, am_cell_l]) rfl (am_oob_in (by simpa using hi)) hd k1
  next => cases hs
theorem am_ok_aaload (Z : am_Z) : am_SOk Z (.aaload) := by
  intro p l e R s m args below meth c Q D κ zs α A d M pc len cells slots lv lv' st st' h h' pc' H locs ls hX hW hL hd hs hc hz kk
  replace hs : (match st with
    | .int i :: .ref p :: r => am_at h p 102 fun n rs => if am_oob i n = true then none else am_go len 1 pc lv (va_rf (am_rf rs i.toNatClampNeg) :: r) h
    | _ => none) = some (Sum.inl (pc', lv', st', h')) := hs
  split at hs
  next i q r =>
    have hs2 := am_at_some hs
    clear hs
    obtain ⟨n, rs, hp, hs⟩ := hs2
    split at hs
    next => cases hs
    next hi =>
      obtain ⟨rfl, rfl, rfl, rfl, rfl⟩ := am_go_some hs
      have k1 := am_k0 rfl rfl kk H locs ls hW hL
      have ha := am_pl (α := α) (zs := zs) hW.2.2.2 hp
      have he := am_ws_at (α := α) (zs := zs) (κ := κ) hp
      show W p l e R s m args below meth c H locs cells slots Q (F0 m pc ls (.int i :: .ref (am_ad α zs q) :: r.map (am_c α zs)))
      rw [ha]
      refine va_aldq hX.1 hX.2.1 hX.2.2.2.2.2.2.2.2.1 hW.1 q 2 (by rw [he, am_cell_q]) rfl (am_oob_in (by simpa using hi)) hd ?_
      rw [← am_c_rf]
      exact k1
  next => cases hs
theorem am_ok_iastore (Z : am_Z) : am_SOk Z (.iastore) := by
  intro p l e R s m args below meth c Q D κ zs α A d M pc len cells slots lv lv' st st' h h' pc' H locs ls hX hW hL hd hs hc hz kk
  replace hs : (match st with
    | .int x :: .int i :: .ref p :: r => am_at h p 100 fun n _ => if am_oob i n = true then none else am_go len 1 pc lv r (h.1, am_upF h.2.1 p i.toNatClampNeg x, h.2.2)
    | _ => none) = some (Sum.inl (pc', lv', st', h')) := hs
  split at hs
  next x i q r =>
    have hs2 := am_at_some hs
    clear hs
    obtain ⟨n, rs, hp, hs⟩ := hs2
    split at hs
    next => cases hs
    next hi =>
      obtain ⟨rfl, rfl, rfl, rfl, rfl⟩ := am_go_some hs
      have k1 := am_k0 (h := h) (h' := (h.1, am_upF h.2.1 q i.toNatClampNeg x, h.2.2)) rfl rfl kk
      have ha := am_pl (α := α) (zs := zs) hW.2.2.2 hp
      have he := am_ws_at (α := α) (zs := zs) (κ := κ) hp
      have hw : am_ws α zs κ (h.1, am_upF h.2.1 q i.toNatClampNeg x, h.2.2) = (am_ws α zs κ h).set q (α q, .inl (κ 0, n, .inl (upd (h.2.1 q) i.toNatClampNeg x))) := by
        rw [am_ws_upd (h' := (h.1, am_upF h.2.1 q i.toNatClampNeg x, h.2.2)) (x' := (100, n, rs)) hp (fun j => by
        by_cases e : j = q
        · subst e; rw [if_pos rfl]; exact hp
        · rw [if_neg e]) (fun j y hj => am_cell_congr (if_neg hj) rfl), am_cell_i]
        rw [show ((h.1, am_upF h.2.1 q i.toNatClampNeg x, h.2.2) : am_H).2.1 q = upd (h.2.1 q) i.toNatClampNeg x from if_pos rfl]
      show W p l e R s m args below meth c H locs cells slots Q (F0 m pc ls (.int x :: .int i :: .ref (am_ad α zs q) :: st'.map (am_c α zs)))
      rw [ha]
      exact va_iast hX.1 hX.2.1 hX.2.2.2.2.2.2.2.2.1 hW.1 hW.2.1 hW.2.2.1 q 0 (by rw [he, am_cell_i]) rfl (am_oob_in (by simpa using hi)) hd (fun H1 locs1 a1 a2 a3 => k1 H1 locs1 ls ⟨by rw [hw]; exact a1, by rw [hw]; exact a2, a3, hW.2.2.2⟩ hL)
  next => cases hs
theorem am_ok_lastore (Z : am_Z) : am_SOk Z (.lastore) := by
  intro p l e R s m args below meth c Q D κ zs α A d M pc len cells slots lv lv' st st' h h' pc' H locs ls hX hW hL hd hs hc hz kk
  replace hs : (match st with
    | .long x :: .int i :: .ref p :: r => am_at h p 101 fun n _ => if am_oob i n = true then none else am_go len 1 pc lv r (h.1, h.2.1, am_upL h.2.2 p i.toNatClampNeg x)
    | _ => none) = some (Sum.inl (pc', lv', st', h')) := hs
  split at hs
  next x i q r =>
    have hs2 := am_at_some hs
    clear hs
    obtain ⟨n, rs, hp, hs⟩ := hs2
    split at hs
    next => cases hs
    next hi =>
      obtain ⟨rfl, rfl, rfl, rfl, rfl⟩ := am_go_some hs
      have k1 := am_k0 (h := h) (h' := (h.1, h.2.1, am_upL h.2.2 q i.toNatClampNeg x)) rfl rfl kk
      have ha := am_pl (α := α) (zs := zs) hW.2.2.2 hp
      have he := am_ws_at (α := α) (zs := zs) (κ := κ) hp
      have hw : am_ws α zs κ (h.1, h.2.1, am_upL h.2.2 q i.toNatClampNeg x) = (am_ws α zs κ h).set q (α q, .inl (κ 1, n, .inr (.inl (vp_updL (h.2.2 q) i.toNatClampNeg x)))) := by
        rw [am_ws_upd (h' := (h.1, h.2.1, am_upL h.2.2 q i.toNatClampNeg x)) (x' := (101, n, rs)) hp (fun j => by
        by_cases e : j = q
        · subst e; rw [if_pos rfl]; exact hp
        · rw [if_neg e]) (fun j y hj => am_cell_congr rfl (if_neg hj)), am_cell_l]
        rw [show ((h.1, h.2.1, am_upL h.2.2 q i.toNatClampNeg x) : am_H).2.2 q = vp_updL (h.2.2 q) i.toNatClampNeg x from if_pos rfl]
      show W p l e R s m args below meth c H locs cells slots Q (F0 m pc ls (.long x :: .int i :: .ref (am_ad α zs q) :: st'.map (am_c α zs)))
      rw [ha]
      exact va_last hX.1 hX.2.1 hX.2.2.2.2.2.2.2.2.1 hW.1 hW.2.1 hW.2.2.1 q 1 (by rw [he, am_cell_l]) rfl (am_oob_in (by simpa using hi)) hd (fun H1 locs1 a1 a2 a3 => k1 H1 locs1 ls ⟨by rw [hw]; exact a1, by rw [hw]; exact a2, a3, hW.2.2.2⟩ hL)
  next => cases hs
theorem am_ok_aastore (Z : am_Z) : am_SOk Z (.aastore) := by
  intro p l e R s m args below meth c Q D κ zs α A d M pc len cells slots lv lv' st st' h h' pc' H locs ls hX hW hL hd hs hc hz kk
  replace hs : (match st with
    | .ref q :: .int i :: .ref p :: r => am_at h p 102 fun n rs => am_at h q 8 fun _ _ => if am_oob i n = true ∨ ¬ (q < 1000 ∧ i.toNatClampNeg < rs.length) then none else am_go len 1 pc lv r (h.1.set p (102, n, rs.set i.toNatClampNeg (some q)), h.2.1, h.2.2)
    | _ => none) = some (Sum.inl (pc', lv', st', h')) := hs
  split at hs
  next v i q r =>
    have hs2 := am_at_some hs
    clear hs
    obtain ⟨n, rs, hp, hs⟩ := hs2
    have hs2 := am_at_some hs
    clear hs
    obtain ⟨n8, rs8, hv, hs⟩ := hs2
    split at hs
    next => cases hs
    next hg =>
      obtain ⟨rfl, rfl, rfl, rfl, rfl⟩ := am_go_some hs
      have hi : am_oob i n = false := by have := fun z => hg (Or.inl z); simpa using this
      have hk : i.toNatClampNeg < rs.length := (Decidable.not_not.mp (fun z => hg (Or.inr z))).2
      have hlv := (List.getElem?_eq_some_iff.mp hv).1
      have hlq := (List.getElem?_eq_some_iff.mp hp).1
      have ha := am_pl (α := α) (zs := zs) hW.2.2.2 hp
      have hav := am_pl (α := α) (zs := zs) hW.2.2.2 hv
      have he := am_ws_at (α := α) (zs := zs) (κ := κ) hp
      have hev := am_ws_at (α := α) (zs := zs) (κ := κ) hv
      rw [am_cell_obj (show 8 < 13 by decide)] at hev
      have k1 := am_k0 (h := h) (h' := (h.1.set q (102, n, rs.set i.toNatClampNeg (some v)), h.2.1, h.2.2)) (by show (h.1.set q _).length = _; rw [List.length_set]; rfl) (am_z_set hp) kk
      have hw : am_ws α zs κ (h.1.set q (102, n, rs.set i.toNatClampNeg (some v)), h.2.1, h.2.2) = (am_ws α zs κ h).set q (α q, .inl (κ 2, n, .inr (.inr (.inr (.inr (va_up (fun i => (am_rf rs i).map (am_ad α zs)) i.toNatClampNeg (some (α v)))))))) := by
        rw [am_ws_upd (h' := (h.1.set q (102, n, rs.set i.toNatClampNeg (some v)), h.2.1, h.2.2)) (x' := (102, n, rs.set i.toNatClampNeg (some v))) hp (fun j => by
          show (h.1.set q (102, n, rs.set i.toNatClampNeg (some v)))[j]? = _
          by_cases e : j = q
          · subst e; rw [if_pos rfl, List.getElem?_set_self hlq]
          · rw [if_neg e, List.getElem?_set_ne (fun z => e z.symm)]) (fun j y hj => rfl), am_cell_q]
        congr 9
        funext j
        rw [am_rf_set hk]
        unfold va_up
        split
        · show some _ = some _
          rw [hav]
        · rfl
      show W p l e R s m args below meth c H locs cells slots Q (F0 m pc ls (.ref (am_ad α zs v) :: .int i :: .ref (am_ad α zs q) :: st'.map (am_c α zs)))
      rw [ha, hav]
      exact va_astq hX.1 hX.2.1 hX.2.2.2.2.2.2.2.2.1 hW.1 hW.2.1 hW.2.2.1 q 2 v 8 (by rw [he, am_cell_q]) (r := (RX8, TX8, 4)) rfl hev rfl (am_oob_in hi) hd (fun H1 locs1 a1 a2 a3 => k1 H1 locs1 ls ⟨by rw [hw]; exact a1, by rw [hw]; exact a2, a3, am_wf_set hW.2.2.2 hp hlv⟩ hL)
  next => cases hs
