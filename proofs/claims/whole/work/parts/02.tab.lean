theorem am_t1 : ∀ w ∈ tables_1_1, w ∈ lw_tbl := fun w h => List.mem_append_right (k2_sels lw_privs) (List.mem_append_left _ h)
theorem am_t2 : ∀ w ∈ tables_1_2, w ∈ lw_tbl := fun w h => List.mem_append_right (k2_sels lw_privs) (List.mem_append_right _ (List.mem_append_left _ h))
theorem am_t3 : ∀ w ∈ tables_1_3, w ∈ lw_tbl := fun w h => List.mem_append_right (k2_sels lw_privs) (List.mem_append_right _ (List.mem_append_right _ (List.mem_append_left _ h)))
theorem am_t4 : ∀ w ∈ tables_1_4, w ∈ lw_tbl := fun w h => List.mem_append_right (k2_sels lw_privs) (List.mem_append_right _ (List.mem_append_right _ (List.mem_append_right _ (List.mem_append_left _ h))))
theorem am_t5 : ∀ w ∈ tables_1_5, w ∈ lw_tbl := fun w h => List.mem_append_right (k2_sels lw_privs) (List.mem_append_right _ (List.mem_append_right _ (List.mem_append_right _ (List.mem_append_right _ (List.mem_append_left _ h)))))
theorem am_t6 : ∀ w ∈ tables_1_6, w ∈ lw_tbl := fun w h => List.mem_append_right (k2_sels lw_privs) (List.mem_append_right _ (List.mem_append_right _ (List.mem_append_right _ (List.mem_append_right _ (List.mem_append_right _ (List.mem_append_left _ h))))))
theorem am_t7 : ∀ w ∈ tables_1_7, w ∈ lw_tbl := fun w h => List.mem_append_right (k2_sels lw_privs) (List.mem_append_right _ (List.mem_append_right _ (List.mem_append_right _ (List.mem_append_right _ (List.mem_append_right _ (List.mem_append_right _ (h)))))))
theorem am_pv1 : ∀ q ∈ lw_privs_1, Cond.selects q.1.cls q.1 q.1 ∈ lw_tbl := fun q h => List.mem_append_left tables_1 (List.mem_map.mpr ⟨q, List.mem_append_left _ h, rfl⟩)
theorem am_pv2 : ∀ q ∈ lw_privs_2, Cond.selects q.1.cls q.1 q.1 ∈ lw_tbl := fun q h => List.mem_append_left tables_1 (List.mem_map.mpr ⟨q, List.mem_append_right _ (List.mem_append_left _ h), rfl⟩)
theorem am_pv3 : ∀ q ∈ lw_privs_3, Cond.selects q.1.cls q.1 q.1 ∈ lw_tbl := fun q h => List.mem_append_left tables_1 (List.mem_map.mpr ⟨q, List.mem_append_right _ (List.mem_append_right _ (List.mem_append_left _ h)), rfl⟩)
theorem am_pv4 : ∀ q ∈ lw_privs_4, Cond.selects q.1.cls q.1 q.1 ∈ lw_tbl := fun q h => List.mem_append_left tables_1 (List.mem_map.mpr ⟨q, List.mem_append_right _ (List.mem_append_right _ (List.mem_append_right _ (List.mem_append_left _ h))), rfl⟩)
theorem am_pv5 : ∀ q ∈ lw_privs_5, Cond.selects q.1.cls q.1 q.1 ∈ lw_tbl := fun q h => List.mem_append_left tables_1 (List.mem_map.mpr ⟨q, List.mem_append_right _ (List.mem_append_right _ (List.mem_append_right _ (List.mem_append_right _ (h)))), rfl⟩)
/-- the words that stay: what every method of ours stands on -/
def am_tw : List Cond := lw_tbl.filter goodWord
theorem am_in {w : Cond} (h : w ∈ lw_tbl) (g : goodWord w = true) : w ∈ am_tw := List.mem_filter.mpr ⟨h, g⟩
theorem am_tw_in {w : Cond} (h : w ∈ am_tw) : w ∈ lw_tbl := (List.mem_filter.mp h).1
theorem am_tw_good {w : Cond} (h : w ∈ am_tw) : (w.onTables && w.keeps) = true ∨ ∃ ty, w = .arrayClass ty := good_of_word (List.mem_filter.mp h).2
def am_cn : Nat → String := fun c => match c with
  | 0 => RX0
  | 1 => RX1
  | 2 => RX2
  | 3 => RX3
  | 4 => RX4
  | 5 => RX5
  | 6 => RX6
  | 7 => RX7
  | 8 => RX8
  | 9 => RX9
  | 10 => RX10
  | 11 => RX11
  | 12 => RX12
  | 13 => RJ6
  | _ => RL
def am_T : Nat → u_T := fun c => match c with
  | 0 => TX0
  | 1 => TX1
  | 2 => TX2
  | 3 => TX3
  | 4 => TX4
  | 5 => TX5
  | 6 => TX6
  | 7 => TX7
  | 8 => TX8
  | 9 => TX9
  | 10 => TX10
  | 11 => TX11
  | _ => TX12
def am_ty : Nat → Nat → FieldType := fun c => match c with
  | 0 => tyX0
  | 1 => tyX1
  | 2 => tyX2
  | 3 => tyX3
  | 4 => tyX4
  | 5 => tyX5
  | 6 => tyX6
  | 7 => tyX7
  | 8 => tyX8
  | 9 => tyX9
  | 10 => tyX10
  | 11 => tyX11
  | _ => tyX12
def am_nf : Nat → Nat := fun c => match c with
  | 0 => 7
  | 1 => 7
  | 2 => 8
  | 3 => 9
  | 4 => 6
  | 5 => 3
  | 6 => 9
  | 7 => 5
  | 8 => 4
  | 9 => 5
  | 10 => 4
  | 11 => 13
  | _ => 39
set_option maxRecDepth 100000 in
theorem am_l0 : ∀ w ∈ [Cond.laysFinal RX0 "ShadeVotes$Ballot" "land" "LShadeVotes$Land;", Cond.laysFinal RX0 "ShadeVotes$Ballot" "law" "LShadeVotes$Law;", Cond.laysFinal RX0 "ShadeVotes$Ballot" "worths" "[I", Cond.laysFinal RX0 "ShadeVotes$Ballot" "known" "[I", Cond.lays RX0 "ShadeVotes$Ballot" "standing" "Z", Cond.lays RX0 "ShadeVotes$Ballot" "sitters" "I", Cond.lays RX0 "ShadeVotes$Ballot" "wishers" "I"], w ∈ am_tw := List.forall_mem_cons.mpr ⟨am_in (am_t1 _ (List.mem_of_getElem? (i := 143) rfl)) rfl, List.forall_mem_cons.mpr ⟨am_in (am_t1 _ (List.mem_of_getElem? (i := 145) rfl)) rfl, List.forall_mem_cons.mpr ⟨am_in (am_t1 _ (List.mem_of_getElem? (i := 147) rfl)) rfl, List.forall_mem_cons.mpr ⟨am_in (am_t1 _ (List.mem_of_getElem? (i := 149) rfl)) rfl, List.forall_mem_cons.mpr ⟨am_in (am_t1 _ (List.mem_of_getElem? (i := 151) rfl)) rfl, List.forall_mem_cons.mpr ⟨am_in (am_t1 _ (List.mem_of_getElem? (i := 153) rfl)) rfl, List.forall_mem_cons.mpr ⟨am_in (am_t1 _ (List.mem_of_getElem? (i := 155) rfl)) rfl, fun _ h => absurd h List.not_mem_nil⟩⟩⟩⟩⟩⟩⟩
theorem am_u0 : ∀ w ∈ u_ws RX0 TX0 7, w ∈ am_tw := am_l0
set_option maxRecDepth 100000 in
theorem am_l1 : ∀ w ∈ [Cond.laysFinal RX1 "ShadeVotes$Books" "land" "LShadeVotes$Land;", Cond.laysFinal RX1 "ShadeVotes$Books" "ballot" "LShadeVotes$Ballot;", Cond.laysFinal RX1 "ShadeVotes$Books" "sums" "[I", Cond.laysFinal RX1 "ShadeVotes$Books" "ruledOut" "[I", Cond.lays RX1 "ShadeVotes$Books" "howMany" "I", Cond.lays RX1 "ShadeVotes$Books" "least" "I", Cond.lays RX1 "ShadeVotes$Books" "certain" "I"], w ∈ am_tw := List.forall_mem_cons.mpr ⟨am_in (am_t1 _ (List.mem_of_getElem? (i := 225) rfl)) rfl, List.forall_mem_cons.mpr ⟨am_in (am_t1 _ (List.mem_of_getElem? (i := 227) rfl)) rfl, List.forall_mem_cons.mpr ⟨am_in (am_t1 _ (List.mem_of_getElem? (i := 229) rfl)) rfl, List.forall_mem_cons.mpr ⟨am_in (am_t1 _ (List.mem_of_getElem? (i := 231) rfl)) rfl, List.forall_mem_cons.mpr ⟨am_in (am_t1 _ (List.mem_of_getElem? (i := 233) rfl)) rfl, List.forall_mem_cons.mpr ⟨am_in (am_t1 _ (List.mem_of_getElem? (i := 235) rfl)) rfl, List.forall_mem_cons.mpr ⟨am_in (am_t1 _ (List.mem_of_getElem? (i := 237) rfl)) rfl, fun _ h => absurd h List.not_mem_nil⟩⟩⟩⟩⟩⟩⟩
theorem am_u1 : ∀ w ∈ u_ws RX1 TX1 7, w ∈ am_tw := am_l1
set_option maxRecDepth 100000 in
theorem am_l2 : ∀ w ∈ [Cond.laysFinal RX2 "ShadeVotes$Changes" "land" "LShadeVotes$Land;", Cond.laysFinal RX2 "ShadeVotes$Changes" "numbers" "[I", Cond.laysFinal RX2 "ShadeVotes$Changes" "whats" "[I", Cond.laysFinal RX2 "ShadeVotes$Changes" "before" "[I", Cond.laysFinal RX2 "ShadeVotes$Changes" "after" "[I", Cond.lays RX2 "ShadeVotes$Changes" "oldest" "I", Cond.lays RX2 "ShadeVotes$Changes" "done" "I", Cond.lays RX2 "ShadeVotes$Changes" "undone" "I"], w ∈ am_tw := List.forall_mem_cons.mpr ⟨am_in (am_t2 _ (List.mem_of_getElem? (i := 50) rfl)) rfl, List.forall_mem_cons.mpr ⟨am_in (am_t2 _ (List.mem_of_getElem? (i := 52) rfl)) rfl, List.forall_mem_cons.mpr ⟨am_in (am_t2 _ (List.mem_of_getElem? (i := 54) rfl)) rfl, List.forall_mem_cons.mpr ⟨am_in (am_t2 _ (List.mem_of_getElem? (i := 56) rfl)) rfl, List.forall_mem_cons.mpr ⟨am_in (am_t2 _ (List.mem_of_getElem? (i := 58) rfl)) rfl, List.forall_mem_cons.mpr ⟨am_in (am_t2 _ (List.mem_of_getElem? (i := 60) rfl)) rfl, List.forall_mem_cons.mpr ⟨am_in (am_t2 _ (List.mem_of_getElem? (i := 62) rfl)) rfl, List.forall_mem_cons.mpr ⟨am_in (am_t2 _ (List.mem_of_getElem? (i := 64) rfl)) rfl, fun _ h => absurd h List.not_mem_nil⟩⟩⟩⟩⟩⟩⟩⟩
theorem am_u2 : ∀ w ∈ u_ws RX2 TX2 8, w ∈ am_tw := am_l2
set_option maxRecDepth 100000 in
theorem am_l3 : ∀ w ∈ [Cond.laysFinal RX3 "ShadeVotes$Deeds" "land" "LShadeVotes$Land;", Cond.laysFinal RX3 "ShadeVotes$Deeds" "led" "[I", Cond.laysFinal RX3 "ShadeVotes$Deeds" "ledThen" "[I", Cond.laysFinal RX3 "ShadeVotes$Deeds" "stoodThen" "[I", Cond.laysFinal RX3 "ShadeVotes$Deeds" "highThen" "[I", Cond.laysFinal RX3 "ShadeVotes$Deeds" "seatsThen" "[I", Cond.lays RX3 "ShadeVotes$Deeds" "treesThen" "I", Cond.lays RX3 "ShadeVotes$Deeds" "peopleThen" "I", Cond.lays RX3 "ShadeVotes$Deeds" "kept" "Z"], w ∈ am_tw := List.forall_mem_cons.mpr ⟨am_in (am_t2 _ (List.mem_of_getElem? (i := 15) rfl)) rfl, List.forall_mem_cons.mpr ⟨am_in (am_t2 _ (List.mem_of_getElem? (i := 17) rfl)) rfl, List.forall_mem_cons.mpr ⟨am_in (am_t2 _ (List.mem_of_getElem? (i := 19) rfl)) rfl, List.forall_mem_cons.mpr ⟨am_in (am_t2 _ (List.mem_of_getElem? (i := 21) rfl)) rfl, List.forall_mem_cons.mpr ⟨am_in (am_t2 _ (List.mem_of_getElem? (i := 23) rfl)) rfl, List.forall_mem_cons.mpr ⟨am_in (am_t2 _ (List.mem_of_getElem? (i := 25) rfl)) rfl, List.forall_mem_cons.mpr ⟨am_in (am_t2 _ (List.mem_of_getElem? (i := 27) rfl)) rfl, List.forall_mem_cons.mpr ⟨am_in (am_t2 _ (List.mem_of_getElem? (i := 29) rfl)) rfl, List.forall_mem_cons.mpr ⟨am_in (am_t2 _ (List.mem_of_getElem? (i := 31) rfl)) rfl, fun _ h => absurd h List.not_mem_nil⟩⟩⟩⟩⟩⟩⟩⟩⟩
theorem am_u3 : ∀ w ∈ u_ws RX3 TX3 9, w ∈ am_tw := am_l3
set_option maxRecDepth 100000 in
theorem am_l4 : ∀ w ∈ [Cond.laysFinal RX4 "ShadeVotes$Games" "land" "LShadeVotes$Land;", Cond.laysFinal RX4 "ShadeVotes$Games" "ballot" "LShadeVotes$Ballot;", Cond.laysFinal RX4 "ShadeVotes$Games" "behind" "[I", Cond.laysFinal RX4 "ShadeVotes$Games" "ahead" "[I", Cond.lays RX4 "ShadeVotes$Games" "outcome" "I", Cond.lays RX4 "ShadeVotes$Games" "firstMove" "I"], w ∈ am_tw := List.forall_mem_cons.mpr ⟨am_in (am_t1 _ (List.mem_of_getElem? (i := 196) rfl)) rfl, List.forall_mem_cons.mpr ⟨am_in (am_t1 _ (List.mem_of_getElem? (i := 198) rfl)) rfl, List.forall_mem_cons.mpr ⟨am_in (am_t1 _ (List.mem_of_getElem? (i := 200) rfl)) rfl, List.forall_mem_cons.mpr ⟨am_in (am_t1 _ (List.mem_of_getElem? (i := 202) rfl)) rfl, List.forall_mem_cons.mpr ⟨am_in (am_t1 _ (List.mem_of_getElem? (i := 204) rfl)) rfl, List.forall_mem_cons.mpr ⟨am_in (am_t1 _ (List.mem_of_getElem? (i := 206) rfl)) rfl, fun _ h => absurd h List.not_mem_nil⟩⟩⟩⟩⟩⟩
theorem am_u4 : ∀ w ∈ u_ws RX4 TX4 6, w ∈ am_tw := am_l4
set_option maxRecDepth 100000 in
theorem am_l5 : ∀ w ∈ [Cond.laysFinal RX5 "ShadeVotes$Land" "numbers" "[I", Cond.lays RX5 "ShadeVotes$Land" "trees" "I", Cond.lays RX5 "ShadeVotes$Land" "people" "I"], w ∈ am_tw := List.forall_mem_cons.mpr ⟨am_in (am_t1 _ (List.mem_of_getElem? (i := 55) rfl)) rfl, List.forall_mem_cons.mpr ⟨am_in (am_t1 _ (List.mem_of_getElem? (i := 57) rfl)) rfl, List.forall_mem_cons.mpr ⟨am_in (am_t1 _ (List.mem_of_getElem? (i := 59) rfl)) rfl, fun _ h => absurd h List.not_mem_nil⟩⟩⟩
theorem am_u5 : ∀ w ∈ u_ws RX5 TX5 3, w ∈ am_tw := am_l5
set_option maxRecDepth 100000 in
theorem am_l6 : ∀ w ∈ [Cond.laysFinal RX6 "ShadeVotes$Law" "code" "[I", Cond.laysFinal RX6 "ShadeVotes$Law" "stack" "[I", Cond.lays RX6 "ShadeVotes$Law" "length" "I", Cond.lays RX6 "ShadeVotes$Law" "weight" "I", Cond.lays RX6 "ShadeVotes$Law" "high" "I", Cond.lays RX6 "ShadeVotes$Law" "month" "I", Cond.lays RX6 "ShadeVotes$Law" "sitting" "I", Cond.lays RX6 "ShadeVotes$Law" "tree" "I", Cond.lays RX6 "ShadeVotes$Law" "voter" "I"], w ∈ am_tw := List.forall_mem_cons.mpr ⟨am_in (am_t1 _ (List.mem_of_getElem? (i := 103) rfl)) rfl, List.forall_mem_cons.mpr ⟨am_in (am_t1 _ (List.mem_of_getElem? (i := 105) rfl)) rfl, List.forall_mem_cons.mpr ⟨am_in (am_t1 _ (List.mem_of_getElem? (i := 107) rfl)) rfl, List.forall_mem_cons.mpr ⟨am_in (am_t1 _ (List.mem_of_getElem? (i := 109) rfl)) rfl, List.forall_mem_cons.mpr ⟨am_in (am_t1 _ (List.mem_of_getElem? (i := 111) rfl)) rfl, List.forall_mem_cons.mpr ⟨am_in (am_t1 _ (List.mem_of_getElem? (i := 113) rfl)) rfl, List.forall_mem_cons.mpr ⟨am_in (am_t1 _ (List.mem_of_getElem? (i := 115) rfl)) rfl, List.forall_mem_cons.mpr ⟨am_in (am_t1 _ (List.mem_of_getElem? (i := 117) rfl)) rfl, List.forall_mem_cons.mpr ⟨am_in (am_t1 _ (List.mem_of_getElem? (i := 119) rfl)) rfl, fun _ h => absurd h List.not_mem_nil⟩⟩⟩⟩⟩⟩⟩⟩⟩
theorem am_u6 : ∀ w ∈ u_ws RX6 TX6 9, w ∈ am_tw := am_l6
set_option maxRecDepth 100000 in
theorem am_l7 : ∀ w ∈ [Cond.laysFinal RX7 "ShadeVotes$LawText" "bytes" "[I", Cond.laysFinal RX7 "ShadeVotes$LawText" "code" "[I", Cond.lays RX7 "ShadeVotes$LawText" "fed" "I", Cond.lays RX7 "ShadeVotes$LawText" "place" "I", Cond.lays RX7 "ShadeVotes$LawText" "written" "I"], w ∈ am_tw := List.forall_mem_cons.mpr ⟨am_in (am_t1 _ (List.mem_of_getElem? (i := 77) rfl)) rfl, List.forall_mem_cons.mpr ⟨am_in (am_t1 _ (List.mem_of_getElem? (i := 79) rfl)) rfl, List.forall_mem_cons.mpr ⟨am_in (am_t1 _ (List.mem_of_getElem? (i := 81) rfl)) rfl, List.forall_mem_cons.mpr ⟨am_in (am_t1 _ (List.mem_of_getElem? (i := 83) rfl)) rfl, List.forall_mem_cons.mpr ⟨am_in (am_t1 _ (List.mem_of_getElem? (i := 85) rfl)) rfl, fun _ h => absurd h List.not_mem_nil⟩⟩⟩⟩⟩
theorem am_u7 : ∀ w ∈ u_ws RX7 TX7 5, w ∈ am_tw := am_l7
set_option maxRecDepth 100000 in
theorem am_l8 : ∀ w ∈ [Cond.laysFinal RX8 "ShadeVotes$Shelf" "elements" "[J", Cond.lays RX8 "ShadeVotes$Shelf" "sort" "I", Cond.lays RX8 "ShadeVotes$Shelf" "length" "I", Cond.lays RX8 "ShadeVotes$Shelf" "voter" "I"], w ∈ am_tw := List.forall_mem_cons.mpr ⟨am_in (am_t2 _ (List.mem_of_getElem? (i := 101) rfl)) rfl, List.forall_mem_cons.mpr ⟨am_in (am_t2 _ (List.mem_of_getElem? (i := 103) rfl)) rfl, List.forall_mem_cons.mpr ⟨am_in (am_t2 _ (List.mem_of_getElem? (i := 105) rfl)) rfl, List.forall_mem_cons.mpr ⟨am_in (am_t2 _ (List.mem_of_getElem? (i := 107) rfl)) rfl, fun _ h => absurd h List.not_mem_nil⟩⟩⟩⟩
theorem am_u8 : ∀ w ∈ u_ws RX8 TX8 4, w ∈ am_tw := am_l8
set_option maxRecDepth 100000 in
theorem am_l9 : ∀ w ∈ [Cond.laysFinal RX9 "ShadeVotes$Thought" "land" "LShadeVotes$Land;", Cond.laysFinal RX9 "ShadeVotes$Thought" "ballot" "LShadeVotes$Ballot;", Cond.laysFinal RX9 "ShadeVotes$Thought" "fallingIn" "[I", Cond.lays RX9 "ShadeVotes$Thought" "bestSeat" "I", Cond.lays RX9 "ShadeVotes$Thought" "monthsSaved" "I"], w ∈ am_tw := List.forall_mem_cons.mpr ⟨am_in (am_t1 _ (List.mem_of_getElem? (i := 171) rfl)) rfl, List.forall_mem_cons.mpr ⟨am_in (am_t1 _ (List.mem_of_getElem? (i := 173) rfl)) rfl, List.forall_mem_cons.mpr ⟨am_in (am_t1 _ (List.mem_of_getElem? (i := 175) rfl)) rfl, List.forall_mem_cons.mpr ⟨am_in (am_t1 _ (List.mem_of_getElem? (i := 177) rfl)) rfl, List.forall_mem_cons.mpr ⟨am_in (am_t1 _ (List.mem_of_getElem? (i := 179) rfl)) rfl, fun _ h => absurd h List.not_mem_nil⟩⟩⟩⟩⟩
theorem am_u9 : ∀ w ∈ u_ws RX9 TX9 5, w ∈ am_tw := am_l9
set_option maxRecDepth 100000 in
theorem am_l10 : ∀ w ∈ [Cond.laysFinal RX10 "ShadeVotes$Voters" "kinds" "[I", Cond.laysFinal RX10 "ShadeVotes$Voters" "traces" "[I", Cond.lays RX10 "ShadeVotes$Voters" "bodies" "I", Cond.lays RX10 "ShadeVotes$Voters" "ran" "I"], w ∈ am_tw := List.forall_mem_cons.mpr ⟨am_in (am_t2 _ (List.mem_of_getElem? (i := 79) rfl)) rfl, List.forall_mem_cons.mpr ⟨am_in (am_t2 _ (List.mem_of_getElem? (i := 81) rfl)) rfl, List.forall_mem_cons.mpr ⟨am_in (am_t2 _ (List.mem_of_getElem? (i := 83) rfl)) rfl, List.forall_mem_cons.mpr ⟨am_in (am_t2 _ (List.mem_of_getElem? (i := 85) rfl)) rfl, fun _ h => absurd h List.not_mem_nil⟩⟩⟩⟩
theorem am_u10 : ∀ w ∈ u_ws RX10 TX10 4, w ∈ am_tw := am_l10
set_option maxRecDepth 100000 in
theorem am_l11 : ∀ w ∈ [Cond.laysFinal RX11 "ShadeVotes" "land" "LShadeVotes$Land;", Cond.laysFinal RX11 "ShadeVotes" "tape" "LShadeVotes$LawText;", Cond.laysFinal RX11 "ShadeVotes" "law" "LShadeVotes$Law;", Cond.laysFinal RX11 "ShadeVotes" "ballot" "LShadeVotes$Ballot;", Cond.laysFinal RX11 "ShadeVotes" "thought" "LShadeVotes$Thought;", Cond.laysFinal RX11 "ShadeVotes" "overSets" "[I", Cond.laysFinal RX11 "ShadeVotes" "alsoOverSets" "[I", Cond.laysFinal RX11 "ShadeVotes" "games" "LShadeVotes$Games;", Cond.laysFinal RX11 "ShadeVotes" "books" "LShadeVotes$Books;", Cond.laysFinal RX11 "ShadeVotes" "deeds" "LShadeVotes$Deeds;", Cond.laysFinal RX11 "ShadeVotes" "changes" "LShadeVotes$Changes;", Cond.laysFinal RX11 "ShadeVotes" "voters" "LShadeVotes$Voters;", Cond.laysFinal RX11 "ShadeVotes" "shelves" "[LShadeVotes$Shelf;"], w ∈ am_tw := List.forall_mem_cons.mpr ⟨am_in (am_t2 _ (List.mem_of_getElem? (i := 124) rfl)) rfl, List.forall_mem_cons.mpr ⟨am_in (am_t2 _ (List.mem_of_getElem? (i := 126) rfl)) rfl, List.forall_mem_cons.mpr ⟨am_in (am_t2 _ (List.mem_of_getElem? (i := 128) rfl)) rfl, List.forall_mem_cons.mpr ⟨am_in (am_t2 _ (List.mem_of_getElem? (i := 130) rfl)) rfl, List.forall_mem_cons.mpr ⟨am_in (am_t2 _ (List.mem_of_getElem? (i := 132) rfl)) rfl, List.forall_mem_cons.mpr ⟨am_in (am_t2 _ (List.mem_of_getElem? (i := 134) rfl)) rfl, List.forall_mem_cons.mpr ⟨am_in (am_t2 _ (List.mem_of_getElem? (i := 136) rfl)) rfl, List.forall_mem_cons.mpr ⟨am_in (am_t2 _ (List.mem_of_getElem? (i := 138) rfl)) rfl, List.forall_mem_cons.mpr ⟨am_in (am_t2 _ (List.mem_of_getElem? (i := 140) rfl)) rfl, List.forall_mem_cons.mpr ⟨am_in (am_t2 _ (List.mem_of_getElem? (i := 142) rfl)) rfl, List.forall_mem_cons.mpr ⟨am_in (am_t2 _ (List.mem_of_getElem? (i := 144) rfl)) rfl, List.forall_mem_cons.mpr ⟨am_in (am_t2 _ (List.mem_of_getElem? (i := 146) rfl)) rfl, List.forall_mem_cons.mpr ⟨am_in (am_t2 _ (List.mem_of_getElem? (i := 148) rfl)) rfl, fun _ h => absurd h List.not_mem_nil⟩⟩⟩⟩⟩⟩⟩⟩⟩⟩⟩⟩⟩
theorem am_u11 : ∀ w ∈ u_ws RX11 TX11 13, w ∈ am_tw := am_l11
set_option maxRecDepth 100000 in
theorem am_l12 : ∀ w ∈ [Cond.laysFinal RX12 "ShadeVotesModel" "may" "[I", Cond.laysFinal RX12 "ShadeVotesModel" "changeAt" "[I", Cond.laysFinal RX12 "ShadeVotesModel" "changeWas" "[I", Cond.laysFinal RX12 "ShadeVotesModel" "changeIs" "[I", Cond.lays RX12 "ShadeVotesModel" "keptMany" "I", Cond.lays RX12 "ShadeVotesModel" "done" "I", Cond.lays RX12 "ShadeVotesModel" "trees" "I", Cond.lays RX12 "ShadeVotesModel" "people" "I", Cond.lays RX12 "ShadeVotesModel" "standing" "I", Cond.laysFinal RX12 "ShadeVotesModel" "tape" "[I", Cond.lays RX12 "ShadeVotesModel" "tapeMany" "I", Cond.laysFinal RX12 "ShadeVotesModel" "text" "[I", Cond.lays RX12 "ShadeVotesModel" "textMany" "I", Cond.lays RX12 "ShadeVotesModel" "base" "I", Cond.lays RX12 "ShadeVotesModel" "at" "I", Cond.lays RX12 "ShadeVotesModel" "ends" "I", Cond.lays RX12 "ShadeVotesModel" "fault" "I", Cond.lays RX12 "ShadeVotesModel" "opened" "I", Cond.laysFinal RX12 "ShadeVotesModel" "names" "[I", Cond.lays RX12 "ShadeVotesModel" "month" "I", Cond.laysFinal RX12 "ShadeVotesModel" "ledNow" "[I", Cond.lays RX12 "ShadeVotesModel" "isKept" "Z", Cond.lays RX12 "ShadeVotesModel" "imageTrees" "I", Cond.lays RX12 "ShadeVotesModel" "imagePeople" "I", Cond.lays RX12 "ShadeVotesModel" "imageStanding" "I", Cond.lays RX12 "ShadeVotesModel" "imageMonth" "I", Cond.laysFinal RX12 "ShadeVotesModel" "imageHigh" "[I", Cond.laysFinal RX12 "ShadeVotesModel" "imageSeat" "[I", Cond.laysFinal RX12 "ShadeVotesModel" "imageLed" "[I", Cond.lays RX12 "ShadeVotesModel" "bodies" "I", Cond.laysFinal RX12 "ShadeVotesModel" "bodyKind" "[I", Cond.laysFinal RX12 "ShadeVotesModel" "trace" "[I", Cond.lays RX12 "ShadeVotesModel" "ran" "I", Cond.lays RX12 "ShadeVotesModel" "ownKind" "I", Cond.lays RX12 "ShadeVotesModel" "ownNumber" "I", Cond.laysFinal RX12 "ShadeVotesModel" "shelf" "[I", Cond.laysFinal RX12 "ShadeVotesModel" "many" "[I", Cond.laysFinal RX12 "ShadeVotesModel" "items" "[J", Cond.laysFinal RX12 "ShadeVotesModel" "carried" "[J"], w ∈ am_tw := List.forall_mem_cons.mpr ⟨am_in (am_t5 _ (List.mem_of_getElem? (i := 149) rfl)) rfl, List.forall_mem_cons.mpr ⟨am_in (am_t5 _ (List.mem_of_getElem? (i := 151) rfl)) rfl, List.forall_mem_cons.mpr ⟨am_in (am_t5 _ (List.mem_of_getElem? (i := 153) rfl)) rfl, List.forall_mem_cons.mpr ⟨am_in (am_t5 _ (List.mem_of_getElem? (i := 155) rfl)) rfl, List.forall_mem_cons.mpr ⟨am_in (am_t5 _ (List.mem_of_getElem? (i := 157) rfl)) rfl, List.forall_mem_cons.mpr ⟨am_in (am_t5 _ (List.mem_of_getElem? (i := 159) rfl)) rfl, List.forall_mem_cons.mpr ⟨am_in (am_t5 _ (List.mem_of_getElem? (i := 161) rfl)) rfl, List.forall_mem_cons.mpr ⟨am_in (am_t5 _ (List.mem_of_getElem? (i := 163) rfl)) rfl, List.forall_mem_cons.mpr ⟨am_in (am_t5 _ (List.mem_of_getElem? (i := 165) rfl)) rfl, List.forall_mem_cons.mpr ⟨am_in (am_t5 _ (List.mem_of_getElem? (i := 167) rfl)) rfl, List.forall_mem_cons.mpr ⟨am_in (am_t5 _ (List.mem_of_getElem? (i := 169) rfl)) rfl, List.forall_mem_cons.mpr ⟨am_in (am_t5 _ (List.mem_of_getElem? (i := 171) rfl)) rfl, List.forall_mem_cons.mpr ⟨am_in (am_t5 _ (List.mem_of_getElem? (i := 173) rfl)) rfl, List.forall_mem_cons.mpr ⟨am_in (am_t5 _ (List.mem_of_getElem? (i := 175) rfl)) rfl, List.forall_mem_cons.mpr ⟨am_in (am_t5 _ (List.mem_of_getElem? (i := 177) rfl)) rfl, List.forall_mem_cons.mpr ⟨am_in (am_t5 _ (List.mem_of_getElem? (i := 179) rfl)) rfl, List.forall_mem_cons.mpr ⟨am_in (am_t5 _ (List.mem_of_getElem? (i := 181) rfl)) rfl, List.forall_mem_cons.mpr ⟨am_in (am_t5 _ (List.mem_of_getElem? (i := 183) rfl)) rfl, List.forall_mem_cons.mpr ⟨am_in (am_t5 _ (List.mem_of_getElem? (i := 185) rfl)) rfl, List.forall_mem_cons.mpr ⟨am_in (am_t5 _ (List.mem_of_getElem? (i := 187) rfl)) rfl, List.forall_mem_cons.mpr ⟨am_in (am_t5 _ (List.mem_of_getElem? (i := 189) rfl)) rfl, List.forall_mem_cons.mpr ⟨am_in (am_t5 _ (List.mem_of_getElem? (i := 191) rfl)) rfl, List.forall_mem_cons.mpr ⟨am_in (am_t5 _ (List.mem_of_getElem? (i := 193) rfl)) rfl, List.forall_mem_cons.mpr ⟨am_in (am_t5 _ (List.mem_of_getElem? (i := 195) rfl)) rfl, List.forall_mem_cons.mpr ⟨am_in (am_t5 _ (List.mem_of_getElem? (i := 197) rfl)) rfl, List.forall_mem_cons.mpr ⟨am_in (am_t5 _ (List.mem_of_getElem? (i := 199) rfl)) rfl, List.forall_mem_cons.mpr ⟨am_in (am_t5 _ (List.mem_of_getElem? (i := 201) rfl)) rfl, List.forall_mem_cons.mpr ⟨am_in (am_t5 _ (List.mem_of_getElem? (i := 203) rfl)) rfl, List.forall_mem_cons.mpr ⟨am_in (am_t5 _ (List.mem_of_getElem? (i := 205) rfl)) rfl, List.forall_mem_cons.mpr ⟨am_in (am_t5 _ (List.mem_of_getElem? (i := 207) rfl)) rfl, List.forall_mem_cons.mpr ⟨am_in (am_t5 _ (List.mem_of_getElem? (i := 209) rfl)) rfl, List.forall_mem_cons.mpr ⟨am_in (am_t5 _ (List.mem_of_getElem? (i := 211) rfl)) rfl, List.forall_mem_cons.mpr ⟨am_in (am_t5 _ (List.mem_of_getElem? (i := 213) rfl)) rfl, List.forall_mem_cons.mpr ⟨am_in (am_t5 _ (List.mem_of_getElem? (i := 215) rfl)) rfl, List.forall_mem_cons.mpr ⟨am_in (am_t5 _ (List.mem_of_getElem? (i := 217) rfl)) rfl, List.forall_mem_cons.mpr ⟨am_in (am_t5 _ (List.mem_of_getElem? (i := 219) rfl)) rfl, List.forall_mem_cons.mpr ⟨am_in (am_t5 _ (List.mem_of_getElem? (i := 221) rfl)) rfl, List.forall_mem_cons.mpr ⟨am_in (am_t5 _ (List.mem_of_getElem? (i := 223) rfl)) rfl, List.forall_mem_cons.mpr ⟨am_in (am_t5 _ (List.mem_of_getElem? (i := 225) rfl)) rfl, fun _ h => absurd h List.not_mem_nil⟩⟩⟩⟩⟩⟩⟩⟩⟩⟩⟩⟩⟩⟩⟩⟩⟩⟩⟩⟩⟩⟩⟩⟩⟩⟩⟩⟩⟩⟩⟩⟩⟩⟩⟩⟩⟩⟩⟩
theorem am_u12 : ∀ w ∈ u_ws RX12 TX12 39, w ∈ am_tw := am_l12
theorem am_u {ci : Nat} (h : ci < 13) : ∀ w ∈ u_ws (am_cn ci) (am_T ci) (am_nf ci), w ∈ am_tw := by
  rcases (show ci = 0 ∨ ci = 1 ∨ ci = 2 ∨ ci = 3 ∨ ci = 4 ∨ ci = 5 ∨ ci = 6 ∨ ci = 7 ∨ ci = 8 ∨ ci = 9 ∨ ci = 10 ∨ ci = 11 ∨ ci = 12 by omega) with rfl | rfl | rfl | rfl | rfl | rfl | rfl | rfl | rfl | rfl | rfl | rfl | rfl
  · exact am_u0
  · exact am_u1
  · exact am_u2
  · exact am_u3
  · exact am_u4
  · exact am_u5
  · exact am_u6
  · exact am_u7
  · exact am_u8
  · exact am_u9
  · exact am_u10
  · exact am_u11
  · exact am_u12
theorem am_tyok {ci : Nat} (h : ci < 13) : ∀ k, k < am_nf ci → parseFieldDescriptor (am_T ci k).2.2.1 = some (am_ty ci k) := by
  rcases (show ci = 0 ∨ ci = 1 ∨ ci = 2 ∨ ci = 3 ∨ ci = 4 ∨ ci = 5 ∨ ci = 6 ∨ ci = 7 ∨ ci = 8 ∨ ci = 9 ∨ ci = 10 ∨ ci = 11 ∨ ci = 12 by omega) with rfl | rfl | rfl | rfl | rfl | rfl | rfl | rfl | rfl | rfl | rfl | rfl | rfl
  · exact tyX0_ok
  · exact tyX1_ok
  · exact tyX2_ok
  · exact tyX3_ok
  · exact tyX4_ok
  · exact tyX5_ok
  · exact tyX6_ok
  · exact tyX7_ok
  · exact tyX8_ok
  · exact tyX9_ok
  · exact tyX10_ok
  · exact tyX11_ok
  · exact tyX12_ok
theorem am_nmok {ci : Nat} (h : ci < 13) : ∀ a, a < am_nf ci → ∀ b, b < am_nf ci → a ≠ b → (am_T ci a).2.1 ≠ (am_T ci b).2.1 := by
  rcases (show ci = 0 ∨ ci = 1 ∨ ci = 2 ∨ ci = 3 ∨ ci = 4 ∨ ci = 5 ∨ ci = 6 ∨ ci = 7 ∨ ci = 8 ∨ ci = 9 ∨ ci = 10 ∨ ci = 11 ∨ ci = 12 by omega) with rfl | rfl | rfl | rfl | rfl | rfl | rfl | rfl | rfl | rfl | rfl | rfl | rfl
  · exact nmX0
  · exact nmX1
  · exact nmX2
  · exact nmX3
  · exact nmX4
  · exact nmX5
  · exact nmX6
  · exact nmX7
  · exact nmX8
  · exact nmX9
  · exact nmX10
  · exact nmX11
  · exact nmX12
theorem am_clok {ci : Nat} (h : ci < 13) : vwCl[ci]? = some (am_cn ci, am_T ci, am_nf ci) := by
  rcases (show ci = 0 ∨ ci = 1 ∨ ci = 2 ∨ ci = 3 ∨ ci = 4 ∨ ci = 5 ∨ ci = 6 ∨ ci = 7 ∨ ci = 8 ∨ ci = 9 ∨ ci = 10 ∨ ci = 11 ∨ ci = 12 by omega) with rfl | rfl | rfl | rfl | rfl | rfl | rfl | rfl | rfl | rfl | rfl | rfl | rfl <;> rfl
theorem am_dv0 : ∀ ci, ci < 13 → ∀ j, j < am_nf ci → defaultValue (am_ty ci j) = (match am_ty ci j with | .object _ => Value.null | .array _ => Value.null | _ => Value.int 0) := by decide +kernel
abbrev am_M : Type := Nat × MethodName × ByteArray × Nat × Option FieldType
def mX11_init : am_M := (11, yX11_init, cX11_init, 1, none)
def mX5_init : am_M := (5, yX5_init, cX5_init, 2, none)
def mX11_at : am_M := (11, yX11_at, cX11_at, 2, (some .int))
def mX5_write : am_M := (5, yX5_write, cX5_write, 4, none)
def mX11_lay : am_M := (11, yX11_lay, cX11_lay, 3, none)
def mX7_init : am_M := (7, yX7_init, cX7_init, 1, none)
def mX6_init : am_M := (6, yX6_init, cX6_init, 1, none)
def mX0_init : am_M := (0, yX0_init, cX0_init, 3, none)
def mX9_init : am_M := (9, yX9_init, cX9_init, 3, none)
def mX4_init : am_M := (4, yX4_init, cX4_init, 5, none)
def mX1_init : am_M := (1, yX1_init, cX1_init, 5, none)
def mX3_init : am_M := (3, yX3_init, cX3_init, 2, none)
def mX2_init : am_M := (2, yX2_init, cX2_init, 2, none)
def mX10_init : am_M := (10, yX10_init, cX10_init, 1, none)
def mX8_init : am_M := (8, yX8_init, cX8_init, 1, none)
def mX11_tree : am_M := (11, yX11_tree, cX11_tree, 3, (some .int))
def mX5_fits : am_M := (5, yX5_fits, cX5_fits, 3, (some .boolean))
def mX11_within : am_M := (11, yX11_within, cX11_within, 3, (some .boolean))
def mX5_addTree : am_M := (5, yX5_addTree, cX5_addTree, 3, (some .int))
def mX11_person : am_M := (11, yX11_person, cX11_person, 3, (some .int))
def mX5_addPerson : am_M := (5, yX5_addPerson, cX5_addPerson, 4, (some .int))
def mX11_people : am_M := (11, yX11_people, cX11_people, 7, (some .int))
def mX11_shelfAt : am_M := (11, yX11_shelfAt, cX11_shelfAt, 2, (some (.object "ShadeVotes$Shelf")))
def mX8_isEmpty : am_M := (8, yX8_isEmpty, cX8_isEmpty, 1, (some .boolean))
def mX8_isRow : am_M := (8, yX8_isRow, cX8_isRow, 1, (some .boolean))
def mX8_isRowOf : am_M := (8, yX8_isRowOf, cX8_isRowOf, 2, (some .boolean))
def mX11_comesFrom : am_M := (11, yX11_comesFrom, cX11_comesFrom, 8, (some .boolean))
def mX8_size : am_M := (8, yX8_size, cX8_size, 1, (some .int))
def mX8_valueAt : am_M := (8, yX8_valueAt, cX8_valueAt, 2, (some .long))
def mX11_mend : am_M := (11, yX11_mend, cX11_mend, 5, (some .int))
def mX5_has : am_M := (5, yX5_has, cX5_has, 3, (some .boolean))
def mX5_owners : am_M := (5, yX5_owners, cX5_owners, 2, (some .int))
def mX5_read : am_M := (5, yX5_read, cX5_read, 4, (some .int))
def mX2_add : am_M := (2, yX2_add, cX2_add, 6, none)
def mX2_placeOf : am_M := (2, yX2_placeOf, cX2_placeOf, 2, (some .int))
def mX11_of : am_M := (11, yX11_of, cX11_of, 3, (some .int))
def mX11_feed : am_M := (11, yX11_feed, cX11_feed, 2, (some .int))
def mX7_take : am_M := (7, yX7_take, cX7_take, 2, (some .int))
def mX11_law : am_M := (11, yX11_law, cX11_law, 2, (some .int))
def mX7_findFault : am_M := (7, yX7_findFault, cX7_findFault, 2, (some .int))
def mX7_readLine : am_M := (7, yX7_readLine, cX7_readLine, 1, (some .boolean))
def mX7_readChain : am_M := (7, yX7_readChain, cX7_readChain, 5, (some .boolean))
def mX7_readOperand : am_M := (7, yX7_readOperand, cX7_readOperand, 3, (some .boolean))
def mX7_next : am_M := (7, yX7_next, cX7_next, 1, (some .int))
def mX7_readNumber : am_M := (7, yX7_readNumber, cX7_readNumber, 3, (some .boolean))
def mX7_emit : am_M := (7, yX7_emit, cX7_emit, 2, none)
def mX7_isName : am_M := (7, yX7_isName, cX7_isName, 1, (some .boolean))
def mX7_levelOf : am_M := (7, yX7_levelOf, cX7_levelOf, 1, (some .int))
def mX6_become : am_M := (6, yX6_become, cX6_become, 4, none)
def mX7_clear : am_M := (7, yX7_clear, cX7_clear, 1, none)
def mX11_shade : am_M := (11, yX11_shade, cX11_shade, 2, (some .int))
def mX11_isTreeMonth : am_M := (11, yX11_isTreeMonth, cX11_isTreeMonth, 2, (some .boolean))
def mX11_isTree : am_M := (11, yX11_isTree, cX11_isTree, 2, (some .boolean))
def mX11_isMonth : am_M := (11, yX11_isMonth, cX11_isMonth, 2, (some .boolean))
def mX9_sittersIn : am_M := (9, yX9_sittersIn, cX9_sittersIn, 3, (some .int))
def mX5_stands : am_M := (5, yX5_stands, cX5_stands, 2, (some .boolean))
def mX5_coveredBy : am_M := (5, yX5_coveredBy, cX5_coveredBy, 9, (some .int))
def mX5_lies : am_M := (5, yX5_lies, cX5_lies, 6, (some .boolean))
def mX11_votes : am_M := (11, yX11_votes, cX11_votes, 3, (some .int))
def mX5_cellsOf : am_M := (5, yX5_cellsOf, cX5_cellsOf, 8, (some .int))
def mX0_open : am_M := (0, yX0_open, cX0_open, 3, none)
def mX0_openAsIf : am_M := (0, yX0_openAsIf, cX0_openAsIf, 5, none)
def mX6_nameTree : am_M := (6, yX6_nameTree, cX6_nameTree, 4, none)
def mX5_wishersOf : am_M := (5, yX5_wishersOf, cX5_wishersOf, 4, (some .int))
def mX11_holds : am_M := (11, yX11_holds, cX11_holds, 2, (some .boolean))
def mX0_passes : am_M := (0, yX0_passes, cX0_passes, 7, (some .boolean))
def mJ6_bitCount_0f7a4 : am_M := (13, yJ6_bitCount_0f7a4, cJ6_bitCount_0f7a4, 1, (some .int))
def mX0_worthOf : am_M := (0, yX0_worthOf, cX0_worthOf, 4, (some .int))
def mX6_nameVoter : am_M := (6, yX6_nameVoter, cX6_nameVoter, 4, none)
def mX6_value : am_M := (6, yX6_value, cX6_value, 6, (some .int))
def mX6_ofTwo : am_M := (6, yX6_ofTwo, cX6_ofTwo, 3, (some .int))
def mX6_operand : am_M := (6, yX6_operand, cX6_operand, 2, (some .int))
def mX0_sumOf : am_M := (0, yX0_sumOf, cX0_sumOf, 5, (some .int))
def mX11_falls : am_M := (11, yX11_falls, cX11_falls, 2, (some .int))
def mX9_neverFalling : am_M := (9, yX9_neverFalling, cX9_neverFalling, 3, (some .int))
def mX9_firstFall : am_M := (9, yX9_firstFall, cX9_firstFall, 5, (some .int))
def mX9_fallsIn : am_M := (9, yX9_fallsIn, cX9_fallsIn, 3, (some .boolean))
def mX9_falling : am_M := (9, yX9_falling, cX9_falling, 4, (some .int))
def mX11_first : am_M := (11, yX11_first, cX11_first, 2, (some .int))
def mX11_left : am_M := (11, yX11_left, cX11_left, 3, (some .int))
def mX9_leftBehind : am_M := (9, yX9_leftBehind, cX9_leftBehind, 6, (some .int))
def mX9_standing : am_M := (9, yX9_standing, cX9_standing, 3, (some .int))
def mX11_turn : am_M := (11, yX11_turn, cX11_turn, 4, (some .int))
def mX4_fewestToTurn : am_M := (4, yX4_fewestToTurn, cX4_fewestToTurn, 9, (some .int))
def mX11_chair : am_M := (11, yX11_chair, cX11_chair, 2, (some .int))
def mX4_hangsOn : am_M := (4, yX4_hangsOn, cX4_hangsOn, 7, (some .int))
def mX11_power : am_M := (11, yX11_power, cX11_power, 4, (some .long))
def mX4_powerOf : am_M := (4, yX4_powerOf, cX4_powerOf, 8, (some .int))
def mX4_waysToDecide : am_M := (4, yX4_waysToDecide, cX4_waysToDecide, 10, (some .int))
def mX0_sumSets : am_M := (0, yX0_sumSets, cX0_sumSets, 7, none)
def mX11_lop : am_M := (11, yX11_lop, cX11_lop, 3, (some .int))
def mX4_lessHigh : am_M := (4, yX4_lessHigh, cX4_lessHigh, 5, (some .int))
def mX4_fallsAt : am_M := (4, yX4_fallsAt, cX4_fallsAt, 4, (some .boolean))
def mX4_moreHigh : am_M := (4, yX4_moreHigh, cX4_moreHigh, 5, (some .int))
def mX11_byTurns : am_M := (11, yX11_byTurns, cX11_byTurns, 3, (some .int))
def mX4_playTurns : am_M := (4, yX4_playTurns, cX4_playTurns, 10, none)
def mX4_bestOf : am_M := (4, yX4_bestOf, cX4_bestOf, 5, (some .int))
def mX4_leastMove : am_M := (4, yX4_leastMove, cX4_leastMove, 5, (some .int))
def mX11_deepest : am_M := (11, yX11_deepest, cX11_deepest, 4, (some .int))
def mX9_deepestMonth : am_M := (9, yX9_deepestMonth, cX9_deepestMonth, 6, (some .int))
def mX11_shadiest : am_M := (11, yX11_shadiest, cX11_shadiest, 4, (some .int))
def mX9_shadiestOne : am_M := (9, yX9_shadiestOne, cX9_shadiestOne, 6, (some .int))
def mX9_shadesOver : am_M := (9, yX9_shadesOver, cX9_shadesOver, 5, (some .int))
def mX5_shades : am_M := (5, yX5_shades, cX5_shades, 5, (some .boolean))
def mX11_judge : am_M := (11, yX11_judge, cX11_judge, 4, (some .int))
def mX1_firstWrong : am_M := (1, yX1_firstWrong, cX1_firstWrong, 6, (some .int))
def mX1_twosOf : am_M := (1, yX1_twosOf, cX1_twosOf, 1, (some .int))
def mX1_isWellSaid : am_M := (1, yX1_isWellSaid, cX1_isWellSaid, 6, (some .boolean))
def mX11_refusalOf : am_M := (11, yX11_refusalOf, cX11_refusalOf, 1, (some .int))
def mX11_wishes : am_M := (11, yX11_wishes, cX11_wishes, 5, (some .int))
def mX1_findWishers : am_M := (1, yX1_findWishers, cX1_findWishers, 8, none)
def mX1_ruleOut : am_M := (1, yX1_ruleOut, cX1_ruleOut, 8, none)
def mX1_gather : am_M := (1, yX1_gather, cX1_gather, 3, none)
def mX11_save : am_M := (11, yX11_save, cX11_save, 3, (some .int))
def mX9_findSeat : am_M := (9, yX9_findSeat, cX9_findSeat, 8, none)
def mX9_monthsOver : am_M := (9, yX9_monthsOver, cX9_monthsOver, 5, (some .int))
def mX11_alike : am_M := (11, yX11_alike, cX11_alike, 3, (some .int))
def mX9_sameShade : am_M := (9, yX9_sameShade, cX9_sameShade, 5, (some .boolean))
def mX11_drawn : am_M := (11, yX11_drawn, cX11_drawn, 4, (some .int))
def mX9_drawYears : am_M := (9, yX9_drawYears, cX9_drawYears, 12, (some .int))
def mX11_noon : am_M := (11, yX11_noon, cX11_noon, 2, (some .int))
def mX3_tell : am_M := (3, yX3_tell, cX3_tell, 2, (some .int))
def mX3_fell : am_M := (3, yX3_fell, cX3_fell, 3, none)
def mX3_countOn : am_M := (3, yX3_countOn, cX3_countOn, 3, none)
def mX11_sits : am_M := (11, yX11_sits, cX11_sits, 3, (some .int))
def mX3_seat : am_M := (3, yX3_seat, cX3_seat, 4, (some .int))
def mX11_lopped : am_M := (11, yX11_lopped, cX11_lopped, 2, (some .int))
def mX3_lopOne : am_M := (3, yX3_lopOne, cX3_lopOne, 3, (some .int))
def mX11_led : am_M := (11, yX11_led, cX11_led, 2, (some .int))
def mX11_image : am_M := (11, yX11_image, cX11_image, 1, (some .int))
def mX3_keepImage : am_M := (3, yX3_keepImage, cX3_keepImage, 2, none)
def mX11_back : am_M := (11, yX11_back, cX11_back, 1, (some .int))
def mX3_layBack : am_M := (3, yX3_layBack, cX3_layBack, 3, (some .boolean))
def mX11_undo : am_M := (11, yX11_undo, cX11_undo, 1, (some .int))
def mX2_takeBack : am_M := (2, yX2_takeBack, cX2_takeBack, 2, (some .boolean))
def mX11_redo : am_M := (11, yX11_redo, cX11_redo, 1, (some .int))
def mX2_doAgain : am_M := (2, yX2_doAgain, cX2_doAgain, 2, (some .boolean))
def mX11_body : am_M := (11, yX11_body, cX11_body, 2, (some .int))
def mX10_add : am_M := (10, yX10_add, cX10_add, 2, (some .int))
def mX11_act : am_M := (11, yX11_act, cX11_act, 4, (some .int))
def mX10_start : am_M := (10, yX10_start, cX10_start, 4, (some .int))
def mX10_kindOf : am_M := (10, yX10_kindOf, cX10_kindOf, 2, (some .int))
def mX10_perform : am_M := (10, yX10_perform, cX10_perform, 8, (some .int))
def mX10_ownerOf : am_M := (10, yX10_ownerOf, cX10_ownerOf, 4, (some .int))
def mX10_run : am_M := (10, yX10_run, cX10_run, 7, (some .int))
def mX10_does : am_M := (10, yX10_does, cX10_does, 5, (some .int))
def mX11_trace : am_M := (11, yX11_trace, cX11_trace, 2, (some .int))
def mX10_tracesKept : am_M := (10, yX10_tracesKept, cX10_tracesKept, 1, (some .int))
def mX10_traceAt : am_M := (10, yX10_traceAt, cX10_traceAt, 2, (some .int))
def mX11_keep : am_M := (11, yX11_keep, cX11_keep, 4, (some .int))
def mX8_holdVoter : am_M := (8, yX8_holdVoter, cX8_holdVoter, 2, none)
def mX11_row : am_M := (11, yX11_row, cX11_row, 5, (some .int))
def mX8_holdRow : am_M := (8, yX8_holdRow, cX8_holdRow, 4, none)
def mX11_put : am_M := (11, yX11_put, cX11_put, 6, (some .int))
def mX8_write : am_M := (8, yX8_write, cX8_write, 4, none)
def mX8_narrowed : am_M := (8, yX8_narrowed, cX8_narrowed, 3, (some .long))
def mX11_element : am_M := (11, yX11_element, cX11_element, 4, (some .long))
def mX11_shift : am_M := (11, yX11_shift, cX11_shift, 8, (some .int))
def mX8_takeFrom : am_M := (8, yX8_takeFrom, cX8_takeFrom, 5, (some .boolean))
def mX11_taken : am_M := (11, yX11_taken, cX11_taken, 5, (some .int))
def mX10_isUnder : am_M := (10, yX10_isUnder, cX10_isUnder, 5, (some .boolean))
def mX11_count : am_M := (11, yX11_count, cX11_count, 2, (some .int))
def mX12_init : am_M := (12, yX12_init, cX12_init, 3, none)
def mX12_undo : am_M := (12, yX12_undo, cX12_undo, 1, (some .int))
def mX12_redo : am_M := (12, yX12_redo, cX12_redo, 1, (some .int))
def mX12_tree : am_M := (12, yX12_tree, cX12_tree, 3, (some .int))
def mX12_isCell : am_M := (12, yX12_isCell, cX12_isCell, 2, (some .boolean))
def mX12_within : am_M := (12, yX12_within, cX12_within, 6, (some .boolean))
def mX12_person : am_M := (12, yX12_person, cX12_person, 3, (some .int))
def mX12_adds : am_M := (12, yX12_adds, cX12_adds, 4, none)
def mX12_people : am_M := (12, yX12_people, cX12_people, 7, (some .int))
def mX12_isShelf : am_M := (12, yX12_isShelf, cX12_isShelf, 1, (some .boolean))
def mX12_mend : am_M := (12, yX12_mend, cX12_mend, 5, (some .int))
def mX12_placeOf : am_M := (12, yX12_placeOf, cX12_placeOf, 3, (some .int))
def mX12_isTree : am_M := (12, yX12_isTree, cX12_isTree, 3, (some .boolean))
def mX12_isMonth : am_M := (12, yX12_isMonth, cX12_isMonth, 2, (some .boolean))
def mX12_isOne : am_M := (12, yX12_isOne, cX12_isOne, 3, (some .boolean))
def mX12_mayBecome : am_M := (12, yX12_mayBecome, cX12_mayBecome, 2, (some .boolean))
def mX12_becomes : am_M := (12, yX12_becomes, cX12_becomes, 5, (some .int))
def mX12_of : am_M := (12, yX12_of, cX12_of, 4, (some .int))
def mX12_feed : am_M := (12, yX12_feed, cX12_feed, 2, (some .int))
def mX12_law : am_M := (12, yX12_law, cX12_law, 4, (some .int))
def mX12_workOut : am_M := (12, yX12_workOut, cX12_workOut, 8, (some .int))
def mX12_either : am_M := (12, yX12_either, cX12_either, 3, (some .int))
def mX12_both : am_M := (12, yX12_both, cX12_both, 3, (some .int))
def mX12_compared : am_M := (12, yX12_compared, cX12_compared, 4, (some .int))
def mX12_sums : am_M := (12, yX12_sums, cX12_sums, 4, (some .int))
def mX12_product : am_M := (12, yX12_product, cX12_product, 4, (some .int))
def mX12_one : am_M := (12, yX12_one, cX12_one, 5, (some .int))
def mX12_byteAt : am_M := (12, yX12_byteAt, cX12_byteAt, 1, (some .int))
def mX12_wrong : am_M := (12, yX12_wrong, cX12_wrong, 1, (some .int))
def mX12_takes : am_M := (12, yX12_takes, cX12_takes, 2, (some .boolean))
def mX12_nameOf : am_M := (12, yX12_nameOf, cX12_nameOf, 1, (some .int))
def mX12_shade : am_M := (12, yX12_shade, cX12_shade, 2, (some .int))
def mX12_isTm : am_M := (12, yX12_isTm, cX12_isTm, 2, (some .boolean))
def mX12_sittersNow : am_M := (12, yX12_sittersNow, cX12_sittersNow, 3, (some .int))
def mX12_isIn : am_M := (12, yX12_isIn, cX12_isIn, 2, (some .boolean))
def mX12_sittersIn : am_M := (12, yX12_sittersIn, cX12_sittersIn, 5, (some .int))
def mX12_isShaded : am_M := (12, yX12_isShaded, cX12_isShaded, 6, (some .boolean))
def mX12_rowsOf : am_M := (12, yX12_rowsOf, cX12_rowsOf, 3, (some .int))
def mX12_votes : am_M := (12, yX12_votes, cX12_votes, 8, (some .int))
def mX12_wishers : am_M := (12, yX12_wishers, cX12_wishers, 4, (some .int))
def mX12_sumOf : am_M := (12, yX12_sumOf, cX12_sumOf, 7, (some .int))
def mX12_bitsOf : am_M := (12, yX12_bitsOf, cX12_bitsOf, 3, (some .int))
def mX12_countsOf : am_M := (12, yX12_countsOf, cX12_countsOf, 6, (some .int))
def mX12_fallsNow : am_M := (12, yX12_fallsNow, cX12_fallsNow, 3, (some .boolean))
def mX12_doesFall : am_M := (12, yX12_doesFall, cX12_doesFall, 5, (some .boolean))
def mX12_isShadedNow : am_M := (12, yX12_isShadedNow, cX12_isShadedNow, 4, (some .boolean))
def mX12_falls : am_M := (12, yX12_falls, cX12_falls, 4, (some .int))
def mX12_fallIn : am_M := (12, yX12_fallIn, cX12_fallIn, 4, (some .int))
def mX12_first : am_M := (12, yX12_first, cX12_first, 3, (some .int))
def mX12_left : am_M := (12, yX12_left, cX12_left, 5, (some .int))
def mX12_turn : am_M := (12, yX12_turn, cX12_turn, 8, (some .int))
def mX12_everybody : am_M := (12, yX12_everybody, cX12_everybody, 1, (some .int))
def mX12_chair : am_M := (12, yX12_chair, cX12_chair, 6, (some .int))
def mX12_power : am_M := (12, yX12_power, cX12_power, 13, (some .long))
def mX12_common : am_M := (12, yX12_common, cX12_common, 10, (some .long))
def mX12_lop : am_M := (12, yX12_lop, cX12_lop, 7, (some .int))
def mX12_byTurns : am_M := (12, yX12_byTurns, cX12_byTurns, 9, (some .int))
def mX12_fallsFrom : am_M := (12, yX12_fallsFrom, cX12_fallsFrom, 8, (some .boolean))
def mX12_deepest : am_M := (12, yX12_deepest, cX12_deepest, 5, (some .int))
def mX12_shadiest : am_M := (12, yX12_shadiest, cX12_shadiest, 8, (some .int))
def mX12_judge : am_M := (12, yX12_judge, cX12_judge, 3, (some .int))
def mX12_bytesIs : am_M := (12, yX12_bytesIs, cX12_bytesIs, 2, (some .int))
def mX12_firstFalse : am_M := (12, yX12_firstFalse, cX12_firstFalse, 7, (some .int))
def mX12_wishes : am_M := (12, yX12_wishes, cX12_wishes, 8, (some .int))
def mX12_save : am_M := (12, yX12_save, cX12_save, 9, (some .int))
def mX12_standsIn : am_M := (12, yX12_standsIn, cX12_standsIn, 4, (some .int))
def mX12_alike : am_M := (12, yX12_alike, cX12_alike, 4, (some .int))
def mX12_drawn : am_M := (12, yX12_drawn, cX12_drawn, 11, (some .int))
def mX12_noon : am_M := (12, yX12_noon, cX12_noon, 2, (some .int))
def mX12_sits : am_M := (12, yX12_sits, cX12_sits, 4, (some .int))
def mX12_lopped : am_M := (12, yX12_lopped, cX12_lopped, 2, (some .int))
def mX12_led : am_M := (12, yX12_led, cX12_led, 2, (some .int))
def mX12_image : am_M := (12, yX12_image, cX12_image, 2, (some .int))
def mX12_back : am_M := (12, yX12_back, cX12_back, 2, (some .int))
def mX12_body : am_M := (12, yX12_body, cX12_body, 2, (some .int))
def mX12_act : am_M := (12, yX12_act, cX12_act, 4, (some .int))
def mX12_isBody : am_M := (12, yX12_isBody, cX12_isBody, 2, (some .boolean))
def mX12_sitsAs : am_M := (12, yX12_sitsAs, cX12_sitsAs, 3, (some .int))
def mX12_runs : am_M := (12, yX12_runs, cX12_runs, 2, none)
def mX12_votesAs : am_M := (12, yX12_votesAs, cX12_votesAs, 4, (some .int))
def mX12_movesAs : am_M := (12, yX12_movesAs, cX12_movesAs, 4, (some .int))
def mX12_tellsAs : am_M := (12, yX12_tellsAs, cX12_tellsAs, 4, (some .int))
def mX12_trace : am_M := (12, yX12_trace, cX12_trace, 2, (some .int))
def mX12_keep : am_M := (12, yX12_keep, cX12_keep, 3, (some .int))
def mX12_row : am_M := (12, yX12_row, cX12_row, 5, (some .int))
def mX12_put : am_M := (12, yX12_put, cX12_put, 6, (some .int))
def mX12_refusal : am_M := (12, yX12_refusal, cX12_refusal, 3, (some .int))
def mX12_asSort : am_M := (12, yX12_asSort, cX12_asSort, 3, (some .long))
def mX12_element : am_M := (12, yX12_element, cX12_element, 3, (some .long))
def mX12_shift : am_M := (12, yX12_shift, cX12_shift, 7, (some .int))
def mX12_taken : am_M := (12, yX12_taken, cX12_taken, 4, (some .int))
def mX12_kindOf : am_M := (12, yX12_kindOf, cX12_kindOf, 2, (some .int))
def mX12_above : am_M := (12, yX12_above, cX12_above, 1, (some .int))
def mX12_count : am_M := (12, yX12_count, cX12_count, 2, (some .int))
def mL_law : am_M := (14, yL_law, cL_law, 4, some .boolean)
theorem am_lookup {α : Type} {P : Nat × α → Prop} : ∀ {l : List (Nat × α)} {i : Nat} {x : α}, (∀ q ∈ l, P q) → List.lookup i l = some x → P (i, x)
  | [], _, _, _, h => by simp at h
  | (j, y) :: l, i, x, hl, h => by
    rw [List.lookup_cons] at h
    by_cases e : i = j
    · subst e
      simp at h
      subst h
      exact hl _ List.mem_cons_self
    · have e2 : (i == j) = false := by simpa using e
      rw [e2] at h
      exact am_lookup (fun q hq => hl q (List.mem_cons_of_mem _ hq)) h
/-- a field as an instruction names it: class of the code, place in its pool; the class of the object, the field -/
def am_fld : Nat → Nat → Option (Nat × Nat × Bool) := fun c i => match c with
  | 0 => List.lookup i [(9, (0, 2, true)), (15, (0, 3, true)), (18, (0, 0, true)), (22, (0, 1, true)), (40, (0, 4, true)), (44, (0, 5, true)), (61, (0, 6, true)), (96, (5, 2, false))]
  | 1 => List.lookup i [(9, (1, 0, true)), (15, (1, 1, true)), (19, (1, 2, true)), (23, (1, 3, true)), (58, (0, 5, false)), (62, (0, 6, false)), (69, (1, 4, true)), (72, (1, 5, true)), (75, (1, 6, true)), (84, (5, 2, false))]
  | 2 => List.lookup i [(9, (2, 1, true)), (13, (2, 2, true)), (16, (2, 3, true)), (19, (2, 4, true)), (22, (2, 0, true)), (26, (2, 5, true)), (30, (2, 7, true)), (33, (2, 6, true))]
  | 3 => List.lookup i [(9, (3, 1, true)), (15, (3, 2, true)), (18, (3, 3, true)), (21, (3, 4, true)), (24, (3, 5, true)), (27, (3, 0, true)), (39, (5, 1, false)), (71, (3, 8, true)), (75, (3, 6, true)), (78, (5, 2, false)), (81, (3, 7, true))]
  | 4 => List.lookup i [(9, (4, 0, true)), (15, (4, 1, true)), (19, (4, 2, true)), (23, (4, 3, true)), (32, (0, 5, false)), (36, (0, 6, false)), (43, (5, 2, false)), (95, (4, 4, true)), (101, (4, 5, true))]
  | 5 => List.lookup i [(9, (5, 0, true)), (26, (5, 1, true)), (30, (5, 2, true))]
  | 6 => List.lookup i [(9, (6, 0, true)), (15, (6, 1, true)), (24, (6, 2, true)), (38, (6, 7, true)), (41, (6, 5, true)), (44, (6, 4, true)), (47, (6, 8, true)), (50, (6, 3, true)), (53, (6, 6, true))]
  | 7 => List.lookup i [(11, (7, 0, true)), (15, (7, 1, true)), (18, (7, 2, true)), (26, (7, 3, true)), (29, (7, 4, true))]
  | 8 => List.lookup i [(9, (8, 0, true)), (13, (8, 1, true)), (17, (8, 3, true)), (24, (8, 2, true))]
  | 9 => List.lookup i [(9, (9, 2, true)), (15, (9, 0, true)), (19, (9, 1, true)), (43, (0, 5, false)), (47, (0, 6, false)), (54, (5, 1, false)), (88, (5, 2, false)), (94, (9, 3, true)), (97, (9, 4, true))]
  | 10 => List.lookup i [(11, (10, 0, true)), (15, (10, 1, true)), (18, (10, 2, true)), (33, (10, 3, true))]
  | 11 => List.lookup i [(12, (11, 0, true)), (19, (11, 1, true)), (26, (11, 2, true)), (35, (11, 3, true)), (44, (11, 4, true)), (48, (11, 5, true)), (52, (11, 6, true)), (60, (11, 7, true)), (67, (11, 8, true)), (76, (11, 9, true)), (83, (11, 10, true)), (90, (11, 11, true)), (97, (11, 12, true)), (167, (7, 1, false)), (170, (7, 4, false)), (194, (0, 5, false)), (197, (0, 6, false)), (249, (4, 4, false)), (252, (4, 5, false)), (279, (1, 4, false)), (282, (1, 5, false)), (285, (1, 6, false)), (291, (9, 3, false)), (294, (9, 4, false)), (325, (2, 6, false)), (331, (2, 7, false)), (345, (10, 2, false)), (357, (8, 1, false)), (364, (8, 3, false)), (373, (5, 1, false)), (376, (5, 2, false)), (379, (7, 2, false)), (382, (10, 3, false))]
  | 12 => List.lookup i [(9, (12, 0, true)), (13, (12, 1, true)), (16, (12, 2, true)), (19, (12, 3, true)), (22, (12, 9, true)), (25, (12, 11, true)), (28, (12, 18, true)), (31, (12, 20, true)), (34, (12, 26, true)), (37, (12, 27, true)), (40, (12, 28, true)), (43, (12, 30, true)), (46, (12, 31, true)), (49, (12, 35, true)), (52, (12, 36, true)), (55, (12, 37, true)), (59, (12, 38, true)), (62, (12, 12, true)), (66, (12, 5, true)), (69, (12, 4, true)), (72, (12, 6, true)), (79, (12, 7, true)), (98, (12, 8, true)), (129, (12, 10, true)), (132, (12, 14, true)), (135, (12, 15, true)), (138, (12, 13, true)), (141, (12, 16, true)), (166, (12, 17, true)), (263, (12, 19, true)), (266, (12, 21, true)), (270, (12, 22, true)), (273, (12, 23, true)), (276, (12, 24, true)), (279, (12, 25, true)), (282, (12, 29, true)), (287, (12, 32, true)), (297, (12, 34, true)), (303, (12, 33, true))]
  | _ => none
/-- a link of a field, from the class itself or from a nest mate -/
def am_FL (c i ci k : Nat) (b : Bool) : Prop := match b with
  | true => Cond.fieldLink (am_cn c) i (am_T ci k).1 (am_T ci k).2.1 (am_T ci k).2.2.1 ∈ lw_tbl
  | false => Cond.fieldLinkNest (am_cn c) i (am_T ci k).1 (am_T ci k).2.1 (am_T ci k).2.2.1 "ShadeVotes" ∈ lw_tbl
set_option maxRecDepth 100000 in
theorem am_fld_f0 : ∀ x ∈ ([(9, (0, 2, true)), (15, (0, 3, true)), (18, (0, 0, true)), (22, (0, 1, true)), (40, (0, 4, true)), (44, (0, 5, true)), (61, (0, 6, true)), (96, (5, 2, false))] : List (Nat × (Nat × Nat × Bool))), x.2.1 < 13 ∧ x.2.2.1 < am_nf x.2.1 ∧ am_FL 0 x.1 x.2.1 x.2.2.1 x.2.2.2 := List.forall_mem_cons.mpr ⟨⟨by decide, by decide, am_t1 _ (List.mem_of_getElem? (i := 130) rfl)⟩, List.forall_mem_cons.mpr ⟨⟨by decide, by decide, am_t1 _ (List.mem_of_getElem? (i := 131) rfl)⟩, List.forall_mem_cons.mpr ⟨⟨by decide, by decide, am_t1 _ (List.mem_of_getElem? (i := 128) rfl)⟩, List.forall_mem_cons.mpr ⟨⟨by decide, by decide, am_t1 _ (List.mem_of_getElem? (i := 129) rfl)⟩, List.forall_mem_cons.mpr ⟨⟨by decide, by decide, am_t1 _ (List.mem_of_getElem? (i := 132) rfl)⟩, List.forall_mem_cons.mpr ⟨⟨by decide, by decide, am_t1 _ (List.mem_of_getElem? (i := 134) rfl)⟩, List.forall_mem_cons.mpr ⟨⟨by decide, by decide, am_t1 _ (List.mem_of_getElem? (i := 140) rfl)⟩, List.forall_mem_cons.mpr ⟨⟨by decide, by decide, am_t1 _ (List.mem_of_getElem? (i := 50) rfl)⟩, fun _ h => absurd h List.not_mem_nil⟩⟩⟩⟩⟩⟩⟩⟩
set_option maxRecDepth 100000 in
theorem am_fld_f1 : ∀ x ∈ ([(9, (1, 0, true)), (15, (1, 1, true)), (19, (1, 2, true)), (23, (1, 3, true)), (58, (0, 5, false)), (62, (0, 6, false)), (69, (1, 4, true)), (72, (1, 5, true)), (75, (1, 6, true)), (84, (5, 2, false))] : List (Nat × (Nat × Nat × Bool))), x.2.1 < 13 ∧ x.2.2.1 < am_nf x.2.1 ∧ am_FL 1 x.1 x.2.1 x.2.2.1 x.2.2.2 := List.forall_mem_cons.mpr ⟨⟨by decide, by decide, am_t1 _ (List.mem_of_getElem? (i := 215) rfl)⟩, List.forall_mem_cons.mpr ⟨⟨by decide, by decide, am_t1 _ (List.mem_of_getElem? (i := 216) rfl)⟩, List.forall_mem_cons.mpr ⟨⟨by decide, by decide, am_t1 _ (List.mem_of_getElem? (i := 217) rfl)⟩, List.forall_mem_cons.mpr ⟨⟨by decide, by decide, am_t1 _ (List.mem_of_getElem? (i := 218) rfl)⟩, List.forall_mem_cons.mpr ⟨⟨by decide, by decide, am_t1 _ (List.mem_of_getElem? (i := 136) rfl)⟩, List.forall_mem_cons.mpr ⟨⟨by decide, by decide, am_t1 _ (List.mem_of_getElem? (i := 141) rfl)⟩, List.forall_mem_cons.mpr ⟨⟨by decide, by decide, am_t1 _ (List.mem_of_getElem? (i := 219) rfl)⟩, List.forall_mem_cons.mpr ⟨⟨by decide, by decide, am_t1 _ (List.mem_of_getElem? (i := 221) rfl)⟩, List.forall_mem_cons.mpr ⟨⟨by decide, by decide, am_t1 _ (List.mem_of_getElem? (i := 223) rfl)⟩, List.forall_mem_cons.mpr ⟨⟨by decide, by decide, am_t1 _ (List.mem_of_getElem? (i := 51) rfl)⟩, fun _ h => absurd h List.not_mem_nil⟩⟩⟩⟩⟩⟩⟩⟩⟩⟩
set_option maxRecDepth 100000 in
theorem am_fld_f2 : ∀ x ∈ ([(9, (2, 1, true)), (13, (2, 2, true)), (16, (2, 3, true)), (19, (2, 4, true)), (22, (2, 0, true)), (26, (2, 5, true)), (30, (2, 7, true)), (33, (2, 6, true))] : List (Nat × (Nat × Nat × Bool))), x.2.1 < 13 ∧ x.2.2.1 < am_nf x.2.1 ∧ am_FL 2 x.1 x.2.1 x.2.2.1 x.2.2.2 := List.forall_mem_cons.mpr ⟨⟨by decide, by decide, am_t2 _ (List.mem_of_getElem? (i := 41) rfl)⟩, List.forall_mem_cons.mpr ⟨⟨by decide, by decide, am_t2 _ (List.mem_of_getElem? (i := 42) rfl)⟩, List.forall_mem_cons.mpr ⟨⟨by decide, by decide, am_t2 _ (List.mem_of_getElem? (i := 43) rfl)⟩, List.forall_mem_cons.mpr ⟨⟨by decide, by decide, am_t2 _ (List.mem_of_getElem? (i := 44) rfl)⟩, List.forall_mem_cons.mpr ⟨⟨by decide, by decide, am_t2 _ (List.mem_of_getElem? (i := 40) rfl)⟩, List.forall_mem_cons.mpr ⟨⟨by decide, by decide, am_t2 _ (List.mem_of_getElem? (i := 45) rfl)⟩, List.forall_mem_cons.mpr ⟨⟨by decide, by decide, am_t2 _ (List.mem_of_getElem? (i := 48) rfl)⟩, List.forall_mem_cons.mpr ⟨⟨by decide, by decide, am_t2 _ (List.mem_of_getElem? (i := 46) rfl)⟩, fun _ h => absurd h List.not_mem_nil⟩⟩⟩⟩⟩⟩⟩⟩
set_option maxRecDepth 100000 in
theorem am_fld_f3 : ∀ x ∈ ([(9, (3, 1, true)), (15, (3, 2, true)), (18, (3, 3, true)), (21, (3, 4, true)), (24, (3, 5, true)), (27, (3, 0, true)), (39, (5, 1, false)), (71, (3, 8, true)), (75, (3, 6, true)), (78, (5, 2, false)), (81, (3, 7, true))] : List (Nat × (Nat × Nat × Bool))), x.2.1 < 13 ∧ x.2.2.1 < am_nf x.2.1 ∧ am_FL 3 x.1 x.2.1 x.2.2.1 x.2.2.2 := List.forall_mem_cons.mpr ⟨⟨by decide, by decide, am_t2 _ (List.mem_of_getElem? (i := 7) rfl)⟩, List.forall_mem_cons.mpr ⟨⟨by decide, by decide, am_t2 _ (List.mem_of_getElem? (i := 8) rfl)⟩, List.forall_mem_cons.mpr ⟨⟨by decide, by decide, am_t2 _ (List.mem_of_getElem? (i := 9) rfl)⟩, List.forall_mem_cons.mpr ⟨⟨by decide, by decide, am_t2 _ (List.mem_of_getElem? (i := 10) rfl)⟩, List.forall_mem_cons.mpr ⟨⟨by decide, by decide, am_t2 _ (List.mem_of_getElem? (i := 11) rfl)⟩, List.forall_mem_cons.mpr ⟨⟨by decide, by decide, am_t2 _ (List.mem_of_getElem? (i := 6) rfl)⟩, List.forall_mem_cons.mpr ⟨⟨by decide, by decide, am_t1 _ (List.mem_of_getElem? (i := 45) rfl)⟩, List.forall_mem_cons.mpr ⟨⟨by decide, by decide, am_t2 _ (List.mem_of_getElem? (i := 14) rfl)⟩, List.forall_mem_cons.mpr ⟨⟨by decide, by decide, am_t2 _ (List.mem_of_getElem? (i := 12) rfl)⟩, List.forall_mem_cons.mpr ⟨⟨by decide, by decide, am_t1 _ (List.mem_of_getElem? (i := 52) rfl)⟩, List.forall_mem_cons.mpr ⟨⟨by decide, by decide, am_t2 _ (List.mem_of_getElem? (i := 13) rfl)⟩, fun _ h => absurd h List.not_mem_nil⟩⟩⟩⟩⟩⟩⟩⟩⟩⟩⟩
set_option maxRecDepth 100000 in
theorem am_fld_f4 : ∀ x ∈ ([(9, (4, 0, true)), (15, (4, 1, true)), (19, (4, 2, true)), (23, (4, 3, true)), (32, (0, 5, false)), (36, (0, 6, false)), (43, (5, 2, false)), (95, (4, 4, true)), (101, (4, 5, true))] : List (Nat × (Nat × Nat × Bool))), x.2.1 < 13 ∧ x.2.2.1 < am_nf x.2.1 ∧ am_FL 4 x.1 x.2.1 x.2.2.1 x.2.2.2 := List.forall_mem_cons.mpr ⟨⟨by decide, by decide, am_t1 _ (List.mem_of_getElem? (i := 188) rfl)⟩, List.forall_mem_cons.mpr ⟨⟨by decide, by decide, am_t1 _ (List.mem_of_getElem? (i := 189) rfl)⟩, List.forall_mem_cons.mpr ⟨⟨by decide, by decide, am_t1 _ (List.mem_of_getElem? (i := 190) rfl)⟩, List.forall_mem_cons.mpr ⟨⟨by decide, by decide, am_t1 _ (List.mem_of_getElem? (i := 191) rfl)⟩, List.forall_mem_cons.mpr ⟨⟨by decide, by decide, am_t1 _ (List.mem_of_getElem? (i := 133) rfl)⟩, List.forall_mem_cons.mpr ⟨⟨by decide, by decide, am_t1 _ (List.mem_of_getElem? (i := 138) rfl)⟩, List.forall_mem_cons.mpr ⟨⟨by decide, by decide, am_t1 _ (List.mem_of_getElem? (i := 48) rfl)⟩, List.forall_mem_cons.mpr ⟨⟨by decide, by decide, am_t1 _ (List.mem_of_getElem? (i := 192) rfl)⟩, List.forall_mem_cons.mpr ⟨⟨by decide, by decide, am_t1 _ (List.mem_of_getElem? (i := 194) rfl)⟩, fun _ h => absurd h List.not_mem_nil⟩⟩⟩⟩⟩⟩⟩⟩⟩
set_option maxRecDepth 100000 in
theorem am_fld_f5 : ∀ x ∈ ([(9, (5, 0, true)), (26, (5, 1, true)), (30, (5, 2, true))] : List (Nat × (Nat × Nat × Bool))), x.2.1 < 13 ∧ x.2.2.1 < am_nf x.2.1 ∧ am_FL 5 x.1 x.2.1 x.2.2.1 x.2.2.2 := List.forall_mem_cons.mpr ⟨⟨by decide, by decide, am_t1 _ (List.mem_of_getElem? (i := 43) rfl)⟩, List.forall_mem_cons.mpr ⟨⟨by decide, by decide, am_t1 _ (List.mem_of_getElem? (i := 44) rfl)⟩, List.forall_mem_cons.mpr ⟨⟨by decide, by decide, am_t1 _ (List.mem_of_getElem? (i := 49) rfl)⟩, fun _ h => absurd h List.not_mem_nil⟩⟩⟩
set_option maxRecDepth 100000 in
theorem am_fld_f6 : ∀ x ∈ ([(9, (6, 0, true)), (15, (6, 1, true)), (24, (6, 2, true)), (38, (6, 7, true)), (41, (6, 5, true)), (44, (6, 4, true)), (47, (6, 8, true)), (50, (6, 3, true)), (53, (6, 6, true))] : List (Nat × (Nat × Nat × Bool))), x.2.1 < 13 ∧ x.2.2.1 < am_nf x.2.1 ∧ am_FL 6 x.1 x.2.1 x.2.2.1 x.2.2.2 := List.forall_mem_cons.mpr ⟨⟨by decide, by decide, am_t1 _ (List.mem_of_getElem? (i := 94) rfl)⟩, List.forall_mem_cons.mpr ⟨⟨by decide, by decide, am_t1 _ (List.mem_of_getElem? (i := 95) rfl)⟩, List.forall_mem_cons.mpr ⟨⟨by decide, by decide, am_t1 _ (List.mem_of_getElem? (i := 96) rfl)⟩, List.forall_mem_cons.mpr ⟨⟨by decide, by decide, am_t1 _ (List.mem_of_getElem? (i := 101) rfl)⟩, List.forall_mem_cons.mpr ⟨⟨by decide, by decide, am_t1 _ (List.mem_of_getElem? (i := 99) rfl)⟩, List.forall_mem_cons.mpr ⟨⟨by decide, by decide, am_t1 _ (List.mem_of_getElem? (i := 98) rfl)⟩, List.forall_mem_cons.mpr ⟨⟨by decide, by decide, am_t1 _ (List.mem_of_getElem? (i := 102) rfl)⟩, List.forall_mem_cons.mpr ⟨⟨by decide, by decide, am_t1 _ (List.mem_of_getElem? (i := 97) rfl)⟩, List.forall_mem_cons.mpr ⟨⟨by decide, by decide, am_t1 _ (List.mem_of_getElem? (i := 100) rfl)⟩, fun _ h => absurd h List.not_mem_nil⟩⟩⟩⟩⟩⟩⟩⟩⟩
set_option maxRecDepth 100000 in
theorem am_fld_f7 : ∀ x ∈ ([(11, (7, 0, true)), (15, (7, 1, true)), (18, (7, 2, true)), (26, (7, 3, true)), (29, (7, 4, true))] : List (Nat × (Nat × Nat × Bool))), x.2.1 < 13 ∧ x.2.2.1 < am_nf x.2.1 ∧ am_FL 7 x.1 x.2.1 x.2.2.1 x.2.2.2 := List.forall_mem_cons.mpr ⟨⟨by decide, by decide, am_t1 _ (List.mem_of_getElem? (i := 69) rfl)⟩, List.forall_mem_cons.mpr ⟨⟨by decide, by decide, am_t1 _ (List.mem_of_getElem? (i := 70) rfl)⟩, List.forall_mem_cons.mpr ⟨⟨by decide, by decide, am_t1 _ (List.mem_of_getElem? (i := 72) rfl)⟩, List.forall_mem_cons.mpr ⟨⟨by decide, by decide, am_t1 _ (List.mem_of_getElem? (i := 74) rfl)⟩, List.forall_mem_cons.mpr ⟨⟨by decide, by decide, am_t1 _ (List.mem_of_getElem? (i := 75) rfl)⟩, fun _ h => absurd h List.not_mem_nil⟩⟩⟩⟩⟩
set_option maxRecDepth 100000 in
theorem am_fld_f8 : ∀ x ∈ ([(9, (8, 0, true)), (13, (8, 1, true)), (17, (8, 3, true)), (24, (8, 2, true))] : List (Nat × (Nat × Nat × Bool))), x.2.1 < 13 ∧ x.2.2.1 < am_nf x.2.1 ∧ am_FL 8 x.1 x.2.1 x.2.2.1 x.2.2.2 := List.forall_mem_cons.mpr ⟨⟨by decide, by decide, am_t2 _ (List.mem_of_getElem? (i := 95) rfl)⟩, List.forall_mem_cons.mpr ⟨⟨by decide, by decide, am_t2 _ (List.mem_of_getElem? (i := 96) rfl)⟩, List.forall_mem_cons.mpr ⟨⟨by decide, by decide, am_t2 _ (List.mem_of_getElem? (i := 99) rfl)⟩, List.forall_mem_cons.mpr ⟨⟨by decide, by decide, am_t2 _ (List.mem_of_getElem? (i := 98) rfl)⟩, fun _ h => absurd h List.not_mem_nil⟩⟩⟩⟩
set_option maxRecDepth 100000 in
theorem am_fld_f9 : ∀ x ∈ ([(9, (9, 2, true)), (15, (9, 0, true)), (19, (9, 1, true)), (43, (0, 5, false)), (47, (0, 6, false)), (54, (5, 1, false)), (88, (5, 2, false)), (94, (9, 3, true)), (97, (9, 4, true))] : List (Nat × (Nat × Nat × Bool))), x.2.1 < 13 ∧ x.2.2.1 < am_nf x.2.1 ∧ am_FL 9 x.1 x.2.1 x.2.2.1 x.2.2.2 := List.forall_mem_cons.mpr ⟨⟨by decide, by decide, am_t1 _ (List.mem_of_getElem? (i := 166) rfl)⟩, List.forall_mem_cons.mpr ⟨⟨by decide, by decide, am_t1 _ (List.mem_of_getElem? (i := 164) rfl)⟩, List.forall_mem_cons.mpr ⟨⟨by decide, by decide, am_t1 _ (List.mem_of_getElem? (i := 165) rfl)⟩, List.forall_mem_cons.mpr ⟨⟨by decide, by decide, am_t1 _ (List.mem_of_getElem? (i := 135) rfl)⟩, List.forall_mem_cons.mpr ⟨⟨by decide, by decide, am_t1 _ (List.mem_of_getElem? (i := 139) rfl)⟩, List.forall_mem_cons.mpr ⟨⟨by decide, by decide, am_t1 _ (List.mem_of_getElem? (i := 46) rfl)⟩, List.forall_mem_cons.mpr ⟨⟨by decide, by decide, am_t1 _ (List.mem_of_getElem? (i := 53) rfl)⟩, List.forall_mem_cons.mpr ⟨⟨by decide, by decide, am_t1 _ (List.mem_of_getElem? (i := 167) rfl)⟩, List.forall_mem_cons.mpr ⟨⟨by decide, by decide, am_t1 _ (List.mem_of_getElem? (i := 169) rfl)⟩, fun _ h => absurd h List.not_mem_nil⟩⟩⟩⟩⟩⟩⟩⟩⟩
set_option maxRecDepth 100000 in
theorem am_fld_f10 : ∀ x ∈ ([(11, (10, 0, true)), (15, (10, 1, true)), (18, (10, 2, true)), (33, (10, 3, true))] : List (Nat × (Nat × Nat × Bool))), x.2.1 < 13 ∧ x.2.2.1 < am_nf x.2.1 ∧ am_FL 10 x.1 x.2.1 x.2.2.1 x.2.2.2 := List.forall_mem_cons.mpr ⟨⟨by decide, by decide, am_t2 _ (List.mem_of_getElem? (i := 73) rfl)⟩, List.forall_mem_cons.mpr ⟨⟨by decide, by decide, am_t2 _ (List.mem_of_getElem? (i := 74) rfl)⟩, List.forall_mem_cons.mpr ⟨⟨by decide, by decide, am_t2 _ (List.mem_of_getElem? (i := 75) rfl)⟩, List.forall_mem_cons.mpr ⟨⟨by decide, by decide, am_t2 _ (List.mem_of_getElem? (i := 77) rfl)⟩, fun _ h => absurd h List.not_mem_nil⟩⟩⟩⟩
set_option maxRecDepth 100000 in
theorem am_fld_f11 : ∀ x ∈ ([(12, (11, 0, true)), (19, (11, 1, true)), (26, (11, 2, true)), (35, (11, 3, true)), (44, (11, 4, true)), (48, (11, 5, true)), (52, (11, 6, true)), (60, (11, 7, true)), (67, (11, 8, true)), (76, (11, 9, true)), (83, (11, 10, true)), (90, (11, 11, true)), (97, (11, 12, true)), (167, (7, 1, false)), (170, (7, 4, false)), (194, (0, 5, false)), (197, (0, 6, false)), (249, (4, 4, false)), (252, (4, 5, false)), (279, (1, 4, false)), (282, (1, 5, false)), (285, (1, 6, false)), (291, (9, 3, false)), (294, (9, 4, false)), (325, (2, 6, false)), (331, (2, 7, false)), (345, (10, 2, false)), (357, (8, 1, false)), (364, (8, 3, false)), (373, (5, 1, false)), (376, (5, 2, false)), (379, (7, 2, false)), (382, (10, 3, false))] : List (Nat × (Nat × Nat × Bool))), x.2.1 < 13 ∧ x.2.2.1 < am_nf x.2.1 ∧ am_FL 11 x.1 x.2.1 x.2.2.1 x.2.2.2 := List.forall_mem_cons.mpr ⟨⟨by decide, by decide, am_t2 _ (List.mem_of_getElem? (i := 111) rfl)⟩, List.forall_mem_cons.mpr ⟨⟨by decide, by decide, am_t2 _ (List.mem_of_getElem? (i := 112) rfl)⟩, List.forall_mem_cons.mpr ⟨⟨by decide, by decide, am_t2 _ (List.mem_of_getElem? (i := 113) rfl)⟩, List.forall_mem_cons.mpr ⟨⟨by decide, by decide, am_t2 _ (List.mem_of_getElem? (i := 114) rfl)⟩, List.forall_mem_cons.mpr ⟨⟨by decide, by decide, am_t2 _ (List.mem_of_getElem? (i := 115) rfl)⟩, List.forall_mem_cons.mpr ⟨⟨by decide, by decide, am_t2 _ (List.mem_of_getElem? (i := 116) rfl)⟩, List.forall_mem_cons.mpr ⟨⟨by decide, by decide, am_t2 _ (List.mem_of_getElem? (i := 117) rfl)⟩, List.forall_mem_cons.mpr ⟨⟨by decide, by decide, am_t2 _ (List.mem_of_getElem? (i := 118) rfl)⟩, List.forall_mem_cons.mpr ⟨⟨by decide, by decide, am_t2 _ (List.mem_of_getElem? (i := 119) rfl)⟩, List.forall_mem_cons.mpr ⟨⟨by decide, by decide, am_t2 _ (List.mem_of_getElem? (i := 120) rfl)⟩, List.forall_mem_cons.mpr ⟨⟨by decide, by decide, am_t2 _ (List.mem_of_getElem? (i := 121) rfl)⟩, List.forall_mem_cons.mpr ⟨⟨by decide, by decide, am_t2 _ (List.mem_of_getElem? (i := 122) rfl)⟩, List.forall_mem_cons.mpr ⟨⟨by decide, by decide, am_t2 _ (List.mem_of_getElem? (i := 123) rfl)⟩, List.forall_mem_cons.mpr ⟨⟨by decide, by decide, am_t1 _ (List.mem_of_getElem? (i := 71) rfl)⟩, List.forall_mem_cons.mpr ⟨⟨by decide, by decide, am_t1 _ (List.mem_of_getElem? (i := 76) rfl)⟩, List.forall_mem_cons.mpr ⟨⟨by decide, by decide, am_t1 _ (List.mem_of_getElem? (i := 137) rfl)⟩, List.forall_mem_cons.mpr ⟨⟨by decide, by decide, am_t1 _ (List.mem_of_getElem? (i := 142) rfl)⟩, List.forall_mem_cons.mpr ⟨⟨by decide, by decide, am_t1 _ (List.mem_of_getElem? (i := 193) rfl)⟩, List.forall_mem_cons.mpr ⟨⟨by decide, by decide, am_t1 _ (List.mem_of_getElem? (i := 195) rfl)⟩, List.forall_mem_cons.mpr ⟨⟨by decide, by decide, am_t1 _ (List.mem_of_getElem? (i := 220) rfl)⟩, List.forall_mem_cons.mpr ⟨⟨by decide, by decide, am_t1 _ (List.mem_of_getElem? (i := 222) rfl)⟩, List.forall_mem_cons.mpr ⟨⟨by decide, by decide, am_t1 _ (List.mem_of_getElem? (i := 224) rfl)⟩, List.forall_mem_cons.mpr ⟨⟨by decide, by decide, am_t1 _ (List.mem_of_getElem? (i := 168) rfl)⟩, List.forall_mem_cons.mpr ⟨⟨by decide, by decide, am_t1 _ (List.mem_of_getElem? (i := 170) rfl)⟩, List.forall_mem_cons.mpr ⟨⟨by decide, by decide, am_t2 _ (List.mem_of_getElem? (i := 47) rfl)⟩, List.forall_mem_cons.mpr ⟨⟨by decide, by decide, am_t2 _ (List.mem_of_getElem? (i := 49) rfl)⟩, List.forall_mem_cons.mpr ⟨⟨by decide, by decide, am_t2 _ (List.mem_of_getElem? (i := 76) rfl)⟩, List.forall_mem_cons.mpr ⟨⟨by decide, by decide, am_t2 _ (List.mem_of_getElem? (i := 97) rfl)⟩, List.forall_mem_cons.mpr ⟨⟨by decide, by decide, am_t2 _ (List.mem_of_getElem? (i := 100) rfl)⟩, List.forall_mem_cons.mpr ⟨⟨by decide, by decide, am_t1 _ (List.mem_of_getElem? (i := 47) rfl)⟩, List.forall_mem_cons.mpr ⟨⟨by decide, by decide, am_t1 _ (List.mem_of_getElem? (i := 54) rfl)⟩, List.forall_mem_cons.mpr ⟨⟨by decide, by decide, am_t1 _ (List.mem_of_getElem? (i := 73) rfl)⟩, List.forall_mem_cons.mpr ⟨⟨by decide, by decide, am_t2 _ (List.mem_of_getElem? (i := 78) rfl)⟩, fun _ h => absurd h List.not_mem_nil⟩⟩⟩⟩⟩⟩⟩⟩⟩⟩⟩⟩⟩⟩⟩⟩⟩⟩⟩⟩⟩⟩⟩⟩⟩⟩⟩⟩⟩⟩⟩⟩⟩
set_option maxRecDepth 100000 in
theorem am_fld_f12 : ∀ x ∈ ([(9, (12, 0, true)), (13, (12, 1, true)), (16, (12, 2, true)), (19, (12, 3, true)), (22, (12, 9, true)), (25, (12, 11, true)), (28, (12, 18, true)), (31, (12, 20, true)), (34, (12, 26, true)), (37, (12, 27, true)), (40, (12, 28, true)), (43, (12, 30, true)), (46, (12, 31, true)), (49, (12, 35, true)), (52, (12, 36, true)), (55, (12, 37, true)), (59, (12, 38, true)), (62, (12, 12, true)), (66, (12, 5, true)), (69, (12, 4, true)), (72, (12, 6, true)), (79, (12, 7, true)), (98, (12, 8, true)), (129, (12, 10, true)), (132, (12, 14, true)), (135, (12, 15, true)), (138, (12, 13, true)), (141, (12, 16, true)), (166, (12, 17, true)), (263, (12, 19, true)), (266, (12, 21, true)), (270, (12, 22, true)), (273, (12, 23, true)), (276, (12, 24, true)), (279, (12, 25, true)), (282, (12, 29, true)), (287, (12, 32, true)), (297, (12, 34, true)), (303, (12, 33, true))] : List (Nat × (Nat × Nat × Bool))), x.2.1 < 13 ∧ x.2.2.1 < am_nf x.2.1 ∧ am_FL 12 x.1 x.2.1 x.2.2.1 x.2.2.2 := List.forall_mem_cons.mpr ⟨⟨by decide, by decide, am_t5 _ (List.mem_of_getElem? (i := 110) rfl)⟩, List.forall_mem_cons.mpr ⟨⟨by decide, by decide, am_t5 _ (List.mem_of_getElem? (i := 111) rfl)⟩, List.forall_mem_cons.mpr ⟨⟨by decide, by decide, am_t5 _ (List.mem_of_getElem? (i := 112) rfl)⟩, List.forall_mem_cons.mpr ⟨⟨by decide, by decide, am_t5 _ (List.mem_of_getElem? (i := 113) rfl)⟩, List.forall_mem_cons.mpr ⟨⟨by decide, by decide, am_t5 _ (List.mem_of_getElem? (i := 119) rfl)⟩, List.forall_mem_cons.mpr ⟨⟨by decide, by decide, am_t5 _ (List.mem_of_getElem? (i := 121) rfl)⟩, List.forall_mem_cons.mpr ⟨⟨by decide, by decide, am_t5 _ (List.mem_of_getElem? (i := 128) rfl)⟩, List.forall_mem_cons.mpr ⟨⟨by decide, by decide, am_t5 _ (List.mem_of_getElem? (i := 130) rfl)⟩, List.forall_mem_cons.mpr ⟨⟨by decide, by decide, am_t5 _ (List.mem_of_getElem? (i := 136) rfl)⟩, List.forall_mem_cons.mpr ⟨⟨by decide, by decide, am_t5 _ (List.mem_of_getElem? (i := 137) rfl)⟩, List.forall_mem_cons.mpr ⟨⟨by decide, by decide, am_t5 _ (List.mem_of_getElem? (i := 138) rfl)⟩, List.forall_mem_cons.mpr ⟨⟨by decide, by decide, am_t5 _ (List.mem_of_getElem? (i := 140) rfl)⟩, List.forall_mem_cons.mpr ⟨⟨by decide, by decide, am_t5 _ (List.mem_of_getElem? (i := 141) rfl)⟩, List.forall_mem_cons.mpr ⟨⟨by decide, by decide, am_t5 _ (List.mem_of_getElem? (i := 145) rfl)⟩, List.forall_mem_cons.mpr ⟨⟨by decide, by decide, am_t5 _ (List.mem_of_getElem? (i := 146) rfl)⟩, List.forall_mem_cons.mpr ⟨⟨by decide, by decide, am_t5 _ (List.mem_of_getElem? (i := 147) rfl)⟩, List.forall_mem_cons.mpr ⟨⟨by decide, by decide, am_t5 _ (List.mem_of_getElem? (i := 148) rfl)⟩, List.forall_mem_cons.mpr ⟨⟨by decide, by decide, am_t5 _ (List.mem_of_getElem? (i := 122) rfl)⟩, List.forall_mem_cons.mpr ⟨⟨by decide, by decide, am_t5 _ (List.mem_of_getElem? (i := 115) rfl)⟩, List.forall_mem_cons.mpr ⟨⟨by decide, by decide, am_t5 _ (List.mem_of_getElem? (i := 114) rfl)⟩, List.forall_mem_cons.mpr ⟨⟨by decide, by decide, am_t5 _ (List.mem_of_getElem? (i := 116) rfl)⟩, List.forall_mem_cons.mpr ⟨⟨by decide, by decide, am_t5 _ (List.mem_of_getElem? (i := 117) rfl)⟩, List.forall_mem_cons.mpr ⟨⟨by decide, by decide, am_t5 _ (List.mem_of_getElem? (i := 118) rfl)⟩, List.forall_mem_cons.mpr ⟨⟨by decide, by decide, am_t5 _ (List.mem_of_getElem? (i := 120) rfl)⟩, List.forall_mem_cons.mpr ⟨⟨by decide, by decide, am_t5 _ (List.mem_of_getElem? (i := 124) rfl)⟩, List.forall_mem_cons.mpr ⟨⟨by decide, by decide, am_t5 _ (List.mem_of_getElem? (i := 125) rfl)⟩, List.forall_mem_cons.mpr ⟨⟨by decide, by decide, am_t5 _ (List.mem_of_getElem? (i := 123) rfl)⟩, List.forall_mem_cons.mpr ⟨⟨by decide, by decide, am_t5 _ (List.mem_of_getElem? (i := 126) rfl)⟩, List.forall_mem_cons.mpr ⟨⟨by decide, by decide, am_t5 _ (List.mem_of_getElem? (i := 127) rfl)⟩, List.forall_mem_cons.mpr ⟨⟨by decide, by decide, am_t5 _ (List.mem_of_getElem? (i := 129) rfl)⟩, List.forall_mem_cons.mpr ⟨⟨by decide, by decide, am_t5 _ (List.mem_of_getElem? (i := 131) rfl)⟩, List.forall_mem_cons.mpr ⟨⟨by decide, by decide, am_t5 _ (List.mem_of_getElem? (i := 132) rfl)⟩, List.forall_mem_cons.mpr ⟨⟨by decide, by decide, am_t5 _ (List.mem_of_getElem? (i := 133) rfl)⟩, List.forall_mem_cons.mpr ⟨⟨by decide, by decide, am_t5 _ (List.mem_of_getElem? (i := 134) rfl)⟩, List.forall_mem_cons.mpr ⟨⟨by decide, by decide, am_t5 _ (List.mem_of_getElem? (i := 135) rfl)⟩, List.forall_mem_cons.mpr ⟨⟨by decide, by decide, am_t5 _ (List.mem_of_getElem? (i := 139) rfl)⟩, List.forall_mem_cons.mpr ⟨⟨by decide, by decide, am_t5 _ (List.mem_of_getElem? (i := 142) rfl)⟩, List.forall_mem_cons.mpr ⟨⟨by decide, by decide, am_t5 _ (List.mem_of_getElem? (i := 144) rfl)⟩, List.forall_mem_cons.mpr ⟨⟨by decide, by decide, am_t5 _ (List.mem_of_getElem? (i := 143) rfl)⟩, fun _ h => absurd h List.not_mem_nil⟩⟩⟩⟩⟩⟩⟩⟩⟩⟩⟩⟩⟩⟩⟩⟩⟩⟩⟩⟩⟩⟩⟩⟩⟩⟩⟩⟩⟩⟩⟩⟩⟩⟩⟩⟩⟩⟩⟩
theorem am_fld_ok {c i ci k : Nat} {b : Bool} (h : am_fld c i = some (ci, k, b)) : ci < 13 ∧ k < am_nf ci ∧ am_FL c i ci k b := by
  unfold am_fld at h
  split at h
  · exact am_lookup (P := fun x : Nat × (Nat × Nat × Bool) => x.2.1 < 13 ∧ x.2.2.1 < am_nf x.2.1 ∧ am_FL 0 x.1 x.2.1 x.2.2.1 x.2.2.2) am_fld_f0 h
  · exact am_lookup (P := fun x : Nat × (Nat × Nat × Bool) => x.2.1 < 13 ∧ x.2.2.1 < am_nf x.2.1 ∧ am_FL 1 x.1 x.2.1 x.2.2.1 x.2.2.2) am_fld_f1 h
  · exact am_lookup (P := fun x : Nat × (Nat × Nat × Bool) => x.2.1 < 13 ∧ x.2.2.1 < am_nf x.2.1 ∧ am_FL 2 x.1 x.2.1 x.2.2.1 x.2.2.2) am_fld_f2 h
  · exact am_lookup (P := fun x : Nat × (Nat × Nat × Bool) => x.2.1 < 13 ∧ x.2.2.1 < am_nf x.2.1 ∧ am_FL 3 x.1 x.2.1 x.2.2.1 x.2.2.2) am_fld_f3 h
  · exact am_lookup (P := fun x : Nat × (Nat × Nat × Bool) => x.2.1 < 13 ∧ x.2.2.1 < am_nf x.2.1 ∧ am_FL 4 x.1 x.2.1 x.2.2.1 x.2.2.2) am_fld_f4 h
  · exact am_lookup (P := fun x : Nat × (Nat × Nat × Bool) => x.2.1 < 13 ∧ x.2.2.1 < am_nf x.2.1 ∧ am_FL 5 x.1 x.2.1 x.2.2.1 x.2.2.2) am_fld_f5 h
  · exact am_lookup (P := fun x : Nat × (Nat × Nat × Bool) => x.2.1 < 13 ∧ x.2.2.1 < am_nf x.2.1 ∧ am_FL 6 x.1 x.2.1 x.2.2.1 x.2.2.2) am_fld_f6 h
  · exact am_lookup (P := fun x : Nat × (Nat × Nat × Bool) => x.2.1 < 13 ∧ x.2.2.1 < am_nf x.2.1 ∧ am_FL 7 x.1 x.2.1 x.2.2.1 x.2.2.2) am_fld_f7 h
  · exact am_lookup (P := fun x : Nat × (Nat × Nat × Bool) => x.2.1 < 13 ∧ x.2.2.1 < am_nf x.2.1 ∧ am_FL 8 x.1 x.2.1 x.2.2.1 x.2.2.2) am_fld_f8 h
  · exact am_lookup (P := fun x : Nat × (Nat × Nat × Bool) => x.2.1 < 13 ∧ x.2.2.1 < am_nf x.2.1 ∧ am_FL 9 x.1 x.2.1 x.2.2.1 x.2.2.2) am_fld_f9 h
  · exact am_lookup (P := fun x : Nat × (Nat × Nat × Bool) => x.2.1 < 13 ∧ x.2.2.1 < am_nf x.2.1 ∧ am_FL 10 x.1 x.2.1 x.2.2.1 x.2.2.2) am_fld_f10 h
  · exact am_lookup (P := fun x : Nat × (Nat × Nat × Bool) => x.2.1 < 13 ∧ x.2.2.1 < am_nf x.2.1 ∧ am_FL 11 x.1 x.2.1 x.2.2.1 x.2.2.2) am_fld_f11 h
  · exact am_lookup (P := fun x : Nat × (Nat × Nat × Bool) => x.2.1 < 13 ∧ x.2.2.1 < am_nf x.2.1 ∧ am_FL 12 x.1 x.2.1 x.2.2.1 x.2.2.2) am_fld_f12 h
  · cases h
def am_sn : Nat → String × String × String := fun j => match j with
  | 0 => ("ShadeVotes$Land", "LOW_AT_FIRST", "[I")
  | 1 => ("ShadeVotes$Land", "LEAST", "[I")
  | 2 => ("ShadeVotes$Land", "MOST", "[I")
  | 3 => ("ShadeVotes$Voters", "ABOVE", "[I")
  | _ => ("ShadeVotes$Voters", "OWN", "[I")
def am_stat : Nat → Nat → Option Nat := fun c i => match c with
  | 5 => List.lookup i [(15, 0), (41, 1), (44, 2)]
  | 10 => List.lookup i [(30, 3), (54, 4)]
  | _ => none
set_option maxRecDepth 100000 in
theorem am_stat_f5 : ∀ x ∈ ([(15, 0), (41, 1), (44, 2)] : List (Nat × Nat)), x.2 < 5 ∧ Cond.fieldLink (am_cn 5) x.1 (am_sn x.2).1 (am_sn x.2).2.1 (am_sn x.2).2.2 ∈ lw_tbl := List.forall_mem_cons.mpr ⟨⟨by decide, am_t1 _ (List.mem_of_getElem? (i := 31) rfl)⟩, List.forall_mem_cons.mpr ⟨⟨by decide, am_t2 _ (List.mem_of_getElem? (i := 162) rfl)⟩, List.forall_mem_cons.mpr ⟨⟨by decide, am_t2 _ (List.mem_of_getElem? (i := 164) rfl)⟩, fun _ h => absurd h List.not_mem_nil⟩⟩⟩
set_option maxRecDepth 100000 in
theorem am_stat_f10 : ∀ x ∈ ([(30, 3), (54, 4)] : List (Nat × Nat)), x.2 < 5 ∧ Cond.fieldLink (am_cn 10) x.1 (am_sn x.2).1 (am_sn x.2).2.1 (am_sn x.2).2.2 ∈ lw_tbl := List.forall_mem_cons.mpr ⟨⟨by decide, am_t5 _ (List.mem_of_getElem? (i := 24) rfl)⟩, List.forall_mem_cons.mpr ⟨⟨by decide, am_t5 _ (List.mem_of_getElem? (i := 22) rfl)⟩, fun _ h => absurd h List.not_mem_nil⟩⟩
theorem am_stat_ok {c i j : Nat} (h : am_stat c i = some j) : j < 5 ∧ Cond.fieldLink (am_cn c) i (am_sn j).1 (am_sn j).2.1 (am_sn j).2.2 ∈ lw_tbl := by
  unfold am_stat at h
  split at h
  · exact am_lookup (P := fun x : Nat × Nat => x.2 < 5 ∧ Cond.fieldLink (am_cn 5) x.1 (am_sn x.2).1 (am_sn x.2).2.1 (am_sn x.2).2.2 ∈ lw_tbl) am_stat_f5 h
  · exact am_lookup (P := fun x : Nat × Nat => x.2 < 5 ∧ Cond.fieldLink (am_cn 10) x.1 (am_sn x.2).1 (am_sn x.2).2.1 (am_sn x.2).2.2 ∈ lw_tbl) am_stat_f10 h
  · cases h
def am_kint : Nat → Nat → Option Int32 := fun c i => match c with
  | 9 => List.lookup i [(107, 1103515245)]
  | 12 => List.lookup i [(262, 1103515245)]
  | 13 => List.lookup i [(265, 1431655765), (266, 858993459), (267, 252645135)]
  | _ => none
set_option maxRecDepth 100000 in
theorem am_kint_f9 : ∀ x ∈ ([(107, 1103515245)] : List (Nat × Int32)), Cond.constant (am_cn 9) x.1 x.2 ∈ lw_tbl := List.forall_mem_cons.mpr ⟨am_t4 _ (List.mem_of_getElem? (i := 152) rfl), fun _ h => absurd h List.not_mem_nil⟩
set_option maxRecDepth 100000 in
theorem am_kint_f12 : ∀ x ∈ ([(262, 1103515245)] : List (Nat × Int32)), Cond.constant (am_cn 12) x.1 x.2 ∈ lw_tbl := List.forall_mem_cons.mpr ⟨am_t7 _ (List.mem_of_getElem? (i := 20) rfl), fun _ h => absurd h List.not_mem_nil⟩
set_option maxRecDepth 100000 in
theorem am_kint_f13 : ∀ x ∈ ([(265, 1431655765), (266, 858993459), (267, 252645135)] : List (Nat × Int32)), Cond.constant (am_cn 13) x.1 x.2 ∈ lw_tbl := List.forall_mem_cons.mpr ⟨am_t3 _ (List.mem_of_getElem? (i := 143) rfl), List.forall_mem_cons.mpr ⟨am_t3 _ (List.mem_of_getElem? (i := 144) rfl), List.forall_mem_cons.mpr ⟨am_t3 _ (List.mem_of_getElem? (i := 145) rfl), fun _ h => absurd h List.not_mem_nil⟩⟩⟩
theorem am_kint_ok {c i : Nat} {v : Int32} (h : am_kint c i = some v) : Cond.constant (am_cn c) i v ∈ lw_tbl := by
  unfold am_kint at h
  split at h
  · exact am_lookup (P := fun x : Nat × Int32 => Cond.constant (am_cn 9) x.1 x.2 ∈ lw_tbl) am_kint_f9 h
  · exact am_lookup (P := fun x : Nat × Int32 => Cond.constant (am_cn 12) x.1 x.2 ∈ lw_tbl) am_kint_f12 h
  · exact am_lookup (P := fun x : Nat × Int32 => Cond.constant (am_cn 13) x.1 x.2 ∈ lw_tbl) am_kint_f13 h
  · cases h
def am_klong : Nat → Nat → Option Int64 := fun c i => match c with
  | 1 => List.lookup i [(36, 12)]
  | 11 => List.lookup i [(136, 3), (234, -9223372036854775808)]
  | 12 => List.lookup i [(82, 255), (84, 11), (96, 9), (101, 63), (111, 10), (113, 3), (224, 12), (229, 99), (236, -9223372036854775808), (246, 4), (255, 2), (260, 30), (285, 7), (315, 5)]
  | 14 => List.lookup i [(166, 4294967295)]
  | _ => none
set_option maxRecDepth 100000 in
theorem am_klong_f1 : ∀ x ∈ ([(36, 12)] : List (Nat × Int64)), Cond.constantLong (am_cn 1) x.1 x.2 ∈ lw_tbl := List.forall_mem_cons.mpr ⟨am_t4 _ (List.mem_of_getElem? (i := 95) rfl), fun _ h => absurd h List.not_mem_nil⟩
set_option maxRecDepth 100000 in
theorem am_klong_f11 : ∀ x ∈ ([(136, 3), (234, -9223372036854775808)] : List (Nat × Int64)), Cond.constantLong (am_cn 11) x.1 x.2 ∈ lw_tbl := List.forall_mem_cons.mpr ⟨am_t2 _ (List.mem_of_getElem? (i := 204) rfl), List.forall_mem_cons.mpr ⟨am_t4 _ (List.mem_of_getElem? (i := 1) rfl), fun _ h => absurd h List.not_mem_nil⟩⟩
set_option maxRecDepth 100000 in
theorem am_klong_f12 : ∀ x ∈ ([(82, 255), (84, 11), (96, 9), (101, 63), (111, 10), (113, 3), (224, 12), (229, 99), (236, -9223372036854775808), (246, 4), (255, 2), (260, 30), (285, 7), (315, 5)] : List (Nat × Int64)), Cond.constantLong (am_cn 12) x.1 x.2 ∈ lw_tbl := List.forall_mem_cons.mpr ⟨am_t6 _ (List.mem_of_getElem? (i := 3) rfl), List.forall_mem_cons.mpr ⟨am_t6 _ (List.mem_of_getElem? (i := 42) rfl), List.forall_mem_cons.mpr ⟨am_t6 _ (List.mem_of_getElem? (i := 7) rfl), List.forall_mem_cons.mpr ⟨am_t6 _ (List.mem_of_getElem? (i := 12) rfl), List.forall_mem_cons.mpr ⟨am_t6 _ (List.mem_of_getElem? (i := 25) rfl), List.forall_mem_cons.mpr ⟨am_t6 _ (List.mem_of_getElem? (i := 26) rfl), List.forall_mem_cons.mpr ⟨am_t6 _ (List.mem_of_getElem? (i := 171) rfl), List.forall_mem_cons.mpr ⟨am_t6 _ (List.mem_of_getElem? (i := 184) rfl), List.forall_mem_cons.mpr ⟨am_t6 _ (List.mem_of_getElem? (i := 201) rfl), List.forall_mem_cons.mpr ⟨am_t6 _ (List.mem_of_getElem? (i := 213) rfl), List.forall_mem_cons.mpr ⟨am_t7 _ (List.mem_of_getElem? (i := 2) rfl), List.forall_mem_cons.mpr ⟨am_t7 _ (List.mem_of_getElem? (i := 19) rfl), List.forall_mem_cons.mpr ⟨am_t7 _ (List.mem_of_getElem? (i := 49) rfl), List.forall_mem_cons.mpr ⟨am_t6 _ (List.mem_of_getElem? (i := 24) rfl), fun _ h => absurd h List.not_mem_nil⟩⟩⟩⟩⟩⟩⟩⟩⟩⟩⟩⟩⟩⟩
set_option maxRecDepth 100000 in
theorem am_klong_f14 : ∀ x ∈ ([(166, 4294967295)] : List (Nat × Int64)), Cond.constantLong (am_cn 14) x.1 x.2 ∈ lw_tbl := List.forall_mem_cons.mpr ⟨am_t7 _ (List.mem_of_getElem? (i := 124) rfl), fun _ h => absurd h List.not_mem_nil⟩
theorem am_klong_ok {c i : Nat} {v : Int64} (h : am_klong c i = some v) : Cond.constantLong (am_cn c) i v ∈ lw_tbl := by
  unfold am_klong at h
  split at h
  · exact am_lookup (P := fun x : Nat × Int64 => Cond.constantLong (am_cn 1) x.1 x.2 ∈ lw_tbl) am_klong_f1 h
  · exact am_lookup (P := fun x : Nat × Int64 => Cond.constantLong (am_cn 11) x.1 x.2 ∈ lw_tbl) am_klong_f11 h
  · exact am_lookup (P := fun x : Nat × Int64 => Cond.constantLong (am_cn 12) x.1 x.2 ∈ lw_tbl) am_klong_f12 h
  · exact am_lookup (P := fun x : Nat × Int64 => Cond.constantLong (am_cn 14) x.1 x.2 ∈ lw_tbl) am_klong_f14 h
  · cases h
def am_new : Nat → Nat → Option Nat := fun c i => match c with
  | 11 => List.lookup i [(9, 5), (16, 7), (23, 6), (30, 0), (39, 9), (55, 4), (64, 1), (71, 3), (80, 2), (87, 10), (94, 8)]
  | 14 => List.lookup i [(7, 11), (10, 12)]
  | _ => none
set_option maxRecDepth 100000 in
theorem am_new_f11 : ∀ x ∈ ([(9, 5), (16, 7), (23, 6), (30, 0), (39, 9), (55, 4), (64, 1), (71, 3), (80, 2), (87, 10), (94, 8)] : List (Nat × Nat)), x.2 < 13 ∧ Cond.classLink (am_cn 11) x.1 (am_cn x.2) ∈ lw_tbl ∧ Cond.instantiable (am_cn x.2) (am_nf x.2) ∈ lw_tbl ∧ Cond.initialized (am_cn x.2) ∈ lw_tbl := List.forall_mem_cons.mpr ⟨⟨by decide, am_t1 _ (List.mem_of_getElem? (i := 25) rfl), am_t1 _ (List.mem_of_getElem? (i := 26) rfl), am_t1 _ (List.mem_of_getElem? (i := 2) rfl)⟩, List.forall_mem_cons.mpr ⟨⟨by decide, am_t1 _ (List.mem_of_getElem? (i := 63) rfl), am_t1 _ (List.mem_of_getElem? (i := 64) rfl), am_t1 _ (List.mem_of_getElem? (i := 3) rfl)⟩, List.forall_mem_cons.mpr ⟨⟨by decide, am_t1 _ (List.mem_of_getElem? (i := 88) rfl), am_t1 _ (List.mem_of_getElem? (i := 89) rfl), am_t1 _ (List.mem_of_getElem? (i := 4) rfl)⟩, List.forall_mem_cons.mpr ⟨⟨by decide, am_t1 _ (List.mem_of_getElem? (i := 122) rfl), am_t1 _ (List.mem_of_getElem? (i := 123) rfl), am_t1 _ (List.mem_of_getElem? (i := 5) rfl)⟩, List.forall_mem_cons.mpr ⟨⟨by decide, am_t1 _ (List.mem_of_getElem? (i := 158) rfl), am_t1 _ (List.mem_of_getElem? (i := 159) rfl), am_t1 _ (List.mem_of_getElem? (i := 6) rfl)⟩, List.forall_mem_cons.mpr ⟨⟨by decide, am_t1 _ (List.mem_of_getElem? (i := 182) rfl), am_t1 _ (List.mem_of_getElem? (i := 183) rfl), am_t1 _ (List.mem_of_getElem? (i := 7) rfl)⟩, List.forall_mem_cons.mpr ⟨⟨by decide, am_t1 _ (List.mem_of_getElem? (i := 209) rfl), am_t1 _ (List.mem_of_getElem? (i := 210) rfl), am_t1 _ (List.mem_of_getElem? (i := 8) rfl)⟩, List.forall_mem_cons.mpr ⟨⟨by decide, am_t2 _ (List.mem_of_getElem? (i := 0) rfl), am_t2 _ (List.mem_of_getElem? (i := 1) rfl), am_t1 _ (List.mem_of_getElem? (i := 9) rfl)⟩, List.forall_mem_cons.mpr ⟨⟨by decide, am_t2 _ (List.mem_of_getElem? (i := 34) rfl), am_t2 _ (List.mem_of_getElem? (i := 35) rfl), am_t1 _ (List.mem_of_getElem? (i := 10) rfl)⟩, List.forall_mem_cons.mpr ⟨⟨by decide, am_t2 _ (List.mem_of_getElem? (i := 67) rfl), am_t2 _ (List.mem_of_getElem? (i := 68) rfl), am_t1 _ (List.mem_of_getElem? (i := 11) rfl)⟩, List.forall_mem_cons.mpr ⟨⟨by decide, am_t2 _ (List.mem_of_getElem? (i := 88) rfl), am_t2 _ (List.mem_of_getElem? (i := 90) rfl), am_t1 _ (List.mem_of_getElem? (i := 12) rfl)⟩, fun _ h => absurd h List.not_mem_nil⟩⟩⟩⟩⟩⟩⟩⟩⟩⟩⟩
set_option maxRecDepth 100000 in
theorem am_new_f14 : ∀ x ∈ ([(7, 11), (10, 12)] : List (Nat × Nat)), x.2 < 13 ∧ Cond.classLink (am_cn 14) x.1 (am_cn x.2) ∈ lw_tbl ∧ Cond.instantiable (am_cn x.2) (am_nf x.2) ∈ lw_tbl ∧ Cond.initialized (am_cn x.2) ∈ lw_tbl := List.forall_mem_cons.mpr ⟨⟨by decide, am_t1 _ (List.mem_of_getElem? (i := 17) rfl), am_t1 _ (List.mem_of_getElem? (i := 18) rfl), am_t1 _ (List.mem_of_getElem? (i := 1) rfl)⟩, List.forall_mem_cons.mpr ⟨⟨by decide, am_t5 _ (List.mem_of_getElem? (i := 104) rfl), am_t5 _ (List.mem_of_getElem? (i := 105) rfl), am_t1 _ (List.mem_of_getElem? (i := 13) rfl)⟩, fun _ h => absurd h List.not_mem_nil⟩⟩
theorem am_new_ok {c i ci : Nat} (h : am_new c i = some ci) : ci < 13 ∧ Cond.classLink (am_cn c) i (am_cn ci) ∈ lw_tbl ∧ Cond.instantiable (am_cn ci) (am_nf ci) ∈ lw_tbl ∧ Cond.initialized (am_cn ci) ∈ lw_tbl := by
  unfold am_new at h
  split at h
  · exact am_lookup (P := fun x : Nat × Nat => x.2 < 13 ∧ Cond.classLink (am_cn 11) x.1 (am_cn x.2) ∈ lw_tbl ∧ Cond.instantiable (am_cn x.2) (am_nf x.2) ∈ lw_tbl ∧ Cond.initialized (am_cn x.2) ∈ lw_tbl) am_new_f11 h
  · exact am_lookup (P := fun x : Nat × Nat => x.2 < 13 ∧ Cond.classLink (am_cn 14) x.1 (am_cn x.2) ∈ lw_tbl ∧ Cond.instantiable (am_cn x.2) (am_nf x.2) ∈ lw_tbl ∧ Cond.initialized (am_cn x.2) ∈ lw_tbl) am_new_f14 h
  · cases h
theorem am_ins {ci : Nat} (h : ci < 13) : Cond.instantiable (am_cn ci) (am_nf ci) ∈ lw_tbl := by
  rcases (show ci = 0 ∨ ci = 1 ∨ ci = 2 ∨ ci = 3 ∨ ci = 4 ∨ ci = 5 ∨ ci = 6 ∨ ci = 7 ∨ ci = 8 ∨ ci = 9 ∨ ci = 10 ∨ ci = 11 ∨ ci = 12 by omega) with rfl | rfl | rfl | rfl | rfl | rfl | rfl | rfl | rfl | rfl | rfl | rfl | rfl
  · exact am_t1 _ (List.mem_of_getElem? (i := 123) rfl)
  · exact am_t1 _ (List.mem_of_getElem? (i := 210) rfl)
  · exact am_t2 _ (List.mem_of_getElem? (i := 35) rfl)
  · exact am_t2 _ (List.mem_of_getElem? (i := 1) rfl)
  · exact am_t1 _ (List.mem_of_getElem? (i := 183) rfl)
  · exact am_t1 _ (List.mem_of_getElem? (i := 26) rfl)
  · exact am_t1 _ (List.mem_of_getElem? (i := 89) rfl)
  · exact am_t1 _ (List.mem_of_getElem? (i := 64) rfl)
  · exact am_t2 _ (List.mem_of_getElem? (i := 90) rfl)
  · exact am_t1 _ (List.mem_of_getElem? (i := 159) rfl)
  · exact am_t2 _ (List.mem_of_getElem? (i := 68) rfl)
  · exact am_t1 _ (List.mem_of_getElem? (i := 18) rfl)
  · exact am_t5 _ (List.mem_of_getElem? (i := 105) rfl)
theorem am_lst {j : Nat} (h : j < 5) : Cond.laysStatic (am_sn j).1 (am_sn j).2.1 (am_sn j).2.2 ∈ lw_tbl ∧ Cond.initialized (am_sn j).1 ∈ lw_tbl := by
  rcases (show j = 0 ∨ j = 1 ∨ j = 2 ∨ j = 3 ∨ j = 4 by omega) with rfl | rfl | rfl | rfl | rfl
  · exact ⟨am_t1 _ (List.mem_of_getElem? (i := 32) rfl), am_t1 _ (List.mem_of_getElem? (i := 2) rfl)⟩
  · exact ⟨am_t2 _ (List.mem_of_getElem? (i := 163) rfl), am_t1 _ (List.mem_of_getElem? (i := 2) rfl)⟩
  · exact ⟨am_t2 _ (List.mem_of_getElem? (i := 165) rfl), am_t1 _ (List.mem_of_getElem? (i := 2) rfl)⟩
  · exact ⟨am_t5 _ (List.mem_of_getElem? (i := 25) rfl), am_t1 _ (List.mem_of_getElem? (i := 11) rfl)⟩
  · exact ⟨am_t5 _ (List.mem_of_getElem? (i := 23) rfl), am_t1 _ (List.mem_of_getElem? (i := 11) rfl)⟩
def am_bn : Nat → MethodName := fun b => match b with
  | 1 => Lib.Math.min.name
  | 2 => Lib.Math.max.name
  | 3 => Lib.Math.abs.name
  | 4 => arraycopyName
  | _ => objectInit
/-- the five methods of the JDK that are taken as one step: 1 min, 2 max, 3 abs, 4 arraycopy, 5 Object() -/
def am_blt0 : Nat → Nat → Option Nat := fun c i => match c with
  | 0 => List.lookup i [(3, 5), (79, 1), (84, 2)]
  | 1 => List.lookup i [(3, 5)]
  | 2 => List.lookup i [(1, 5)]
  | 3 => List.lookup i [(3, 5)]
  | 4 => List.lookup i [(3, 5)]
  | 5 => List.lookup i [(3, 5), (55, 3), (72, 1), (75, 2)]
  | 6 => List.lookup i [(1, 5), (18, 1)]
  | 7 => List.lookup i [(3, 5)]
  | 8 => List.lookup i [(1, 5), (27, 1), (37, 4)]
  | 9 => List.lookup i [(3, 5), (67, 1)]
  | 10 => List.lookup i [(3, 5), (36, 1)]
  | 11 => List.lookup i [(3, 5)]
  | 12 => List.lookup i [(3, 5)]
  | _ => none
set_option maxRecDepth 100000 in
theorem am_blt0_f0 : ∀ x ∈ ([(3, 5), (79, 1), (84, 2)] : List (Nat × Nat)), Cond.methodLink (am_cn 0) x.1 (am_bn x.2) ∈ lw_tbl := List.forall_mem_cons.mpr ⟨am_t1 _ (List.mem_of_getElem? (i := 127) rfl), List.forall_mem_cons.mpr ⟨am_t3 _ (List.mem_of_getElem? (i := 168) rfl), List.forall_mem_cons.mpr ⟨am_t3 _ (List.mem_of_getElem? (i := 169) rfl), fun _ h => absurd h List.not_mem_nil⟩⟩⟩
set_option maxRecDepth 100000 in
theorem am_blt0_f1 : ∀ x ∈ ([(3, 5)] : List (Nat × Nat)), Cond.methodLink (am_cn 1) x.1 (am_bn x.2) ∈ lw_tbl := List.forall_mem_cons.mpr ⟨am_t1 _ (List.mem_of_getElem? (i := 214) rfl), fun _ h => absurd h List.not_mem_nil⟩
set_option maxRecDepth 100000 in
theorem am_blt0_f2 : ∀ x ∈ ([(1, 5)] : List (Nat × Nat)), Cond.methodLink (am_cn 2) x.1 (am_bn x.2) ∈ lw_tbl := List.forall_mem_cons.mpr ⟨am_t2 _ (List.mem_of_getElem? (i := 39) rfl), fun _ h => absurd h List.not_mem_nil⟩
set_option maxRecDepth 100000 in
theorem am_blt0_f3 : ∀ x ∈ ([(3, 5)] : List (Nat × Nat)), Cond.methodLink (am_cn 3) x.1 (am_bn x.2) ∈ lw_tbl := List.forall_mem_cons.mpr ⟨am_t2 _ (List.mem_of_getElem? (i := 5) rfl), fun _ h => absurd h List.not_mem_nil⟩
set_option maxRecDepth 100000 in
theorem am_blt0_f4 : ∀ x ∈ ([(3, 5)] : List (Nat × Nat)), Cond.methodLink (am_cn 4) x.1 (am_bn x.2) ∈ lw_tbl := List.forall_mem_cons.mpr ⟨am_t1 _ (List.mem_of_getElem? (i := 187) rfl), fun _ h => absurd h List.not_mem_nil⟩
set_option maxRecDepth 100000 in
theorem am_blt0_f5 : ∀ x ∈ ([(3, 5), (55, 3), (72, 1), (75, 2)] : List (Nat × Nat)), Cond.methodLink (am_cn 5) x.1 (am_bn x.2) ∈ lw_tbl := List.forall_mem_cons.mpr ⟨am_t1 _ (List.mem_of_getElem? (i := 30) rfl), List.forall_mem_cons.mpr ⟨am_t3 _ (List.mem_of_getElem? (i := 98) rfl), List.forall_mem_cons.mpr ⟨am_t3 _ (List.mem_of_getElem? (i := 110) rfl), List.forall_mem_cons.mpr ⟨am_t3 _ (List.mem_of_getElem? (i := 111) rfl), fun _ h => absurd h List.not_mem_nil⟩⟩⟩⟩
set_option maxRecDepth 100000 in
theorem am_blt0_f6 : ∀ x ∈ ([(1, 5), (18, 1)] : List (Nat × Nat)), Cond.methodLink (am_cn 6) x.1 (am_bn x.2) ∈ lw_tbl := List.forall_mem_cons.mpr ⟨am_t1 _ (List.mem_of_getElem? (i := 93) rfl), List.forall_mem_cons.mpr ⟨am_t3 _ (List.mem_of_getElem? (i := 56) rfl), fun _ h => absurd h List.not_mem_nil⟩⟩
set_option maxRecDepth 100000 in
theorem am_blt0_f7 : ∀ x ∈ ([(3, 5)] : List (Nat × Nat)), Cond.methodLink (am_cn 7) x.1 (am_bn x.2) ∈ lw_tbl := List.forall_mem_cons.mpr ⟨am_t1 _ (List.mem_of_getElem? (i := 68) rfl), fun _ h => absurd h List.not_mem_nil⟩
set_option maxRecDepth 100000 in
theorem am_blt0_f8 : ∀ x ∈ ([(1, 5), (27, 1), (37, 4)] : List (Nat × Nat)), Cond.methodLink (am_cn 8) x.1 (am_bn x.2) ∈ lw_tbl := List.forall_mem_cons.mpr ⟨am_t2 _ (List.mem_of_getElem? (i := 94) rfl), List.forall_mem_cons.mpr ⟨am_t5 _ (List.mem_of_getElem? (i := 63) rfl), List.forall_mem_cons.mpr ⟨am_t5 _ (List.mem_of_getElem? (i := 88) rfl), fun _ h => absurd h List.not_mem_nil⟩⟩⟩
set_option maxRecDepth 100000 in
theorem am_blt0_f9 : ∀ x ∈ ([(3, 5), (67, 1)] : List (Nat × Nat)), Cond.methodLink (am_cn 9) x.1 (am_bn x.2) ∈ lw_tbl := List.forall_mem_cons.mpr ⟨am_t1 _ (List.mem_of_getElem? (i := 163) rfl), List.forall_mem_cons.mpr ⟨am_t3 _ (List.mem_of_getElem? (i := 214) rfl), fun _ h => absurd h List.not_mem_nil⟩⟩
set_option maxRecDepth 100000 in
theorem am_blt0_f10 : ∀ x ∈ ([(3, 5), (36, 1)] : List (Nat × Nat)), Cond.methodLink (am_cn 10) x.1 (am_bn x.2) ∈ lw_tbl := List.forall_mem_cons.mpr ⟨am_t2 _ (List.mem_of_getElem? (i := 72) rfl), List.forall_mem_cons.mpr ⟨am_t5 _ (List.mem_of_getElem? (i := 42) rfl), fun _ h => absurd h List.not_mem_nil⟩⟩
set_option maxRecDepth 100000 in
theorem am_blt0_f11 : ∀ x ∈ ([(3, 5)] : List (Nat × Nat)), Cond.methodLink (am_cn 11) x.1 (am_bn x.2) ∈ lw_tbl := List.forall_mem_cons.mpr ⟨am_t1 _ (List.mem_of_getElem? (i := 22) rfl), fun _ h => absurd h List.not_mem_nil⟩
set_option maxRecDepth 100000 in
theorem am_blt0_f12 : ∀ x ∈ ([(3, 5)] : List (Nat × Nat)), Cond.methodLink (am_cn 12) x.1 (am_bn x.2) ∈ lw_tbl := List.forall_mem_cons.mpr ⟨am_t5 _ (List.mem_of_getElem? (i := 109) rfl), fun _ h => absurd h List.not_mem_nil⟩
theorem am_blt0_ok {c i b : Nat} (h : am_blt0 c i = some b) : Cond.methodLink (am_cn c) i (am_bn b) ∈ lw_tbl := by
  unfold am_blt0 at h
  split at h
  · exact am_lookup (P := fun x : Nat × Nat => Cond.methodLink (am_cn 0) x.1 (am_bn x.2) ∈ lw_tbl) am_blt0_f0 h
  · exact am_lookup (P := fun x : Nat × Nat => Cond.methodLink (am_cn 1) x.1 (am_bn x.2) ∈ lw_tbl) am_blt0_f1 h
  · exact am_lookup (P := fun x : Nat × Nat => Cond.methodLink (am_cn 2) x.1 (am_bn x.2) ∈ lw_tbl) am_blt0_f2 h
  · exact am_lookup (P := fun x : Nat × Nat => Cond.methodLink (am_cn 3) x.1 (am_bn x.2) ∈ lw_tbl) am_blt0_f3 h
  · exact am_lookup (P := fun x : Nat × Nat => Cond.methodLink (am_cn 4) x.1 (am_bn x.2) ∈ lw_tbl) am_blt0_f4 h
  · exact am_lookup (P := fun x : Nat × Nat => Cond.methodLink (am_cn 5) x.1 (am_bn x.2) ∈ lw_tbl) am_blt0_f5 h
  · exact am_lookup (P := fun x : Nat × Nat => Cond.methodLink (am_cn 6) x.1 (am_bn x.2) ∈ lw_tbl) am_blt0_f6 h
  · exact am_lookup (P := fun x : Nat × Nat => Cond.methodLink (am_cn 7) x.1 (am_bn x.2) ∈ lw_tbl) am_blt0_f7 h
  · exact am_lookup (P := fun x : Nat × Nat => Cond.methodLink (am_cn 8) x.1 (am_bn x.2) ∈ lw_tbl) am_blt0_f8 h
  · exact am_lookup (P := fun x : Nat × Nat => Cond.methodLink (am_cn 9) x.1 (am_bn x.2) ∈ lw_tbl) am_blt0_f9 h
  · exact am_lookup (P := fun x : Nat × Nat => Cond.methodLink (am_cn 10) x.1 (am_bn x.2) ∈ lw_tbl) am_blt0_f10 h
  · exact am_lookup (P := fun x : Nat × Nat => Cond.methodLink (am_cn 11) x.1 (am_bn x.2) ∈ lw_tbl) am_blt0_f11 h
  · exact am_lookup (P := fun x : Nat × Nat => Cond.methodLink (am_cn 12) x.1 (am_bn x.2) ∈ lw_tbl) am_blt0_f12 h
  · cases h
def am_blt (c i : Nat) : Nat := (am_blt0 c i).getD 0
theorem am_blt_ok {c i b : Nat} (h : am_blt c i = b) (hb : b ≠ 0) : Cond.methodLink (am_cn c) i (am_bn b) ∈ lw_tbl := by
  unfold am_blt at h
  cases e : am_blt0 c i with
  | none => rw [e] at h; exact absurd h.symm hb
  | some x => rw [e] at h; cases h; exact am_blt0_ok e
theorem am_bmin : Cond.static Lib.Math.min.name ∈ lw_tbl ∧ Cond.initialized "java/lang/Math" ∈ lw_tbl ∧ Cond.code Lib.Math.min.name Lib.Math.min.code 2 (some .int) ∈ lw_tbl := ⟨am_t3 _ (List.mem_of_getElem? (i := 57) rfl), am_t1 _ (List.mem_of_getElem? (i := 14) rfl), am_t3 _ (List.mem_of_getElem? (i := 58) rfl)⟩
theorem am_bmax : Cond.static Lib.Math.max.name ∈ lw_tbl ∧ Cond.initialized "java/lang/Math" ∈ lw_tbl ∧ Cond.code Lib.Math.max.name Lib.Math.max.code 2 (some .int) ∈ lw_tbl := ⟨am_t3 _ (List.mem_of_getElem? (i := 112) rfl), am_t1 _ (List.mem_of_getElem? (i := 14) rfl), am_t3 _ (List.mem_of_getElem? (i := 113) rfl)⟩
theorem am_babs : Cond.static Lib.Math.abs.name ∈ lw_tbl ∧ Cond.initialized "java/lang/Math" ∈ lw_tbl ∧ Cond.code Lib.Math.abs.name Lib.Math.abs.code 1 (some .int) ∈ lw_tbl := ⟨am_t3 _ (List.mem_of_getElem? (i := 99) rfl), am_t1 _ (List.mem_of_getElem? (i := 14) rfl), am_t3 _ (List.mem_of_getElem? (i := 100) rfl)⟩
theorem am_bcpy : Cond.native arraycopyName ∈ lw_tbl ∧ Cond.static arraycopyName ∈ lw_tbl ∧ Cond.initialized "java/lang/System" ∈ lw_tbl := ⟨am_t5 _ (List.mem_of_getElem? (i := 90) rfl), am_t5 _ (List.mem_of_getElem? (i := 89) rfl), am_t1 _ (List.mem_of_getElem? (i := 16) rfl)⟩
theorem am_bini : Cond.instanceMethod objectInit ∈ lw_tbl ∧ Cond.code objectInit ⟨#[0xb1]⟩ 1 none ∈ lw_tbl := ⟨am_t1 _ (List.mem_of_getElem? (i := 23) rfl), am_t1 _ (List.mem_of_getElem? (i := 24) rfl)⟩
theorem am_aint : Cond.arrayClass .int ∈ lw_tbl := am_t1 _ (List.mem_of_getElem? (i := 62) rfl)
theorem am_along : Cond.arrayClass .long ∈ lw_tbl := am_t2 _ (List.mem_of_getElem? (i := 110) rfl)
theorem am_aover : Cond.arrayOver (.object RX8) ∈ lw_tbl := am_t2 _ (List.mem_of_getElem? (i := 89) rfl)
/-- what a method needs to be called with n arguments -/
def am_MOk (N : am_M) (n : Nat) : Prop := plainName N.2.1.cls = true ∧ N.2.1.cls = am_cn N.1 ∧ (N.2.1.cls ≠ "java/lang/invoke/MethodHandle" ∧ N.2.1.cls ≠ "java/lang/invoke/VarHandle") ∧ (parseMethodDescriptor N.2.1.desc).map (fun d => d.parameters.length) = some n ∧ N.2.2.2.1 ≤ 20 ∧ Cond.initialized (am_cn N.1) ∈ lw_tbl ∧ Cond.code N.2.1 N.2.2.1 N.2.2.2.1 N.2.2.2.2 ∈ am_tw
def am_kd (N : am_M) (k : Nat) : Prop := match k with
  | 0 => N.2.1.name = "<init>" ∧ Cond.instanceMethod N.2.1 ∈ am_tw ∧ N.2.2.2.2 = none
  | 1 => Cond.static N.2.1 ∈ am_tw
  | _ => N.1 < 13 ∧ Cond.instanceMethod N.2.1 ∈ am_tw ∧ Cond.selects N.2.1.cls N.2.1 N.2.1 ∈ am_tw
set_option maxRecDepth 100000 in
theorem am_mok_X5_read : am_MOk mX5_read 2 := ⟨by decide +kernel, rfl, ⟨by decide +kernel, by decide +kernel⟩, by decide +kernel, by decide, am_t1 _ (List.mem_of_getElem? (i := 2) rfl), am_in (am_t2 _ (List.mem_of_getElem? (i := 228) rfl)) rfl⟩
set_option maxRecDepth 100000 in
theorem am_kd_X5_read : am_kd mX5_read 2 := ⟨by decide, am_in (am_t2 _ (List.mem_of_getElem? (i := 226) rfl)) rfl, am_in (am_t2 _ (List.mem_of_getElem? (i := 227) rfl)) rfl⟩
set_option maxRecDepth 100000 in
theorem am_mok_X0_openAsIf : am_MOk mX0_openAsIf 3 := ⟨by decide +kernel, rfl, ⟨by decide +kernel, by decide +kernel⟩, by decide +kernel, by decide, am_t1 _ (List.mem_of_getElem? (i := 5) rfl), am_in (am_t3 _ (List.mem_of_getElem? (i := 122) rfl)) rfl⟩
set_option maxRecDepth 100000 in
theorem am_kd_X0_openAsIf : am_kd mX0_openAsIf 2 := ⟨by decide, am_in (am_t3 _ (List.mem_of_getElem? (i := 120) rfl)) rfl, am_in (am_t3 _ (List.mem_of_getElem? (i := 121) rfl)) rfl⟩
set_option maxRecDepth 100000 in
theorem am_mok_X6_nameTree : am_MOk mX6_nameTree 3 := ⟨by decide +kernel, rfl, ⟨by decide +kernel, by decide +kernel⟩, by decide +kernel, by decide, am_t1 _ (List.mem_of_getElem? (i := 4) rfl), am_in (am_t3 _ (List.mem_of_getElem? (i := 126) rfl)) rfl⟩
set_option maxRecDepth 100000 in
theorem am_kd_X6_nameTree : am_kd mX6_nameTree 2 := ⟨by decide, am_in (am_t3 _ (List.mem_of_getElem? (i := 124) rfl)) rfl, am_in (am_t3 _ (List.mem_of_getElem? (i := 125) rfl)) rfl⟩
set_option maxRecDepth 100000 in
theorem am_mok_X5_coveredBy : am_MOk mX5_coveredBy 3 := ⟨by decide +kernel, rfl, ⟨by decide +kernel, by decide +kernel⟩, by decide +kernel, by decide, am_t1 _ (List.mem_of_getElem? (i := 2) rfl), am_in (am_t3 _ (List.mem_of_getElem? (i := 94) rfl)) rfl⟩
set_option maxRecDepth 100000 in
theorem am_kd_X5_coveredBy : am_kd mX5_coveredBy 2 := ⟨by decide, am_in (am_t3 _ (List.mem_of_getElem? (i := 92) rfl)) rfl, am_in (am_t3 _ (List.mem_of_getElem? (i := 93) rfl)) rfl⟩
set_option maxRecDepth 100000 in
theorem am_mok_X5_wishersOf : am_MOk mX5_wishersOf 1 := ⟨by decide +kernel, rfl, ⟨by decide +kernel, by decide +kernel⟩, by decide +kernel, by decide, am_t1 _ (List.mem_of_getElem? (i := 2) rfl), am_in (am_t3 _ (List.mem_of_getElem? (i := 131) rfl)) rfl⟩
set_option maxRecDepth 100000 in
theorem am_kd_X5_wishersOf : am_kd mX5_wishersOf 2 := ⟨by decide, am_in (am_t3 _ (List.mem_of_getElem? (i := 129) rfl)) rfl, am_in (am_t3 _ (List.mem_of_getElem? (i := 130) rfl)) rfl⟩
set_option maxRecDepth 100000 in
theorem am_mok_X5_stands : am_MOk mX5_stands 1 := ⟨by decide +kernel, rfl, ⟨by decide +kernel, by decide +kernel⟩, by decide +kernel, by decide, am_t1 _ (List.mem_of_getElem? (i := 2) rfl), am_in (am_t3 _ (List.mem_of_getElem? (i := 88) rfl)) rfl⟩
set_option maxRecDepth 100000 in
theorem am_kd_X5_stands : am_kd mX5_stands 2 := ⟨by decide, am_in (am_t3 _ (List.mem_of_getElem? (i := 86) rfl)) rfl, am_in (am_t3 _ (List.mem_of_getElem? (i := 87) rfl)) rfl⟩
set_option maxRecDepth 100000 in
theorem am_mok_J6_bitCount_0f7a4 : am_MOk mJ6_bitCount_0f7a4 1 := ⟨by decide +kernel, rfl, ⟨by decide +kernel, by decide +kernel⟩, by decide +kernel, by decide, am_t1 _ (List.mem_of_getElem? (i := 15) rfl), am_in (am_t3 _ (List.mem_of_getElem? (i := 142) rfl)) rfl⟩
set_option maxRecDepth 100000 in
theorem am_kd_J6_bitCount_0f7a4 : am_kd mJ6_bitCount_0f7a4 1 := am_in (am_t3 _ (List.mem_of_getElem? (i := 141) rfl)) rfl
set_option maxRecDepth 100000 in
theorem am_mok_X0_worthOf : am_MOk mX0_worthOf 2 := ⟨by decide +kernel, rfl, ⟨by decide +kernel, by decide +kernel⟩, by decide +kernel, by decide, am_t1 _ (List.mem_of_getElem? (i := 5) rfl), am_in (am_t3 _ (List.mem_of_getElem? (i := 150) rfl)) rfl⟩
set_option maxRecDepth 100000 in
theorem am_kd_X0_worthOf : am_kd mX0_worthOf 2 := ⟨by decide, am_in (am_t3 _ (List.mem_of_getElem? (i := 148) rfl)) rfl, am_in (am_t3 _ (List.mem_of_getElem? (i := 149) rfl)) rfl⟩
set_option maxRecDepth 100000 in
theorem am_mok_X6_nameVoter : am_MOk mX6_nameVoter 3 := ⟨by decide +kernel, rfl, ⟨by decide +kernel, by decide +kernel⟩, by decide +kernel, by decide, am_t1 _ (List.mem_of_getElem? (i := 4) rfl), am_in (am_t3 _ (List.mem_of_getElem? (i := 155) rfl)) rfl⟩
set_option maxRecDepth 100000 in
theorem am_kd_X6_nameVoter : am_kd mX6_nameVoter 2 := ⟨by decide, am_in (am_t3 _ (List.mem_of_getElem? (i := 153) rfl)) rfl, am_in (am_t3 _ (List.mem_of_getElem? (i := 154) rfl)) rfl⟩
set_option maxRecDepth 100000 in
theorem am_mok_X6_value : am_MOk mX6_value 0 := ⟨by decide +kernel, rfl, ⟨by decide +kernel, by decide +kernel⟩, by decide +kernel, by decide, am_t1 _ (List.mem_of_getElem? (i := 4) rfl), am_in (am_t3 _ (List.mem_of_getElem? (i := 159) rfl)) rfl⟩
set_option maxRecDepth 100000 in
theorem am_kd_X6_value : am_kd mX6_value 2 := ⟨by decide, am_in (am_t3 _ (List.mem_of_getElem? (i := 157) rfl)) rfl, am_in (am_t3 _ (List.mem_of_getElem? (i := 158) rfl)) rfl⟩
set_option maxRecDepth 100000 in
theorem am_mok_X11_holds : am_MOk mX11_holds 2 := ⟨by decide +kernel, rfl, ⟨by decide +kernel, by decide +kernel⟩, by decide +kernel, by decide, am_t1 _ (List.mem_of_getElem? (i := 1) rfl), am_in (am_t3 _ (List.mem_of_getElem? (i := 134) rfl)) rfl⟩
set_option maxRecDepth 100000 in
theorem am_kd_X11_holds : am_kd mX11_holds 1 := am_in (am_t3 _ (List.mem_of_getElem? (i := 133) rfl)) rfl
set_option maxRecDepth 100000 in
theorem am_mok_X11_at : am_MOk mX11_at 2 := ⟨by decide +kernel, rfl, ⟨by decide +kernel, by decide +kernel⟩, by decide +kernel, by decide, am_t1 _ (List.mem_of_getElem? (i := 1) rfl), am_in (am_t1 _ (List.mem_of_getElem? (i := 35) rfl)) rfl⟩
set_option maxRecDepth 100000 in
theorem am_kd_X11_at : am_kd mX11_at 1 := am_in (am_t1 _ (List.mem_of_getElem? (i := 34) rfl)) rfl
set_option maxRecDepth 100000 in
theorem am_mok_X11_lay : am_MOk mX11_lay 3 := ⟨by decide +kernel, rfl, ⟨by decide +kernel, by decide +kernel⟩, by decide +kernel, by decide, am_t1 _ (List.mem_of_getElem? (i := 1) rfl), am_in (am_t1 _ (List.mem_of_getElem? (i := 42) rfl)) rfl⟩
set_option maxRecDepth 100000 in
theorem am_kd_X11_lay : am_kd mX11_lay 1 := am_in (am_t1 _ (List.mem_of_getElem? (i := 41) rfl)) rfl
set_option maxRecDepth 100000 in
theorem am_mok_X1_twosOf : am_MOk mX1_twosOf 1 := ⟨by decide +kernel, rfl, ⟨by decide +kernel, by decide +kernel⟩, by decide +kernel, by decide, am_t1 _ (List.mem_of_getElem? (i := 8) rfl), am_in (am_t4 _ (List.mem_of_getElem? (i := 89) rfl)) rfl⟩
set_option maxRecDepth 100000 in
theorem am_kd_X1_twosOf : am_kd mX1_twosOf 1 := am_in (am_t4 _ (List.mem_of_getElem? (i := 88) rfl)) rfl
set_option maxRecDepth 100000 in
theorem am_mok_X8_size : am_MOk mX8_size 0 := ⟨by decide +kernel, rfl, ⟨by decide +kernel, by decide +kernel⟩, by decide +kernel, by decide, am_t1 _ (List.mem_of_getElem? (i := 12) rfl), am_in (am_t2 _ (List.mem_of_getElem? (i := 208) rfl)) rfl⟩
set_option maxRecDepth 100000 in
theorem am_kd_X8_size : am_kd mX8_size 2 := ⟨by decide, am_in (am_t2 _ (List.mem_of_getElem? (i := 206) rfl)) rfl, am_in (am_t2 _ (List.mem_of_getElem? (i := 207) rfl)) rfl⟩
set_option maxRecDepth 100000 in
theorem am_mok_X1_isWellSaid : am_MOk mX1_isWellSaid 2 := ⟨by decide +kernel, rfl, ⟨by decide +kernel, by decide +kernel⟩, by decide +kernel, by decide, am_t1 _ (List.mem_of_getElem? (i := 8) rfl), am_in (am_t4 _ (List.mem_of_getElem? (i := 93) rfl)) rfl⟩
set_option maxRecDepth 100000 in
theorem am_kd_X1_isWellSaid : am_kd mX1_isWellSaid 1 := am_in (am_t4 _ (List.mem_of_getElem? (i := 92) rfl)) rfl
set_option maxRecDepth 100000 in
theorem am_mok_X8_valueAt : am_MOk mX8_valueAt 1 := ⟨by decide +kernel, rfl, ⟨by decide +kernel, by decide +kernel⟩, by decide +kernel, by decide, am_t1 _ (List.mem_of_getElem? (i := 12) rfl), am_in (am_t2 _ (List.mem_of_getElem? (i := 212) rfl)) rfl⟩
set_option maxRecDepth 100000 in
theorem am_kd_X8_valueAt : am_kd mX8_valueAt 2 := ⟨by decide, am_in (am_t2 _ (List.mem_of_getElem? (i := 210) rfl)) rfl, am_in (am_t2 _ (List.mem_of_getElem? (i := 211) rfl)) rfl⟩
set_option maxRecDepth 100000 in
theorem am_mok_X0_passes : am_MOk mX0_passes 2 := ⟨by decide +kernel, rfl, ⟨by decide +kernel, by decide +kernel⟩, by decide +kernel, by decide, am_t1 _ (List.mem_of_getElem? (i := 5) rfl), am_in (am_t3 _ (List.mem_of_getElem? (i := 139) rfl)) rfl⟩
set_option maxRecDepth 100000 in
theorem am_kd_X0_passes : am_kd mX0_passes 2 := ⟨by decide, am_in (am_t3 _ (List.mem_of_getElem? (i := 137) rfl)) rfl, am_in (am_t3 _ (List.mem_of_getElem? (i := 138) rfl)) rfl⟩
set_option maxRecDepth 100000 in
theorem am_mok_X1_ruleOut : am_MOk mX1_ruleOut 3 := ⟨by decide +kernel, rfl, ⟨by decide +kernel, by decide +kernel⟩, by decide +kernel, by decide, am_t1 _ (List.mem_of_getElem? (i := 8) rfl), am_in (am_t4 _ (List.mem_of_getElem? (i := 113) rfl)) rfl⟩
set_option maxRecDepth 100000 in
theorem am_kd_X1_ruleOut : am_kd mX1_ruleOut 2 := ⟨by decide, am_in (am_t4 _ (List.mem_of_getElem? (i := 112) rfl)) rfl, am_in (am_pv2 _ (List.mem_of_getElem? (i := 4) rfl)) rfl⟩
set_option maxRecDepth 100000 in
theorem am_mok_X0_sumSets : am_MOk mX0_sumSets 1 := ⟨by decide +kernel, rfl, ⟨by decide +kernel, by decide +kernel⟩, by decide +kernel, by decide, am_t1 _ (List.mem_of_getElem? (i := 5) rfl), am_in (am_t4 _ (List.mem_of_getElem? (i := 13) rfl)) rfl⟩
set_option maxRecDepth 100000 in
theorem am_kd_X0_sumSets : am_kd mX0_sumSets 2 := ⟨by decide, am_in (am_t4 _ (List.mem_of_getElem? (i := 11) rfl)) rfl, am_in (am_t4 _ (List.mem_of_getElem? (i := 12) rfl)) rfl⟩
set_option maxRecDepth 100000 in
theorem am_mok_X0_sumOf : am_MOk mX0_sumOf 1 := ⟨by decide +kernel, rfl, ⟨by decide +kernel, by decide +kernel⟩, by decide +kernel, by decide, am_t1 _ (List.mem_of_getElem? (i := 5) rfl), am_in (am_t3 _ (List.mem_of_getElem? (i := 174) rfl)) rfl⟩
set_option maxRecDepth 100000 in
theorem am_kd_X0_sumOf : am_kd mX0_sumOf 2 := ⟨by decide, am_in (am_t3 _ (List.mem_of_getElem? (i := 172) rfl)) rfl, am_in (am_t3 _ (List.mem_of_getElem? (i := 173) rfl)) rfl⟩
set_option maxRecDepth 100000 in
theorem am_mok_X1_gather : am_MOk mX1_gather 0 := ⟨by decide +kernel, rfl, ⟨by decide +kernel, by decide +kernel⟩, by decide +kernel, by decide, am_t1 _ (List.mem_of_getElem? (i := 8) rfl), am_in (am_t4 _ (List.mem_of_getElem? (i := 122) rfl)) rfl⟩
set_option maxRecDepth 100000 in
theorem am_kd_X1_gather : am_kd mX1_gather 2 := ⟨by decide, am_in (am_t4 _ (List.mem_of_getElem? (i := 121) rfl)) rfl, am_in (am_pv2 _ (List.mem_of_getElem? (i := 5) rfl)) rfl⟩
set_option maxRecDepth 100000 in
theorem am_mok_X2_placeOf : am_MOk mX2_placeOf 1 := ⟨by decide +kernel, rfl, ⟨by decide +kernel, by decide +kernel⟩, by decide +kernel, by decide, am_t1 _ (List.mem_of_getElem? (i := 10) rfl), am_in (am_t2 _ (List.mem_of_getElem? (i := 237) rfl)) rfl⟩
set_option maxRecDepth 100000 in
theorem am_kd_X2_placeOf : am_kd mX2_placeOf 2 := ⟨by decide, am_in (am_t2 _ (List.mem_of_getElem? (i := 236) rfl)) rfl, am_in (am_pv1 _ (List.mem_of_getElem? (i := 3) rfl)) rfl⟩
set_option maxRecDepth 100000 in
theorem am_mok_X5_write : am_MOk mX5_write 3 := ⟨by decide +kernel, rfl, ⟨by decide +kernel, by decide +kernel⟩, by decide +kernel, by decide, am_t1 _ (List.mem_of_getElem? (i := 2) rfl), am_in (am_t1 _ (List.mem_of_getElem? (i := 39) rfl)) rfl⟩
set_option maxRecDepth 100000 in
theorem am_kd_X5_write : am_kd mX5_write 2 := ⟨by decide, am_in (am_t1 _ (List.mem_of_getElem? (i := 37) rfl)) rfl, am_in (am_t1 _ (List.mem_of_getElem? (i := 38) rfl)) rfl⟩
set_option maxRecDepth 100000 in
theorem am_mok_X3_countOn : am_MOk mX3_countOn 2 := ⟨by decide +kernel, rfl, ⟨by decide +kernel, by decide +kernel⟩, by decide +kernel, by decide, am_t1 _ (List.mem_of_getElem? (i := 9) rfl), am_in (am_t4 _ (List.mem_of_getElem? (i := 174) rfl)) rfl⟩
set_option maxRecDepth 100000 in
theorem am_kd_X3_countOn : am_kd mX3_countOn 2 := ⟨by decide, am_in (am_t4 _ (List.mem_of_getElem? (i := 173) rfl)) rfl, am_in (am_pv2 _ (List.mem_of_getElem? (i := 7) rfl)) rfl⟩
set_option maxRecDepth 100000 in
theorem am_mok_X0_open : am_MOk mX0_open 2 := ⟨by decide +kernel, rfl, ⟨by decide +kernel, by decide +kernel⟩, by decide +kernel, by decide, am_t1 _ (List.mem_of_getElem? (i := 5) rfl), am_in (am_t3 _ (List.mem_of_getElem? (i := 117) rfl)) rfl⟩
set_option maxRecDepth 100000 in
theorem am_kd_X0_open : am_kd mX0_open 2 := ⟨by decide, am_in (am_t3 _ (List.mem_of_getElem? (i := 115) rfl)) rfl, am_in (am_t3 _ (List.mem_of_getElem? (i := 116) rfl)) rfl⟩
set_option maxRecDepth 100000 in
theorem am_mok_X4_waysToDecide : am_MOk mX4_waysToDecide 2 := ⟨by decide +kernel, rfl, ⟨by decide +kernel, by decide +kernel⟩, by decide +kernel, by decide, am_t1 _ (List.mem_of_getElem? (i := 7) rfl), am_in (am_t4 _ (List.mem_of_getElem? (i := 9) rfl)) rfl⟩
set_option maxRecDepth 100000 in
theorem am_kd_X4_waysToDecide : am_kd mX4_waysToDecide 2 := ⟨by decide, am_in (am_t4 _ (List.mem_of_getElem? (i := 8) rfl)) rfl, am_in (am_pv2 _ (List.mem_of_getElem? (i := 0) rfl)) rfl⟩
set_option maxRecDepth 100000 in
theorem am_mok_X4_fallsAt : am_MOk mX4_fallsAt 3 := ⟨by decide +kernel, rfl, ⟨by decide +kernel, by decide +kernel⟩, by decide +kernel, by decide, am_t1 _ (List.mem_of_getElem? (i := 7) rfl), am_in (am_t4 _ (List.mem_of_getElem? (i := 29) rfl)) rfl⟩
set_option maxRecDepth 100000 in
theorem am_kd_X4_fallsAt : am_kd mX4_fallsAt 2 := ⟨by decide, am_in (am_t4 _ (List.mem_of_getElem? (i := 28) rfl)) rfl, am_in (am_pv2 _ (List.mem_of_getElem? (i := 1) rfl)) rfl⟩
set_option maxRecDepth 100000 in
theorem am_mok_X4_bestOf : am_MOk mX4_bestOf 3 := ⟨by decide +kernel, rfl, ⟨by decide +kernel, by decide +kernel⟩, by decide +kernel, by decide, am_t1 _ (List.mem_of_getElem? (i := 7) rfl), am_in (am_t4 _ (List.mem_of_getElem? (i := 47) rfl)) rfl⟩
set_option maxRecDepth 100000 in
theorem am_kd_X4_bestOf : am_kd mX4_bestOf 2 := ⟨by decide, am_in (am_t4 _ (List.mem_of_getElem? (i := 46) rfl)) rfl, am_in (am_pv2 _ (List.mem_of_getElem? (i := 2) rfl)) rfl⟩
set_option maxRecDepth 100000 in
theorem am_mok_X4_leastMove : am_MOk mX4_leastMove 3 := ⟨by decide +kernel, rfl, ⟨by decide +kernel, by decide +kernel⟩, by decide +kernel, by decide, am_t1 _ (List.mem_of_getElem? (i := 7) rfl), am_in (am_t4 _ (List.mem_of_getElem? (i := 51) rfl)) rfl⟩
set_option maxRecDepth 100000 in
theorem am_kd_X4_leastMove : am_kd mX4_leastMove 2 := ⟨by decide, am_in (am_t4 _ (List.mem_of_getElem? (i := 50) rfl)) rfl, am_in (am_pv2 _ (List.mem_of_getElem? (i := 3) rfl)) rfl⟩
set_option maxRecDepth 100000 in
theorem am_mok_X5_owners : am_MOk mX5_owners 1 := ⟨by decide +kernel, rfl, ⟨by decide +kernel, by decide +kernel⟩, by decide +kernel, by decide, am_t1 _ (List.mem_of_getElem? (i := 2) rfl), am_in (am_t2 _ (List.mem_of_getElem? (i := 224) rfl)) rfl⟩
set_option maxRecDepth 100000 in
theorem am_kd_X5_owners : am_kd mX5_owners 2 := ⟨by decide, am_in (am_t2 _ (List.mem_of_getElem? (i := 223) rfl)) rfl, am_in (am_pv1 _ (List.mem_of_getElem? (i := 2) rfl)) rfl⟩
set_option maxRecDepth 100000 in
theorem am_mok_X5_lies : am_MOk mX5_lies 4 := ⟨by decide +kernel, rfl, ⟨by decide +kernel, by decide +kernel⟩, by decide +kernel, by decide, am_t1 _ (List.mem_of_getElem? (i := 2) rfl), am_in (am_t3 _ (List.mem_of_getElem? (i := 97) rfl)) rfl⟩
set_option maxRecDepth 100000 in
theorem am_kd_X5_lies : am_kd mX5_lies 1 := am_in (am_t3 _ (List.mem_of_getElem? (i := 96) rfl)) rfl
set_option maxRecDepth 100000 in
theorem am_mok_X11_within : am_MOk mX11_within 3 := ⟨by decide +kernel, rfl, ⟨by decide +kernel, by decide +kernel⟩, by decide +kernel, by decide, am_t1 _ (List.mem_of_getElem? (i := 1) rfl), am_in (am_t2 _ (List.mem_of_getElem? (i := 161) rfl)) rfl⟩
set_option maxRecDepth 100000 in
theorem am_kd_X11_within : am_kd mX11_within 1 := am_in (am_t2 _ (List.mem_of_getElem? (i := 160) rfl)) rfl
set_option maxRecDepth 100000 in
theorem am_mok_X6_ofTwo : am_MOk mX6_ofTwo 3 := ⟨by decide +kernel, rfl, ⟨by decide +kernel, by decide +kernel⟩, by decide +kernel, by decide, am_t1 _ (List.mem_of_getElem? (i := 4) rfl), am_in (am_t3 _ (List.mem_of_getElem? (i := 163) rfl)) rfl⟩
set_option maxRecDepth 100000 in
theorem am_kd_X6_ofTwo : am_kd mX6_ofTwo 1 := am_in (am_t3 _ (List.mem_of_getElem? (i := 162) rfl)) rfl
set_option maxRecDepth 100000 in
theorem am_mok_X6_operand : am_MOk mX6_operand 1 := ⟨by decide +kernel, rfl, ⟨by decide +kernel, by decide +kernel⟩, by decide +kernel, by decide, am_t1 _ (List.mem_of_getElem? (i := 4) rfl), am_in (am_t3 _ (List.mem_of_getElem? (i := 167) rfl)) rfl⟩
set_option maxRecDepth 100000 in
theorem am_kd_X6_operand : am_kd mX6_operand 2 := ⟨by decide, am_in (am_t3 _ (List.mem_of_getElem? (i := 166) rfl)) rfl, am_in (am_pv1 _ (List.mem_of_getElem? (i := 13) rfl)) rfl⟩
set_option maxRecDepth 100000 in
theorem am_mok_X7_levelOf : am_MOk mX7_levelOf 1 := ⟨by decide +kernel, rfl, ⟨by decide +kernel, by decide +kernel⟩, by decide +kernel, by decide, am_t1 _ (List.mem_of_getElem? (i := 3) rfl), am_in (am_t3 _ (List.mem_of_getElem? (i := 51) rfl)) rfl⟩
set_option maxRecDepth 100000 in
theorem am_kd_X7_levelOf : am_kd mX7_levelOf 1 := am_in (am_t3 _ (List.mem_of_getElem? (i := 50) rfl)) rfl
set_option maxRecDepth 100000 in
theorem am_mok_X7_readLine : am_MOk mX7_readLine 0 := ⟨by decide +kernel, rfl, ⟨by decide +kernel, by decide +kernel⟩, by decide +kernel, by decide, am_t1 _ (List.mem_of_getElem? (i := 3) rfl), am_in (am_t3 _ (List.mem_of_getElem? (i := 23) rfl)) rfl⟩
set_option maxRecDepth 100000 in
theorem am_kd_X7_readLine : am_kd mX7_readLine 2 := ⟨by decide, am_in (am_t3 _ (List.mem_of_getElem? (i := 22) rfl)) rfl, am_in (am_pv1 _ (List.mem_of_getElem? (i := 4) rfl)) rfl⟩
set_option maxRecDepth 100000 in
theorem am_mok_X7_readChain : am_MOk mX7_readChain 2 := ⟨by decide +kernel, rfl, ⟨by decide +kernel, by decide +kernel⟩, by decide +kernel, by decide, am_t1 _ (List.mem_of_getElem? (i := 3) rfl), am_in (am_t3 _ (List.mem_of_getElem? (i := 27) rfl)) rfl⟩
set_option maxRecDepth 100000 in
theorem am_kd_X7_readChain : am_kd mX7_readChain 2 := ⟨by decide, am_in (am_t3 _ (List.mem_of_getElem? (i := 26) rfl)) rfl, am_in (am_pv1 _ (List.mem_of_getElem? (i := 5) rfl)) rfl⟩
set_option maxRecDepth 100000 in
theorem am_mok_X7_readOperand : am_MOk mX7_readOperand 1 := ⟨by decide +kernel, rfl, ⟨by decide +kernel, by decide +kernel⟩, by decide +kernel, by decide, am_t1 _ (List.mem_of_getElem? (i := 3) rfl), am_in (am_t3 _ (List.mem_of_getElem? (i := 31) rfl)) rfl⟩
set_option maxRecDepth 100000 in
theorem am_kd_X7_readOperand : am_kd mX7_readOperand 2 := ⟨by decide, am_in (am_t3 _ (List.mem_of_getElem? (i := 30) rfl)) rfl, am_in (am_pv1 _ (List.mem_of_getElem? (i := 6) rfl)) rfl⟩
set_option maxRecDepth 100000 in
theorem am_mok_X7_next : am_MOk mX7_next 0 := ⟨by decide +kernel, rfl, ⟨by decide +kernel, by decide +kernel⟩, by decide +kernel, by decide, am_t1 _ (List.mem_of_getElem? (i := 3) rfl), am_in (am_t3 _ (List.mem_of_getElem? (i := 35) rfl)) rfl⟩
set_option maxRecDepth 100000 in
theorem am_kd_X7_next : am_kd mX7_next 2 := ⟨by decide, am_in (am_t3 _ (List.mem_of_getElem? (i := 34) rfl)) rfl, am_in (am_pv1 _ (List.mem_of_getElem? (i := 7) rfl)) rfl⟩
set_option maxRecDepth 100000 in
theorem am_mok_X7_readNumber : am_MOk mX7_readNumber 0 := ⟨by decide +kernel, rfl, ⟨by decide +kernel, by decide +kernel⟩, by decide +kernel, by decide, am_t1 _ (List.mem_of_getElem? (i := 3) rfl), am_in (am_t3 _ (List.mem_of_getElem? (i := 41) rfl)) rfl⟩
set_option maxRecDepth 100000 in
theorem am_kd_X7_readNumber : am_kd mX7_readNumber 2 := ⟨by decide, am_in (am_t3 _ (List.mem_of_getElem? (i := 40) rfl)) rfl, am_in (am_pv1 _ (List.mem_of_getElem? (i := 8) rfl)) rfl⟩
set_option maxRecDepth 100000 in
theorem am_mok_X7_emit : am_MOk mX7_emit 1 := ⟨by decide +kernel, rfl, ⟨by decide +kernel, by decide +kernel⟩, by decide +kernel, by decide, am_t1 _ (List.mem_of_getElem? (i := 3) rfl), am_in (am_t3 _ (List.mem_of_getElem? (i := 45) rfl)) rfl⟩
set_option maxRecDepth 100000 in
theorem am_kd_X7_emit : am_kd mX7_emit 2 := ⟨by decide, am_in (am_t3 _ (List.mem_of_getElem? (i := 44) rfl)) rfl, am_in (am_pv1 _ (List.mem_of_getElem? (i := 9) rfl)) rfl⟩
set_option maxRecDepth 100000 in
theorem am_mok_X7_isName : am_MOk mX7_isName 1 := ⟨by decide +kernel, rfl, ⟨by decide +kernel, by decide +kernel⟩, by decide +kernel, by decide, am_t1 _ (List.mem_of_getElem? (i := 3) rfl), am_in (am_t3 _ (List.mem_of_getElem? (i := 48) rfl)) rfl⟩
set_option maxRecDepth 100000 in
theorem am_kd_X7_isName : am_kd mX7_isName 1 := am_in (am_t3 _ (List.mem_of_getElem? (i := 47) rfl)) rfl
set_option maxRecDepth 100000 in
theorem am_mok_X8_isRow : am_MOk mX8_isRow 0 := ⟨by decide +kernel, rfl, ⟨by decide +kernel, by decide +kernel⟩, by decide +kernel, by decide, am_t1 _ (List.mem_of_getElem? (i := 12) rfl), am_in (am_t2 _ (List.mem_of_getElem? (i := 194) rfl)) rfl⟩
set_option maxRecDepth 100000 in
theorem am_kd_X8_isRow : am_kd mX8_isRow 2 := ⟨by decide, am_in (am_t2 _ (List.mem_of_getElem? (i := 192) rfl)) rfl, am_in (am_t2 _ (List.mem_of_getElem? (i := 193) rfl)) rfl⟩
set_option maxRecDepth 100000 in
theorem am_mok_X8_narrowed : am_MOk mX8_narrowed 1 := ⟨by decide +kernel, rfl, ⟨by decide +kernel, by decide +kernel⟩, by decide +kernel, by decide, am_t1 _ (List.mem_of_getElem? (i := 12) rfl), am_in (am_t5 _ (List.mem_of_getElem? (i := 75) rfl)) rfl⟩
set_option maxRecDepth 100000 in
theorem am_kd_X8_narrowed : am_kd mX8_narrowed 2 := ⟨by decide, am_in (am_t5 _ (List.mem_of_getElem? (i := 74) rfl)) rfl, am_in (am_pv2 _ (List.mem_of_getElem? (i := 11) rfl)) rfl⟩
set_option maxRecDepth 100000 in
theorem am_mok_X9_firstFall : am_MOk mX9_firstFall 2 := ⟨by decide +kernel, rfl, ⟨by decide +kernel, by decide +kernel⟩, by decide +kernel, by decide, am_t1 _ (List.mem_of_getElem? (i := 6) rfl), am_in (am_t3 _ (List.mem_of_getElem? (i := 186) rfl)) rfl⟩
set_option maxRecDepth 100000 in
theorem am_kd_X9_firstFall : am_kd mX9_firstFall 2 := ⟨by decide, am_in (am_t3 _ (List.mem_of_getElem? (i := 184) rfl)) rfl, am_in (am_t3 _ (List.mem_of_getElem? (i := 185) rfl)) rfl⟩
set_option maxRecDepth 100000 in
theorem am_mok_X9_fallsIn : am_MOk mX9_fallsIn 2 := ⟨by decide +kernel, rfl, ⟨by decide +kernel, by decide +kernel⟩, by decide +kernel, by decide, am_t1 _ (List.mem_of_getElem? (i := 6) rfl), am_in (am_t3 _ (List.mem_of_getElem? (i := 190) rfl)) rfl⟩
set_option maxRecDepth 100000 in
theorem am_kd_X9_fallsIn : am_kd mX9_fallsIn 2 := ⟨by decide, am_in (am_t3 _ (List.mem_of_getElem? (i := 189) rfl)) rfl, am_in (am_pv1 _ (List.mem_of_getElem? (i := 14) rfl)) rfl⟩
set_option maxRecDepth 100000 in
theorem am_mok_X9_standing : am_MOk mX9_standing 0 := ⟨by decide +kernel, rfl, ⟨by decide +kernel, by decide +kernel⟩, by decide +kernel, by decide, am_t1 _ (List.mem_of_getElem? (i := 6) rfl), am_in (am_t3 _ (List.mem_of_getElem? (i := 213) rfl)) rfl⟩
set_option maxRecDepth 100000 in
theorem am_kd_X9_standing : am_kd mX9_standing 2 := ⟨by decide, am_in (am_t3 _ (List.mem_of_getElem? (i := 212) rfl)) rfl, am_in (am_pv1 _ (List.mem_of_getElem? (i := 15) rfl)) rfl⟩
set_option maxRecDepth 100000 in
theorem am_mok_X9_falling : am_MOk mX9_falling 1 := ⟨by decide +kernel, rfl, ⟨by decide +kernel, by decide +kernel⟩, by decide +kernel, by decide, am_t1 _ (List.mem_of_getElem? (i := 6) rfl), am_in (am_t3 _ (List.mem_of_getElem? (i := 196) rfl)) rfl⟩
set_option maxRecDepth 100000 in
theorem am_kd_X9_falling : am_kd mX9_falling 2 := ⟨by decide, am_in (am_t3 _ (List.mem_of_getElem? (i := 194) rfl)) rfl, am_in (am_t3 _ (List.mem_of_getElem? (i := 195) rfl)) rfl⟩
set_option maxRecDepth 100000 in
theorem am_mok_X9_sittersIn : am_MOk mX9_sittersIn 2 := ⟨by decide +kernel, rfl, ⟨by decide +kernel, by decide +kernel⟩, by decide +kernel, by decide, am_t1 _ (List.mem_of_getElem? (i := 6) rfl), am_in (am_t3 _ (List.mem_of_getElem? (i := 84) rfl)) rfl⟩
set_option maxRecDepth 100000 in
theorem am_kd_X9_sittersIn : am_kd mX9_sittersIn 2 := ⟨by decide, am_in (am_t3 _ (List.mem_of_getElem? (i := 82) rfl)) rfl, am_in (am_t3 _ (List.mem_of_getElem? (i := 83) rfl)) rfl⟩
set_option maxRecDepth 100000 in
theorem am_mok_X9_shadesOver : am_MOk mX9_shadesOver 2 := ⟨by decide +kernel, rfl, ⟨by decide +kernel, by decide +kernel⟩, by decide +kernel, by decide, am_t1 _ (List.mem_of_getElem? (i := 6) rfl), am_in (am_t4 _ (List.mem_of_getElem? (i := 73) rfl)) rfl⟩
set_option maxRecDepth 100000 in
theorem am_kd_X9_shadesOver : am_kd mX9_shadesOver 2 := ⟨by decide, am_in (am_t4 _ (List.mem_of_getElem? (i := 71) rfl)) rfl, am_in (am_t4 _ (List.mem_of_getElem? (i := 72) rfl)) rfl⟩
set_option maxRecDepth 100000 in
theorem am_mok_X5_shades : am_MOk mX5_shades 3 := ⟨by decide +kernel, rfl, ⟨by decide +kernel, by decide +kernel⟩, by decide +kernel, by decide, am_t1 _ (List.mem_of_getElem? (i := 2) rfl), am_in (am_t4 _ (List.mem_of_getElem? (i := 77) rfl)) rfl⟩
set_option maxRecDepth 100000 in
theorem am_kd_X5_shades : am_kd mX5_shades 2 := ⟨by decide, am_in (am_t4 _ (List.mem_of_getElem? (i := 75) rfl)) rfl, am_in (am_t4 _ (List.mem_of_getElem? (i := 76) rfl)) rfl⟩
set_option maxRecDepth 100000 in
theorem am_mok_X9_monthsOver : am_MOk mX9_monthsOver 2 := ⟨by decide +kernel, rfl, ⟨by decide +kernel, by decide +kernel⟩, by decide +kernel, by decide, am_t1 _ (List.mem_of_getElem? (i := 6) rfl), am_in (am_t4 _ (List.mem_of_getElem? (i := 134) rfl)) rfl⟩
set_option maxRecDepth 100000 in
theorem am_kd_X9_monthsOver : am_kd mX9_monthsOver 2 := ⟨by decide, am_in (am_t4 _ (List.mem_of_getElem? (i := 133) rfl)) rfl, am_in (am_pv2 _ (List.mem_of_getElem? (i := 6) rfl)) rfl⟩
set_option maxRecDepth 100000 in
theorem am_mok_X10_kindOf : am_MOk mX10_kindOf 1 := ⟨by decide +kernel, rfl, ⟨by decide +kernel, by decide +kernel⟩, by decide +kernel, by decide, am_t1 _ (List.mem_of_getElem? (i := 11) rfl), am_in (am_t5 _ (List.mem_of_getElem? (i := 13) rfl)) rfl⟩
set_option maxRecDepth 100000 in
theorem am_kd_X10_kindOf : am_kd mX10_kindOf 2 := ⟨by decide, am_in (am_t5 _ (List.mem_of_getElem? (i := 11) rfl)) rfl, am_in (am_t5 _ (List.mem_of_getElem? (i := 12) rfl)) rfl⟩
set_option maxRecDepth 100000 in
theorem am_mok_X10_perform : am_MOk mX10_perform 5 := ⟨by decide +kernel, rfl, ⟨by decide +kernel, by decide +kernel⟩, by decide +kernel, by decide, am_t1 _ (List.mem_of_getElem? (i := 11) rfl), am_in (am_t5 _ (List.mem_of_getElem? (i := 18) rfl)) rfl⟩
set_option maxRecDepth 100000 in
theorem am_kd_X10_perform : am_kd mX10_perform 2 := ⟨by decide, am_in (am_t5 _ (List.mem_of_getElem? (i := 17) rfl)) rfl, am_in (am_pv2 _ (List.mem_of_getElem? (i := 8) rfl)) rfl⟩
set_option maxRecDepth 100000 in
theorem am_mok_X10_ownerOf : am_MOk mX10_ownerOf 2 := ⟨by decide +kernel, rfl, ⟨by decide +kernel, by decide +kernel⟩, by decide +kernel, by decide, am_t1 _ (List.mem_of_getElem? (i := 11) rfl), am_in (am_t5 _ (List.mem_of_getElem? (i := 21) rfl)) rfl⟩
set_option maxRecDepth 100000 in
theorem am_kd_X10_ownerOf : am_kd mX10_ownerOf 1 := am_in (am_t5 _ (List.mem_of_getElem? (i := 20) rfl)) rfl
set_option maxRecDepth 100000 in
theorem am_mok_X10_run : am_MOk mX10_run 5 := ⟨by decide +kernel, rfl, ⟨by decide +kernel, by decide +kernel⟩, by decide +kernel, by decide, am_t1 _ (List.mem_of_getElem? (i := 11) rfl), am_in (am_t5 _ (List.mem_of_getElem? (i := 29) rfl)) rfl⟩
set_option maxRecDepth 100000 in
theorem am_kd_X10_run : am_kd mX10_run 2 := ⟨by decide, am_in (am_t5 _ (List.mem_of_getElem? (i := 28) rfl)) rfl, am_in (am_pv2 _ (List.mem_of_getElem? (i := 9) rfl)) rfl⟩
set_option maxRecDepth 100000 in
theorem am_mok_X10_does : am_MOk mX10_does 4 := ⟨by decide +kernel, rfl, ⟨by decide +kernel, by decide +kernel⟩, by decide +kernel, by decide, am_t1 _ (List.mem_of_getElem? (i := 11) rfl), am_in (am_t5 _ (List.mem_of_getElem? (i := 33) rfl)) rfl⟩
set_option maxRecDepth 100000 in
theorem am_kd_X10_does : am_kd mX10_does 2 := ⟨by decide, am_in (am_t5 _ (List.mem_of_getElem? (i := 32) rfl)) rfl, am_in (am_pv2 _ (List.mem_of_getElem? (i := 10) rfl)) rfl⟩
set_option maxRecDepth 100000 in
theorem am_mok_X5_init : am_MOk mX5_init 0 := ⟨by decide +kernel, rfl, ⟨by decide +kernel, by decide +kernel⟩, by decide +kernel, by decide, am_t1 _ (List.mem_of_getElem? (i := 2) rfl), am_in (am_t1 _ (List.mem_of_getElem? (i := 29) rfl)) rfl⟩
set_option maxRecDepth 100000 in
theorem am_kd_X5_init : am_kd mX5_init 0 := ⟨by decide +kernel, am_in (am_t1 _ (List.mem_of_getElem? (i := 28) rfl)) rfl, rfl⟩
set_option maxRecDepth 100000 in
theorem am_mok_X0_init : am_MOk mX0_init 2 := ⟨by decide +kernel, rfl, ⟨by decide +kernel, by decide +kernel⟩, by decide +kernel, by decide, am_t1 _ (List.mem_of_getElem? (i := 5) rfl), am_in (am_t1 _ (List.mem_of_getElem? (i := 126) rfl)) rfl⟩
set_option maxRecDepth 100000 in
theorem am_kd_X0_init : am_kd mX0_init 0 := ⟨by decide +kernel, am_in (am_t1 _ (List.mem_of_getElem? (i := 125) rfl)) rfl, rfl⟩
set_option maxRecDepth 100000 in
theorem am_mok_X9_init : am_MOk mX9_init 2 := ⟨by decide +kernel, rfl, ⟨by decide +kernel, by decide +kernel⟩, by decide +kernel, by decide, am_t1 _ (List.mem_of_getElem? (i := 6) rfl), am_in (am_t1 _ (List.mem_of_getElem? (i := 162) rfl)) rfl⟩
set_option maxRecDepth 100000 in
theorem am_kd_X9_init : am_kd mX9_init 0 := ⟨by decide +kernel, am_in (am_t1 _ (List.mem_of_getElem? (i := 161) rfl)) rfl, rfl⟩
set_option maxRecDepth 100000 in
theorem am_mok_X4_init : am_MOk mX4_init 4 := ⟨by decide +kernel, rfl, ⟨by decide +kernel, by decide +kernel⟩, by decide +kernel, by decide, am_t1 _ (List.mem_of_getElem? (i := 7) rfl), am_in (am_t1 _ (List.mem_of_getElem? (i := 186) rfl)) rfl⟩
set_option maxRecDepth 100000 in
theorem am_kd_X4_init : am_kd mX4_init 0 := ⟨by decide +kernel, am_in (am_t1 _ (List.mem_of_getElem? (i := 185) rfl)) rfl, rfl⟩
set_option maxRecDepth 100000 in
theorem am_mok_X1_init : am_MOk mX1_init 4 := ⟨by decide +kernel, rfl, ⟨by decide +kernel, by decide +kernel⟩, by decide +kernel, by decide, am_t1 _ (List.mem_of_getElem? (i := 8) rfl), am_in (am_t1 _ (List.mem_of_getElem? (i := 213) rfl)) rfl⟩
set_option maxRecDepth 100000 in
theorem am_kd_X1_init : am_kd mX1_init 0 := ⟨by decide +kernel, am_in (am_t1 _ (List.mem_of_getElem? (i := 212) rfl)) rfl, rfl⟩
set_option maxRecDepth 100000 in
theorem am_mok_X3_init : am_MOk mX3_init 1 := ⟨by decide +kernel, rfl, ⟨by decide +kernel, by decide +kernel⟩, by decide +kernel, by decide, am_t1 _ (List.mem_of_getElem? (i := 9) rfl), am_in (am_t2 _ (List.mem_of_getElem? (i := 4) rfl)) rfl⟩
set_option maxRecDepth 100000 in
theorem am_kd_X3_init : am_kd mX3_init 0 := ⟨by decide +kernel, am_in (am_t2 _ (List.mem_of_getElem? (i := 3) rfl)) rfl, rfl⟩
set_option maxRecDepth 100000 in
theorem am_mok_X2_init : am_MOk mX2_init 1 := ⟨by decide +kernel, rfl, ⟨by decide +kernel, by decide +kernel⟩, by decide +kernel, by decide, am_t1 _ (List.mem_of_getElem? (i := 10) rfl), am_in (am_t2 _ (List.mem_of_getElem? (i := 38) rfl)) rfl⟩
set_option maxRecDepth 100000 in
theorem am_kd_X2_init : am_kd mX2_init 0 := ⟨by decide +kernel, am_in (am_t2 _ (List.mem_of_getElem? (i := 37) rfl)) rfl, rfl⟩
set_option maxRecDepth 100000 in
theorem am_mok_X5_fits : am_MOk mX5_fits 2 := ⟨by decide +kernel, rfl, ⟨by decide +kernel, by decide +kernel⟩, by decide +kernel, by decide, am_t1 _ (List.mem_of_getElem? (i := 2) rfl), am_in (am_t2 _ (List.mem_of_getElem? (i := 158) rfl)) rfl⟩
set_option maxRecDepth 100000 in
theorem am_kd_X5_fits : am_kd mX5_fits 2 := ⟨by decide, am_in (am_t2 _ (List.mem_of_getElem? (i := 156) rfl)) rfl, am_in (am_t2 _ (List.mem_of_getElem? (i := 157) rfl)) rfl⟩
set_option maxRecDepth 100000 in
theorem am_mok_X5_addTree : am_MOk mX5_addTree 2 := ⟨by decide +kernel, rfl, ⟨by decide +kernel, by decide +kernel⟩, by decide +kernel, by decide, am_t1 _ (List.mem_of_getElem? (i := 2) rfl), am_in (am_t2 _ (List.mem_of_getElem? (i := 169) rfl)) rfl⟩
set_option maxRecDepth 100000 in
theorem am_kd_X5_addTree : am_kd mX5_addTree 2 := ⟨by decide, am_in (am_t2 _ (List.mem_of_getElem? (i := 167) rfl)) rfl, am_in (am_t2 _ (List.mem_of_getElem? (i := 168) rfl)) rfl⟩
set_option maxRecDepth 100000 in
theorem am_mok_X5_addPerson : am_MOk mX5_addPerson 3 := ⟨by decide +kernel, rfl, ⟨by decide +kernel, by decide +kernel⟩, by decide +kernel, by decide, am_t1 _ (List.mem_of_getElem? (i := 2) rfl), am_in (am_t2 _ (List.mem_of_getElem? (i := 177) rfl)) rfl⟩
set_option maxRecDepth 100000 in
theorem am_kd_X5_addPerson : am_kd mX5_addPerson 2 := ⟨by decide, am_in (am_t2 _ (List.mem_of_getElem? (i := 175) rfl)) rfl, am_in (am_t2 _ (List.mem_of_getElem? (i := 176) rfl)) rfl⟩
set_option maxRecDepth 100000 in
theorem am_mok_X11_shelfAt : am_MOk mX11_shelfAt 1 := ⟨by decide +kernel, rfl, ⟨by decide +kernel, by decide +kernel⟩, by decide +kernel, by decide, am_t1 _ (List.mem_of_getElem? (i := 1) rfl), am_in (am_t2 _ (List.mem_of_getElem? (i := 185) rfl)) rfl⟩
set_option maxRecDepth 100000 in
theorem am_kd_X11_shelfAt : am_kd mX11_shelfAt 2 := ⟨by decide, am_in (am_t2 _ (List.mem_of_getElem? (i := 184) rfl)) rfl, am_in (am_pv1 _ (List.mem_of_getElem? (i := 0) rfl)) rfl⟩
set_option maxRecDepth 100000 in
theorem am_mok_X8_isEmpty : am_MOk mX8_isEmpty 0 := ⟨by decide +kernel, rfl, ⟨by decide +kernel, by decide +kernel⟩, by decide +kernel, by decide, am_t1 _ (List.mem_of_getElem? (i := 12) rfl), am_in (am_t2 _ (List.mem_of_getElem? (i := 190) rfl)) rfl⟩
set_option maxRecDepth 100000 in
theorem am_kd_X8_isEmpty : am_kd mX8_isEmpty 2 := ⟨by decide, am_in (am_t2 _ (List.mem_of_getElem? (i := 188) rfl)) rfl, am_in (am_t2 _ (List.mem_of_getElem? (i := 189) rfl)) rfl⟩
set_option maxRecDepth 100000 in
theorem am_mok_X8_isRowOf : am_MOk mX8_isRowOf 1 := ⟨by decide +kernel, rfl, ⟨by decide +kernel, by decide +kernel⟩, by decide +kernel, by decide, am_t1 _ (List.mem_of_getElem? (i := 12) rfl), am_in (am_t2 _ (List.mem_of_getElem? (i := 198) rfl)) rfl⟩
set_option maxRecDepth 100000 in
theorem am_kd_X8_isRowOf : am_kd mX8_isRowOf 2 := ⟨by decide, am_in (am_t2 _ (List.mem_of_getElem? (i := 196) rfl)) rfl, am_in (am_t2 _ (List.mem_of_getElem? (i := 197) rfl)) rfl⟩
set_option maxRecDepth 100000 in
theorem am_mok_X11_comesFrom : am_MOk mX11_comesFrom 2 := ⟨by decide +kernel, rfl, ⟨by decide +kernel, by decide +kernel⟩, by decide +kernel, by decide, am_t1 _ (List.mem_of_getElem? (i := 1) rfl), am_in (am_t2 _ (List.mem_of_getElem? (i := 202) rfl)) rfl⟩
set_option maxRecDepth 100000 in
theorem am_kd_X11_comesFrom : am_kd mX11_comesFrom 2 := ⟨by decide, am_in (am_t2 _ (List.mem_of_getElem? (i := 201) rfl)) rfl, am_in (am_pv1 _ (List.mem_of_getElem? (i := 1) rfl)) rfl⟩
set_option maxRecDepth 100000 in
theorem am_mok_X5_has : am_MOk mX5_has 2 := ⟨by decide +kernel, rfl, ⟨by decide +kernel, by decide +kernel⟩, by decide +kernel, by decide, am_t1 _ (List.mem_of_getElem? (i := 2) rfl), am_in (am_t2 _ (List.mem_of_getElem? (i := 220) rfl)) rfl⟩
set_option maxRecDepth 100000 in
theorem am_kd_X5_has : am_kd mX5_has 2 := ⟨by decide, am_in (am_t2 _ (List.mem_of_getElem? (i := 218) rfl)) rfl, am_in (am_t2 _ (List.mem_of_getElem? (i := 219) rfl)) rfl⟩
set_option maxRecDepth 100000 in
theorem am_mok_X2_add : am_MOk mX2_add 4 := ⟨by decide +kernel, rfl, ⟨by decide +kernel, by decide +kernel⟩, by decide +kernel, by decide, am_t1 _ (List.mem_of_getElem? (i := 10) rfl), am_in (am_t2 _ (List.mem_of_getElem? (i := 233) rfl)) rfl⟩
set_option maxRecDepth 100000 in
theorem am_kd_X2_add : am_kd mX2_add 2 := ⟨by decide, am_in (am_t2 _ (List.mem_of_getElem? (i := 231) rfl)) rfl, am_in (am_t2 _ (List.mem_of_getElem? (i := 232) rfl)) rfl⟩
set_option maxRecDepth 100000 in
theorem am_mok_X7_take : am_MOk mX7_take 1 := ⟨by decide +kernel, rfl, ⟨by decide +kernel, by decide +kernel⟩, by decide +kernel, by decide, am_t1 _ (List.mem_of_getElem? (i := 3) rfl), am_in (am_t3 _ (List.mem_of_getElem? (i := 10) rfl)) rfl⟩
set_option maxRecDepth 100000 in
theorem am_kd_X7_take : am_kd mX7_take 2 := ⟨by decide, am_in (am_t3 _ (List.mem_of_getElem? (i := 8) rfl)) rfl, am_in (am_t3 _ (List.mem_of_getElem? (i := 9) rfl)) rfl⟩
set_option maxRecDepth 100000 in
theorem am_mok_X7_findFault : am_MOk mX7_findFault 0 := ⟨by decide +kernel, rfl, ⟨by decide +kernel, by decide +kernel⟩, by decide +kernel, by decide, am_t1 _ (List.mem_of_getElem? (i := 3) rfl), am_in (am_t3 _ (List.mem_of_getElem? (i := 19) rfl)) rfl⟩
set_option maxRecDepth 100000 in
theorem am_kd_X7_findFault : am_kd mX7_findFault 2 := ⟨by decide, am_in (am_t3 _ (List.mem_of_getElem? (i := 17) rfl)) rfl, am_in (am_t3 _ (List.mem_of_getElem? (i := 18) rfl)) rfl⟩
set_option maxRecDepth 100000 in
theorem am_mok_X6_become : am_MOk mX6_become 2 := ⟨by decide +kernel, rfl, ⟨by decide +kernel, by decide +kernel⟩, by decide +kernel, by decide, am_t1 _ (List.mem_of_getElem? (i := 4) rfl), am_in (am_t3 _ (List.mem_of_getElem? (i := 55) rfl)) rfl⟩
set_option maxRecDepth 100000 in
theorem am_kd_X6_become : am_kd mX6_become 2 := ⟨by decide, am_in (am_t3 _ (List.mem_of_getElem? (i := 53) rfl)) rfl, am_in (am_t3 _ (List.mem_of_getElem? (i := 54) rfl)) rfl⟩
set_option maxRecDepth 100000 in
theorem am_mok_X7_clear : am_MOk mX7_clear 0 := ⟨by decide +kernel, rfl, ⟨by decide +kernel, by decide +kernel⟩, by decide +kernel, by decide, am_t1 _ (List.mem_of_getElem? (i := 3) rfl), am_in (am_t3 _ (List.mem_of_getElem? (i := 64) rfl)) rfl⟩
set_option maxRecDepth 100000 in
theorem am_kd_X7_clear : am_kd mX7_clear 2 := ⟨by decide, am_in (am_t3 _ (List.mem_of_getElem? (i := 62) rfl)) rfl, am_in (am_t3 _ (List.mem_of_getElem? (i := 63) rfl)) rfl⟩
set_option maxRecDepth 100000 in
theorem am_mok_X11_isTreeMonth : am_MOk mX11_isTreeMonth 1 := ⟨by decide +kernel, rfl, ⟨by decide +kernel, by decide +kernel⟩, by decide +kernel, by decide, am_t1 _ (List.mem_of_getElem? (i := 1) rfl), am_in (am_t3 _ (List.mem_of_getElem? (i := 72) rfl)) rfl⟩
set_option maxRecDepth 100000 in
theorem am_kd_X11_isTreeMonth : am_kd mX11_isTreeMonth 2 := ⟨by decide, am_in (am_t3 _ (List.mem_of_getElem? (i := 71) rfl)) rfl, am_in (am_pv1 _ (List.mem_of_getElem? (i := 10) rfl)) rfl⟩
set_option maxRecDepth 100000 in
theorem am_mok_X11_isTree : am_MOk mX11_isTree 1 := ⟨by decide +kernel, rfl, ⟨by decide +kernel, by decide +kernel⟩, by decide +kernel, by decide, am_t1 _ (List.mem_of_getElem? (i := 1) rfl), am_in (am_t3 _ (List.mem_of_getElem? (i := 76) rfl)) rfl⟩
set_option maxRecDepth 100000 in
theorem am_kd_X11_isTree : am_kd mX11_isTree 2 := ⟨by decide, am_in (am_t3 _ (List.mem_of_getElem? (i := 75) rfl)) rfl, am_in (am_pv1 _ (List.mem_of_getElem? (i := 11) rfl)) rfl⟩
set_option maxRecDepth 100000 in
theorem am_mok_X11_isMonth : am_MOk mX11_isMonth 1 := ⟨by decide +kernel, rfl, ⟨by decide +kernel, by decide +kernel⟩, by decide +kernel, by decide, am_t1 _ (List.mem_of_getElem? (i := 1) rfl), am_in (am_t3 _ (List.mem_of_getElem? (i := 80) rfl)) rfl⟩
set_option maxRecDepth 100000 in
theorem am_kd_X11_isMonth : am_kd mX11_isMonth 2 := ⟨by decide, am_in (am_t3 _ (List.mem_of_getElem? (i := 79) rfl)) rfl, am_in (am_pv1 _ (List.mem_of_getElem? (i := 12) rfl)) rfl⟩
set_option maxRecDepth 100000 in
theorem am_mok_X5_cellsOf : am_MOk mX5_cellsOf 2 := ⟨by decide +kernel, rfl, ⟨by decide +kernel, by decide +kernel⟩, by decide +kernel, by decide, am_t1 _ (List.mem_of_getElem? (i := 2) rfl), am_in (am_t3 _ (List.mem_of_getElem? (i := 108) rfl)) rfl⟩
set_option maxRecDepth 100000 in
theorem am_kd_X5_cellsOf : am_kd mX5_cellsOf 2 := ⟨by decide, am_in (am_t3 _ (List.mem_of_getElem? (i := 106) rfl)) rfl, am_in (am_t3 _ (List.mem_of_getElem? (i := 107) rfl)) rfl⟩
set_option maxRecDepth 100000 in
theorem am_mok_X9_neverFalling : am_MOk mX9_neverFalling 0 := ⟨by decide +kernel, rfl, ⟨by decide +kernel, by decide +kernel⟩, by decide +kernel, by decide, am_t1 _ (List.mem_of_getElem? (i := 6) rfl), am_in (am_t3 _ (List.mem_of_getElem? (i := 182) rfl)) rfl⟩
set_option maxRecDepth 100000 in
theorem am_kd_X9_neverFalling : am_kd mX9_neverFalling 2 := ⟨by decide, am_in (am_t3 _ (List.mem_of_getElem? (i := 180) rfl)) rfl, am_in (am_t3 _ (List.mem_of_getElem? (i := 181) rfl)) rfl⟩
set_option maxRecDepth 100000 in
theorem am_mok_X9_leftBehind : am_MOk mX9_leftBehind 2 := ⟨by decide +kernel, rfl, ⟨by decide +kernel, by decide +kernel⟩, by decide +kernel, by decide, am_t1 _ (List.mem_of_getElem? (i := 6) rfl), am_in (am_t3 _ (List.mem_of_getElem? (i := 209) rfl)) rfl⟩
set_option maxRecDepth 100000 in
theorem am_kd_X9_leftBehind : am_kd mX9_leftBehind 2 := ⟨by decide, am_in (am_t3 _ (List.mem_of_getElem? (i := 207) rfl)) rfl, am_in (am_t3 _ (List.mem_of_getElem? (i := 208) rfl)) rfl⟩
set_option maxRecDepth 100000 in
theorem am_mok_X4_fewestToTurn : am_MOk mX4_fewestToTurn 2 := ⟨by decide +kernel, rfl, ⟨by decide +kernel, by decide +kernel⟩, by decide +kernel, by decide, am_t1 _ (List.mem_of_getElem? (i := 7) rfl), am_in (am_t3 _ (List.mem_of_getElem? (i := 223) rfl)) rfl⟩
set_option maxRecDepth 100000 in
theorem am_kd_X4_fewestToTurn : am_kd mX4_fewestToTurn 2 := ⟨by decide, am_in (am_t3 _ (List.mem_of_getElem? (i := 221) rfl)) rfl, am_in (am_t3 _ (List.mem_of_getElem? (i := 222) rfl)) rfl⟩
set_option maxRecDepth 100000 in
theorem am_mok_X4_hangsOn : am_MOk mX4_hangsOn 2 := ⟨by decide +kernel, rfl, ⟨by decide +kernel, by decide +kernel⟩, by decide +kernel, by decide, am_t1 _ (List.mem_of_getElem? (i := 7) rfl), am_in (am_t3 _ (List.mem_of_getElem? (i := 235) rfl)) rfl⟩
set_option maxRecDepth 100000 in
theorem am_kd_X4_hangsOn : am_kd mX4_hangsOn 2 := ⟨by decide, am_in (am_t3 _ (List.mem_of_getElem? (i := 233) rfl)) rfl, am_in (am_t3 _ (List.mem_of_getElem? (i := 234) rfl)) rfl⟩
set_option maxRecDepth 100000 in
theorem am_mok_X4_powerOf : am_MOk mX4_powerOf 4 := ⟨by decide +kernel, rfl, ⟨by decide +kernel, by decide +kernel⟩, by decide +kernel, by decide, am_t1 _ (List.mem_of_getElem? (i := 7) rfl), am_in (am_t4 _ (List.mem_of_getElem? (i := 5) rfl)) rfl⟩
set_option maxRecDepth 100000 in
theorem am_kd_X4_powerOf : am_kd mX4_powerOf 2 := ⟨by decide, am_in (am_t4 _ (List.mem_of_getElem? (i := 3) rfl)) rfl, am_in (am_t4 _ (List.mem_of_getElem? (i := 4) rfl)) rfl⟩
set_option maxRecDepth 100000 in
theorem am_mok_X4_lessHigh : am_MOk mX4_lessHigh 2 := ⟨by decide +kernel, rfl, ⟨by decide +kernel, by decide +kernel⟩, by decide +kernel, by decide, am_t1 _ (List.mem_of_getElem? (i := 7) rfl), am_in (am_t4 _ (List.mem_of_getElem? (i := 23) rfl)) rfl⟩
set_option maxRecDepth 100000 in
theorem am_kd_X4_lessHigh : am_kd mX4_lessHigh 2 := ⟨by decide, am_in (am_t4 _ (List.mem_of_getElem? (i := 21) rfl)) rfl, am_in (am_t4 _ (List.mem_of_getElem? (i := 22) rfl)) rfl⟩
set_option maxRecDepth 100000 in
theorem am_mok_X4_moreHigh : am_MOk mX4_moreHigh 2 := ⟨by decide +kernel, rfl, ⟨by decide +kernel, by decide +kernel⟩, by decide +kernel, by decide, am_t1 _ (List.mem_of_getElem? (i := 7) rfl), am_in (am_t4 _ (List.mem_of_getElem? (i := 34) rfl)) rfl⟩
set_option maxRecDepth 100000 in
theorem am_kd_X4_moreHigh : am_kd mX4_moreHigh 2 := ⟨by decide, am_in (am_t4 _ (List.mem_of_getElem? (i := 32) rfl)) rfl, am_in (am_t4 _ (List.mem_of_getElem? (i := 33) rfl)) rfl⟩
set_option maxRecDepth 100000 in
theorem am_mok_X4_playTurns : am_MOk mX4_playTurns 3 := ⟨by decide +kernel, rfl, ⟨by decide +kernel, by decide +kernel⟩, by decide +kernel, by decide, am_t1 _ (List.mem_of_getElem? (i := 7) rfl), am_in (am_t4 _ (List.mem_of_getElem? (i := 42) rfl)) rfl⟩
set_option maxRecDepth 100000 in
theorem am_kd_X4_playTurns : am_kd mX4_playTurns 2 := ⟨by decide, am_in (am_t4 _ (List.mem_of_getElem? (i := 40) rfl)) rfl, am_in (am_t4 _ (List.mem_of_getElem? (i := 41) rfl)) rfl⟩
set_option maxRecDepth 100000 in
theorem am_mok_X9_deepestMonth : am_MOk mX9_deepestMonth 1 := ⟨by decide +kernel, rfl, ⟨by decide +kernel, by decide +kernel⟩, by decide +kernel, by decide, am_t1 _ (List.mem_of_getElem? (i := 6) rfl), am_in (am_t4 _ (List.mem_of_getElem? (i := 59) rfl)) rfl⟩
set_option maxRecDepth 100000 in
theorem am_kd_X9_deepestMonth : am_kd mX9_deepestMonth 2 := ⟨by decide, am_in (am_t4 _ (List.mem_of_getElem? (i := 57) rfl)) rfl, am_in (am_t4 _ (List.mem_of_getElem? (i := 58) rfl)) rfl⟩
set_option maxRecDepth 100000 in
theorem am_mok_X9_shadiestOne : am_MOk mX9_shadiestOne 1 := ⟨by decide +kernel, rfl, ⟨by decide +kernel, by decide +kernel⟩, by decide +kernel, by decide, am_t1 _ (List.mem_of_getElem? (i := 6) rfl), am_in (am_t4 _ (List.mem_of_getElem? (i := 69) rfl)) rfl⟩
set_option maxRecDepth 100000 in
theorem am_kd_X9_shadiestOne : am_kd mX9_shadiestOne 2 := ⟨by decide, am_in (am_t4 _ (List.mem_of_getElem? (i := 67) rfl)) rfl, am_in (am_t4 _ (List.mem_of_getElem? (i := 68) rfl)) rfl⟩
set_option maxRecDepth 100000 in
theorem am_mok_X1_firstWrong : am_MOk mX1_firstWrong 2 := ⟨by decide +kernel, rfl, ⟨by decide +kernel, by decide +kernel⟩, by decide +kernel, by decide, am_t1 _ (List.mem_of_getElem? (i := 8) rfl), am_in (am_t4 _ (List.mem_of_getElem? (i := 86) rfl)) rfl⟩
set_option maxRecDepth 100000 in
theorem am_kd_X1_firstWrong : am_kd mX1_firstWrong 2 := ⟨by decide, am_in (am_t4 _ (List.mem_of_getElem? (i := 84) rfl)) rfl, am_in (am_t4 _ (List.mem_of_getElem? (i := 85) rfl)) rfl⟩
set_option maxRecDepth 100000 in
theorem am_mok_X11_refusalOf : am_MOk mX11_refusalOf 1 := ⟨by decide +kernel, rfl, ⟨by decide +kernel, by decide +kernel⟩, by decide +kernel, by decide, am_t1 _ (List.mem_of_getElem? (i := 1) rfl), am_in (am_t4 _ (List.mem_of_getElem? (i := 101) rfl)) rfl⟩
set_option maxRecDepth 100000 in
theorem am_kd_X11_refusalOf : am_kd mX11_refusalOf 1 := am_in (am_t4 _ (List.mem_of_getElem? (i := 100) rfl)) rfl
set_option maxRecDepth 100000 in
theorem am_mok_X1_findWishers : am_MOk mX1_findWishers 2 := ⟨by decide +kernel, rfl, ⟨by decide +kernel, by decide +kernel⟩, by decide +kernel, by decide, am_t1 _ (List.mem_of_getElem? (i := 8) rfl), am_in (am_t4 _ (List.mem_of_getElem? (i := 109) rfl)) rfl⟩
set_option maxRecDepth 100000 in
theorem am_kd_X1_findWishers : am_kd mX1_findWishers 2 := ⟨by decide, am_in (am_t4 _ (List.mem_of_getElem? (i := 107) rfl)) rfl, am_in (am_t4 _ (List.mem_of_getElem? (i := 108) rfl)) rfl⟩
set_option maxRecDepth 100000 in
theorem am_mok_X9_findSeat : am_MOk mX9_findSeat 2 := ⟨by decide +kernel, rfl, ⟨by decide +kernel, by decide +kernel⟩, by decide +kernel, by decide, am_t1 _ (List.mem_of_getElem? (i := 6) rfl), am_in (am_t4 _ (List.mem_of_getElem? (i := 130) rfl)) rfl⟩
set_option maxRecDepth 100000 in
theorem am_kd_X9_findSeat : am_kd mX9_findSeat 2 := ⟨by decide, am_in (am_t4 _ (List.mem_of_getElem? (i := 128) rfl)) rfl, am_in (am_t4 _ (List.mem_of_getElem? (i := 129) rfl)) rfl⟩
set_option maxRecDepth 100000 in
theorem am_mok_X9_sameShade : am_MOk mX9_sameShade 3 := ⟨by decide +kernel, rfl, ⟨by decide +kernel, by decide +kernel⟩, by decide +kernel, by decide, am_t1 _ (List.mem_of_getElem? (i := 6) rfl), am_in (am_t4 _ (List.mem_of_getElem? (i := 142) rfl)) rfl⟩
set_option maxRecDepth 100000 in
theorem am_kd_X9_sameShade : am_kd mX9_sameShade 2 := ⟨by decide, am_in (am_t4 _ (List.mem_of_getElem? (i := 140) rfl)) rfl, am_in (am_t4 _ (List.mem_of_getElem? (i := 141) rfl)) rfl⟩
set_option maxRecDepth 100000 in
theorem am_mok_X9_drawYears : am_MOk mX9_drawYears 4 := ⟨by decide +kernel, rfl, ⟨by decide +kernel, by decide +kernel⟩, by decide +kernel, by decide, am_t1 _ (List.mem_of_getElem? (i := 6) rfl), am_in (am_t4 _ (List.mem_of_getElem? (i := 150) rfl)) rfl⟩
set_option maxRecDepth 100000 in
theorem am_kd_X9_drawYears : am_kd mX9_drawYears 2 := ⟨by decide, am_in (am_t4 _ (List.mem_of_getElem? (i := 148) rfl)) rfl, am_in (am_t4 _ (List.mem_of_getElem? (i := 149) rfl)) rfl⟩
set_option maxRecDepth 100000 in
theorem am_mok_X3_tell : am_MOk mX3_tell 1 := ⟨by decide +kernel, rfl, ⟨by decide +kernel, by decide +kernel⟩, by decide +kernel, by decide, am_t1 _ (List.mem_of_getElem? (i := 9) rfl), am_in (am_t4 _ (List.mem_of_getElem? (i := 162) rfl)) rfl⟩
set_option maxRecDepth 100000 in
theorem am_kd_X3_tell : am_kd mX3_tell 2 := ⟨by decide, am_in (am_t4 _ (List.mem_of_getElem? (i := 160) rfl)) rfl, am_in (am_t4 _ (List.mem_of_getElem? (i := 161) rfl)) rfl⟩
set_option maxRecDepth 100000 in
theorem am_mok_X3_fell : am_MOk mX3_fell 1 := ⟨by decide +kernel, rfl, ⟨by decide +kernel, by decide +kernel⟩, by decide +kernel, by decide, am_t1 _ (List.mem_of_getElem? (i := 9) rfl), am_in (am_t4 _ (List.mem_of_getElem? (i := 167) rfl)) rfl⟩
set_option maxRecDepth 100000 in
theorem am_kd_X3_fell : am_kd mX3_fell 2 := ⟨by decide, am_in (am_t4 _ (List.mem_of_getElem? (i := 165) rfl)) rfl, am_in (am_t4 _ (List.mem_of_getElem? (i := 166) rfl)) rfl⟩
set_option maxRecDepth 100000 in
theorem am_mok_X3_seat : am_MOk mX3_seat 2 := ⟨by decide +kernel, rfl, ⟨by decide +kernel, by decide +kernel⟩, by decide +kernel, by decide, am_t1 _ (List.mem_of_getElem? (i := 9) rfl), am_in (am_t4 _ (List.mem_of_getElem? (i := 183) rfl)) rfl⟩
set_option maxRecDepth 100000 in
theorem am_kd_X3_seat : am_kd mX3_seat 2 := ⟨by decide, am_in (am_t4 _ (List.mem_of_getElem? (i := 181) rfl)) rfl, am_in (am_t4 _ (List.mem_of_getElem? (i := 182) rfl)) rfl⟩
set_option maxRecDepth 100000 in
theorem am_mok_X3_lopOne : am_MOk mX3_lopOne 1 := ⟨by decide +kernel, rfl, ⟨by decide +kernel, by decide +kernel⟩, by decide +kernel, by decide, am_t1 _ (List.mem_of_getElem? (i := 9) rfl), am_in (am_t4 _ (List.mem_of_getElem? (i := 192) rfl)) rfl⟩
set_option maxRecDepth 100000 in
theorem am_kd_X3_lopOne : am_kd mX3_lopOne 2 := ⟨by decide, am_in (am_t4 _ (List.mem_of_getElem? (i := 190) rfl)) rfl, am_in (am_t4 _ (List.mem_of_getElem? (i := 191) rfl)) rfl⟩
set_option maxRecDepth 100000 in
theorem am_mok_X3_keepImage : am_MOk mX3_keepImage 0 := ⟨by decide +kernel, rfl, ⟨by decide +kernel, by decide +kernel⟩, by decide +kernel, by decide, am_t1 _ (List.mem_of_getElem? (i := 9) rfl), am_in (am_t4 _ (List.mem_of_getElem? (i := 205) rfl)) rfl⟩
set_option maxRecDepth 100000 in
theorem am_kd_X3_keepImage : am_kd mX3_keepImage 2 := ⟨by decide, am_in (am_t4 _ (List.mem_of_getElem? (i := 203) rfl)) rfl, am_in (am_t4 _ (List.mem_of_getElem? (i := 204) rfl)) rfl⟩
set_option maxRecDepth 100000 in
theorem am_mok_X3_layBack : am_MOk mX3_layBack 0 := ⟨by decide +kernel, rfl, ⟨by decide +kernel, by decide +kernel⟩, by decide +kernel, by decide, am_t1 _ (List.mem_of_getElem? (i := 9) rfl), am_in (am_t4 _ (List.mem_of_getElem? (i := 213) rfl)) rfl⟩
set_option maxRecDepth 100000 in
theorem am_kd_X3_layBack : am_kd mX3_layBack 2 := ⟨by decide, am_in (am_t4 _ (List.mem_of_getElem? (i := 211) rfl)) rfl, am_in (am_t4 _ (List.mem_of_getElem? (i := 212) rfl)) rfl⟩
set_option maxRecDepth 100000 in
theorem am_mok_X2_takeBack : am_MOk mX2_takeBack 0 := ⟨by decide +kernel, rfl, ⟨by decide +kernel, by decide +kernel⟩, by decide +kernel, by decide, am_t1 _ (List.mem_of_getElem? (i := 10) rfl), am_in (am_t4 _ (List.mem_of_getElem? (i := 221) rfl)) rfl⟩
set_option maxRecDepth 100000 in
theorem am_kd_X2_takeBack : am_kd mX2_takeBack 2 := ⟨by decide, am_in (am_t4 _ (List.mem_of_getElem? (i := 219) rfl)) rfl, am_in (am_t4 _ (List.mem_of_getElem? (i := 220) rfl)) rfl⟩
set_option maxRecDepth 100000 in
theorem am_mok_X2_doAgain : am_MOk mX2_doAgain 0 := ⟨by decide +kernel, rfl, ⟨by decide +kernel, by decide +kernel⟩, by decide +kernel, by decide, am_t1 _ (List.mem_of_getElem? (i := 10) rfl), am_in (am_t4 _ (List.mem_of_getElem? (i := 231) rfl)) rfl⟩
set_option maxRecDepth 100000 in
theorem am_kd_X2_doAgain : am_kd mX2_doAgain 2 := ⟨by decide, am_in (am_t4 _ (List.mem_of_getElem? (i := 229) rfl)) rfl, am_in (am_t4 _ (List.mem_of_getElem? (i := 230) rfl)) rfl⟩
set_option maxRecDepth 100000 in
theorem am_mok_X10_add : am_MOk mX10_add 1 := ⟨by decide +kernel, rfl, ⟨by decide +kernel, by decide +kernel⟩, by decide +kernel, by decide, am_t1 _ (List.mem_of_getElem? (i := 11) rfl), am_in (am_t4 _ (List.mem_of_getElem? (i := 239) rfl)) rfl⟩
set_option maxRecDepth 100000 in
theorem am_kd_X10_add : am_kd mX10_add 2 := ⟨by decide, am_in (am_t4 _ (List.mem_of_getElem? (i := 237) rfl)) rfl, am_in (am_t4 _ (List.mem_of_getElem? (i := 238) rfl)) rfl⟩
set_option maxRecDepth 100000 in
theorem am_mok_X10_start : am_MOk mX10_start 3 := ⟨by decide +kernel, rfl, ⟨by decide +kernel, by decide +kernel⟩, by decide +kernel, by decide, am_t1 _ (List.mem_of_getElem? (i := 11) rfl), am_in (am_t5 _ (List.mem_of_getElem? (i := 8) rfl)) rfl⟩
set_option maxRecDepth 100000 in
theorem am_kd_X10_start : am_kd mX10_start 2 := ⟨by decide, am_in (am_t5 _ (List.mem_of_getElem? (i := 6) rfl)) rfl, am_in (am_t5 _ (List.mem_of_getElem? (i := 7) rfl)) rfl⟩
set_option maxRecDepth 100000 in
theorem am_mok_X10_tracesKept : am_MOk mX10_tracesKept 0 := ⟨by decide +kernel, rfl, ⟨by decide +kernel, by decide +kernel⟩, by decide +kernel, by decide, am_t1 _ (List.mem_of_getElem? (i := 11) rfl), am_in (am_t5 _ (List.mem_of_getElem? (i := 41) rfl)) rfl⟩
set_option maxRecDepth 100000 in
theorem am_kd_X10_tracesKept : am_kd mX10_tracesKept 2 := ⟨by decide, am_in (am_t5 _ (List.mem_of_getElem? (i := 39) rfl)) rfl, am_in (am_t5 _ (List.mem_of_getElem? (i := 40) rfl)) rfl⟩
set_option maxRecDepth 100000 in
theorem am_mok_X10_traceAt : am_MOk mX10_traceAt 1 := ⟨by decide +kernel, rfl, ⟨by decide +kernel, by decide +kernel⟩, by decide +kernel, by decide, am_t1 _ (List.mem_of_getElem? (i := 11) rfl), am_in (am_t5 _ (List.mem_of_getElem? (i := 46) rfl)) rfl⟩
set_option maxRecDepth 100000 in
theorem am_kd_X10_traceAt : am_kd mX10_traceAt 2 := ⟨by decide, am_in (am_t5 _ (List.mem_of_getElem? (i := 44) rfl)) rfl, am_in (am_t5 _ (List.mem_of_getElem? (i := 45) rfl)) rfl⟩
set_option maxRecDepth 100000 in
theorem am_mok_X8_holdVoter : am_MOk mX8_holdVoter 1 := ⟨by decide +kernel, rfl, ⟨by decide +kernel, by decide +kernel⟩, by decide +kernel, by decide, am_t1 _ (List.mem_of_getElem? (i := 12) rfl), am_in (am_t5 _ (List.mem_of_getElem? (i := 54) rfl)) rfl⟩
set_option maxRecDepth 100000 in
theorem am_kd_X8_holdVoter : am_kd mX8_holdVoter 2 := ⟨by decide, am_in (am_t5 _ (List.mem_of_getElem? (i := 52) rfl)) rfl, am_in (am_t5 _ (List.mem_of_getElem? (i := 53) rfl)) rfl⟩
set_option maxRecDepth 100000 in
theorem am_mok_X8_holdRow : am_MOk mX8_holdRow 2 := ⟨by decide +kernel, rfl, ⟨by decide +kernel, by decide +kernel⟩, by decide +kernel, by decide, am_t1 _ (List.mem_of_getElem? (i := 12) rfl), am_in (am_t5 _ (List.mem_of_getElem? (i := 62) rfl)) rfl⟩
set_option maxRecDepth 100000 in
theorem am_kd_X8_holdRow : am_kd mX8_holdRow 2 := ⟨by decide, am_in (am_t5 _ (List.mem_of_getElem? (i := 60) rfl)) rfl, am_in (am_t5 _ (List.mem_of_getElem? (i := 61) rfl)) rfl⟩
set_option maxRecDepth 100000 in
theorem am_mok_X8_write : am_MOk mX8_write 2 := ⟨by decide +kernel, rfl, ⟨by decide +kernel, by decide +kernel⟩, by decide +kernel, by decide, am_t1 _ (List.mem_of_getElem? (i := 12) rfl), am_in (am_t5 _ (List.mem_of_getElem? (i := 71) rfl)) rfl⟩
set_option maxRecDepth 100000 in
theorem am_kd_X8_write : am_kd mX8_write 2 := ⟨by decide, am_in (am_t5 _ (List.mem_of_getElem? (i := 69) rfl)) rfl, am_in (am_t5 _ (List.mem_of_getElem? (i := 70) rfl)) rfl⟩
set_option maxRecDepth 100000 in
theorem am_mok_X8_takeFrom : am_MOk mX8_takeFrom 4 := ⟨by decide +kernel, rfl, ⟨by decide +kernel, by decide +kernel⟩, by decide +kernel, by decide, am_t1 _ (List.mem_of_getElem? (i := 12) rfl), am_in (am_t5 _ (List.mem_of_getElem? (i := 87) rfl)) rfl⟩
set_option maxRecDepth 100000 in
theorem am_kd_X8_takeFrom : am_kd mX8_takeFrom 2 := ⟨by decide, am_in (am_t5 _ (List.mem_of_getElem? (i := 85) rfl)) rfl, am_in (am_t5 _ (List.mem_of_getElem? (i := 86) rfl)) rfl⟩
set_option maxRecDepth 100000 in
theorem am_mok_X10_isUnder : am_MOk mX10_isUnder 2 := ⟨by decide +kernel, rfl, ⟨by decide +kernel, by decide +kernel⟩, by decide +kernel, by decide, am_t1 _ (List.mem_of_getElem? (i := 11) rfl), am_in (am_t5 _ (List.mem_of_getElem? (i := 99) rfl)) rfl⟩
set_option maxRecDepth 100000 in
theorem am_kd_X10_isUnder : am_kd mX10_isUnder 2 := ⟨by decide, am_in (am_t5 _ (List.mem_of_getElem? (i := 97) rfl)) rfl, am_in (am_t5 _ (List.mem_of_getElem? (i := 98) rfl)) rfl⟩
set_option maxRecDepth 100000 in
theorem am_mok_X7_init : am_MOk mX7_init 0 := ⟨by decide +kernel, rfl, ⟨by decide +kernel, by decide +kernel⟩, by decide +kernel, by decide, am_t1 _ (List.mem_of_getElem? (i := 3) rfl), am_in (am_t1 _ (List.mem_of_getElem? (i := 67) rfl)) rfl⟩
set_option maxRecDepth 100000 in
theorem am_kd_X7_init : am_kd mX7_init 0 := ⟨by decide +kernel, am_in (am_t1 _ (List.mem_of_getElem? (i := 66) rfl)) rfl, rfl⟩
set_option maxRecDepth 100000 in
theorem am_mok_X6_init : am_MOk mX6_init 0 := ⟨by decide +kernel, rfl, ⟨by decide +kernel, by decide +kernel⟩, by decide +kernel, by decide, am_t1 _ (List.mem_of_getElem? (i := 4) rfl), am_in (am_t1 _ (List.mem_of_getElem? (i := 92) rfl)) rfl⟩
set_option maxRecDepth 100000 in
theorem am_kd_X6_init : am_kd mX6_init 0 := ⟨by decide +kernel, am_in (am_t1 _ (List.mem_of_getElem? (i := 91) rfl)) rfl, rfl⟩
set_option maxRecDepth 100000 in
theorem am_mok_X10_init : am_MOk mX10_init 0 := ⟨by decide +kernel, rfl, ⟨by decide +kernel, by decide +kernel⟩, by decide +kernel, by decide, am_t1 _ (List.mem_of_getElem? (i := 11) rfl), am_in (am_t2 _ (List.mem_of_getElem? (i := 71) rfl)) rfl⟩
set_option maxRecDepth 100000 in
theorem am_kd_X10_init : am_kd mX10_init 0 := ⟨by decide +kernel, am_in (am_t2 _ (List.mem_of_getElem? (i := 70) rfl)) rfl, rfl⟩
set_option maxRecDepth 100000 in
theorem am_mok_X8_init : am_MOk mX8_init 0 := ⟨by decide +kernel, rfl, ⟨by decide +kernel, by decide +kernel⟩, by decide +kernel, by decide, am_t1 _ (List.mem_of_getElem? (i := 12) rfl), am_in (am_t2 _ (List.mem_of_getElem? (i := 93) rfl)) rfl⟩
set_option maxRecDepth 100000 in
theorem am_kd_X8_init : am_kd mX8_init 0 := ⟨by decide +kernel, am_in (am_t2 _ (List.mem_of_getElem? (i := 92) rfl)) rfl, rfl⟩
set_option maxRecDepth 100000 in
theorem am_mok_X12_isCell : am_MOk mX12_isCell 1 := ⟨by decide +kernel, rfl, ⟨by decide +kernel, by decide +kernel⟩, by decide +kernel, by decide, am_t1 _ (List.mem_of_getElem? (i := 13) rfl), am_in (am_t6 _ (List.mem_of_getElem? (i := 2) rfl)) rfl⟩
set_option maxRecDepth 100000 in
theorem am_kd_X12_isCell : am_kd mX12_isCell 1 := am_in (am_t6 _ (List.mem_of_getElem? (i := 1) rfl)) rfl
set_option maxRecDepth 100000 in
theorem am_mok_X12_within : am_MOk mX12_within 3 := ⟨by decide +kernel, rfl, ⟨by decide +kernel, by decide +kernel⟩, by decide +kernel, by decide, am_t1 _ (List.mem_of_getElem? (i := 13) rfl), am_in (am_t6 _ (List.mem_of_getElem? (i := 6) rfl)) rfl⟩
set_option maxRecDepth 100000 in
theorem am_kd_X12_within : am_kd mX12_within 1 := am_in (am_t6 _ (List.mem_of_getElem? (i := 5) rfl)) rfl
set_option maxRecDepth 100000 in
theorem am_mok_X12_adds : am_MOk mX12_adds 3 := ⟨by decide +kernel, rfl, ⟨by decide +kernel, by decide +kernel⟩, by decide +kernel, by decide, am_t1 _ (List.mem_of_getElem? (i := 13) rfl), am_in (am_t6 _ (List.mem_of_getElem? (i := 16) rfl)) rfl⟩
set_option maxRecDepth 100000 in
theorem am_kd_X12_adds : am_kd mX12_adds 2 := ⟨by decide, am_in (am_t6 _ (List.mem_of_getElem? (i := 15) rfl)) rfl, am_in (am_pv2 _ (List.mem_of_getElem? (i := 12) rfl)) rfl⟩
set_option maxRecDepth 100000 in
theorem am_mok_X12_isShelf : am_MOk mX12_isShelf 1 := ⟨by decide +kernel, rfl, ⟨by decide +kernel, by decide +kernel⟩, by decide +kernel, by decide, am_t1 _ (List.mem_of_getElem? (i := 13) rfl), am_in (am_t6 _ (List.mem_of_getElem? (i := 23) rfl)) rfl⟩
set_option maxRecDepth 100000 in
theorem am_kd_X12_isShelf : am_kd mX12_isShelf 1 := am_in (am_t6 _ (List.mem_of_getElem? (i := 22) rfl)) rfl
set_option maxRecDepth 100000 in
theorem am_mok_X12_placeOf : am_MOk mX12_placeOf 2 := ⟨by decide +kernel, rfl, ⟨by decide +kernel, by decide +kernel⟩, by decide +kernel, by decide, am_t1 _ (List.mem_of_getElem? (i := 13) rfl), am_in (am_t6 _ (List.mem_of_getElem? (i := 34) rfl)) rfl⟩
set_option maxRecDepth 100000 in
theorem am_kd_X12_placeOf : am_kd mX12_placeOf 2 := ⟨by decide, am_in (am_t6 _ (List.mem_of_getElem? (i := 33) rfl)) rfl, am_in (am_pv2 _ (List.mem_of_getElem? (i := 13) rfl)) rfl⟩
set_option maxRecDepth 100000 in
theorem am_mok_X12_isTree : am_MOk mX12_isTree 1 := ⟨by decide +kernel, rfl, ⟨by decide +kernel, by decide +kernel⟩, by decide +kernel, by decide, am_t1 _ (List.mem_of_getElem? (i := 13) rfl), am_in (am_t6 _ (List.mem_of_getElem? (i := 38) rfl)) rfl⟩
set_option maxRecDepth 100000 in
theorem am_kd_X12_isTree : am_kd mX12_isTree 2 := ⟨by decide, am_in (am_t6 _ (List.mem_of_getElem? (i := 37) rfl)) rfl, am_in (am_pv2 _ (List.mem_of_getElem? (i := 14) rfl)) rfl⟩
set_option maxRecDepth 100000 in
theorem am_mok_X12_isMonth : am_MOk mX12_isMonth 1 := ⟨by decide +kernel, rfl, ⟨by decide +kernel, by decide +kernel⟩, by decide +kernel, by decide, am_t1 _ (List.mem_of_getElem? (i := 13) rfl), am_in (am_t6 _ (List.mem_of_getElem? (i := 41) rfl)) rfl⟩
set_option maxRecDepth 100000 in
theorem am_kd_X12_isMonth : am_kd mX12_isMonth 1 := am_in (am_t6 _ (List.mem_of_getElem? (i := 40) rfl)) rfl
set_option maxRecDepth 100000 in
theorem am_mok_X12_isOne : am_MOk mX12_isOne 1 := ⟨by decide +kernel, rfl, ⟨by decide +kernel, by decide +kernel⟩, by decide +kernel, by decide, am_t1 _ (List.mem_of_getElem? (i := 13) rfl), am_in (am_t6 _ (List.mem_of_getElem? (i := 46) rfl)) rfl⟩
set_option maxRecDepth 100000 in
theorem am_kd_X12_isOne : am_kd mX12_isOne 2 := ⟨by decide, am_in (am_t6 _ (List.mem_of_getElem? (i := 45) rfl)) rfl, am_in (am_pv2 _ (List.mem_of_getElem? (i := 15) rfl)) rfl⟩
set_option maxRecDepth 100000 in
theorem am_mok_X12_mayBecome : am_MOk mX12_mayBecome 2 := ⟨by decide +kernel, rfl, ⟨by decide +kernel, by decide +kernel⟩, by decide +kernel, by decide, am_t1 _ (List.mem_of_getElem? (i := 13) rfl), am_in (am_t6 _ (List.mem_of_getElem? (i := 49) rfl)) rfl⟩
set_option maxRecDepth 100000 in
theorem am_kd_X12_mayBecome : am_kd mX12_mayBecome 1 := am_in (am_t6 _ (List.mem_of_getElem? (i := 48) rfl)) rfl
set_option maxRecDepth 100000 in
theorem am_mok_X12_becomes : am_MOk mX12_becomes 2 := ⟨by decide +kernel, rfl, ⟨by decide +kernel, by decide +kernel⟩, by decide +kernel, by decide, am_t1 _ (List.mem_of_getElem? (i := 13) rfl), am_in (am_t6 _ (List.mem_of_getElem? (i := 53) rfl)) rfl⟩
set_option maxRecDepth 100000 in
theorem am_kd_X12_becomes : am_kd mX12_becomes 2 := ⟨by decide, am_in (am_t6 _ (List.mem_of_getElem? (i := 52) rfl)) rfl, am_in (am_pv3 _ (List.mem_of_getElem? (i := 0) rfl)) rfl⟩
set_option maxRecDepth 100000 in
theorem am_mok_X12_workOut : am_MOk mX12_workOut 2 := ⟨by decide +kernel, rfl, ⟨by decide +kernel, by decide +kernel⟩, by decide +kernel, by decide, am_t1 _ (List.mem_of_getElem? (i := 13) rfl), am_in (am_t6 _ (List.mem_of_getElem? (i := 69) rfl)) rfl⟩
set_option maxRecDepth 100000 in
theorem am_kd_X12_workOut : am_kd mX12_workOut 2 := ⟨by decide, am_in (am_t6 _ (List.mem_of_getElem? (i := 68) rfl)) rfl, am_in (am_pv3 _ (List.mem_of_getElem? (i := 1) rfl)) rfl⟩
set_option maxRecDepth 100000 in
theorem am_mok_X12_either : am_MOk mX12_either 0 := ⟨by decide +kernel, rfl, ⟨by decide +kernel, by decide +kernel⟩, by decide +kernel, by decide, am_t1 _ (List.mem_of_getElem? (i := 13) rfl), am_in (am_t6 _ (List.mem_of_getElem? (i := 73) rfl)) rfl⟩
set_option maxRecDepth 100000 in
theorem am_kd_X12_either : am_kd mX12_either 2 := ⟨by decide, am_in (am_t6 _ (List.mem_of_getElem? (i := 72) rfl)) rfl, am_in (am_pv3 _ (List.mem_of_getElem? (i := 2) rfl)) rfl⟩
set_option maxRecDepth 100000 in
theorem am_mok_X12_both : am_MOk mX12_both 0 := ⟨by decide +kernel, rfl, ⟨by decide +kernel, by decide +kernel⟩, by decide +kernel, by decide, am_t1 _ (List.mem_of_getElem? (i := 13) rfl), am_in (am_t6 _ (List.mem_of_getElem? (i := 77) rfl)) rfl⟩
set_option maxRecDepth 100000 in
theorem am_kd_X12_both : am_kd mX12_both 2 := ⟨by decide, am_in (am_t6 _ (List.mem_of_getElem? (i := 76) rfl)) rfl, am_in (am_pv3 _ (List.mem_of_getElem? (i := 3) rfl)) rfl⟩
set_option maxRecDepth 100000 in
theorem am_mok_X12_compared : am_MOk mX12_compared 0 := ⟨by decide +kernel, rfl, ⟨by decide +kernel, by decide +kernel⟩, by decide +kernel, by decide, am_t1 _ (List.mem_of_getElem? (i := 13) rfl), am_in (am_t6 _ (List.mem_of_getElem? (i := 81) rfl)) rfl⟩
set_option maxRecDepth 100000 in
theorem am_kd_X12_compared : am_kd mX12_compared 2 := ⟨by decide, am_in (am_t6 _ (List.mem_of_getElem? (i := 80) rfl)) rfl, am_in (am_pv3 _ (List.mem_of_getElem? (i := 4) rfl)) rfl⟩
set_option maxRecDepth 100000 in
theorem am_mok_X12_sums : am_MOk mX12_sums 0 := ⟨by decide +kernel, rfl, ⟨by decide +kernel, by decide +kernel⟩, by decide +kernel, by decide, am_t1 _ (List.mem_of_getElem? (i := 13) rfl), am_in (am_t6 _ (List.mem_of_getElem? (i := 85) rfl)) rfl⟩
set_option maxRecDepth 100000 in
theorem am_kd_X12_sums : am_kd mX12_sums 2 := ⟨by decide, am_in (am_t6 _ (List.mem_of_getElem? (i := 84) rfl)) rfl, am_in (am_pv3 _ (List.mem_of_getElem? (i := 5) rfl)) rfl⟩
set_option maxRecDepth 100000 in
theorem am_mok_X12_product : am_MOk mX12_product 0 := ⟨by decide +kernel, rfl, ⟨by decide +kernel, by decide +kernel⟩, by decide +kernel, by decide, am_t1 _ (List.mem_of_getElem? (i := 13) rfl), am_in (am_t6 _ (List.mem_of_getElem? (i := 89) rfl)) rfl⟩
set_option maxRecDepth 100000 in
theorem am_kd_X12_product : am_kd mX12_product 2 := ⟨by decide, am_in (am_t6 _ (List.mem_of_getElem? (i := 88) rfl)) rfl, am_in (am_pv3 _ (List.mem_of_getElem? (i := 6) rfl)) rfl⟩
set_option maxRecDepth 100000 in
theorem am_mok_X12_one : am_MOk mX12_one 0 := ⟨by decide +kernel, rfl, ⟨by decide +kernel, by decide +kernel⟩, by decide +kernel, by decide, am_t1 _ (List.mem_of_getElem? (i := 13) rfl), am_in (am_t6 _ (List.mem_of_getElem? (i := 93) rfl)) rfl⟩
set_option maxRecDepth 100000 in
theorem am_kd_X12_one : am_kd mX12_one 2 := ⟨by decide, am_in (am_t6 _ (List.mem_of_getElem? (i := 92) rfl)) rfl, am_in (am_pv3 _ (List.mem_of_getElem? (i := 7) rfl)) rfl⟩
set_option maxRecDepth 100000 in
theorem am_mok_X12_byteAt : am_MOk mX12_byteAt 0 := ⟨by decide +kernel, rfl, ⟨by decide +kernel, by decide +kernel⟩, by decide +kernel, by decide, am_t1 _ (List.mem_of_getElem? (i := 13) rfl), am_in (am_t6 _ (List.mem_of_getElem? (i := 97) rfl)) rfl⟩
set_option maxRecDepth 100000 in
theorem am_kd_X12_byteAt : am_kd mX12_byteAt 2 := ⟨by decide, am_in (am_t6 _ (List.mem_of_getElem? (i := 96) rfl)) rfl, am_in (am_pv3 _ (List.mem_of_getElem? (i := 8) rfl)) rfl⟩
set_option maxRecDepth 100000 in
theorem am_mok_X12_wrong : am_MOk mX12_wrong 0 := ⟨by decide +kernel, rfl, ⟨by decide +kernel, by decide +kernel⟩, by decide +kernel, by decide, am_t1 _ (List.mem_of_getElem? (i := 13) rfl), am_in (am_t6 _ (List.mem_of_getElem? (i := 101) rfl)) rfl⟩
set_option maxRecDepth 100000 in
theorem am_kd_X12_wrong : am_kd mX12_wrong 2 := ⟨by decide, am_in (am_t6 _ (List.mem_of_getElem? (i := 100) rfl)) rfl, am_in (am_pv3 _ (List.mem_of_getElem? (i := 9) rfl)) rfl⟩
set_option maxRecDepth 100000 in
theorem am_mok_X12_takes : am_MOk mX12_takes 1 := ⟨by decide +kernel, rfl, ⟨by decide +kernel, by decide +kernel⟩, by decide +kernel, by decide, am_t1 _ (List.mem_of_getElem? (i := 13) rfl), am_in (am_t6 _ (List.mem_of_getElem? (i := 105) rfl)) rfl⟩
set_option maxRecDepth 100000 in
theorem am_kd_X12_takes : am_kd mX12_takes 2 := ⟨by decide, am_in (am_t6 _ (List.mem_of_getElem? (i := 104) rfl)) rfl, am_in (am_pv3 _ (List.mem_of_getElem? (i := 10) rfl)) rfl⟩
set_option maxRecDepth 100000 in
theorem am_mok_X12_nameOf : am_MOk mX12_nameOf 1 := ⟨by decide +kernel, rfl, ⟨by decide +kernel, by decide +kernel⟩, by decide +kernel, by decide, am_t1 _ (List.mem_of_getElem? (i := 13) rfl), am_in (am_t6 _ (List.mem_of_getElem? (i := 108) rfl)) rfl⟩
set_option maxRecDepth 100000 in
theorem am_kd_X12_nameOf : am_kd mX12_nameOf 1 := am_in (am_t6 _ (List.mem_of_getElem? (i := 107) rfl)) rfl
set_option maxRecDepth 100000 in
theorem am_mok_X12_isTm : am_MOk mX12_isTm 1 := ⟨by decide +kernel, rfl, ⟨by decide +kernel, by decide +kernel⟩, by decide +kernel, by decide, am_t1 _ (List.mem_of_getElem? (i := 13) rfl), am_in (am_t6 _ (List.mem_of_getElem? (i := 116) rfl)) rfl⟩
set_option maxRecDepth 100000 in
theorem am_kd_X12_isTm : am_kd mX12_isTm 2 := ⟨by decide, am_in (am_t6 _ (List.mem_of_getElem? (i := 115) rfl)) rfl, am_in (am_pv3 _ (List.mem_of_getElem? (i := 11) rfl)) rfl⟩
set_option maxRecDepth 100000 in
theorem am_mok_X12_sittersNow : am_MOk mX12_sittersNow 2 := ⟨by decide +kernel, rfl, ⟨by decide +kernel, by decide +kernel⟩, by decide +kernel, by decide, am_t1 _ (List.mem_of_getElem? (i := 13) rfl), am_in (am_t6 _ (List.mem_of_getElem? (i := 120) rfl)) rfl⟩
set_option maxRecDepth 100000 in
theorem am_kd_X12_sittersNow : am_kd mX12_sittersNow 2 := ⟨by decide, am_in (am_t6 _ (List.mem_of_getElem? (i := 119) rfl)) rfl, am_in (am_pv3 _ (List.mem_of_getElem? (i := 12) rfl)) rfl⟩
set_option maxRecDepth 100000 in
theorem am_mok_X12_isIn : am_MOk mX12_isIn 2 := ⟨by decide +kernel, rfl, ⟨by decide +kernel, by decide +kernel⟩, by decide +kernel, by decide, am_t1 _ (List.mem_of_getElem? (i := 13) rfl), am_in (am_t6 _ (List.mem_of_getElem? (i := 123) rfl)) rfl⟩
set_option maxRecDepth 100000 in
theorem am_kd_X12_isIn : am_kd mX12_isIn 1 := am_in (am_t6 _ (List.mem_of_getElem? (i := 122) rfl)) rfl
set_option maxRecDepth 100000 in
theorem am_mok_X12_sittersIn : am_MOk mX12_sittersIn 2 := ⟨by decide +kernel, rfl, ⟨by decide +kernel, by decide +kernel⟩, by decide +kernel, by decide, am_t1 _ (List.mem_of_getElem? (i := 13) rfl), am_in (am_t6 _ (List.mem_of_getElem? (i := 127) rfl)) rfl⟩
set_option maxRecDepth 100000 in
theorem am_kd_X12_sittersIn : am_kd mX12_sittersIn 2 := ⟨by decide, am_in (am_t6 _ (List.mem_of_getElem? (i := 126) rfl)) rfl, am_in (am_pv3 _ (List.mem_of_getElem? (i := 13) rfl)) rfl⟩
set_option maxRecDepth 100000 in
theorem am_mok_X12_isShaded : am_MOk mX12_isShaded 3 := ⟨by decide +kernel, rfl, ⟨by decide +kernel, by decide +kernel⟩, by decide +kernel, by decide, am_t1 _ (List.mem_of_getElem? (i := 13) rfl), am_in (am_t6 _ (List.mem_of_getElem? (i := 131) rfl)) rfl⟩
set_option maxRecDepth 100000 in
theorem am_kd_X12_isShaded : am_kd mX12_isShaded 2 := ⟨by decide, am_in (am_t6 _ (List.mem_of_getElem? (i := 130) rfl)) rfl, am_in (am_pv3 _ (List.mem_of_getElem? (i := 14) rfl)) rfl⟩
set_option maxRecDepth 100000 in
theorem am_mok_X12_rowsOf : am_MOk mX12_rowsOf 2 := ⟨by decide +kernel, rfl, ⟨by decide +kernel, by decide +kernel⟩, by decide +kernel, by decide, am_t1 _ (List.mem_of_getElem? (i := 13) rfl), am_in (am_t6 _ (List.mem_of_getElem? (i := 135) rfl)) rfl⟩
set_option maxRecDepth 100000 in
theorem am_kd_X12_rowsOf : am_kd mX12_rowsOf 2 := ⟨by decide, am_in (am_t6 _ (List.mem_of_getElem? (i := 134) rfl)) rfl, am_in (am_pv3 _ (List.mem_of_getElem? (i := 15) rfl)) rfl⟩
set_option maxRecDepth 100000 in
theorem am_mok_X12_wishers : am_MOk mX12_wishers 1 := ⟨by decide +kernel, rfl, ⟨by decide +kernel, by decide +kernel⟩, by decide +kernel, by decide, am_t1 _ (List.mem_of_getElem? (i := 13) rfl), am_in (am_t6 _ (List.mem_of_getElem? (i := 143) rfl)) rfl⟩
set_option maxRecDepth 100000 in
theorem am_kd_X12_wishers : am_kd mX12_wishers 2 := ⟨by decide, am_in (am_t6 _ (List.mem_of_getElem? (i := 142) rfl)) rfl, am_in (am_pv4 _ (List.mem_of_getElem? (i := 0) rfl)) rfl⟩
set_option maxRecDepth 100000 in
theorem am_mok_X12_sumOf : am_MOk mX12_sumOf 4 := ⟨by decide +kernel, rfl, ⟨by decide +kernel, by decide +kernel⟩, by decide +kernel, by decide, am_t1 _ (List.mem_of_getElem? (i := 13) rfl), am_in (am_t6 _ (List.mem_of_getElem? (i := 147) rfl)) rfl⟩
set_option maxRecDepth 100000 in
theorem am_kd_X12_sumOf : am_kd mX12_sumOf 2 := ⟨by decide, am_in (am_t6 _ (List.mem_of_getElem? (i := 146) rfl)) rfl, am_in (am_pv4 _ (List.mem_of_getElem? (i := 1) rfl)) rfl⟩
set_option maxRecDepth 100000 in
theorem am_mok_X12_bitsOf : am_MOk mX12_bitsOf 1 := ⟨by decide +kernel, rfl, ⟨by decide +kernel, by decide +kernel⟩, by decide +kernel, by decide, am_t1 _ (List.mem_of_getElem? (i := 13) rfl), am_in (am_t6 _ (List.mem_of_getElem? (i := 150) rfl)) rfl⟩
set_option maxRecDepth 100000 in
theorem am_kd_X12_bitsOf : am_kd mX12_bitsOf 1 := am_in (am_t6 _ (List.mem_of_getElem? (i := 149) rfl)) rfl
set_option maxRecDepth 100000 in
theorem am_mok_X12_countsOf : am_MOk mX12_countsOf 4 := ⟨by decide +kernel, rfl, ⟨by decide +kernel, by decide +kernel⟩, by decide +kernel, by decide, am_t1 _ (List.mem_of_getElem? (i := 13) rfl), am_in (am_t6 _ (List.mem_of_getElem? (i := 154) rfl)) rfl⟩
set_option maxRecDepth 100000 in
theorem am_kd_X12_countsOf : am_kd mX12_countsOf 2 := ⟨by decide, am_in (am_t6 _ (List.mem_of_getElem? (i := 153) rfl)) rfl, am_in (am_pv4 _ (List.mem_of_getElem? (i := 2) rfl)) rfl⟩
set_option maxRecDepth 100000 in
theorem am_mok_X12_fallsNow : am_MOk mX12_fallsNow 2 := ⟨by decide +kernel, rfl, ⟨by decide +kernel, by decide +kernel⟩, by decide +kernel, by decide, am_t1 _ (List.mem_of_getElem? (i := 13) rfl), am_in (am_t6 _ (List.mem_of_getElem? (i := 158) rfl)) rfl⟩
set_option maxRecDepth 100000 in
theorem am_kd_X12_fallsNow : am_kd mX12_fallsNow 2 := ⟨by decide, am_in (am_t6 _ (List.mem_of_getElem? (i := 157) rfl)) rfl, am_in (am_pv4 _ (List.mem_of_getElem? (i := 3) rfl)) rfl⟩
set_option maxRecDepth 100000 in
theorem am_mok_X12_doesFall : am_MOk mX12_doesFall 4 := ⟨by decide +kernel, rfl, ⟨by decide +kernel, by decide +kernel⟩, by decide +kernel, by decide, am_t1 _ (List.mem_of_getElem? (i := 13) rfl), am_in (am_t6 _ (List.mem_of_getElem? (i := 162) rfl)) rfl⟩
set_option maxRecDepth 100000 in
theorem am_kd_X12_doesFall : am_kd mX12_doesFall 2 := ⟨by decide, am_in (am_t6 _ (List.mem_of_getElem? (i := 161) rfl)) rfl, am_in (am_pv4 _ (List.mem_of_getElem? (i := 4) rfl)) rfl⟩
set_option maxRecDepth 100000 in
theorem am_mok_X12_isShadedNow : am_MOk mX12_isShadedNow 3 := ⟨by decide +kernel, rfl, ⟨by decide +kernel, by decide +kernel⟩, by decide +kernel, by decide, am_t1 _ (List.mem_of_getElem? (i := 13) rfl), am_in (am_t6 _ (List.mem_of_getElem? (i := 166) rfl)) rfl⟩
set_option maxRecDepth 100000 in
theorem am_kd_X12_isShadedNow : am_kd mX12_isShadedNow 2 := ⟨by decide, am_in (am_t6 _ (List.mem_of_getElem? (i := 165) rfl)) rfl, am_in (am_pv4 _ (List.mem_of_getElem? (i := 5) rfl)) rfl⟩
set_option maxRecDepth 100000 in
theorem am_mok_X12_fallIn : am_MOk mX12_fallIn 1 := ⟨by decide +kernel, rfl, ⟨by decide +kernel, by decide +kernel⟩, by decide +kernel, by decide, am_t1 _ (List.mem_of_getElem? (i := 13) rfl), am_in (am_t6 _ (List.mem_of_getElem? (i := 175) rfl)) rfl⟩
set_option maxRecDepth 100000 in
theorem am_kd_X12_fallIn : am_kd mX12_fallIn 2 := ⟨by decide, am_in (am_t6 _ (List.mem_of_getElem? (i := 174) rfl)) rfl, am_in (am_pv4 _ (List.mem_of_getElem? (i := 6) rfl)) rfl⟩
set_option maxRecDepth 100000 in
theorem am_mok_X12_everybody : am_MOk mX12_everybody 0 := ⟨by decide +kernel, rfl, ⟨by decide +kernel, by decide +kernel⟩, by decide +kernel, by decide, am_t1 _ (List.mem_of_getElem? (i := 13) rfl), am_in (am_t6 _ (List.mem_of_getElem? (i := 192) rfl)) rfl⟩
set_option maxRecDepth 100000 in
theorem am_kd_X12_everybody : am_kd mX12_everybody 2 := ⟨by decide, am_in (am_t6 _ (List.mem_of_getElem? (i := 191) rfl)) rfl, am_in (am_pv4 _ (List.mem_of_getElem? (i := 7) rfl)) rfl⟩
set_option maxRecDepth 100000 in
theorem am_mok_X12_common : am_MOk mX12_common 2 := ⟨by decide +kernel, rfl, ⟨by decide +kernel, by decide +kernel⟩, by decide +kernel, by decide, am_t1 _ (List.mem_of_getElem? (i := 13) rfl), am_in (am_t6 _ (List.mem_of_getElem? (i := 204) rfl)) rfl⟩
set_option maxRecDepth 100000 in
theorem am_kd_X12_common : am_kd mX12_common 1 := am_in (am_t6 _ (List.mem_of_getElem? (i := 203) rfl)) rfl
set_option maxRecDepth 100000 in
theorem am_mok_X12_fallsFrom : am_MOk mX12_fallsFrom 5 := ⟨by decide +kernel, rfl, ⟨by decide +kernel, by decide +kernel⟩, by decide +kernel, by decide, am_t1 _ (List.mem_of_getElem? (i := 13) rfl), am_in (am_t6 _ (List.mem_of_getElem? (i := 217) rfl)) rfl⟩
set_option maxRecDepth 100000 in
theorem am_kd_X12_fallsFrom : am_kd mX12_fallsFrom 2 := ⟨by decide, am_in (am_t6 _ (List.mem_of_getElem? (i := 216) rfl)) rfl, am_in (am_pv4 _ (List.mem_of_getElem? (i := 8) rfl)) rfl⟩
set_option maxRecDepth 100000 in
theorem am_mok_X12_bytesIs : am_MOk mX12_bytesIs 1 := ⟨by decide +kernel, rfl, ⟨by decide +kernel, by decide +kernel⟩, by decide +kernel, by decide, am_t1 _ (List.mem_of_getElem? (i := 13) rfl), am_in (am_t6 _ (List.mem_of_getElem? (i := 233) rfl)) rfl⟩
set_option maxRecDepth 100000 in
theorem am_kd_X12_bytesIs : am_kd mX12_bytesIs 2 := ⟨by decide, am_in (am_t6 _ (List.mem_of_getElem? (i := 232) rfl)) rfl, am_in (am_pv4 _ (List.mem_of_getElem? (i := 9) rfl)) rfl⟩
set_option maxRecDepth 100000 in
theorem am_mok_X12_firstFalse : am_MOk mX12_firstFalse 3 := ⟨by decide +kernel, rfl, ⟨by decide +kernel, by decide +kernel⟩, by decide +kernel, by decide, am_t1 _ (List.mem_of_getElem? (i := 13) rfl), am_in (am_t6 _ (List.mem_of_getElem? (i := 237) rfl)) rfl⟩
set_option maxRecDepth 100000 in
theorem am_kd_X12_firstFalse : am_kd mX12_firstFalse 2 := ⟨by decide, am_in (am_t6 _ (List.mem_of_getElem? (i := 236) rfl)) rfl, am_in (am_pv4 _ (List.mem_of_getElem? (i := 10) rfl)) rfl⟩
set_option maxRecDepth 100000 in
theorem am_mok_X12_standsIn : am_MOk mX12_standsIn 1 := ⟨by decide +kernel, rfl, ⟨by decide +kernel, by decide +kernel⟩, by decide +kernel, by decide, am_t1 _ (List.mem_of_getElem? (i := 13) rfl), am_in (am_t7 _ (List.mem_of_getElem? (i := 10) rfl)) rfl⟩
set_option maxRecDepth 100000 in
theorem am_kd_X12_standsIn : am_kd mX12_standsIn 2 := ⟨by decide, am_in (am_t7 _ (List.mem_of_getElem? (i := 9) rfl)) rfl, am_in (am_pv4 _ (List.mem_of_getElem? (i := 11) rfl)) rfl⟩
set_option maxRecDepth 100000 in
theorem am_mok_X12_isBody : am_MOk mX12_isBody 1 := ⟨by decide +kernel, rfl, ⟨by decide +kernel, by decide +kernel⟩, by decide +kernel, by decide, am_t1 _ (List.mem_of_getElem? (i := 13) rfl), am_in (am_t7 _ (List.mem_of_getElem? (i := 57) rfl)) rfl⟩
set_option maxRecDepth 100000 in
theorem am_kd_X12_isBody : am_kd mX12_isBody 2 := ⟨by decide, am_in (am_t7 _ (List.mem_of_getElem? (i := 56) rfl)) rfl, am_in (am_pv4 _ (List.mem_of_getElem? (i := 12) rfl)) rfl⟩
set_option maxRecDepth 100000 in
theorem am_mok_X12_sitsAs : am_MOk mX12_sitsAs 2 := ⟨by decide +kernel, rfl, ⟨by decide +kernel, by decide +kernel⟩, by decide +kernel, by decide, am_t1 _ (List.mem_of_getElem? (i := 13) rfl), am_in (am_t7 _ (List.mem_of_getElem? (i := 61) rfl)) rfl⟩
set_option maxRecDepth 100000 in
theorem am_kd_X12_sitsAs : am_kd mX12_sitsAs 2 := ⟨by decide, am_in (am_t7 _ (List.mem_of_getElem? (i := 60) rfl)) rfl, am_in (am_pv4 _ (List.mem_of_getElem? (i := 13) rfl)) rfl⟩
set_option maxRecDepth 100000 in
theorem am_mok_X12_runs : am_MOk mX12_runs 1 := ⟨by decide +kernel, rfl, ⟨by decide +kernel, by decide +kernel⟩, by decide +kernel, by decide, am_t1 _ (List.mem_of_getElem? (i := 13) rfl), am_in (am_t7 _ (List.mem_of_getElem? (i := 65) rfl)) rfl⟩
set_option maxRecDepth 100000 in
theorem am_kd_X12_runs : am_kd mX12_runs 2 := ⟨by decide, am_in (am_t7 _ (List.mem_of_getElem? (i := 64) rfl)) rfl, am_in (am_pv4 _ (List.mem_of_getElem? (i := 14) rfl)) rfl⟩
set_option maxRecDepth 100000 in
theorem am_mok_X12_votesAs : am_MOk mX12_votesAs 2 := ⟨by decide +kernel, rfl, ⟨by decide +kernel, by decide +kernel⟩, by decide +kernel, by decide, am_t1 _ (List.mem_of_getElem? (i := 13) rfl), am_in (am_t7 _ (List.mem_of_getElem? (i := 69) rfl)) rfl⟩
set_option maxRecDepth 100000 in
theorem am_kd_X12_votesAs : am_kd mX12_votesAs 2 := ⟨by decide, am_in (am_t7 _ (List.mem_of_getElem? (i := 68) rfl)) rfl, am_in (am_pv4 _ (List.mem_of_getElem? (i := 15) rfl)) rfl⟩
set_option maxRecDepth 100000 in
theorem am_mok_X12_movesAs : am_MOk mX12_movesAs 2 := ⟨by decide +kernel, rfl, ⟨by decide +kernel, by decide +kernel⟩, by decide +kernel, by decide, am_t1 _ (List.mem_of_getElem? (i := 13) rfl), am_in (am_t7 _ (List.mem_of_getElem? (i := 73) rfl)) rfl⟩
set_option maxRecDepth 100000 in
theorem am_kd_X12_movesAs : am_kd mX12_movesAs 2 := ⟨by decide, am_in (am_t7 _ (List.mem_of_getElem? (i := 72) rfl)) rfl, am_in (am_pv5 _ (List.mem_of_getElem? (i := 0) rfl)) rfl⟩
set_option maxRecDepth 100000 in
theorem am_mok_X12_tellsAs : am_MOk mX12_tellsAs 2 := ⟨by decide +kernel, rfl, ⟨by decide +kernel, by decide +kernel⟩, by decide +kernel, by decide, am_t1 _ (List.mem_of_getElem? (i := 13) rfl), am_in (am_t7 _ (List.mem_of_getElem? (i := 77) rfl)) rfl⟩
set_option maxRecDepth 100000 in
theorem am_kd_X12_tellsAs : am_kd mX12_tellsAs 2 := ⟨by decide, am_in (am_t7 _ (List.mem_of_getElem? (i := 76) rfl)) rfl, am_in (am_pv5 _ (List.mem_of_getElem? (i := 1) rfl)) rfl⟩
set_option maxRecDepth 100000 in
theorem am_mok_X12_refusal : am_MOk mX12_refusal 2 := ⟨by decide +kernel, rfl, ⟨by decide +kernel, by decide +kernel⟩, by decide +kernel, by decide, am_t1 _ (List.mem_of_getElem? (i := 13) rfl), am_in (am_t7 _ (List.mem_of_getElem? (i := 97) rfl)) rfl⟩
set_option maxRecDepth 100000 in
theorem am_kd_X12_refusal : am_kd mX12_refusal 2 := ⟨by decide, am_in (am_t7 _ (List.mem_of_getElem? (i := 96) rfl)) rfl, am_in (am_pv5 _ (List.mem_of_getElem? (i := 2) rfl)) rfl⟩
set_option maxRecDepth 100000 in
theorem am_mok_X12_asSort : am_MOk mX12_asSort 2 := ⟨by decide +kernel, rfl, ⟨by decide +kernel, by decide +kernel⟩, by decide +kernel, by decide, am_t1 _ (List.mem_of_getElem? (i := 13) rfl), am_in (am_t7 _ (List.mem_of_getElem? (i := 100) rfl)) rfl⟩
set_option maxRecDepth 100000 in
theorem am_kd_X12_asSort : am_kd mX12_asSort 1 := am_in (am_t7 _ (List.mem_of_getElem? (i := 99) rfl)) rfl
set_option maxRecDepth 100000 in
theorem am_mok_X12_kindOf : am_MOk mX12_kindOf 1 := ⟨by decide +kernel, rfl, ⟨by decide +kernel, by decide +kernel⟩, by decide +kernel, by decide, am_t1 _ (List.mem_of_getElem? (i := 13) rfl), am_in (am_t7 _ (List.mem_of_getElem? (i := 116) rfl)) rfl⟩
set_option maxRecDepth 100000 in
theorem am_kd_X12_kindOf : am_kd mX12_kindOf 2 := ⟨by decide, am_in (am_t7 _ (List.mem_of_getElem? (i := 115) rfl)) rfl, am_in (am_pv5 _ (List.mem_of_getElem? (i := 3) rfl)) rfl⟩
set_option maxRecDepth 100000 in
theorem am_mok_X12_above : am_MOk mX12_above 1 := ⟨by decide +kernel, rfl, ⟨by decide +kernel, by decide +kernel⟩, by decide +kernel, by decide, am_t1 _ (List.mem_of_getElem? (i := 13) rfl), am_in (am_t7 _ (List.mem_of_getElem? (i := 119) rfl)) rfl⟩
set_option maxRecDepth 100000 in
theorem am_kd_X12_above : am_kd mX12_above 1 := am_in (am_t7 _ (List.mem_of_getElem? (i := 118) rfl)) rfl
set_option maxRecDepth 100000 in
theorem am_mok_X11_init : am_MOk mX11_init 0 := ⟨by decide +kernel, rfl, ⟨by decide +kernel, by decide +kernel⟩, by decide +kernel, by decide, am_t1 _ (List.mem_of_getElem? (i := 1) rfl), am_in (am_t1 _ (List.mem_of_getElem? (i := 21) rfl)) rfl⟩
set_option maxRecDepth 100000 in
theorem am_kd_X11_init : am_kd mX11_init 0 := ⟨by decide +kernel, am_in (am_t1 _ (List.mem_of_getElem? (i := 20) rfl)) rfl, rfl⟩
set_option maxRecDepth 100000 in
theorem am_mok_X11_tree : am_MOk mX11_tree 2 := ⟨by decide +kernel, rfl, ⟨by decide +kernel, by decide +kernel⟩, by decide +kernel, by decide, am_t1 _ (List.mem_of_getElem? (i := 1) rfl), am_in (am_t2 _ (List.mem_of_getElem? (i := 154) rfl)) rfl⟩
set_option maxRecDepth 100000 in
theorem am_kd_X11_tree : am_kd mX11_tree 2 := ⟨by decide, am_in (am_t2 _ (List.mem_of_getElem? (i := 152) rfl)) rfl, am_in (am_t2 _ (List.mem_of_getElem? (i := 153) rfl)) rfl⟩
set_option maxRecDepth 100000 in
theorem am_mok_X11_person : am_MOk mX11_person 2 := ⟨by decide +kernel, rfl, ⟨by decide +kernel, by decide +kernel⟩, by decide +kernel, by decide, am_t1 _ (List.mem_of_getElem? (i := 1) rfl), am_in (am_t2 _ (List.mem_of_getElem? (i := 173) rfl)) rfl⟩
set_option maxRecDepth 100000 in
theorem am_kd_X11_person : am_kd mX11_person 2 := ⟨by decide, am_in (am_t2 _ (List.mem_of_getElem? (i := 171) rfl)) rfl, am_in (am_t2 _ (List.mem_of_getElem? (i := 172) rfl)) rfl⟩
set_option maxRecDepth 100000 in
theorem am_mok_X11_people : am_MOk mX11_people 3 := ⟨by decide +kernel, rfl, ⟨by decide +kernel, by decide +kernel⟩, by decide +kernel, by decide, am_t1 _ (List.mem_of_getElem? (i := 1) rfl), am_in (am_t2 _ (List.mem_of_getElem? (i := 181) rfl)) rfl⟩
set_option maxRecDepth 100000 in
theorem am_kd_X11_people : am_kd mX11_people 2 := ⟨by decide, am_in (am_t2 _ (List.mem_of_getElem? (i := 179) rfl)) rfl, am_in (am_t2 _ (List.mem_of_getElem? (i := 180) rfl)) rfl⟩
set_option maxRecDepth 100000 in
theorem am_mok_X11_mend : am_MOk mX11_mend 3 := ⟨by decide +kernel, rfl, ⟨by decide +kernel, by decide +kernel⟩, by decide +kernel, by decide, am_t1 _ (List.mem_of_getElem? (i := 1) rfl), am_in (am_t2 _ (List.mem_of_getElem? (i := 216) rfl)) rfl⟩
set_option maxRecDepth 100000 in
theorem am_kd_X11_mend : am_kd mX11_mend 2 := ⟨by decide, am_in (am_t2 _ (List.mem_of_getElem? (i := 214) rfl)) rfl, am_in (am_t2 _ (List.mem_of_getElem? (i := 215) rfl)) rfl⟩
set_option maxRecDepth 100000 in
theorem am_mok_X11_of : am_MOk mX11_of 2 := ⟨by decide +kernel, rfl, ⟨by decide +kernel, by decide +kernel⟩, by decide +kernel, by decide, am_t1 _ (List.mem_of_getElem? (i := 1) rfl), am_in (am_t3 _ (List.mem_of_getElem? (i := 2) rfl)) rfl⟩
set_option maxRecDepth 100000 in
theorem am_kd_X11_of : am_kd mX11_of 2 := ⟨by decide, am_in (am_t3 _ (List.mem_of_getElem? (i := 0) rfl)) rfl, am_in (am_t3 _ (List.mem_of_getElem? (i := 1) rfl)) rfl⟩
set_option maxRecDepth 100000 in
theorem am_mok_X11_feed : am_MOk mX11_feed 1 := ⟨by decide +kernel, rfl, ⟨by decide +kernel, by decide +kernel⟩, by decide +kernel, by decide, am_t1 _ (List.mem_of_getElem? (i := 1) rfl), am_in (am_t3 _ (List.mem_of_getElem? (i := 6) rfl)) rfl⟩
set_option maxRecDepth 100000 in
theorem am_kd_X11_feed : am_kd mX11_feed 2 := ⟨by decide, am_in (am_t3 _ (List.mem_of_getElem? (i := 4) rfl)) rfl, am_in (am_t3 _ (List.mem_of_getElem? (i := 5) rfl)) rfl⟩
set_option maxRecDepth 100000 in
theorem am_mok_X11_law : am_MOk mX11_law 0 := ⟨by decide +kernel, rfl, ⟨by decide +kernel, by decide +kernel⟩, by decide +kernel, by decide, am_t1 _ (List.mem_of_getElem? (i := 1) rfl), am_in (am_t3 _ (List.mem_of_getElem? (i := 15) rfl)) rfl⟩
set_option maxRecDepth 100000 in
theorem am_kd_X11_law : am_kd mX11_law 2 := ⟨by decide, am_in (am_t3 _ (List.mem_of_getElem? (i := 13) rfl)) rfl, am_in (am_t3 _ (List.mem_of_getElem? (i := 14) rfl)) rfl⟩
set_option maxRecDepth 100000 in
theorem am_mok_X11_shade : am_MOk mX11_shade 1 := ⟨by decide +kernel, rfl, ⟨by decide +kernel, by decide +kernel⟩, by decide +kernel, by decide, am_t1 _ (List.mem_of_getElem? (i := 1) rfl), am_in (am_t3 _ (List.mem_of_getElem? (i := 68) rfl)) rfl⟩
set_option maxRecDepth 100000 in
theorem am_kd_X11_shade : am_kd mX11_shade 2 := ⟨by decide, am_in (am_t3 _ (List.mem_of_getElem? (i := 66) rfl)) rfl, am_in (am_t3 _ (List.mem_of_getElem? (i := 67) rfl)) rfl⟩
set_option maxRecDepth 100000 in
theorem am_mok_X11_votes : am_MOk mX11_votes 2 := ⟨by decide +kernel, rfl, ⟨by decide +kernel, by decide +kernel⟩, by decide +kernel, by decide, am_t1 _ (List.mem_of_getElem? (i := 1) rfl), am_in (am_t3 _ (List.mem_of_getElem? (i := 104) rfl)) rfl⟩
set_option maxRecDepth 100000 in
theorem am_kd_X11_votes : am_kd mX11_votes 2 := ⟨by decide, am_in (am_t3 _ (List.mem_of_getElem? (i := 102) rfl)) rfl, am_in (am_t3 _ (List.mem_of_getElem? (i := 103) rfl)) rfl⟩
set_option maxRecDepth 100000 in
theorem am_mok_X11_falls : am_MOk mX11_falls 1 := ⟨by decide +kernel, rfl, ⟨by decide +kernel, by decide +kernel⟩, by decide +kernel, by decide, am_t1 _ (List.mem_of_getElem? (i := 1) rfl), am_in (am_t3 _ (List.mem_of_getElem? (i := 178) rfl)) rfl⟩
set_option maxRecDepth 100000 in
theorem am_kd_X11_falls : am_kd mX11_falls 2 := ⟨by decide, am_in (am_t3 _ (List.mem_of_getElem? (i := 176) rfl)) rfl, am_in (am_t3 _ (List.mem_of_getElem? (i := 177) rfl)) rfl⟩
set_option maxRecDepth 100000 in
theorem am_mok_X11_first : am_MOk mX11_first 1 := ⟨by decide +kernel, rfl, ⟨by decide +kernel, by decide +kernel⟩, by decide +kernel, by decide, am_t1 _ (List.mem_of_getElem? (i := 1) rfl), am_in (am_t3 _ (List.mem_of_getElem? (i := 200) rfl)) rfl⟩
set_option maxRecDepth 100000 in
theorem am_kd_X11_first : am_kd mX11_first 2 := ⟨by decide, am_in (am_t3 _ (List.mem_of_getElem? (i := 198) rfl)) rfl, am_in (am_t3 _ (List.mem_of_getElem? (i := 199) rfl)) rfl⟩
set_option maxRecDepth 100000 in
theorem am_mok_X11_left : am_MOk mX11_left 2 := ⟨by decide +kernel, rfl, ⟨by decide +kernel, by decide +kernel⟩, by decide +kernel, by decide, am_t1 _ (List.mem_of_getElem? (i := 1) rfl), am_in (am_t3 _ (List.mem_of_getElem? (i := 205) rfl)) rfl⟩
set_option maxRecDepth 100000 in
theorem am_kd_X11_left : am_kd mX11_left 2 := ⟨by decide, am_in (am_t3 _ (List.mem_of_getElem? (i := 203) rfl)) rfl, am_in (am_t3 _ (List.mem_of_getElem? (i := 204) rfl)) rfl⟩
set_option maxRecDepth 100000 in
theorem am_mok_X11_turn : am_MOk mX11_turn 2 := ⟨by decide +kernel, rfl, ⟨by decide +kernel, by decide +kernel⟩, by decide +kernel, by decide, am_t1 _ (List.mem_of_getElem? (i := 1) rfl), am_in (am_t3 _ (List.mem_of_getElem? (i := 219) rfl)) rfl⟩
set_option maxRecDepth 100000 in
theorem am_kd_X11_turn : am_kd mX11_turn 2 := ⟨by decide, am_in (am_t3 _ (List.mem_of_getElem? (i := 217) rfl)) rfl, am_in (am_t3 _ (List.mem_of_getElem? (i := 218) rfl)) rfl⟩
set_option maxRecDepth 100000 in
theorem am_mok_X11_chair : am_MOk mX11_chair 1 := ⟨by decide +kernel, rfl, ⟨by decide +kernel, by decide +kernel⟩, by decide +kernel, by decide, am_t1 _ (List.mem_of_getElem? (i := 1) rfl), am_in (am_t3 _ (List.mem_of_getElem? (i := 231) rfl)) rfl⟩
set_option maxRecDepth 100000 in
theorem am_kd_X11_chair : am_kd mX11_chair 2 := ⟨by decide, am_in (am_t3 _ (List.mem_of_getElem? (i := 229) rfl)) rfl, am_in (am_t3 _ (List.mem_of_getElem? (i := 230) rfl)) rfl⟩
set_option maxRecDepth 100000 in
theorem am_mok_X11_power : am_MOk mX11_power 3 := ⟨by decide +kernel, rfl, ⟨by decide +kernel, by decide +kernel⟩, by decide +kernel, by decide, am_t1 _ (List.mem_of_getElem? (i := 1) rfl), am_in (am_t4 _ (List.mem_of_getElem? (i := 0) rfl)) rfl⟩
set_option maxRecDepth 100000 in
theorem am_kd_X11_power : am_kd mX11_power 2 := ⟨by decide, am_in (am_t3 _ (List.mem_of_getElem? (i := 238) rfl)) rfl, am_in (am_t3 _ (List.mem_of_getElem? (i := 239) rfl)) rfl⟩
set_option maxRecDepth 100000 in
theorem am_mok_X11_lop : am_MOk mX11_lop 2 := ⟨by decide +kernel, rfl, ⟨by decide +kernel, by decide +kernel⟩, by decide +kernel, by decide, am_t1 _ (List.mem_of_getElem? (i := 1) rfl), am_in (am_t4 _ (List.mem_of_getElem? (i := 19) rfl)) rfl⟩
set_option maxRecDepth 100000 in
theorem am_kd_X11_lop : am_kd mX11_lop 2 := ⟨by decide, am_in (am_t4 _ (List.mem_of_getElem? (i := 17) rfl)) rfl, am_in (am_t4 _ (List.mem_of_getElem? (i := 18) rfl)) rfl⟩
set_option maxRecDepth 100000 in
theorem am_mok_X11_byTurns : am_MOk mX11_byTurns 2 := ⟨by decide +kernel, rfl, ⟨by decide +kernel, by decide +kernel⟩, by decide +kernel, by decide, am_t1 _ (List.mem_of_getElem? (i := 1) rfl), am_in (am_t4 _ (List.mem_of_getElem? (i := 38) rfl)) rfl⟩
set_option maxRecDepth 100000 in
theorem am_kd_X11_byTurns : am_kd mX11_byTurns 2 := ⟨by decide, am_in (am_t4 _ (List.mem_of_getElem? (i := 36) rfl)) rfl, am_in (am_t4 _ (List.mem_of_getElem? (i := 37) rfl)) rfl⟩
set_option maxRecDepth 100000 in
theorem am_mok_X11_deepest : am_MOk mX11_deepest 2 := ⟨by decide +kernel, rfl, ⟨by decide +kernel, by decide +kernel⟩, by decide +kernel, by decide, am_t1 _ (List.mem_of_getElem? (i := 1) rfl), am_in (am_t4 _ (List.mem_of_getElem? (i := 55) rfl)) rfl⟩
set_option maxRecDepth 100000 in
theorem am_kd_X11_deepest : am_kd mX11_deepest 2 := ⟨by decide, am_in (am_t4 _ (List.mem_of_getElem? (i := 53) rfl)) rfl, am_in (am_t4 _ (List.mem_of_getElem? (i := 54) rfl)) rfl⟩
set_option maxRecDepth 100000 in
theorem am_mok_X11_shadiest : am_MOk mX11_shadiest 2 := ⟨by decide +kernel, rfl, ⟨by decide +kernel, by decide +kernel⟩, by decide +kernel, by decide, am_t1 _ (List.mem_of_getElem? (i := 1) rfl), am_in (am_t4 _ (List.mem_of_getElem? (i := 65) rfl)) rfl⟩
set_option maxRecDepth 100000 in
theorem am_kd_X11_shadiest : am_kd mX11_shadiest 2 := ⟨by decide, am_in (am_t4 _ (List.mem_of_getElem? (i := 63) rfl)) rfl, am_in (am_t4 _ (List.mem_of_getElem? (i := 64) rfl)) rfl⟩
set_option maxRecDepth 100000 in
theorem am_mok_X11_judge : am_MOk mX11_judge 2 := ⟨by decide +kernel, rfl, ⟨by decide +kernel, by decide +kernel⟩, by decide +kernel, by decide, am_t1 _ (List.mem_of_getElem? (i := 1) rfl), am_in (am_t4 _ (List.mem_of_getElem? (i := 82) rfl)) rfl⟩
set_option maxRecDepth 100000 in
theorem am_kd_X11_judge : am_kd mX11_judge 2 := ⟨by decide, am_in (am_t4 _ (List.mem_of_getElem? (i := 80) rfl)) rfl, am_in (am_t4 _ (List.mem_of_getElem? (i := 81) rfl)) rfl⟩
set_option maxRecDepth 100000 in
theorem am_mok_X11_wishes : am_MOk mX11_wishes 3 := ⟨by decide +kernel, rfl, ⟨by decide +kernel, by decide +kernel⟩, by decide +kernel, by decide, am_t1 _ (List.mem_of_getElem? (i := 1) rfl), am_in (am_t4 _ (List.mem_of_getElem? (i := 105) rfl)) rfl⟩
set_option maxRecDepth 100000 in
theorem am_kd_X11_wishes : am_kd mX11_wishes 2 := ⟨by decide, am_in (am_t4 _ (List.mem_of_getElem? (i := 103) rfl)) rfl, am_in (am_t4 _ (List.mem_of_getElem? (i := 104) rfl)) rfl⟩
set_option maxRecDepth 100000 in
theorem am_mok_X11_save : am_MOk mX11_save 2 := ⟨by decide +kernel, rfl, ⟨by decide +kernel, by decide +kernel⟩, by decide +kernel, by decide, am_t1 _ (List.mem_of_getElem? (i := 1) rfl), am_in (am_t4 _ (List.mem_of_getElem? (i := 126) rfl)) rfl⟩
set_option maxRecDepth 100000 in
theorem am_kd_X11_save : am_kd mX11_save 2 := ⟨by decide, am_in (am_t4 _ (List.mem_of_getElem? (i := 124) rfl)) rfl, am_in (am_t4 _ (List.mem_of_getElem? (i := 125) rfl)) rfl⟩
set_option maxRecDepth 100000 in
theorem am_mok_X11_alike : am_MOk mX11_alike 2 := ⟨by decide +kernel, rfl, ⟨by decide +kernel, by decide +kernel⟩, by decide +kernel, by decide, am_t1 _ (List.mem_of_getElem? (i := 1) rfl), am_in (am_t4 _ (List.mem_of_getElem? (i := 138) rfl)) rfl⟩
set_option maxRecDepth 100000 in
theorem am_kd_X11_alike : am_kd mX11_alike 2 := ⟨by decide, am_in (am_t4 _ (List.mem_of_getElem? (i := 136) rfl)) rfl, am_in (am_t4 _ (List.mem_of_getElem? (i := 137) rfl)) rfl⟩
set_option maxRecDepth 100000 in
theorem am_mok_X11_drawn : am_MOk mX11_drawn 3 := ⟨by decide +kernel, rfl, ⟨by decide +kernel, by decide +kernel⟩, by decide +kernel, by decide, am_t1 _ (List.mem_of_getElem? (i := 1) rfl), am_in (am_t4 _ (List.mem_of_getElem? (i := 146) rfl)) rfl⟩
set_option maxRecDepth 100000 in
theorem am_kd_X11_drawn : am_kd mX11_drawn 2 := ⟨by decide, am_in (am_t4 _ (List.mem_of_getElem? (i := 144) rfl)) rfl, am_in (am_t4 _ (List.mem_of_getElem? (i := 145) rfl)) rfl⟩
set_option maxRecDepth 100000 in
theorem am_mok_X11_noon : am_MOk mX11_noon 0 := ⟨by decide +kernel, rfl, ⟨by decide +kernel, by decide +kernel⟩, by decide +kernel, by decide, am_t1 _ (List.mem_of_getElem? (i := 1) rfl), am_in (am_t4 _ (List.mem_of_getElem? (i := 158) rfl)) rfl⟩
set_option maxRecDepth 100000 in
theorem am_kd_X11_noon : am_kd mX11_noon 2 := ⟨by decide, am_in (am_t4 _ (List.mem_of_getElem? (i := 156) rfl)) rfl, am_in (am_t4 _ (List.mem_of_getElem? (i := 157) rfl)) rfl⟩
set_option maxRecDepth 100000 in
theorem am_mok_X11_sits : am_MOk mX11_sits 2 := ⟨by decide +kernel, rfl, ⟨by decide +kernel, by decide +kernel⟩, by decide +kernel, by decide, am_t1 _ (List.mem_of_getElem? (i := 1) rfl), am_in (am_t4 _ (List.mem_of_getElem? (i := 179) rfl)) rfl⟩
set_option maxRecDepth 100000 in
theorem am_kd_X11_sits : am_kd mX11_sits 2 := ⟨by decide, am_in (am_t4 _ (List.mem_of_getElem? (i := 177) rfl)) rfl, am_in (am_t4 _ (List.mem_of_getElem? (i := 178) rfl)) rfl⟩
set_option maxRecDepth 100000 in
theorem am_mok_X11_lopped : am_MOk mX11_lopped 1 := ⟨by decide +kernel, rfl, ⟨by decide +kernel, by decide +kernel⟩, by decide +kernel, by decide, am_t1 _ (List.mem_of_getElem? (i := 1) rfl), am_in (am_t4 _ (List.mem_of_getElem? (i := 188) rfl)) rfl⟩
set_option maxRecDepth 100000 in
theorem am_kd_X11_lopped : am_kd mX11_lopped 2 := ⟨by decide, am_in (am_t4 _ (List.mem_of_getElem? (i := 186) rfl)) rfl, am_in (am_t4 _ (List.mem_of_getElem? (i := 187) rfl)) rfl⟩
set_option maxRecDepth 100000 in
theorem am_mok_X11_led : am_MOk mX11_led 1 := ⟨by decide +kernel, rfl, ⟨by decide +kernel, by decide +kernel⟩, by decide +kernel, by decide, am_t1 _ (List.mem_of_getElem? (i := 1) rfl), am_in (am_t4 _ (List.mem_of_getElem? (i := 197) rfl)) rfl⟩
set_option maxRecDepth 100000 in
theorem am_kd_X11_led : am_kd mX11_led 2 := ⟨by decide, am_in (am_t4 _ (List.mem_of_getElem? (i := 195) rfl)) rfl, am_in (am_t4 _ (List.mem_of_getElem? (i := 196) rfl)) rfl⟩
set_option maxRecDepth 100000 in
theorem am_mok_X11_image : am_MOk mX11_image 0 := ⟨by decide +kernel, rfl, ⟨by decide +kernel, by decide +kernel⟩, by decide +kernel, by decide, am_t1 _ (List.mem_of_getElem? (i := 1) rfl), am_in (am_t4 _ (List.mem_of_getElem? (i := 201) rfl)) rfl⟩
set_option maxRecDepth 100000 in
theorem am_kd_X11_image : am_kd mX11_image 2 := ⟨by decide, am_in (am_t4 _ (List.mem_of_getElem? (i := 199) rfl)) rfl, am_in (am_t4 _ (List.mem_of_getElem? (i := 200) rfl)) rfl⟩
set_option maxRecDepth 100000 in
theorem am_mok_X11_back : am_MOk mX11_back 0 := ⟨by decide +kernel, rfl, ⟨by decide +kernel, by decide +kernel⟩, by decide +kernel, by decide, am_t1 _ (List.mem_of_getElem? (i := 1) rfl), am_in (am_t4 _ (List.mem_of_getElem? (i := 209) rfl)) rfl⟩
set_option maxRecDepth 100000 in
theorem am_kd_X11_back : am_kd mX11_back 2 := ⟨by decide, am_in (am_t4 _ (List.mem_of_getElem? (i := 207) rfl)) rfl, am_in (am_t4 _ (List.mem_of_getElem? (i := 208) rfl)) rfl⟩
set_option maxRecDepth 100000 in
theorem am_mok_X11_undo : am_MOk mX11_undo 0 := ⟨by decide +kernel, rfl, ⟨by decide +kernel, by decide +kernel⟩, by decide +kernel, by decide, am_t1 _ (List.mem_of_getElem? (i := 1) rfl), am_in (am_t4 _ (List.mem_of_getElem? (i := 217) rfl)) rfl⟩
set_option maxRecDepth 100000 in
theorem am_kd_X11_undo : am_kd mX11_undo 2 := ⟨by decide, am_in (am_t4 _ (List.mem_of_getElem? (i := 215) rfl)) rfl, am_in (am_t4 _ (List.mem_of_getElem? (i := 216) rfl)) rfl⟩
set_option maxRecDepth 100000 in
theorem am_mok_X11_redo : am_MOk mX11_redo 0 := ⟨by decide +kernel, rfl, ⟨by decide +kernel, by decide +kernel⟩, by decide +kernel, by decide, am_t1 _ (List.mem_of_getElem? (i := 1) rfl), am_in (am_t4 _ (List.mem_of_getElem? (i := 227) rfl)) rfl⟩
set_option maxRecDepth 100000 in
theorem am_kd_X11_redo : am_kd mX11_redo 2 := ⟨by decide, am_in (am_t4 _ (List.mem_of_getElem? (i := 225) rfl)) rfl, am_in (am_t4 _ (List.mem_of_getElem? (i := 226) rfl)) rfl⟩
set_option maxRecDepth 100000 in
theorem am_mok_X11_body : am_MOk mX11_body 1 := ⟨by decide +kernel, rfl, ⟨by decide +kernel, by decide +kernel⟩, by decide +kernel, by decide, am_t1 _ (List.mem_of_getElem? (i := 1) rfl), am_in (am_t4 _ (List.mem_of_getElem? (i := 235) rfl)) rfl⟩
set_option maxRecDepth 100000 in
theorem am_kd_X11_body : am_kd mX11_body 2 := ⟨by decide, am_in (am_t4 _ (List.mem_of_getElem? (i := 233) rfl)) rfl, am_in (am_t4 _ (List.mem_of_getElem? (i := 234) rfl)) rfl⟩
set_option maxRecDepth 100000 in
theorem am_mok_X11_act : am_MOk mX11_act 3 := ⟨by decide +kernel, rfl, ⟨by decide +kernel, by decide +kernel⟩, by decide +kernel, by decide, am_t1 _ (List.mem_of_getElem? (i := 1) rfl), am_in (am_t5 _ (List.mem_of_getElem? (i := 4) rfl)) rfl⟩
set_option maxRecDepth 100000 in
theorem am_kd_X11_act : am_kd mX11_act 2 := ⟨by decide, am_in (am_t5 _ (List.mem_of_getElem? (i := 2) rfl)) rfl, am_in (am_t5 _ (List.mem_of_getElem? (i := 3) rfl)) rfl⟩
set_option maxRecDepth 100000 in
theorem am_mok_X11_trace : am_MOk mX11_trace 1 := ⟨by decide +kernel, rfl, ⟨by decide +kernel, by decide +kernel⟩, by decide +kernel, by decide, am_t1 _ (List.mem_of_getElem? (i := 1) rfl), am_in (am_t5 _ (List.mem_of_getElem? (i := 37) rfl)) rfl⟩
set_option maxRecDepth 100000 in
theorem am_kd_X11_trace : am_kd mX11_trace 2 := ⟨by decide, am_in (am_t5 _ (List.mem_of_getElem? (i := 35) rfl)) rfl, am_in (am_t5 _ (List.mem_of_getElem? (i := 36) rfl)) rfl⟩
set_option maxRecDepth 100000 in
theorem am_mok_X11_keep : am_MOk mX11_keep 2 := ⟨by decide +kernel, rfl, ⟨by decide +kernel, by decide +kernel⟩, by decide +kernel, by decide, am_t1 _ (List.mem_of_getElem? (i := 1) rfl), am_in (am_t5 _ (List.mem_of_getElem? (i := 50) rfl)) rfl⟩
set_option maxRecDepth 100000 in
theorem am_kd_X11_keep : am_kd mX11_keep 2 := ⟨by decide, am_in (am_t5 _ (List.mem_of_getElem? (i := 48) rfl)) rfl, am_in (am_t5 _ (List.mem_of_getElem? (i := 49) rfl)) rfl⟩
set_option maxRecDepth 100000 in
theorem am_mok_X11_row : am_MOk mX11_row 3 := ⟨by decide +kernel, rfl, ⟨by decide +kernel, by decide +kernel⟩, by decide +kernel, by decide, am_t1 _ (List.mem_of_getElem? (i := 1) rfl), am_in (am_t5 _ (List.mem_of_getElem? (i := 58) rfl)) rfl⟩
set_option maxRecDepth 100000 in
theorem am_kd_X11_row : am_kd mX11_row 2 := ⟨by decide, am_in (am_t5 _ (List.mem_of_getElem? (i := 56) rfl)) rfl, am_in (am_t5 _ (List.mem_of_getElem? (i := 57) rfl)) rfl⟩
set_option maxRecDepth 100000 in
theorem am_mok_X11_put : am_MOk mX11_put 3 := ⟨by decide +kernel, rfl, ⟨by decide +kernel, by decide +kernel⟩, by decide +kernel, by decide, am_t1 _ (List.mem_of_getElem? (i := 1) rfl), am_in (am_t5 _ (List.mem_of_getElem? (i := 67) rfl)) rfl⟩
set_option maxRecDepth 100000 in
theorem am_kd_X11_put : am_kd mX11_put 2 := ⟨by decide, am_in (am_t5 _ (List.mem_of_getElem? (i := 65) rfl)) rfl, am_in (am_t5 _ (List.mem_of_getElem? (i := 66) rfl)) rfl⟩
set_option maxRecDepth 100000 in
theorem am_mok_X11_element : am_MOk mX11_element 2 := ⟨by decide +kernel, rfl, ⟨by decide +kernel, by decide +kernel⟩, by decide +kernel, by decide, am_t1 _ (List.mem_of_getElem? (i := 1) rfl), am_in (am_t5 _ (List.mem_of_getElem? (i := 79) rfl)) rfl⟩
set_option maxRecDepth 100000 in
theorem am_kd_X11_element : am_kd mX11_element 2 := ⟨by decide, am_in (am_t5 _ (List.mem_of_getElem? (i := 77) rfl)) rfl, am_in (am_t5 _ (List.mem_of_getElem? (i := 78) rfl)) rfl⟩
set_option maxRecDepth 100000 in
theorem am_mok_X11_shift : am_MOk mX11_shift 5 := ⟨by decide +kernel, rfl, ⟨by decide +kernel, by decide +kernel⟩, by decide +kernel, by decide, am_t1 _ (List.mem_of_getElem? (i := 1) rfl), am_in (am_t5 _ (List.mem_of_getElem? (i := 83) rfl)) rfl⟩
set_option maxRecDepth 100000 in
theorem am_kd_X11_shift : am_kd mX11_shift 2 := ⟨by decide, am_in (am_t5 _ (List.mem_of_getElem? (i := 81) rfl)) rfl, am_in (am_t5 _ (List.mem_of_getElem? (i := 82) rfl)) rfl⟩
set_option maxRecDepth 100000 in
theorem am_mok_X11_taken : am_MOk mX11_taken 2 := ⟨by decide +kernel, rfl, ⟨by decide +kernel, by decide +kernel⟩, by decide +kernel, by decide, am_t1 _ (List.mem_of_getElem? (i := 1) rfl), am_in (am_t5 _ (List.mem_of_getElem? (i := 94) rfl)) rfl⟩
set_option maxRecDepth 100000 in
theorem am_kd_X11_taken : am_kd mX11_taken 2 := ⟨by decide, am_in (am_t5 _ (List.mem_of_getElem? (i := 92) rfl)) rfl, am_in (am_t5 _ (List.mem_of_getElem? (i := 93) rfl)) rfl⟩
set_option maxRecDepth 100000 in
theorem am_mok_X11_count : am_MOk mX11_count 1 := ⟨by decide +kernel, rfl, ⟨by decide +kernel, by decide +kernel⟩, by decide +kernel, by decide, am_t1 _ (List.mem_of_getElem? (i := 1) rfl), am_in (am_t5 _ (List.mem_of_getElem? (i := 103) rfl)) rfl⟩
set_option maxRecDepth 100000 in
theorem am_kd_X11_count : am_kd mX11_count 2 := ⟨by decide, am_in (am_t5 _ (List.mem_of_getElem? (i := 101) rfl)) rfl, am_in (am_t5 _ (List.mem_of_getElem? (i := 102) rfl)) rfl⟩
set_option maxRecDepth 100000 in
theorem am_mok_X12_init : am_MOk mX12_init 0 := ⟨by decide +kernel, rfl, ⟨by decide +kernel, by decide +kernel⟩, by decide +kernel, by decide, am_t1 _ (List.mem_of_getElem? (i := 13) rfl), am_in (am_t5 _ (List.mem_of_getElem? (i := 108) rfl)) rfl⟩
set_option maxRecDepth 100000 in
theorem am_kd_X12_init : am_kd mX12_init 0 := ⟨by decide +kernel, am_in (am_t5 _ (List.mem_of_getElem? (i := 107) rfl)) rfl, rfl⟩
set_option maxRecDepth 100000 in
theorem am_mok_X12_undo : am_MOk mX12_undo 0 := ⟨by decide +kernel, rfl, ⟨by decide +kernel, by decide +kernel⟩, by decide +kernel, by decide, am_t1 _ (List.mem_of_getElem? (i := 13) rfl), am_in (am_t5 _ (List.mem_of_getElem? (i := 231) rfl)) rfl⟩
set_option maxRecDepth 100000 in
theorem am_kd_X12_undo : am_kd mX12_undo 2 := ⟨by decide, am_in (am_t5 _ (List.mem_of_getElem? (i := 229) rfl)) rfl, am_in (am_t5 _ (List.mem_of_getElem? (i := 230) rfl)) rfl⟩
set_option maxRecDepth 100000 in
theorem am_mok_X12_redo : am_MOk mX12_redo 0 := ⟨by decide +kernel, rfl, ⟨by decide +kernel, by decide +kernel⟩, by decide +kernel, by decide, am_t1 _ (List.mem_of_getElem? (i := 13) rfl), am_in (am_t5 _ (List.mem_of_getElem? (i := 235) rfl)) rfl⟩
set_option maxRecDepth 100000 in
theorem am_kd_X12_redo : am_kd mX12_redo 2 := ⟨by decide, am_in (am_t5 _ (List.mem_of_getElem? (i := 233) rfl)) rfl, am_in (am_t5 _ (List.mem_of_getElem? (i := 234) rfl)) rfl⟩
set_option maxRecDepth 100000 in
theorem am_mok_X12_tree : am_MOk mX12_tree 2 := ⟨by decide +kernel, rfl, ⟨by decide +kernel, by decide +kernel⟩, by decide +kernel, by decide, am_t1 _ (List.mem_of_getElem? (i := 13) rfl), am_in (am_t5 _ (List.mem_of_getElem? (i := 239) rfl)) rfl⟩
set_option maxRecDepth 100000 in
theorem am_kd_X12_tree : am_kd mX12_tree 2 := ⟨by decide, am_in (am_t5 _ (List.mem_of_getElem? (i := 237) rfl)) rfl, am_in (am_t5 _ (List.mem_of_getElem? (i := 238) rfl)) rfl⟩
set_option maxRecDepth 100000 in
theorem am_mok_X12_person : am_MOk mX12_person 2 := ⟨by decide +kernel, rfl, ⟨by decide +kernel, by decide +kernel⟩, by decide +kernel, by decide, am_t1 _ (List.mem_of_getElem? (i := 13) rfl), am_in (am_t6 _ (List.mem_of_getElem? (i := 11) rfl)) rfl⟩
set_option maxRecDepth 100000 in
theorem am_kd_X12_person : am_kd mX12_person 2 := ⟨by decide, am_in (am_t6 _ (List.mem_of_getElem? (i := 9) rfl)) rfl, am_in (am_t6 _ (List.mem_of_getElem? (i := 10) rfl)) rfl⟩
set_option maxRecDepth 100000 in
theorem am_mok_X12_people : am_MOk mX12_people 3 := ⟨by decide +kernel, rfl, ⟨by decide +kernel, by decide +kernel⟩, by decide +kernel, by decide, am_t1 _ (List.mem_of_getElem? (i := 13) rfl), am_in (am_t6 _ (List.mem_of_getElem? (i := 20) rfl)) rfl⟩
set_option maxRecDepth 100000 in
theorem am_kd_X12_people : am_kd mX12_people 2 := ⟨by decide, am_in (am_t6 _ (List.mem_of_getElem? (i := 18) rfl)) rfl, am_in (am_t6 _ (List.mem_of_getElem? (i := 19) rfl)) rfl⟩
set_option maxRecDepth 100000 in
theorem am_mok_X12_mend : am_MOk mX12_mend 3 := ⟨by decide +kernel, rfl, ⟨by decide +kernel, by decide +kernel⟩, by decide +kernel, by decide, am_t1 _ (List.mem_of_getElem? (i := 13) rfl), am_in (am_t6 _ (List.mem_of_getElem? (i := 30) rfl)) rfl⟩
set_option maxRecDepth 100000 in
theorem am_kd_X12_mend : am_kd mX12_mend 2 := ⟨by decide, am_in (am_t6 _ (List.mem_of_getElem? (i := 28) rfl)) rfl, am_in (am_t6 _ (List.mem_of_getElem? (i := 29) rfl)) rfl⟩
set_option maxRecDepth 100000 in
theorem am_mok_X12_of : am_MOk mX12_of 2 := ⟨by decide +kernel, rfl, ⟨by decide +kernel, by decide +kernel⟩, by decide +kernel, by decide, am_t1 _ (List.mem_of_getElem? (i := 13) rfl), am_in (am_t6 _ (List.mem_of_getElem? (i := 57) rfl)) rfl⟩
set_option maxRecDepth 100000 in
theorem am_kd_X12_of : am_kd mX12_of 2 := ⟨by decide, am_in (am_t6 _ (List.mem_of_getElem? (i := 55) rfl)) rfl, am_in (am_t6 _ (List.mem_of_getElem? (i := 56) rfl)) rfl⟩
set_option maxRecDepth 100000 in
theorem am_mok_X12_feed : am_MOk mX12_feed 1 := ⟨by decide +kernel, rfl, ⟨by decide +kernel, by decide +kernel⟩, by decide +kernel, by decide, am_t1 _ (List.mem_of_getElem? (i := 13) rfl), am_in (am_t6 _ (List.mem_of_getElem? (i := 61) rfl)) rfl⟩
set_option maxRecDepth 100000 in
theorem am_kd_X12_feed : am_kd mX12_feed 2 := ⟨by decide, am_in (am_t6 _ (List.mem_of_getElem? (i := 59) rfl)) rfl, am_in (am_t6 _ (List.mem_of_getElem? (i := 60) rfl)) rfl⟩
set_option maxRecDepth 100000 in
theorem am_mok_X12_law : am_MOk mX12_law 0 := ⟨by decide +kernel, rfl, ⟨by decide +kernel, by decide +kernel⟩, by decide +kernel, by decide, am_t1 _ (List.mem_of_getElem? (i := 13) rfl), am_in (am_t6 _ (List.mem_of_getElem? (i := 65) rfl)) rfl⟩
set_option maxRecDepth 100000 in
theorem am_kd_X12_law : am_kd mX12_law 2 := ⟨by decide, am_in (am_t6 _ (List.mem_of_getElem? (i := 63) rfl)) rfl, am_in (am_t6 _ (List.mem_of_getElem? (i := 64) rfl)) rfl⟩
set_option maxRecDepth 100000 in
theorem am_mok_X12_shade : am_MOk mX12_shade 1 := ⟨by decide +kernel, rfl, ⟨by decide +kernel, by decide +kernel⟩, by decide +kernel, by decide, am_t1 _ (List.mem_of_getElem? (i := 13) rfl), am_in (am_t6 _ (List.mem_of_getElem? (i := 112) rfl)) rfl⟩
set_option maxRecDepth 100000 in
theorem am_kd_X12_shade : am_kd mX12_shade 2 := ⟨by decide, am_in (am_t6 _ (List.mem_of_getElem? (i := 110) rfl)) rfl, am_in (am_t6 _ (List.mem_of_getElem? (i := 111) rfl)) rfl⟩
set_option maxRecDepth 100000 in
theorem am_mok_X12_votes : am_MOk mX12_votes 2 := ⟨by decide +kernel, rfl, ⟨by decide +kernel, by decide +kernel⟩, by decide +kernel, by decide, am_t1 _ (List.mem_of_getElem? (i := 13) rfl), am_in (am_t6 _ (List.mem_of_getElem? (i := 139) rfl)) rfl⟩
set_option maxRecDepth 100000 in
theorem am_kd_X12_votes : am_kd mX12_votes 2 := ⟨by decide, am_in (am_t6 _ (List.mem_of_getElem? (i := 137) rfl)) rfl, am_in (am_t6 _ (List.mem_of_getElem? (i := 138) rfl)) rfl⟩
set_option maxRecDepth 100000 in
theorem am_mok_X12_falls : am_MOk mX12_falls 1 := ⟨by decide +kernel, rfl, ⟨by decide +kernel, by decide +kernel⟩, by decide +kernel, by decide, am_t1 _ (List.mem_of_getElem? (i := 13) rfl), am_in (am_t6 _ (List.mem_of_getElem? (i := 170) rfl)) rfl⟩
set_option maxRecDepth 100000 in
theorem am_kd_X12_falls : am_kd mX12_falls 2 := ⟨by decide, am_in (am_t6 _ (List.mem_of_getElem? (i := 168) rfl)) rfl, am_in (am_t6 _ (List.mem_of_getElem? (i := 169) rfl)) rfl⟩
set_option maxRecDepth 100000 in
theorem am_mok_X12_first : am_MOk mX12_first 1 := ⟨by decide +kernel, rfl, ⟨by decide +kernel, by decide +kernel⟩, by decide +kernel, by decide, am_t1 _ (List.mem_of_getElem? (i := 13) rfl), am_in (am_t6 _ (List.mem_of_getElem? (i := 179) rfl)) rfl⟩
set_option maxRecDepth 100000 in
theorem am_kd_X12_first : am_kd mX12_first 2 := ⟨by decide, am_in (am_t6 _ (List.mem_of_getElem? (i := 177) rfl)) rfl, am_in (am_t6 _ (List.mem_of_getElem? (i := 178) rfl)) rfl⟩
set_option maxRecDepth 100000 in
theorem am_mok_X12_left : am_MOk mX12_left 2 := ⟨by decide +kernel, rfl, ⟨by decide +kernel, by decide +kernel⟩, by decide +kernel, by decide, am_t1 _ (List.mem_of_getElem? (i := 13) rfl), am_in (am_t6 _ (List.mem_of_getElem? (i := 183) rfl)) rfl⟩
set_option maxRecDepth 100000 in
theorem am_kd_X12_left : am_kd mX12_left 2 := ⟨by decide, am_in (am_t6 _ (List.mem_of_getElem? (i := 181) rfl)) rfl, am_in (am_t6 _ (List.mem_of_getElem? (i := 182) rfl)) rfl⟩
set_option maxRecDepth 100000 in
theorem am_mok_X12_turn : am_MOk mX12_turn 2 := ⟨by decide +kernel, rfl, ⟨by decide +kernel, by decide +kernel⟩, by decide +kernel, by decide, am_t1 _ (List.mem_of_getElem? (i := 13) rfl), am_in (am_t6 _ (List.mem_of_getElem? (i := 188) rfl)) rfl⟩
set_option maxRecDepth 100000 in
theorem am_kd_X12_turn : am_kd mX12_turn 2 := ⟨by decide, am_in (am_t6 _ (List.mem_of_getElem? (i := 186) rfl)) rfl, am_in (am_t6 _ (List.mem_of_getElem? (i := 187) rfl)) rfl⟩
set_option maxRecDepth 100000 in
theorem am_mok_X12_chair : am_MOk mX12_chair 1 := ⟨by decide +kernel, rfl, ⟨by decide +kernel, by decide +kernel⟩, by decide +kernel, by decide, am_t1 _ (List.mem_of_getElem? (i := 13) rfl), am_in (am_t6 _ (List.mem_of_getElem? (i := 196) rfl)) rfl⟩
set_option maxRecDepth 100000 in
theorem am_kd_X12_chair : am_kd mX12_chair 2 := ⟨by decide, am_in (am_t6 _ (List.mem_of_getElem? (i := 194) rfl)) rfl, am_in (am_t6 _ (List.mem_of_getElem? (i := 195) rfl)) rfl⟩
set_option maxRecDepth 100000 in
theorem am_mok_X12_power : am_MOk mX12_power 3 := ⟨by decide +kernel, rfl, ⟨by decide +kernel, by decide +kernel⟩, by decide +kernel, by decide, am_t1 _ (List.mem_of_getElem? (i := 13) rfl), am_in (am_t6 _ (List.mem_of_getElem? (i := 200) rfl)) rfl⟩
set_option maxRecDepth 100000 in
theorem am_kd_X12_power : am_kd mX12_power 2 := ⟨by decide, am_in (am_t6 _ (List.mem_of_getElem? (i := 198) rfl)) rfl, am_in (am_t6 _ (List.mem_of_getElem? (i := 199) rfl)) rfl⟩
set_option maxRecDepth 100000 in
theorem am_mok_X12_lop : am_MOk mX12_lop 2 := ⟨by decide +kernel, rfl, ⟨by decide +kernel, by decide +kernel⟩, by decide +kernel, by decide, am_t1 _ (List.mem_of_getElem? (i := 13) rfl), am_in (am_t6 _ (List.mem_of_getElem? (i := 208) rfl)) rfl⟩
set_option maxRecDepth 100000 in
theorem am_kd_X12_lop : am_kd mX12_lop 2 := ⟨by decide, am_in (am_t6 _ (List.mem_of_getElem? (i := 206) rfl)) rfl, am_in (am_t6 _ (List.mem_of_getElem? (i := 207) rfl)) rfl⟩
set_option maxRecDepth 100000 in
theorem am_mok_X12_byTurns : am_MOk mX12_byTurns 2 := ⟨by decide +kernel, rfl, ⟨by decide +kernel, by decide +kernel⟩, by decide +kernel, by decide, am_t1 _ (List.mem_of_getElem? (i := 13) rfl), am_in (am_t6 _ (List.mem_of_getElem? (i := 212) rfl)) rfl⟩
set_option maxRecDepth 100000 in
theorem am_kd_X12_byTurns : am_kd mX12_byTurns 2 := ⟨by decide, am_in (am_t6 _ (List.mem_of_getElem? (i := 210) rfl)) rfl, am_in (am_t6 _ (List.mem_of_getElem? (i := 211) rfl)) rfl⟩
set_option maxRecDepth 100000 in
theorem am_mok_X12_deepest : am_MOk mX12_deepest 2 := ⟨by decide +kernel, rfl, ⟨by decide +kernel, by decide +kernel⟩, by decide +kernel, by decide, am_t1 _ (List.mem_of_getElem? (i := 13) rfl), am_in (am_t6 _ (List.mem_of_getElem? (i := 221) rfl)) rfl⟩
set_option maxRecDepth 100000 in
theorem am_kd_X12_deepest : am_kd mX12_deepest 2 := ⟨by decide, am_in (am_t6 _ (List.mem_of_getElem? (i := 219) rfl)) rfl, am_in (am_t6 _ (List.mem_of_getElem? (i := 220) rfl)) rfl⟩
set_option maxRecDepth 100000 in
theorem am_mok_X12_shadiest : am_MOk mX12_shadiest 2 := ⟨by decide +kernel, rfl, ⟨by decide +kernel, by decide +kernel⟩, by decide +kernel, by decide, am_t1 _ (List.mem_of_getElem? (i := 13) rfl), am_in (am_t6 _ (List.mem_of_getElem? (i := 225) rfl)) rfl⟩
set_option maxRecDepth 100000 in
theorem am_kd_X12_shadiest : am_kd mX12_shadiest 2 := ⟨by decide, am_in (am_t6 _ (List.mem_of_getElem? (i := 223) rfl)) rfl, am_in (am_t6 _ (List.mem_of_getElem? (i := 224) rfl)) rfl⟩
set_option maxRecDepth 100000 in
theorem am_mok_X12_judge : am_MOk mX12_judge 2 := ⟨by decide +kernel, rfl, ⟨by decide +kernel, by decide +kernel⟩, by decide +kernel, by decide, am_t1 _ (List.mem_of_getElem? (i := 13) rfl), am_in (am_t6 _ (List.mem_of_getElem? (i := 229) rfl)) rfl⟩
set_option maxRecDepth 100000 in
theorem am_kd_X12_judge : am_kd mX12_judge 2 := ⟨by decide, am_in (am_t6 _ (List.mem_of_getElem? (i := 227) rfl)) rfl, am_in (am_t6 _ (List.mem_of_getElem? (i := 228) rfl)) rfl⟩
set_option maxRecDepth 100000 in
theorem am_mok_X12_wishes : am_MOk mX12_wishes 3 := ⟨by decide +kernel, rfl, ⟨by decide +kernel, by decide +kernel⟩, by decide +kernel, by decide, am_t1 _ (List.mem_of_getElem? (i := 13) rfl), am_in (am_t7 _ (List.mem_of_getElem? (i := 1) rfl)) rfl⟩
set_option maxRecDepth 100000 in
theorem am_kd_X12_wishes : am_kd mX12_wishes 2 := ⟨by decide, am_in (am_t6 _ (List.mem_of_getElem? (i := 239) rfl)) rfl, am_in (am_t7 _ (List.mem_of_getElem? (i := 0) rfl)) rfl⟩
set_option maxRecDepth 100000 in
theorem am_mok_X12_save : am_MOk mX12_save 2 := ⟨by decide +kernel, rfl, ⟨by decide +kernel, by decide +kernel⟩, by decide +kernel, by decide, am_t1 _ (List.mem_of_getElem? (i := 13) rfl), am_in (am_t7 _ (List.mem_of_getElem? (i := 6) rfl)) rfl⟩
set_option maxRecDepth 100000 in
theorem am_kd_X12_save : am_kd mX12_save 2 := ⟨by decide, am_in (am_t7 _ (List.mem_of_getElem? (i := 4) rfl)) rfl, am_in (am_t7 _ (List.mem_of_getElem? (i := 5) rfl)) rfl⟩
set_option maxRecDepth 100000 in
theorem am_mok_X12_alike : am_MOk mX12_alike 2 := ⟨by decide +kernel, rfl, ⟨by decide +kernel, by decide +kernel⟩, by decide +kernel, by decide, am_t1 _ (List.mem_of_getElem? (i := 13) rfl), am_in (am_t7 _ (List.mem_of_getElem? (i := 14) rfl)) rfl⟩
set_option maxRecDepth 100000 in
theorem am_kd_X12_alike : am_kd mX12_alike 2 := ⟨by decide, am_in (am_t7 _ (List.mem_of_getElem? (i := 12) rfl)) rfl, am_in (am_t7 _ (List.mem_of_getElem? (i := 13) rfl)) rfl⟩
set_option maxRecDepth 100000 in
theorem am_mok_X12_drawn : am_MOk mX12_drawn 3 := ⟨by decide +kernel, rfl, ⟨by decide +kernel, by decide +kernel⟩, by decide +kernel, by decide, am_t1 _ (List.mem_of_getElem? (i := 13) rfl), am_in (am_t7 _ (List.mem_of_getElem? (i := 18) rfl)) rfl⟩
set_option maxRecDepth 100000 in
theorem am_kd_X12_drawn : am_kd mX12_drawn 2 := ⟨by decide, am_in (am_t7 _ (List.mem_of_getElem? (i := 16) rfl)) rfl, am_in (am_t7 _ (List.mem_of_getElem? (i := 17) rfl)) rfl⟩
set_option maxRecDepth 100000 in
theorem am_mok_X12_noon : am_MOk mX12_noon 0 := ⟨by decide +kernel, rfl, ⟨by decide +kernel, by decide +kernel⟩, by decide +kernel, by decide, am_t1 _ (List.mem_of_getElem? (i := 13) rfl), am_in (am_t7 _ (List.mem_of_getElem? (i := 24) rfl)) rfl⟩
set_option maxRecDepth 100000 in
theorem am_kd_X12_noon : am_kd mX12_noon 2 := ⟨by decide, am_in (am_t7 _ (List.mem_of_getElem? (i := 22) rfl)) rfl, am_in (am_t7 _ (List.mem_of_getElem? (i := 23) rfl)) rfl⟩
set_option maxRecDepth 100000 in
theorem am_mok_X12_sits : am_MOk mX12_sits 2 := ⟨by decide +kernel, rfl, ⟨by decide +kernel, by decide +kernel⟩, by decide +kernel, by decide, am_t1 _ (List.mem_of_getElem? (i := 13) rfl), am_in (am_t7 _ (List.mem_of_getElem? (i := 28) rfl)) rfl⟩
set_option maxRecDepth 100000 in
theorem am_kd_X12_sits : am_kd mX12_sits 2 := ⟨by decide, am_in (am_t7 _ (List.mem_of_getElem? (i := 26) rfl)) rfl, am_in (am_t7 _ (List.mem_of_getElem? (i := 27) rfl)) rfl⟩
set_option maxRecDepth 100000 in
theorem am_mok_X12_lopped : am_MOk mX12_lopped 1 := ⟨by decide +kernel, rfl, ⟨by decide +kernel, by decide +kernel⟩, by decide +kernel, by decide, am_t1 _ (List.mem_of_getElem? (i := 13) rfl), am_in (am_t7 _ (List.mem_of_getElem? (i := 32) rfl)) rfl⟩
set_option maxRecDepth 100000 in
theorem am_kd_X12_lopped : am_kd mX12_lopped 2 := ⟨by decide, am_in (am_t7 _ (List.mem_of_getElem? (i := 30) rfl)) rfl, am_in (am_t7 _ (List.mem_of_getElem? (i := 31) rfl)) rfl⟩
set_option maxRecDepth 100000 in
theorem am_mok_X12_led : am_MOk mX12_led 1 := ⟨by decide +kernel, rfl, ⟨by decide +kernel, by decide +kernel⟩, by decide +kernel, by decide, am_t1 _ (List.mem_of_getElem? (i := 13) rfl), am_in (am_t7 _ (List.mem_of_getElem? (i := 36) rfl)) rfl⟩
set_option maxRecDepth 100000 in
theorem am_kd_X12_led : am_kd mX12_led 2 := ⟨by decide, am_in (am_t7 _ (List.mem_of_getElem? (i := 34) rfl)) rfl, am_in (am_t7 _ (List.mem_of_getElem? (i := 35) rfl)) rfl⟩
set_option maxRecDepth 100000 in
theorem am_mok_X12_image : am_MOk mX12_image 0 := ⟨by decide +kernel, rfl, ⟨by decide +kernel, by decide +kernel⟩, by decide +kernel, by decide, am_t1 _ (List.mem_of_getElem? (i := 13) rfl), am_in (am_t7 _ (List.mem_of_getElem? (i := 40) rfl)) rfl⟩
set_option maxRecDepth 100000 in
theorem am_kd_X12_image : am_kd mX12_image 2 := ⟨by decide, am_in (am_t7 _ (List.mem_of_getElem? (i := 38) rfl)) rfl, am_in (am_t7 _ (List.mem_of_getElem? (i := 39) rfl)) rfl⟩
set_option maxRecDepth 100000 in
theorem am_mok_X12_back : am_MOk mX12_back 0 := ⟨by decide +kernel, rfl, ⟨by decide +kernel, by decide +kernel⟩, by decide +kernel, by decide, am_t1 _ (List.mem_of_getElem? (i := 13) rfl), am_in (am_t7 _ (List.mem_of_getElem? (i := 44) rfl)) rfl⟩
set_option maxRecDepth 100000 in
theorem am_kd_X12_back : am_kd mX12_back 2 := ⟨by decide, am_in (am_t7 _ (List.mem_of_getElem? (i := 42) rfl)) rfl, am_in (am_t7 _ (List.mem_of_getElem? (i := 43) rfl)) rfl⟩
set_option maxRecDepth 100000 in
theorem am_mok_X12_body : am_MOk mX12_body 1 := ⟨by decide +kernel, rfl, ⟨by decide +kernel, by decide +kernel⟩, by decide +kernel, by decide, am_t1 _ (List.mem_of_getElem? (i := 13) rfl), am_in (am_t7 _ (List.mem_of_getElem? (i := 48) rfl)) rfl⟩
set_option maxRecDepth 100000 in
theorem am_kd_X12_body : am_kd mX12_body 2 := ⟨by decide, am_in (am_t7 _ (List.mem_of_getElem? (i := 46) rfl)) rfl, am_in (am_t7 _ (List.mem_of_getElem? (i := 47) rfl)) rfl⟩
set_option maxRecDepth 100000 in
theorem am_mok_X12_act : am_MOk mX12_act 3 := ⟨by decide +kernel, rfl, ⟨by decide +kernel, by decide +kernel⟩, by decide +kernel, by decide, am_t1 _ (List.mem_of_getElem? (i := 13) rfl), am_in (am_t7 _ (List.mem_of_getElem? (i := 53) rfl)) rfl⟩
set_option maxRecDepth 100000 in
theorem am_kd_X12_act : am_kd mX12_act 2 := ⟨by decide, am_in (am_t7 _ (List.mem_of_getElem? (i := 51) rfl)) rfl, am_in (am_t7 _ (List.mem_of_getElem? (i := 52) rfl)) rfl⟩
set_option maxRecDepth 100000 in
theorem am_mok_X12_trace : am_MOk mX12_trace 1 := ⟨by decide +kernel, rfl, ⟨by decide +kernel, by decide +kernel⟩, by decide +kernel, by decide, am_t1 _ (List.mem_of_getElem? (i := 13) rfl), am_in (am_t7 _ (List.mem_of_getElem? (i := 81) rfl)) rfl⟩
set_option maxRecDepth 100000 in
theorem am_kd_X12_trace : am_kd mX12_trace 2 := ⟨by decide, am_in (am_t7 _ (List.mem_of_getElem? (i := 79) rfl)) rfl, am_in (am_t7 _ (List.mem_of_getElem? (i := 80) rfl)) rfl⟩
set_option maxRecDepth 100000 in
theorem am_mok_X12_keep : am_MOk mX12_keep 2 := ⟨by decide +kernel, rfl, ⟨by decide +kernel, by decide +kernel⟩, by decide +kernel, by decide, am_t1 _ (List.mem_of_getElem? (i := 13) rfl), am_in (am_t7 _ (List.mem_of_getElem? (i := 85) rfl)) rfl⟩
set_option maxRecDepth 100000 in
theorem am_kd_X12_keep : am_kd mX12_keep 2 := ⟨by decide, am_in (am_t7 _ (List.mem_of_getElem? (i := 83) rfl)) rfl, am_in (am_t7 _ (List.mem_of_getElem? (i := 84) rfl)) rfl⟩
set_option maxRecDepth 100000 in
theorem am_mok_X12_row : am_MOk mX12_row 3 := ⟨by decide +kernel, rfl, ⟨by decide +kernel, by decide +kernel⟩, by decide +kernel, by decide, am_t1 _ (List.mem_of_getElem? (i := 13) rfl), am_in (am_t7 _ (List.mem_of_getElem? (i := 89) rfl)) rfl⟩
set_option maxRecDepth 100000 in
theorem am_kd_X12_row : am_kd mX12_row 2 := ⟨by decide, am_in (am_t7 _ (List.mem_of_getElem? (i := 87) rfl)) rfl, am_in (am_t7 _ (List.mem_of_getElem? (i := 88) rfl)) rfl⟩
set_option maxRecDepth 100000 in
theorem am_mok_X12_put : am_MOk mX12_put 3 := ⟨by decide +kernel, rfl, ⟨by decide +kernel, by decide +kernel⟩, by decide +kernel, by decide, am_t1 _ (List.mem_of_getElem? (i := 13) rfl), am_in (am_t7 _ (List.mem_of_getElem? (i := 93) rfl)) rfl⟩
set_option maxRecDepth 100000 in
theorem am_kd_X12_put : am_kd mX12_put 2 := ⟨by decide, am_in (am_t7 _ (List.mem_of_getElem? (i := 91) rfl)) rfl, am_in (am_t7 _ (List.mem_of_getElem? (i := 92) rfl)) rfl⟩
set_option maxRecDepth 100000 in
theorem am_mok_X12_element : am_MOk mX12_element 2 := ⟨by decide +kernel, rfl, ⟨by decide +kernel, by decide +kernel⟩, by decide +kernel, by decide, am_t1 _ (List.mem_of_getElem? (i := 13) rfl), am_in (am_t7 _ (List.mem_of_getElem? (i := 104) rfl)) rfl⟩
set_option maxRecDepth 100000 in
theorem am_kd_X12_element : am_kd mX12_element 2 := ⟨by decide, am_in (am_t7 _ (List.mem_of_getElem? (i := 102) rfl)) rfl, am_in (am_t7 _ (List.mem_of_getElem? (i := 103) rfl)) rfl⟩
set_option maxRecDepth 100000 in
theorem am_mok_X12_shift : am_MOk mX12_shift 5 := ⟨by decide +kernel, rfl, ⟨by decide +kernel, by decide +kernel⟩, by decide +kernel, by decide, am_t1 _ (List.mem_of_getElem? (i := 13) rfl), am_in (am_t7 _ (List.mem_of_getElem? (i := 108) rfl)) rfl⟩
set_option maxRecDepth 100000 in
theorem am_kd_X12_shift : am_kd mX12_shift 2 := ⟨by decide, am_in (am_t7 _ (List.mem_of_getElem? (i := 106) rfl)) rfl, am_in (am_t7 _ (List.mem_of_getElem? (i := 107) rfl)) rfl⟩
set_option maxRecDepth 100000 in
theorem am_mok_X12_taken : am_MOk mX12_taken 2 := ⟨by decide +kernel, rfl, ⟨by decide +kernel, by decide +kernel⟩, by decide +kernel, by decide, am_t1 _ (List.mem_of_getElem? (i := 13) rfl), am_in (am_t7 _ (List.mem_of_getElem? (i := 112) rfl)) rfl⟩
set_option maxRecDepth 100000 in
theorem am_kd_X12_taken : am_kd mX12_taken 2 := ⟨by decide, am_in (am_t7 _ (List.mem_of_getElem? (i := 110) rfl)) rfl, am_in (am_t7 _ (List.mem_of_getElem? (i := 111) rfl)) rfl⟩
set_option maxRecDepth 100000 in
theorem am_mok_X12_count : am_MOk mX12_count 1 := ⟨by decide +kernel, rfl, ⟨by decide +kernel, by decide +kernel⟩, by decide +kernel, by decide, am_t1 _ (List.mem_of_getElem? (i := 13) rfl), am_in (am_t7 _ (List.mem_of_getElem? (i := 123) rfl)) rfl⟩
set_option maxRecDepth 100000 in
theorem am_kd_X12_count : am_kd mX12_count 2 := ⟨by decide, am_in (am_t7 _ (List.mem_of_getElem? (i := 121) rfl)) rfl, am_in (am_t7 _ (List.mem_of_getElem? (i := 122) rfl)) rfl⟩
def am_ML (c i : Nat) (y : MethodName) : Prop := Cond.methodLink (am_cn c) i y ∈ lw_tbl ∨ Cond.methodLinkNest (am_cn c) i y "ShadeVotes" ∈ lw_tbl
/-- a call as an instruction names it: the method, how many arguments beside the receiver, its kind: 0 <init>, 1 static, 2 virtual -/
def am_site : Nat → Nat → Option (am_M × Nat × Nat) := fun c i => match c with
  | 0 => List.lookup i [(26, (mX5_read, 2, 2)), (32, (mX0_openAsIf, 3, 2)), (36, (mX5_stands, 1, 2)), (48, (mX6_nameTree, 3, 2)), (53, (mX5_coveredBy, 3, 2)), (57, (mX5_wishersOf, 1, 2)), (64, (mX11_at, 2, 1)), (68, (mX11_holds, 2, 1)), (72, (mX6_nameVoter, 3, 2)), (75, (mX6_value, 0, 2)), (87, (mX11_lay, 3, 1)), (91, (mJ6_bitCount_0f7a4, 1, 1)), (99, (mX0_worthOf, 2, 2))]
  | 1 => List.lookup i [(26, (mX8_size, 0, 2)), (32, (mX8_valueAt, 1, 2)), (38, (mX1_twosOf, 1, 1)), (42, (mX1_isWellSaid, 2, 1)), (46, (mX5_read, 2, 2)), (52, (mX0_openAsIf, 3, 2)), (65, (mX0_passes, 2, 2)), (78, (mX1_ruleOut, 3, 2)), (81, (mX1_gather, 0, 2)), (87, (mX11_lay, 3, 1)), (91, (mX11_holds, 2, 1)), (94, (mX0_sumSets, 1, 2)), (98, (mX0_sumOf, 1, 2)), (102, (mX11_at, 2, 1))]
  | 2 => List.lookup i [(36, (mX2_placeOf, 1, 2)), (40, (mX11_lay, 3, 1)), (46, (mX11_at, 2, 1)), (50, (mX5_write, 3, 2))]
  | 3 => List.lookup i [(31, (mX11_at, 2, 1)), (35, (mX11_lay, 3, 1)), (45, (mX11_holds, 2, 1)), (49, (mX5_write, 3, 2)), (53, (mJ6_bitCount_0f7a4, 1, 1)), (59, (mX3_countOn, 2, 2)), (63, (mX5_read, 2, 2)), (67, (mX5_stands, 1, 2))]
  | 4 => List.lookup i [(26, (mX0_open, 2, 2)), (39, (mX0_passes, 2, 2)), (48, (mJ6_bitCount_0f7a4, 1, 1)), (54, (mX11_holds, 2, 1)), (57, (mX4_waysToDecide, 2, 2)), (61, (mX0_sumSets, 1, 2)), (65, (mX0_sumOf, 1, 2)), (68, (mX11_at, 2, 1)), (72, (mX5_read, 2, 2)), (75, (mX5_stands, 1, 2)), (79, (mX4_fallsAt, 3, 2)), (83, (mX0_openAsIf, 3, 2)), (87, (mX11_lay, 3, 1)), (91, (mX4_bestOf, 3, 2)), (98, (mX4_leastMove, 3, 2))]
  | 5 => List.lookup i [(18, (mX11_at, 2, 1)), (22, (mX5_write, 3, 2)), (33, (mX5_owners, 1, 2)), (37, (mX11_within, 3, 1)), (47, (mX11_lay, 3, 1)), (51, (mX5_read, 2, 2)), (60, (mX5_stands, 1, 2)), (64, (mX5_lies, 4, 1)), (68, (mX11_holds, 2, 1))]
  | 6 => List.lookup i [(28, (mX11_at, 2, 1)), (34, (mX11_lay, 3, 1)), (56, (mX7_levelOf, 1, 1)), (60, (mX6_ofTwo, 3, 1)), (64, (mX6_operand, 1, 2))]
  | 7 => List.lookup i [(22, (mX11_lay, 3, 1)), (32, (mX7_readLine, 0, 2)), (36, (mX7_next, 0, 2)), (40, (mX11_at, 2, 1)), (44, (mX7_readChain, 2, 2)), (48, (mX7_emit, 1, 2)), (52, (mX7_readOperand, 1, 2)), (56, (mX7_levelOf, 1, 1)), (60, (mX11_within, 3, 1)), (64, (mX7_readNumber, 0, 2)), (67, (mX7_isName, 1, 1))]
  | 8 => List.lookup i [(20, (mX8_isRow, 0, 2)), (33, (mX8_narrowed, 1, 2))]
  | 9 => List.lookup i [(23, (mX5_stands, 1, 2)), (29, (mX5_read, 2, 2)), (33, (mX5_coveredBy, 3, 2)), (37, (mX0_open, 2, 2)), (50, (mX0_passes, 2, 2)), (57, (mX9_fallsIn, 2, 2)), (60, (mX9_firstFall, 2, 2)), (63, (mX9_standing, 0, 2)), (72, (mX9_falling, 1, 2)), (76, (mX9_sittersIn, 2, 2)), (79, (mJ6_bitCount_0f7a4, 1, 1)), (84, (mX5_shades, 3, 2)), (91, (mX9_shadesOver, 2, 2)), (100, (mX9_monthsOver, 2, 2)), (103, (mX11_lay, 3, 1)), (108, (mX11_at, 2, 1)), (112, (mX11_holds, 2, 1))]
  | 10 => List.lookup i [(22, (mX11_lay, 3, 1)), (26, (mX11_at, 2, 1)), (42, (mX11_within, 3, 1)), (46, (mX10_kindOf, 1, 2)), (50, (mX10_perform, 5, 2)), (57, (mX10_ownerOf, 2, 1)), (60, (mX10_run, 5, 2)), (63, (mX10_does, 4, 2))]
  | 11 => List.lookup i [(11, (mX5_init, 0, 0)), (18, (mX7_init, 0, 0)), (25, (mX6_init, 0, 0)), (32, (mX0_init, 2, 0)), (41, (mX9_init, 2, 0)), (57, (mX4_init, 4, 0)), (66, (mX1_init, 4, 0)), (73, (mX3_init, 1, 0)), (82, (mX2_init, 1, 0)), (89, (mX10_init, 0, 0)), (96, (mX8_init, 0, 0)), (101, (mX5_fits, 2, 2)), (105, (mX5_addTree, 2, 2)), (109, (mX5_addPerson, 3, 2)), (113, (mX11_shelfAt, 1, 2)), (117, (mX11_within, 3, 1)), (121, (mX8_isEmpty, 0, 2)), (125, (mX8_isRowOf, 1, 2)), (129, (mX11_comesFrom, 2, 2)), (133, (mX8_isRow, 0, 2)), (138, (mX8_size, 0, 2)), (142, (mX8_valueAt, 1, 2)), (146, (mX5_has, 2, 2)), (149, (mX5_read, 2, 2)), (152, (mX5_write, 3, 2)), (156, (mX2_add, 4, 2)), (160, (mX7_take, 1, 2)), (164, (mX7_findFault, 0, 2)), (174, (mX6_become, 2, 2)), (178, (mX7_clear, 0, 2)), (181, (mX11_isTreeMonth, 1, 2)), (184, (mX9_sittersIn, 2, 2)), (187, (mX5_cellsOf, 2, 2)), (190, (mX0_open, 2, 2)), (200, (mX0_passes, 2, 2)), (203, (mX0_sumOf, 1, 2)), (206, (mX9_neverFalling, 0, 2)), (209, (mX9_falling, 1, 2)), (212, (mX9_firstFall, 2, 2)), (215, (mX11_isMonth, 1, 2)), (218, (mX9_leftBehind, 2, 2)), (221, (mX4_fewestToTurn, 2, 2)), (224, (mJ6_bitCount_0f7a4, 1, 1)), (229, (mX4_hangsOn, 2, 2)), (236, (mX4_powerOf, 4, 2)), (240, (mX4_lessHigh, 2, 2)), (243, (mX4_moreHigh, 2, 2)), (246, (mX4_playTurns, 3, 2)), (255, (mX11_isTree, 1, 2)), (258, (mX9_deepestMonth, 1, 2)), (261, (mX9_shadiestOne, 1, 2)), (264, (mX9_shadesOver, 2, 2)), (267, (mX1_firstWrong, 2, 2)), (271, (mX11_refusalOf, 1, 1)), (275, (mX1_findWishers, 2, 2)), (288, (mX9_findSeat, 2, 2)), (297, (mX9_sameShade, 3, 2)), (300, (mX9_drawYears, 4, 2)), (303, (mX3_tell, 1, 2)), (306, (mX3_fell, 1, 2)), (310, (mX3_seat, 2, 2)), (313, (mX3_lopOne, 1, 2)), (316, (mX3_keepImage, 0, 2)), (319, (mX3_layBack, 0, 2)), (322, (mX2_takeBack, 0, 2)), (328, (mX2_doAgain, 0, 2)), (334, (mX10_add, 1, 2)), (336, (mX10_start, 3, 2)), (339, (mX10_tracesKept, 0, 2)), (342, (mX10_traceAt, 1, 2)), (348, (mX8_holdVoter, 1, 2)), (351, (mX8_holdRow, 2, 2)), (354, (mX8_write, 2, 2)), (360, (mX8_takeFrom, 4, 2)), (367, (mX10_kindOf, 1, 2)), (370, (mX10_isUnder, 2, 2))]
  | 12 => List.lookup i [(75, (mX12_within, 3, 1)), (86, (mX12_isTree, 1, 2)), (90, (mX12_isMonth, 1, 1)), (93, (mX12_isCell, 1, 1)), (103, (mX12_adds, 3, 2)), (107, (mX12_isShelf, 1, 1)), (115, (mX12_isOne, 1, 2)), (118, (mX12_placeOf, 2, 2)), (122, (mX12_mayBecome, 2, 1)), (126, (mX12_becomes, 2, 2)), (144, (mX12_byteAt, 0, 2)), (148, (mX12_both, 0, 2)), (151, (mX12_takes, 1, 2)), (154, (mX12_compared, 0, 2)), (157, (mX12_sums, 0, 2)), (160, (mX12_product, 0, 2)), (163, (mX12_one, 0, 2)), (169, (mX12_wrong, 0, 2)), (172, (mX12_either, 0, 2)), (175, (mX12_nameOf, 1, 1)), (179, (mX12_workOut, 2, 2)), (182, (mX12_rowsOf, 2, 2)), (185, (mX12_isShaded, 3, 2)), (189, (mX12_isIn, 2, 1)), (192, (mX12_sittersIn, 2, 2)), (195, (mX12_bitsOf, 1, 1)), (198, (mX12_countsOf, 4, 2)), (202, (mX12_sumOf, 4, 2)), (205, (mX12_wishers, 1, 2)), (208, (mX12_doesFall, 4, 2)), (212, (mX12_isTm, 1, 2)), (215, (mX12_sittersNow, 2, 2)), (218, (mX12_fallsNow, 2, 2)), (221, (mX12_isShadedNow, 3, 2)), (226, (mX12_fallIn, 1, 2)), (231, (mX12_everybody, 0, 2)), (238, (mX12_common, 2, 1)), (242, (mX12_fallsFrom, 5, 2)), (248, (mX12_bytesIs, 1, 2)), (251, (mX12_firstFalse, 3, 2)), (257, (mX12_standsIn, 1, 2)), (290, (mX12_runs, 1, 2)), (294, (mX12_sitsAs, 2, 2)), (300, (mX12_votesAs, 2, 2)), (306, (mX12_movesAs, 2, 2)), (309, (mX12_tellsAs, 2, 2)), (312, (mX12_isBody, 1, 2)), (317, (mX12_refusal, 2, 2)), (320, (mX12_asSort, 2, 1)), (324, (mX12_kindOf, 1, 2)), (327, (mX12_above, 1, 1))]
  | 14 => List.lookup i [(9, (mX11_init, 0, 0)), (12, (mX12_init, 0, 0)), (13, (mX11_tree, 2, 2)), (17, (mX12_tree, 2, 2)), (18, (mX11_person, 2, 2)), (21, (mX12_person, 2, 2)), (22, (mX11_people, 3, 2)), (26, (mX12_people, 3, 2)), (27, (mX11_mend, 3, 2)), (30, (mX12_mend, 3, 2)), (31, (mX11_of, 2, 2)), (34, (mX12_of, 2, 2)), (35, (mX11_feed, 1, 2)), (39, (mX12_feed, 1, 2)), (40, (mX11_law, 0, 2)), (44, (mX12_law, 0, 2)), (45, (mX11_shade, 1, 2)), (48, (mX12_shade, 1, 2)), (49, (mX11_votes, 2, 2)), (52, (mX12_votes, 2, 2)), (53, (mX11_falls, 1, 2)), (56, (mX12_falls, 1, 2)), (57, (mX11_first, 1, 2)), (60, (mX12_first, 1, 2)), (61, (mX11_left, 2, 2)), (64, (mX12_left, 2, 2)), (65, (mX11_turn, 2, 2)), (68, (mX12_turn, 2, 2)), (69, (mX11_chair, 1, 2)), (72, (mX12_chair, 1, 2)), (73, (mX11_power, 3, 2)), (77, (mX12_power, 3, 2)), (78, (mX11_lop, 2, 2)), (81, (mX12_lop, 2, 2)), (82, (mX11_byTurns, 2, 2)), (85, (mX12_byTurns, 2, 2)), (86, (mX11_deepest, 2, 2)), (89, (mX12_deepest, 2, 2)), (90, (mX11_shadiest, 2, 2)), (93, (mX12_shadiest, 2, 2)), (94, (mX11_judge, 2, 2)), (97, (mX12_judge, 2, 2)), (98, (mX11_wishes, 3, 2)), (101, (mX12_wishes, 3, 2)), (102, (mX11_save, 2, 2)), (105, (mX12_save, 2, 2)), (106, (mX11_alike, 2, 2)), (109, (mX12_alike, 2, 2)), (110, (mX11_drawn, 3, 2)), (113, (mX12_drawn, 3, 2)), (114, (mX11_noon, 0, 2)), (117, (mX12_noon, 0, 2)), (118, (mX11_sits, 2, 2)), (121, (mX12_sits, 2, 2)), (122, (mX11_lopped, 1, 2)), (125, (mX12_lopped, 1, 2)), (126, (mX11_led, 1, 2)), (129, (mX12_led, 1, 2)), (130, (mX11_image, 0, 2)), (133, (mX12_image, 0, 2)), (134, (mX11_back, 0, 2)), (137, (mX12_back, 0, 2)), (138, (mX11_undo, 0, 2)), (141, (mX12_undo, 0, 2)), (142, (mX11_redo, 0, 2)), (145, (mX12_redo, 0, 2)), (146, (mX11_body, 1, 2)), (149, (mX12_body, 1, 2)), (150, (mX11_act, 3, 2)), (153, (mX12_act, 3, 2)), (154, (mX11_trace, 1, 2)), (157, (mX12_trace, 1, 2)), (158, (mX11_keep, 2, 2)), (161, (mX12_keep, 2, 2)), (162, (mX11_row, 3, 2)), (165, (mX12_row, 3, 2)), (168, (mX11_put, 3, 2)), (172, (mX12_put, 3, 2)), (173, (mX11_element, 2, 2)), (177, (mX12_element, 2, 2)), (178, (mX11_shift, 5, 2)), (182, (mX12_shift, 5, 2)), (183, (mX11_taken, 2, 2)), (186, (mX12_taken, 2, 2)), (187, (mX11_count, 1, 2)), (190, (mX12_count, 1, 2))]
  | _ => none
set_option maxRecDepth 100000 in
theorem am_site_f0 : ∀ x ∈ ([(26, (mX5_read, 2, 2)), (32, (mX0_openAsIf, 3, 2)), (36, (mX5_stands, 1, 2)), (48, (mX6_nameTree, 3, 2)), (53, (mX5_coveredBy, 3, 2)), (57, (mX5_wishersOf, 1, 2)), (64, (mX11_at, 2, 1)), (68, (mX11_holds, 2, 1)), (72, (mX6_nameVoter, 3, 2)), (75, (mX6_value, 0, 2)), (87, (mX11_lay, 3, 1)), (91, (mJ6_bitCount_0f7a4, 1, 1)), (99, (mX0_worthOf, 2, 2))] : List (Nat × (am_M × Nat × Nat))), am_ML 0 x.1 x.2.1.2.1 ∧ am_MOk x.2.1 x.2.2.1 ∧ am_kd x.2.1 x.2.2.2 := List.forall_mem_cons.mpr ⟨⟨Or.inl (am_t3 _ (List.mem_of_getElem? (i := 118) rfl)), am_mok_X5_read, am_kd_X5_read⟩, List.forall_mem_cons.mpr ⟨⟨Or.inl (am_t3 _ (List.mem_of_getElem? (i := 119) rfl)), am_mok_X0_openAsIf, am_kd_X0_openAsIf⟩, List.forall_mem_cons.mpr ⟨⟨Or.inl (am_t3 _ (List.mem_of_getElem? (i := 135) rfl)), am_mok_X5_stands, am_kd_X5_stands⟩, List.forall_mem_cons.mpr ⟨⟨Or.inl (am_t3 _ (List.mem_of_getElem? (i := 123) rfl)), am_mok_X6_nameTree, am_kd_X6_nameTree⟩, List.forall_mem_cons.mpr ⟨⟨Or.inl (am_t3 _ (List.mem_of_getElem? (i := 127) rfl)), am_mok_X5_coveredBy, am_kd_X5_coveredBy⟩, List.forall_mem_cons.mpr ⟨⟨Or.inl (am_t3 _ (List.mem_of_getElem? (i := 128) rfl)), am_mok_X5_wishersOf, am_kd_X5_wishersOf⟩, List.forall_mem_cons.mpr ⟨⟨Or.inr (am_t3 _ (List.mem_of_getElem? (i := 151) rfl)), am_mok_X11_at, am_kd_X11_at⟩, List.forall_mem_cons.mpr ⟨⟨Or.inr (am_t3 _ (List.mem_of_getElem? (i := 146) rfl)), am_mok_X11_holds, am_kd_X11_holds⟩, List.forall_mem_cons.mpr ⟨⟨Or.inl (am_t3 _ (List.mem_of_getElem? (i := 152) rfl)), am_mok_X6_nameVoter, am_kd_X6_nameVoter⟩, List.forall_mem_cons.mpr ⟨⟨Or.inl (am_t3 _ (List.mem_of_getElem? (i := 156) rfl)), am_mok_X6_value, am_kd_X6_value⟩, List.forall_mem_cons.mpr ⟨⟨Or.inr (am_t3 _ (List.mem_of_getElem? (i := 170) rfl)), am_mok_X11_lay, am_kd_X11_lay⟩, List.forall_mem_cons.mpr ⟨⟨Or.inl (am_t3 _ (List.mem_of_getElem? (i := 140) rfl)), am_mok_J6_bitCount_0f7a4, am_kd_J6_bitCount_0f7a4⟩, List.forall_mem_cons.mpr ⟨⟨Or.inl (am_t3 _ (List.mem_of_getElem? (i := 147) rfl)), am_mok_X0_worthOf, am_kd_X0_worthOf⟩, fun _ h => absurd h List.not_mem_nil⟩⟩⟩⟩⟩⟩⟩⟩⟩⟩⟩⟩⟩
set_option maxRecDepth 100000 in
theorem am_site_f1 : ∀ x ∈ ([(26, (mX8_size, 0, 2)), (32, (mX8_valueAt, 1, 2)), (38, (mX1_twosOf, 1, 1)), (42, (mX1_isWellSaid, 2, 1)), (46, (mX5_read, 2, 2)), (52, (mX0_openAsIf, 3, 2)), (65, (mX0_passes, 2, 2)), (78, (mX1_ruleOut, 3, 2)), (81, (mX1_gather, 0, 2)), (87, (mX11_lay, 3, 1)), (91, (mX11_holds, 2, 1)), (94, (mX0_sumSets, 1, 2)), (98, (mX0_sumOf, 1, 2)), (102, (mX11_at, 2, 1))] : List (Nat × (am_M × Nat × Nat))), am_ML 1 x.1 x.2.1.2.1 ∧ am_MOk x.2.1 x.2.2.1 ∧ am_kd x.2.1 x.2.2.2 := List.forall_mem_cons.mpr ⟨⟨Or.inl (am_t4 _ (List.mem_of_getElem? (i := 90) rfl)), am_mok_X8_size, am_kd_X8_size⟩, List.forall_mem_cons.mpr ⟨⟨Or.inl (am_t4 _ (List.mem_of_getElem? (i := 94) rfl)), am_mok_X8_valueAt, am_kd_X8_valueAt⟩, List.forall_mem_cons.mpr ⟨⟨Or.inl (am_t4 _ (List.mem_of_getElem? (i := 87) rfl)), am_mok_X1_twosOf, am_kd_X1_twosOf⟩, List.forall_mem_cons.mpr ⟨⟨Or.inl (am_t4 _ (List.mem_of_getElem? (i := 91) rfl)), am_mok_X1_isWellSaid, am_kd_X1_isWellSaid⟩, List.forall_mem_cons.mpr ⟨⟨Or.inl (am_t4 _ (List.mem_of_getElem? (i := 96) rfl)), am_mok_X5_read, am_kd_X5_read⟩, List.forall_mem_cons.mpr ⟨⟨Or.inl (am_t4 _ (List.mem_of_getElem? (i := 97) rfl)), am_mok_X0_openAsIf, am_kd_X0_openAsIf⟩, List.forall_mem_cons.mpr ⟨⟨Or.inl (am_t4 _ (List.mem_of_getElem? (i := 98) rfl)), am_mok_X0_passes, am_kd_X0_passes⟩, List.forall_mem_cons.mpr ⟨⟨Or.inl (am_t4 _ (List.mem_of_getElem? (i := 110) rfl)), am_mok_X1_ruleOut, am_kd_X1_ruleOut⟩, List.forall_mem_cons.mpr ⟨⟨Or.inl (am_t4 _ (List.mem_of_getElem? (i := 119) rfl)), am_mok_X1_gather, am_kd_X1_gather⟩, List.forall_mem_cons.mpr ⟨⟨Or.inr (am_t4 _ (List.mem_of_getElem? (i := 114) rfl)), am_mok_X11_lay, am_kd_X11_lay⟩, List.forall_mem_cons.mpr ⟨⟨Or.inr (am_t4 _ (List.mem_of_getElem? (i := 115) rfl)), am_mok_X11_holds, am_kd_X11_holds⟩, List.forall_mem_cons.mpr ⟨⟨Or.inl (am_t4 _ (List.mem_of_getElem? (i := 116) rfl)), am_mok_X0_sumSets, am_kd_X0_sumSets⟩, List.forall_mem_cons.mpr ⟨⟨Or.inl (am_t4 _ (List.mem_of_getElem? (i := 117) rfl)), am_mok_X0_sumOf, am_kd_X0_sumOf⟩, List.forall_mem_cons.mpr ⟨⟨Or.inr (am_t4 _ (List.mem_of_getElem? (i := 118) rfl)), am_mok_X11_at, am_kd_X11_at⟩, fun _ h => absurd h List.not_mem_nil⟩⟩⟩⟩⟩⟩⟩⟩⟩⟩⟩⟩⟩⟩
set_option maxRecDepth 100000 in
theorem am_site_f2 : ∀ x ∈ ([(36, (mX2_placeOf, 1, 2)), (40, (mX11_lay, 3, 1)), (46, (mX11_at, 2, 1)), (50, (mX5_write, 3, 2))] : List (Nat × (am_M × Nat × Nat))), am_ML 2 x.1 x.2.1.2.1 ∧ am_MOk x.2.1 x.2.2.1 ∧ am_kd x.2.1 x.2.2.2 := List.forall_mem_cons.mpr ⟨⟨Or.inl (am_t2 _ (List.mem_of_getElem? (i := 234) rfl)), am_mok_X2_placeOf, am_kd_X2_placeOf⟩, List.forall_mem_cons.mpr ⟨⟨Or.inr (am_t2 _ (List.mem_of_getElem? (i := 238) rfl)), am_mok_X11_lay, am_kd_X11_lay⟩, List.forall_mem_cons.mpr ⟨⟨Or.inr (am_t4 _ (List.mem_of_getElem? (i := 222) rfl)), am_mok_X11_at, am_kd_X11_at⟩, List.forall_mem_cons.mpr ⟨⟨Or.inl (am_t4 _ (List.mem_of_getElem? (i := 223) rfl)), am_mok_X5_write, am_kd_X5_write⟩, fun _ h => absurd h List.not_mem_nil⟩⟩⟩⟩
set_option maxRecDepth 100000 in
theorem am_site_f3 : ∀ x ∈ ([(31, (mX11_at, 2, 1)), (35, (mX11_lay, 3, 1)), (45, (mX11_holds, 2, 1)), (49, (mX5_write, 3, 2)), (53, (mJ6_bitCount_0f7a4, 1, 1)), (59, (mX3_countOn, 2, 2)), (63, (mX5_read, 2, 2)), (67, (mX5_stands, 1, 2))] : List (Nat × (am_M × Nat × Nat))), am_ML 3 x.1 x.2.1.2.1 ∧ am_MOk x.2.1 x.2.2.1 ∧ am_kd x.2.1 x.2.2.2 := List.forall_mem_cons.mpr ⟨⟨Or.inr (am_t4 _ (List.mem_of_getElem? (i := 163) rfl)), am_mok_X11_at, am_kd_X11_at⟩, List.forall_mem_cons.mpr ⟨⟨Or.inr (am_t4 _ (List.mem_of_getElem? (i := 175) rfl)), am_mok_X11_lay, am_kd_X11_lay⟩, List.forall_mem_cons.mpr ⟨⟨Or.inr (am_t4 _ (List.mem_of_getElem? (i := 168) rfl)), am_mok_X11_holds, am_kd_X11_holds⟩, List.forall_mem_cons.mpr ⟨⟨Or.inl (am_t4 _ (List.mem_of_getElem? (i := 169) rfl)), am_mok_X5_write, am_kd_X5_write⟩, List.forall_mem_cons.mpr ⟨⟨Or.inl (am_t4 _ (List.mem_of_getElem? (i := 170) rfl)), am_mok_J6_bitCount_0f7a4, am_kd_J6_bitCount_0f7a4⟩, List.forall_mem_cons.mpr ⟨⟨Or.inl (am_t4 _ (List.mem_of_getElem? (i := 171) rfl)), am_mok_X3_countOn, am_kd_X3_countOn⟩, List.forall_mem_cons.mpr ⟨⟨Or.inl (am_t4 _ (List.mem_of_getElem? (i := 184) rfl)), am_mok_X5_read, am_kd_X5_read⟩, List.forall_mem_cons.mpr ⟨⟨Or.inl (am_t4 _ (List.mem_of_getElem? (i := 193) rfl)), am_mok_X5_stands, am_kd_X5_stands⟩, fun _ h => absurd h List.not_mem_nil⟩⟩⟩⟩⟩⟩⟩⟩
set_option maxRecDepth 100000 in
theorem am_site_f4 : ∀ x ∈ ([(26, (mX0_open, 2, 2)), (39, (mX0_passes, 2, 2)), (48, (mJ6_bitCount_0f7a4, 1, 1)), (54, (mX11_holds, 2, 1)), (57, (mX4_waysToDecide, 2, 2)), (61, (mX0_sumSets, 1, 2)), (65, (mX0_sumOf, 1, 2)), (68, (mX11_at, 2, 1)), (72, (mX5_read, 2, 2)), (75, (mX5_stands, 1, 2)), (79, (mX4_fallsAt, 3, 2)), (83, (mX0_openAsIf, 3, 2)), (87, (mX11_lay, 3, 1)), (91, (mX4_bestOf, 3, 2)), (98, (mX4_leastMove, 3, 2))] : List (Nat × (am_M × Nat × Nat))), am_ML 4 x.1 x.2.1.2.1 ∧ am_MOk x.2.1 x.2.2.1 ∧ am_kd x.2.1 x.2.2.2 := List.forall_mem_cons.mpr ⟨⟨Or.inl (am_t3 _ (List.mem_of_getElem? (i := 224) rfl)), am_mok_X0_open, am_kd_X0_open⟩, List.forall_mem_cons.mpr ⟨⟨Or.inl (am_t3 _ (List.mem_of_getElem? (i := 225) rfl)), am_mok_X0_passes, am_kd_X0_passes⟩, List.forall_mem_cons.mpr ⟨⟨Or.inl (am_t3 _ (List.mem_of_getElem? (i := 226) rfl)), am_mok_J6_bitCount_0f7a4, am_kd_J6_bitCount_0f7a4⟩, List.forall_mem_cons.mpr ⟨⟨Or.inr (am_t3 _ (List.mem_of_getElem? (i := 236) rfl)), am_mok_X11_holds, am_kd_X11_holds⟩, List.forall_mem_cons.mpr ⟨⟨Or.inl (am_t4 _ (List.mem_of_getElem? (i := 6) rfl)), am_mok_X4_waysToDecide, am_kd_X4_waysToDecide⟩, List.forall_mem_cons.mpr ⟨⟨Or.inl (am_t4 _ (List.mem_of_getElem? (i := 10) rfl)), am_mok_X0_sumSets, am_kd_X0_sumSets⟩, List.forall_mem_cons.mpr ⟨⟨Or.inl (am_t4 _ (List.mem_of_getElem? (i := 14) rfl)), am_mok_X0_sumOf, am_kd_X0_sumOf⟩, List.forall_mem_cons.mpr ⟨⟨Or.inr (am_t4 _ (List.mem_of_getElem? (i := 15) rfl)), am_mok_X11_at, am_kd_X11_at⟩, List.forall_mem_cons.mpr ⟨⟨Or.inl (am_t4 _ (List.mem_of_getElem? (i := 24) rfl)), am_mok_X5_read, am_kd_X5_read⟩, List.forall_mem_cons.mpr ⟨⟨Or.inl (am_t4 _ (List.mem_of_getElem? (i := 25) rfl)), am_mok_X5_stands, am_kd_X5_stands⟩, List.forall_mem_cons.mpr ⟨⟨Or.inl (am_t4 _ (List.mem_of_getElem? (i := 26) rfl)), am_mok_X4_fallsAt, am_kd_X4_fallsAt⟩, List.forall_mem_cons.mpr ⟨⟨Or.inl (am_t4 _ (List.mem_of_getElem? (i := 30) rfl)), am_mok_X0_openAsIf, am_kd_X0_openAsIf⟩, List.forall_mem_cons.mpr ⟨⟨Or.inr (am_t4 _ (List.mem_of_getElem? (i := 43) rfl)), am_mok_X11_lay, am_kd_X11_lay⟩, List.forall_mem_cons.mpr ⟨⟨Or.inl (am_t4 _ (List.mem_of_getElem? (i := 44) rfl)), am_mok_X4_bestOf, am_kd_X4_bestOf⟩, List.forall_mem_cons.mpr ⟨⟨Or.inl (am_t4 _ (List.mem_of_getElem? (i := 48) rfl)), am_mok_X4_leastMove, am_kd_X4_leastMove⟩, fun _ h => absurd h List.not_mem_nil⟩⟩⟩⟩⟩⟩⟩⟩⟩⟩⟩⟩⟩⟩⟩
set_option maxRecDepth 100000 in
theorem am_site_f5 : ∀ x ∈ ([(18, (mX11_at, 2, 1)), (22, (mX5_write, 3, 2)), (33, (mX5_owners, 1, 2)), (37, (mX11_within, 3, 1)), (47, (mX11_lay, 3, 1)), (51, (mX5_read, 2, 2)), (60, (mX5_stands, 1, 2)), (64, (mX5_lies, 4, 1)), (68, (mX11_holds, 2, 1))] : List (Nat × (am_M × Nat × Nat))), am_ML 5 x.1 x.2.1.2.1 ∧ am_MOk x.2.1 x.2.2.1 ∧ am_kd x.2.1 x.2.2.2 := List.forall_mem_cons.mpr ⟨⟨Or.inr (am_t1 _ (List.mem_of_getElem? (i := 33) rfl)), am_mok_X11_at, am_kd_X11_at⟩, List.forall_mem_cons.mpr ⟨⟨Or.inl (am_t1 _ (List.mem_of_getElem? (i := 36) rfl)), am_mok_X5_write, am_kd_X5_write⟩, List.forall_mem_cons.mpr ⟨⟨Or.inl (am_t2 _ (List.mem_of_getElem? (i := 221) rfl)), am_mok_X5_owners, am_kd_X5_owners⟩, List.forall_mem_cons.mpr ⟨⟨Or.inr (am_t2 _ (List.mem_of_getElem? (i := 159) rfl)), am_mok_X11_within, am_kd_X11_within⟩, List.forall_mem_cons.mpr ⟨⟨Or.inr (am_t1 _ (List.mem_of_getElem? (i := 40) rfl)), am_mok_X11_lay, am_kd_X11_lay⟩, List.forall_mem_cons.mpr ⟨⟨Or.inl (am_t3 _ (List.mem_of_getElem? (i := 89) rfl)), am_mok_X5_read, am_kd_X5_read⟩, List.forall_mem_cons.mpr ⟨⟨Or.inl (am_t3 _ (List.mem_of_getElem? (i := 109) rfl)), am_mok_X5_stands, am_kd_X5_stands⟩, List.forall_mem_cons.mpr ⟨⟨Or.inl (am_t3 _ (List.mem_of_getElem? (i := 95) rfl)), am_mok_X5_lies, am_kd_X5_lies⟩, List.forall_mem_cons.mpr ⟨⟨Or.inr (am_t3 _ (List.mem_of_getElem? (i := 132) rfl)), am_mok_X11_holds, am_kd_X11_holds⟩, fun _ h => absurd h List.not_mem_nil⟩⟩⟩⟩⟩⟩⟩⟩⟩
set_option maxRecDepth 100000 in
theorem am_site_f6 : ∀ x ∈ ([(28, (mX11_at, 2, 1)), (34, (mX11_lay, 3, 1)), (56, (mX7_levelOf, 1, 1)), (60, (mX6_ofTwo, 3, 1)), (64, (mX6_operand, 1, 2))] : List (Nat × (am_M × Nat × Nat))), am_ML 6 x.1 x.2.1.2.1 ∧ am_MOk x.2.1 x.2.2.1 ∧ am_kd x.2.1 x.2.2.2 := List.forall_mem_cons.mpr ⟨⟨Or.inr (am_t3 _ (List.mem_of_getElem? (i := 59) rfl)), am_mok_X11_at, am_kd_X11_at⟩, List.forall_mem_cons.mpr ⟨⟨Or.inr (am_t3 _ (List.mem_of_getElem? (i := 60) rfl)), am_mok_X11_lay, am_kd_X11_lay⟩, List.forall_mem_cons.mpr ⟨⟨Or.inr (am_t3 _ (List.mem_of_getElem? (i := 160) rfl)), am_mok_X7_levelOf, am_kd_X7_levelOf⟩, List.forall_mem_cons.mpr ⟨⟨Or.inl (am_t3 _ (List.mem_of_getElem? (i := 161) rfl)), am_mok_X6_ofTwo, am_kd_X6_ofTwo⟩, List.forall_mem_cons.mpr ⟨⟨Or.inl (am_t3 _ (List.mem_of_getElem? (i := 164) rfl)), am_mok_X6_operand, am_kd_X6_operand⟩, fun _ h => absurd h List.not_mem_nil⟩⟩⟩⟩⟩
set_option maxRecDepth 100000 in
theorem am_site_f7 : ∀ x ∈ ([(22, (mX11_lay, 3, 1)), (32, (mX7_readLine, 0, 2)), (36, (mX7_next, 0, 2)), (40, (mX11_at, 2, 1)), (44, (mX7_readChain, 2, 2)), (48, (mX7_emit, 1, 2)), (52, (mX7_readOperand, 1, 2)), (56, (mX7_levelOf, 1, 1)), (60, (mX11_within, 3, 1)), (64, (mX7_readNumber, 0, 2)), (67, (mX7_isName, 1, 1))] : List (Nat × (am_M × Nat × Nat))), am_ML 7 x.1 x.2.1.2.1 ∧ am_MOk x.2.1 x.2.2.1 ∧ am_kd x.2.1 x.2.2.2 := List.forall_mem_cons.mpr ⟨⟨Or.inr (am_t3 _ (List.mem_of_getElem? (i := 11) rfl)), am_mok_X11_lay, am_kd_X11_lay⟩, List.forall_mem_cons.mpr ⟨⟨Or.inl (am_t3 _ (List.mem_of_getElem? (i := 20) rfl)), am_mok_X7_readLine, am_kd_X7_readLine⟩, List.forall_mem_cons.mpr ⟨⟨Or.inl (am_t3 _ (List.mem_of_getElem? (i := 32) rfl)), am_mok_X7_next, am_kd_X7_next⟩, List.forall_mem_cons.mpr ⟨⟨Or.inr (am_t3 _ (List.mem_of_getElem? (i := 36) rfl)), am_mok_X11_at, am_kd_X11_at⟩, List.forall_mem_cons.mpr ⟨⟨Or.inl (am_t3 _ (List.mem_of_getElem? (i := 24) rfl)), am_mok_X7_readChain, am_kd_X7_readChain⟩, List.forall_mem_cons.mpr ⟨⟨Or.inl (am_t3 _ (List.mem_of_getElem? (i := 42) rfl)), am_mok_X7_emit, am_kd_X7_emit⟩, List.forall_mem_cons.mpr ⟨⟨Or.inl (am_t3 _ (List.mem_of_getElem? (i := 28) rfl)), am_mok_X7_readOperand, am_kd_X7_readOperand⟩, List.forall_mem_cons.mpr ⟨⟨Or.inl (am_t3 _ (List.mem_of_getElem? (i := 49) rfl)), am_mok_X7_levelOf, am_kd_X7_levelOf⟩, List.forall_mem_cons.mpr ⟨⟨Or.inr (am_t3 _ (List.mem_of_getElem? (i := 37) rfl)), am_mok_X11_within, am_kd_X11_within⟩, List.forall_mem_cons.mpr ⟨⟨Or.inl (am_t3 _ (List.mem_of_getElem? (i := 38) rfl)), am_mok_X7_readNumber, am_kd_X7_readNumber⟩, List.forall_mem_cons.mpr ⟨⟨Or.inl (am_t3 _ (List.mem_of_getElem? (i := 46) rfl)), am_mok_X7_isName, am_kd_X7_isName⟩, fun _ h => absurd h List.not_mem_nil⟩⟩⟩⟩⟩⟩⟩⟩⟩⟩⟩
set_option maxRecDepth 100000 in
theorem am_site_f8 : ∀ x ∈ ([(20, (mX8_isRow, 0, 2)), (33, (mX8_narrowed, 1, 2))] : List (Nat × (am_M × Nat × Nat))), am_ML 8 x.1 x.2.1.2.1 ∧ am_MOk x.2.1 x.2.2.1 ∧ am_kd x.2.1 x.2.2.2 := List.forall_mem_cons.mpr ⟨⟨Or.inl (am_t2 _ (List.mem_of_getElem? (i := 191) rfl)), am_mok_X8_isRow, am_kd_X8_isRow⟩, List.forall_mem_cons.mpr ⟨⟨Or.inl (am_t5 _ (List.mem_of_getElem? (i := 72) rfl)), am_mok_X8_narrowed, am_kd_X8_narrowed⟩, fun _ h => absurd h List.not_mem_nil⟩⟩
set_option maxRecDepth 100000 in
theorem am_site_f9 : ∀ x ∈ ([(23, (mX5_stands, 1, 2)), (29, (mX5_read, 2, 2)), (33, (mX5_coveredBy, 3, 2)), (37, (mX0_open, 2, 2)), (50, (mX0_passes, 2, 2)), (57, (mX9_fallsIn, 2, 2)), (60, (mX9_firstFall, 2, 2)), (63, (mX9_standing, 0, 2)), (72, (mX9_falling, 1, 2)), (76, (mX9_sittersIn, 2, 2)), (79, (mJ6_bitCount_0f7a4, 1, 1)), (84, (mX5_shades, 3, 2)), (91, (mX9_shadesOver, 2, 2)), (100, (mX9_monthsOver, 2, 2)), (103, (mX11_lay, 3, 1)), (108, (mX11_at, 2, 1)), (112, (mX11_holds, 2, 1))] : List (Nat × (am_M × Nat × Nat))), am_ML 9 x.1 x.2.1.2.1 ∧ am_MOk x.2.1 x.2.2.1 ∧ am_kd x.2.1 x.2.2.2 := List.forall_mem_cons.mpr ⟨⟨Or.inl (am_t3 _ (List.mem_of_getElem? (i := 85) rfl)), am_mok_X5_stands, am_kd_X5_stands⟩, List.forall_mem_cons.mpr ⟨⟨Or.inl (am_t3 _ (List.mem_of_getElem? (i := 90) rfl)), am_mok_X5_read, am_kd_X5_read⟩, List.forall_mem_cons.mpr ⟨⟨Or.inl (am_t3 _ (List.mem_of_getElem? (i := 91) rfl)), am_mok_X5_coveredBy, am_kd_X5_coveredBy⟩, List.forall_mem_cons.mpr ⟨⟨Or.inl (am_t3 _ (List.mem_of_getElem? (i := 191) rfl)), am_mok_X0_open, am_kd_X0_open⟩, List.forall_mem_cons.mpr ⟨⟨Or.inl (am_t3 _ (List.mem_of_getElem? (i := 192) rfl)), am_mok_X0_passes, am_kd_X0_passes⟩, List.forall_mem_cons.mpr ⟨⟨Or.inl (am_t3 _ (List.mem_of_getElem? (i := 187) rfl)), am_mok_X9_fallsIn, am_kd_X9_fallsIn⟩, List.forall_mem_cons.mpr ⟨⟨Or.inl (am_t3 _ (List.mem_of_getElem? (i := 183) rfl)), am_mok_X9_firstFall, am_kd_X9_firstFall⟩, List.forall_mem_cons.mpr ⟨⟨Or.inl (am_t3 _ (List.mem_of_getElem? (i := 210) rfl)), am_mok_X9_standing, am_kd_X9_standing⟩, List.forall_mem_cons.mpr ⟨⟨Or.inl (am_t3 _ (List.mem_of_getElem? (i := 215) rfl)), am_mok_X9_falling, am_kd_X9_falling⟩, List.forall_mem_cons.mpr ⟨⟨Or.inl (am_t4 _ (List.mem_of_getElem? (i := 60) rfl)), am_mok_X9_sittersIn, am_kd_X9_sittersIn⟩, List.forall_mem_cons.mpr ⟨⟨Or.inl (am_t4 _ (List.mem_of_getElem? (i := 61) rfl)), am_mok_J6_bitCount_0f7a4, am_kd_J6_bitCount_0f7a4⟩, List.forall_mem_cons.mpr ⟨⟨Or.inl (am_t4 _ (List.mem_of_getElem? (i := 74) rfl)), am_mok_X5_shades, am_kd_X5_shades⟩, List.forall_mem_cons.mpr ⟨⟨Or.inl (am_t4 _ (List.mem_of_getElem? (i := 70) rfl)), am_mok_X9_shadesOver, am_kd_X9_shadesOver⟩, List.forall_mem_cons.mpr ⟨⟨Or.inl (am_t4 _ (List.mem_of_getElem? (i := 131) rfl)), am_mok_X9_monthsOver, am_kd_X9_monthsOver⟩, List.forall_mem_cons.mpr ⟨⟨Or.inr (am_t4 _ (List.mem_of_getElem? (i := 151) rfl)), am_mok_X11_lay, am_kd_X11_lay⟩, List.forall_mem_cons.mpr ⟨⟨Or.inr (am_t4 _ (List.mem_of_getElem? (i := 153) rfl)), am_mok_X11_at, am_kd_X11_at⟩, List.forall_mem_cons.mpr ⟨⟨Or.inr (am_t4 _ (List.mem_of_getElem? (i := 154) rfl)), am_mok_X11_holds, am_kd_X11_holds⟩, fun _ h => absurd h List.not_mem_nil⟩⟩⟩⟩⟩⟩⟩⟩⟩⟩⟩⟩⟩⟩⟩⟩⟩
set_option maxRecDepth 100000 in
theorem am_site_f10 : ∀ x ∈ ([(22, (mX11_lay, 3, 1)), (26, (mX11_at, 2, 1)), (42, (mX11_within, 3, 1)), (46, (mX10_kindOf, 1, 2)), (50, (mX10_perform, 5, 2)), (57, (mX10_ownerOf, 2, 1)), (60, (mX10_run, 5, 2)), (63, (mX10_does, 4, 2))] : List (Nat × (am_M × Nat × Nat))), am_ML 10 x.1 x.2.1.2.1 ∧ am_MOk x.2.1 x.2.2.1 ∧ am_kd x.2.1 x.2.2.2 := List.forall_mem_cons.mpr ⟨⟨Or.inr (am_t5 _ (List.mem_of_getElem? (i := 0) rfl)), am_mok_X11_lay, am_kd_X11_lay⟩, List.forall_mem_cons.mpr ⟨⟨Or.inr (am_t5 _ (List.mem_of_getElem? (i := 14) rfl)), am_mok_X11_at, am_kd_X11_at⟩, List.forall_mem_cons.mpr ⟨⟨Or.inr (am_t5 _ (List.mem_of_getElem? (i := 9) rfl)), am_mok_X11_within, am_kd_X11_within⟩, List.forall_mem_cons.mpr ⟨⟨Or.inl (am_t5 _ (List.mem_of_getElem? (i := 10) rfl)), am_mok_X10_kindOf, am_kd_X10_kindOf⟩, List.forall_mem_cons.mpr ⟨⟨Or.inl (am_t5 _ (List.mem_of_getElem? (i := 15) rfl)), am_mok_X10_perform, am_kd_X10_perform⟩, List.forall_mem_cons.mpr ⟨⟨Or.inl (am_t5 _ (List.mem_of_getElem? (i := 19) rfl)), am_mok_X10_ownerOf, am_kd_X10_ownerOf⟩, List.forall_mem_cons.mpr ⟨⟨Or.inl (am_t5 _ (List.mem_of_getElem? (i := 26) rfl)), am_mok_X10_run, am_kd_X10_run⟩, List.forall_mem_cons.mpr ⟨⟨Or.inl (am_t5 _ (List.mem_of_getElem? (i := 30) rfl)), am_mok_X10_does, am_kd_X10_does⟩, fun _ h => absurd h List.not_mem_nil⟩⟩⟩⟩⟩⟩⟩⟩
set_option maxRecDepth 100000 in
theorem am_site_f11 : ∀ x ∈ ([(11, (mX5_init, 0, 0)), (18, (mX7_init, 0, 0)), (25, (mX6_init, 0, 0)), (32, (mX0_init, 2, 0)), (41, (mX9_init, 2, 0)), (57, (mX4_init, 4, 0)), (66, (mX1_init, 4, 0)), (73, (mX3_init, 1, 0)), (82, (mX2_init, 1, 0)), (89, (mX10_init, 0, 0)), (96, (mX8_init, 0, 0)), (101, (mX5_fits, 2, 2)), (105, (mX5_addTree, 2, 2)), (109, (mX5_addPerson, 3, 2)), (113, (mX11_shelfAt, 1, 2)), (117, (mX11_within, 3, 1)), (121, (mX8_isEmpty, 0, 2)), (125, (mX8_isRowOf, 1, 2)), (129, (mX11_comesFrom, 2, 2)), (133, (mX8_isRow, 0, 2)), (138, (mX8_size, 0, 2)), (142, (mX8_valueAt, 1, 2)), (146, (mX5_has, 2, 2)), (149, (mX5_read, 2, 2)), (152, (mX5_write, 3, 2)), (156, (mX2_add, 4, 2)), (160, (mX7_take, 1, 2)), (164, (mX7_findFault, 0, 2)), (174, (mX6_become, 2, 2)), (178, (mX7_clear, 0, 2)), (181, (mX11_isTreeMonth, 1, 2)), (184, (mX9_sittersIn, 2, 2)), (187, (mX5_cellsOf, 2, 2)), (190, (mX0_open, 2, 2)), (200, (mX0_passes, 2, 2)), (203, (mX0_sumOf, 1, 2)), (206, (mX9_neverFalling, 0, 2)), (209, (mX9_falling, 1, 2)), (212, (mX9_firstFall, 2, 2)), (215, (mX11_isMonth, 1, 2)), (218, (mX9_leftBehind, 2, 2)), (221, (mX4_fewestToTurn, 2, 2)), (224, (mJ6_bitCount_0f7a4, 1, 1)), (229, (mX4_hangsOn, 2, 2)), (236, (mX4_powerOf, 4, 2)), (240, (mX4_lessHigh, 2, 2)), (243, (mX4_moreHigh, 2, 2)), (246, (mX4_playTurns, 3, 2)), (255, (mX11_isTree, 1, 2)), (258, (mX9_deepestMonth, 1, 2)), (261, (mX9_shadiestOne, 1, 2)), (264, (mX9_shadesOver, 2, 2)), (267, (mX1_firstWrong, 2, 2)), (271, (mX11_refusalOf, 1, 1)), (275, (mX1_findWishers, 2, 2)), (288, (mX9_findSeat, 2, 2)), (297, (mX9_sameShade, 3, 2)), (300, (mX9_drawYears, 4, 2)), (303, (mX3_tell, 1, 2)), (306, (mX3_fell, 1, 2)), (310, (mX3_seat, 2, 2)), (313, (mX3_lopOne, 1, 2)), (316, (mX3_keepImage, 0, 2)), (319, (mX3_layBack, 0, 2)), (322, (mX2_takeBack, 0, 2)), (328, (mX2_doAgain, 0, 2)), (334, (mX10_add, 1, 2)), (336, (mX10_start, 3, 2)), (339, (mX10_tracesKept, 0, 2)), (342, (mX10_traceAt, 1, 2)), (348, (mX8_holdVoter, 1, 2)), (351, (mX8_holdRow, 2, 2)), (354, (mX8_write, 2, 2)), (360, (mX8_takeFrom, 4, 2)), (367, (mX10_kindOf, 1, 2)), (370, (mX10_isUnder, 2, 2))] : List (Nat × (am_M × Nat × Nat))), am_ML 11 x.1 x.2.1.2.1 ∧ am_MOk x.2.1 x.2.2.1 ∧ am_kd x.2.1 x.2.2.2 := List.forall_mem_cons.mpr ⟨⟨Or.inl (am_t1 _ (List.mem_of_getElem? (i := 27) rfl)), am_mok_X5_init, am_kd_X5_init⟩, List.forall_mem_cons.mpr ⟨⟨Or.inr (am_t1 _ (List.mem_of_getElem? (i := 65) rfl)), am_mok_X7_init, am_kd_X7_init⟩, List.forall_mem_cons.mpr ⟨⟨Or.inr (am_t1 _ (List.mem_of_getElem? (i := 90) rfl)), am_mok_X6_init, am_kd_X6_init⟩, List.forall_mem_cons.mpr ⟨⟨Or.inl (am_t1 _ (List.mem_of_getElem? (i := 124) rfl)), am_mok_X0_init, am_kd_X0_init⟩, List.forall_mem_cons.mpr ⟨⟨Or.inl (am_t1 _ (List.mem_of_getElem? (i := 160) rfl)), am_mok_X9_init, am_kd_X9_init⟩, List.forall_mem_cons.mpr ⟨⟨Or.inl (am_t1 _ (List.mem_of_getElem? (i := 184) rfl)), am_mok_X4_init, am_kd_X4_init⟩, List.forall_mem_cons.mpr ⟨⟨Or.inl (am_t1 _ (List.mem_of_getElem? (i := 211) rfl)), am_mok_X1_init, am_kd_X1_init⟩, List.forall_mem_cons.mpr ⟨⟨Or.inl (am_t2 _ (List.mem_of_getElem? (i := 2) rfl)), am_mok_X3_init, am_kd_X3_init⟩, List.forall_mem_cons.mpr ⟨⟨Or.inl (am_t2 _ (List.mem_of_getElem? (i := 36) rfl)), am_mok_X2_init, am_kd_X2_init⟩, List.forall_mem_cons.mpr ⟨⟨Or.inr (am_t2 _ (List.mem_of_getElem? (i := 69) rfl)), am_mok_X10_init, am_kd_X10_init⟩, List.forall_mem_cons.mpr ⟨⟨Or.inr (am_t2 _ (List.mem_of_getElem? (i := 91) rfl)), am_mok_X8_init, am_kd_X8_init⟩, List.forall_mem_cons.mpr ⟨⟨Or.inl (am_t2 _ (List.mem_of_getElem? (i := 155) rfl)), am_mok_X5_fits, am_kd_X5_fits⟩, List.forall_mem_cons.mpr ⟨⟨Or.inl (am_t2 _ (List.mem_of_getElem? (i := 166) rfl)), am_mok_X5_addTree, am_kd_X5_addTree⟩, List.forall_mem_cons.mpr ⟨⟨Or.inl (am_t2 _ (List.mem_of_getElem? (i := 174) rfl)), am_mok_X5_addPerson, am_kd_X5_addPerson⟩, List.forall_mem_cons.mpr ⟨⟨Or.inl (am_t2 _ (List.mem_of_getElem? (i := 182) rfl)), am_mok_X11_shelfAt, am_kd_X11_shelfAt⟩, List.forall_mem_cons.mpr ⟨⟨Or.inl (am_t2 _ (List.mem_of_getElem? (i := 186) rfl)), am_mok_X11_within, am_kd_X11_within⟩, List.forall_mem_cons.mpr ⟨⟨Or.inl (am_t2 _ (List.mem_of_getElem? (i := 187) rfl)), am_mok_X8_isEmpty, am_kd_X8_isEmpty⟩, List.forall_mem_cons.mpr ⟨⟨Or.inl (am_t2 _ (List.mem_of_getElem? (i := 195) rfl)), am_mok_X8_isRowOf, am_kd_X8_isRowOf⟩, List.forall_mem_cons.mpr ⟨⟨Or.inl (am_t2 _ (List.mem_of_getElem? (i := 199) rfl)), am_mok_X11_comesFrom, am_kd_X11_comesFrom⟩, List.forall_mem_cons.mpr ⟨⟨Or.inl (am_t2 _ (List.mem_of_getElem? (i := 203) rfl)), am_mok_X8_isRow, am_kd_X8_isRow⟩, List.forall_mem_cons.mpr ⟨⟨Or.inl (am_t2 _ (List.mem_of_getElem? (i := 205) rfl)), am_mok_X8_size, am_kd_X8_size⟩, List.forall_mem_cons.mpr ⟨⟨Or.inl (am_t2 _ (List.mem_of_getElem? (i := 209) rfl)), am_mok_X8_valueAt, am_kd_X8_valueAt⟩, List.forall_mem_cons.mpr ⟨⟨Or.inl (am_t2 _ (List.mem_of_getElem? (i := 217) rfl)), am_mok_X5_has, am_kd_X5_has⟩, List.forall_mem_cons.mpr ⟨⟨Or.inl (am_t2 _ (List.mem_of_getElem? (i := 225) rfl)), am_mok_X5_read, am_kd_X5_read⟩, List.forall_mem_cons.mpr ⟨⟨Or.inl (am_t2 _ (List.mem_of_getElem? (i := 229) rfl)), am_mok_X5_write, am_kd_X5_write⟩, List.forall_mem_cons.mpr ⟨⟨Or.inl (am_t2 _ (List.mem_of_getElem? (i := 230) rfl)), am_mok_X2_add, am_kd_X2_add⟩, List.forall_mem_cons.mpr ⟨⟨Or.inl (am_t3 _ (List.mem_of_getElem? (i := 7) rfl)), am_mok_X7_take, am_kd_X7_take⟩, List.forall_mem_cons.mpr ⟨⟨Or.inl (am_t3 _ (List.mem_of_getElem? (i := 16) rfl)), am_mok_X7_findFault, am_kd_X7_findFault⟩, List.forall_mem_cons.mpr ⟨⟨Or.inl (am_t3 _ (List.mem_of_getElem? (i := 52) rfl)), am_mok_X6_become, am_kd_X6_become⟩, List.forall_mem_cons.mpr ⟨⟨Or.inl (am_t3 _ (List.mem_of_getElem? (i := 61) rfl)), am_mok_X7_clear, am_kd_X7_clear⟩, List.forall_mem_cons.mpr ⟨⟨Or.inl (am_t3 _ (List.mem_of_getElem? (i := 69) rfl)), am_mok_X11_isTreeMonth, am_kd_X11_isTreeMonth⟩, List.forall_mem_cons.mpr ⟨⟨Or.inl (am_t3 _ (List.mem_of_getElem? (i := 81) rfl)), am_mok_X9_sittersIn, am_kd_X9_sittersIn⟩, List.forall_mem_cons.mpr ⟨⟨Or.inl (am_t3 _ (List.mem_of_getElem? (i := 105) rfl)), am_mok_X5_cellsOf, am_kd_X5_cellsOf⟩, List.forall_mem_cons.mpr ⟨⟨Or.inl (am_t3 _ (List.mem_of_getElem? (i := 114) rfl)), am_mok_X0_open, am_kd_X0_open⟩, List.forall_mem_cons.mpr ⟨⟨Or.inl (am_t3 _ (List.mem_of_getElem? (i := 136) rfl)), am_mok_X0_passes, am_kd_X0_passes⟩, List.forall_mem_cons.mpr ⟨⟨Or.inl (am_t3 _ (List.mem_of_getElem? (i := 171) rfl)), am_mok_X0_sumOf, am_kd_X0_sumOf⟩, List.forall_mem_cons.mpr ⟨⟨Or.inl (am_t3 _ (List.mem_of_getElem? (i := 179) rfl)), am_mok_X9_neverFalling, am_kd_X9_neverFalling⟩, List.forall_mem_cons.mpr ⟨⟨Or.inl (am_t3 _ (List.mem_of_getElem? (i := 193) rfl)), am_mok_X9_falling, am_kd_X9_falling⟩, List.forall_mem_cons.mpr ⟨⟨Or.inl (am_t3 _ (List.mem_of_getElem? (i := 201) rfl)), am_mok_X9_firstFall, am_kd_X9_firstFall⟩, List.forall_mem_cons.mpr ⟨⟨Or.inl (am_t3 _ (List.mem_of_getElem? (i := 77) rfl)), am_mok_X11_isMonth, am_kd_X11_isMonth⟩, List.forall_mem_cons.mpr ⟨⟨Or.inl (am_t3 _ (List.mem_of_getElem? (i := 206) rfl)), am_mok_X9_leftBehind, am_kd_X9_leftBehind⟩, List.forall_mem_cons.mpr ⟨⟨Or.inl (am_t3 _ (List.mem_of_getElem? (i := 220) rfl)), am_mok_X4_fewestToTurn, am_kd_X4_fewestToTurn⟩, List.forall_mem_cons.mpr ⟨⟨Or.inl (am_t3 _ (List.mem_of_getElem? (i := 227) rfl)), am_mok_J6_bitCount_0f7a4, am_kd_J6_bitCount_0f7a4⟩, List.forall_mem_cons.mpr ⟨⟨Or.inl (am_t3 _ (List.mem_of_getElem? (i := 232) rfl)), am_mok_X4_hangsOn, am_kd_X4_hangsOn⟩, List.forall_mem_cons.mpr ⟨⟨Or.inl (am_t4 _ (List.mem_of_getElem? (i := 2) rfl)), am_mok_X4_powerOf, am_kd_X4_powerOf⟩, List.forall_mem_cons.mpr ⟨⟨Or.inl (am_t4 _ (List.mem_of_getElem? (i := 20) rfl)), am_mok_X4_lessHigh, am_kd_X4_lessHigh⟩, List.forall_mem_cons.mpr ⟨⟨Or.inl (am_t4 _ (List.mem_of_getElem? (i := 31) rfl)), am_mok_X4_moreHigh, am_kd_X4_moreHigh⟩, List.forall_mem_cons.mpr ⟨⟨Or.inl (am_t4 _ (List.mem_of_getElem? (i := 39) rfl)), am_mok_X4_playTurns, am_kd_X4_playTurns⟩, List.forall_mem_cons.mpr ⟨⟨Or.inl (am_t3 _ (List.mem_of_getElem? (i := 73) rfl)), am_mok_X11_isTree, am_kd_X11_isTree⟩, List.forall_mem_cons.mpr ⟨⟨Or.inl (am_t4 _ (List.mem_of_getElem? (i := 56) rfl)), am_mok_X9_deepestMonth, am_kd_X9_deepestMonth⟩, List.forall_mem_cons.mpr ⟨⟨Or.inl (am_t4 _ (List.mem_of_getElem? (i := 66) rfl)), am_mok_X9_shadiestOne, am_kd_X9_shadiestOne⟩, List.forall_mem_cons.mpr ⟨⟨Or.inl (am_t4 _ (List.mem_of_getElem? (i := 78) rfl)), am_mok_X9_shadesOver, am_kd_X9_shadesOver⟩, List.forall_mem_cons.mpr ⟨⟨Or.inl (am_t4 _ (List.mem_of_getElem? (i := 83) rfl)), am_mok_X1_firstWrong, am_kd_X1_firstWrong⟩, List.forall_mem_cons.mpr ⟨⟨Or.inl (am_t4 _ (List.mem_of_getElem? (i := 99) rfl)), am_mok_X11_refusalOf, am_kd_X11_refusalOf⟩, List.forall_mem_cons.mpr ⟨⟨Or.inl (am_t4 _ (List.mem_of_getElem? (i := 106) rfl)), am_mok_X1_findWishers, am_kd_X1_findWishers⟩, List.forall_mem_cons.mpr ⟨⟨Or.inl (am_t4 _ (List.mem_of_getElem? (i := 127) rfl)), am_mok_X9_findSeat, am_kd_X9_findSeat⟩, List.forall_mem_cons.mpr ⟨⟨Or.inl (am_t4 _ (List.mem_of_getElem? (i := 139) rfl)), am_mok_X9_sameShade, am_kd_X9_sameShade⟩, List.forall_mem_cons.mpr ⟨⟨Or.inl (am_t4 _ (List.mem_of_getElem? (i := 147) rfl)), am_mok_X9_drawYears, am_kd_X9_drawYears⟩, List.forall_mem_cons.mpr ⟨⟨Or.inl (am_t4 _ (List.mem_of_getElem? (i := 159) rfl)), am_mok_X3_tell, am_kd_X3_tell⟩, List.forall_mem_cons.mpr ⟨⟨Or.inl (am_t4 _ (List.mem_of_getElem? (i := 164) rfl)), am_mok_X3_fell, am_kd_X3_fell⟩, List.forall_mem_cons.mpr ⟨⟨Or.inl (am_t4 _ (List.mem_of_getElem? (i := 180) rfl)), am_mok_X3_seat, am_kd_X3_seat⟩, List.forall_mem_cons.mpr ⟨⟨Or.inl (am_t4 _ (List.mem_of_getElem? (i := 189) rfl)), am_mok_X3_lopOne, am_kd_X3_lopOne⟩, List.forall_mem_cons.mpr ⟨⟨Or.inl (am_t4 _ (List.mem_of_getElem? (i := 202) rfl)), am_mok_X3_keepImage, am_kd_X3_keepImage⟩, List.forall_mem_cons.mpr ⟨⟨Or.inl (am_t4 _ (List.mem_of_getElem? (i := 210) rfl)), am_mok_X3_layBack, am_kd_X3_layBack⟩, List.forall_mem_cons.mpr ⟨⟨Or.inl (am_t4 _ (List.mem_of_getElem? (i := 218) rfl)), am_mok_X2_takeBack, am_kd_X2_takeBack⟩, List.forall_mem_cons.mpr ⟨⟨Or.inl (am_t4 _ (List.mem_of_getElem? (i := 228) rfl)), am_mok_X2_doAgain, am_kd_X2_doAgain⟩, List.forall_mem_cons.mpr ⟨⟨Or.inl (am_t4 _ (List.mem_of_getElem? (i := 236) rfl)), am_mok_X10_add, am_kd_X10_add⟩, List.forall_mem_cons.mpr ⟨⟨Or.inl (am_t5 _ (List.mem_of_getElem? (i := 5) rfl)), am_mok_X10_start, am_kd_X10_start⟩, List.forall_mem_cons.mpr ⟨⟨Or.inl (am_t5 _ (List.mem_of_getElem? (i := 38) rfl)), am_mok_X10_tracesKept, am_kd_X10_tracesKept⟩, List.forall_mem_cons.mpr ⟨⟨Or.inl (am_t5 _ (List.mem_of_getElem? (i := 43) rfl)), am_mok_X10_traceAt, am_kd_X10_traceAt⟩, List.forall_mem_cons.mpr ⟨⟨Or.inl (am_t5 _ (List.mem_of_getElem? (i := 51) rfl)), am_mok_X8_holdVoter, am_kd_X8_holdVoter⟩, List.forall_mem_cons.mpr ⟨⟨Or.inl (am_t5 _ (List.mem_of_getElem? (i := 59) rfl)), am_mok_X8_holdRow, am_kd_X8_holdRow⟩, List.forall_mem_cons.mpr ⟨⟨Or.inl (am_t5 _ (List.mem_of_getElem? (i := 68) rfl)), am_mok_X8_write, am_kd_X8_write⟩, List.forall_mem_cons.mpr ⟨⟨Or.inl (am_t5 _ (List.mem_of_getElem? (i := 84) rfl)), am_mok_X8_takeFrom, am_kd_X8_takeFrom⟩, List.forall_mem_cons.mpr ⟨⟨Or.inl (am_t5 _ (List.mem_of_getElem? (i := 95) rfl)), am_mok_X10_kindOf, am_kd_X10_kindOf⟩, List.forall_mem_cons.mpr ⟨⟨Or.inl (am_t5 _ (List.mem_of_getElem? (i := 96) rfl)), am_mok_X10_isUnder, am_kd_X10_isUnder⟩, fun _ h => absurd h List.not_mem_nil⟩⟩⟩⟩⟩⟩⟩⟩⟩⟩⟩⟩⟩⟩⟩⟩⟩⟩⟩⟩⟩⟩⟩⟩⟩⟩⟩⟩⟩⟩⟩⟩⟩⟩⟩⟩⟩⟩⟩⟩⟩⟩⟩⟩⟩⟩⟩⟩⟩⟩⟩⟩⟩⟩⟩⟩⟩⟩⟩⟩⟩⟩⟩⟩⟩⟩⟩⟩⟩⟩⟩⟩⟩⟩⟩⟩
set_option maxRecDepth 100000 in
theorem am_site_f12 : ∀ x ∈ ([(75, (mX12_within, 3, 1)), (86, (mX12_isTree, 1, 2)), (90, (mX12_isMonth, 1, 1)), (93, (mX12_isCell, 1, 1)), (103, (mX12_adds, 3, 2)), (107, (mX12_isShelf, 1, 1)), (115, (mX12_isOne, 1, 2)), (118, (mX12_placeOf, 2, 2)), (122, (mX12_mayBecome, 2, 1)), (126, (mX12_becomes, 2, 2)), (144, (mX12_byteAt, 0, 2)), (148, (mX12_both, 0, 2)), (151, (mX12_takes, 1, 2)), (154, (mX12_compared, 0, 2)), (157, (mX12_sums, 0, 2)), (160, (mX12_product, 0, 2)), (163, (mX12_one, 0, 2)), (169, (mX12_wrong, 0, 2)), (172, (mX12_either, 0, 2)), (175, (mX12_nameOf, 1, 1)), (179, (mX12_workOut, 2, 2)), (182, (mX12_rowsOf, 2, 2)), (185, (mX12_isShaded, 3, 2)), (189, (mX12_isIn, 2, 1)), (192, (mX12_sittersIn, 2, 2)), (195, (mX12_bitsOf, 1, 1)), (198, (mX12_countsOf, 4, 2)), (202, (mX12_sumOf, 4, 2)), (205, (mX12_wishers, 1, 2)), (208, (mX12_doesFall, 4, 2)), (212, (mX12_isTm, 1, 2)), (215, (mX12_sittersNow, 2, 2)), (218, (mX12_fallsNow, 2, 2)), (221, (mX12_isShadedNow, 3, 2)), (226, (mX12_fallIn, 1, 2)), (231, (mX12_everybody, 0, 2)), (238, (mX12_common, 2, 1)), (242, (mX12_fallsFrom, 5, 2)), (248, (mX12_bytesIs, 1, 2)), (251, (mX12_firstFalse, 3, 2)), (257, (mX12_standsIn, 1, 2)), (290, (mX12_runs, 1, 2)), (294, (mX12_sitsAs, 2, 2)), (300, (mX12_votesAs, 2, 2)), (306, (mX12_movesAs, 2, 2)), (309, (mX12_tellsAs, 2, 2)), (312, (mX12_isBody, 1, 2)), (317, (mX12_refusal, 2, 2)), (320, (mX12_asSort, 2, 1)), (324, (mX12_kindOf, 1, 2)), (327, (mX12_above, 1, 1))] : List (Nat × (am_M × Nat × Nat))), am_ML 12 x.1 x.2.1.2.1 ∧ am_MOk x.2.1 x.2.2.1 ∧ am_kd x.2.1 x.2.2.2 := List.forall_mem_cons.mpr ⟨⟨Or.inl (am_t6 _ (List.mem_of_getElem? (i := 4) rfl)), am_mok_X12_within, am_kd_X12_within⟩, List.forall_mem_cons.mpr ⟨⟨Or.inl (am_t6 _ (List.mem_of_getElem? (i := 35) rfl)), am_mok_X12_isTree, am_kd_X12_isTree⟩, List.forall_mem_cons.mpr ⟨⟨Or.inl (am_t6 _ (List.mem_of_getElem? (i := 39) rfl)), am_mok_X12_isMonth, am_kd_X12_isMonth⟩, List.forall_mem_cons.mpr ⟨⟨Or.inl (am_t6 _ (List.mem_of_getElem? (i := 0) rfl)), am_mok_X12_isCell, am_kd_X12_isCell⟩, List.forall_mem_cons.mpr ⟨⟨Or.inl (am_t6 _ (List.mem_of_getElem? (i := 13) rfl)), am_mok_X12_adds, am_kd_X12_adds⟩, List.forall_mem_cons.mpr ⟨⟨Or.inl (am_t6 _ (List.mem_of_getElem? (i := 21) rfl)), am_mok_X12_isShelf, am_kd_X12_isShelf⟩, List.forall_mem_cons.mpr ⟨⟨Or.inl (am_t6 _ (List.mem_of_getElem? (i := 43) rfl)), am_mok_X12_isOne, am_kd_X12_isOne⟩, List.forall_mem_cons.mpr ⟨⟨Or.inl (am_t6 _ (List.mem_of_getElem? (i := 31) rfl)), am_mok_X12_placeOf, am_kd_X12_placeOf⟩, List.forall_mem_cons.mpr ⟨⟨Or.inl (am_t6 _ (List.mem_of_getElem? (i := 47) rfl)), am_mok_X12_mayBecome, am_kd_X12_mayBecome⟩, List.forall_mem_cons.mpr ⟨⟨Or.inl (am_t6 _ (List.mem_of_getElem? (i := 50) rfl)), am_mok_X12_becomes, am_kd_X12_becomes⟩, List.forall_mem_cons.mpr ⟨⟨Or.inl (am_t6 _ (List.mem_of_getElem? (i := 94) rfl)), am_mok_X12_byteAt, am_kd_X12_byteAt⟩, List.forall_mem_cons.mpr ⟨⟨Or.inl (am_t6 _ (List.mem_of_getElem? (i := 74) rfl)), am_mok_X12_both, am_kd_X12_both⟩, List.forall_mem_cons.mpr ⟨⟨Or.inl (am_t6 _ (List.mem_of_getElem? (i := 102) rfl)), am_mok_X12_takes, am_kd_X12_takes⟩, List.forall_mem_cons.mpr ⟨⟨Or.inl (am_t6 _ (List.mem_of_getElem? (i := 78) rfl)), am_mok_X12_compared, am_kd_X12_compared⟩, List.forall_mem_cons.mpr ⟨⟨Or.inl (am_t6 _ (List.mem_of_getElem? (i := 82) rfl)), am_mok_X12_sums, am_kd_X12_sums⟩, List.forall_mem_cons.mpr ⟨⟨Or.inl (am_t6 _ (List.mem_of_getElem? (i := 86) rfl)), am_mok_X12_product, am_kd_X12_product⟩, List.forall_mem_cons.mpr ⟨⟨Or.inl (am_t6 _ (List.mem_of_getElem? (i := 90) rfl)), am_mok_X12_one, am_kd_X12_one⟩, List.forall_mem_cons.mpr ⟨⟨Or.inl (am_t6 _ (List.mem_of_getElem? (i := 98) rfl)), am_mok_X12_wrong, am_kd_X12_wrong⟩, List.forall_mem_cons.mpr ⟨⟨Or.inl (am_t6 _ (List.mem_of_getElem? (i := 70) rfl)), am_mok_X12_either, am_kd_X12_either⟩, List.forall_mem_cons.mpr ⟨⟨Or.inl (am_t6 _ (List.mem_of_getElem? (i := 106) rfl)), am_mok_X12_nameOf, am_kd_X12_nameOf⟩, List.forall_mem_cons.mpr ⟨⟨Or.inl (am_t6 _ (List.mem_of_getElem? (i := 66) rfl)), am_mok_X12_workOut, am_kd_X12_workOut⟩, List.forall_mem_cons.mpr ⟨⟨Or.inl (am_t6 _ (List.mem_of_getElem? (i := 132) rfl)), am_mok_X12_rowsOf, am_kd_X12_rowsOf⟩, List.forall_mem_cons.mpr ⟨⟨Or.inl (am_t6 _ (List.mem_of_getElem? (i := 128) rfl)), am_mok_X12_isShaded, am_kd_X12_isShaded⟩, List.forall_mem_cons.mpr ⟨⟨Or.inl (am_t6 _ (List.mem_of_getElem? (i := 121) rfl)), am_mok_X12_isIn, am_kd_X12_isIn⟩, List.forall_mem_cons.mpr ⟨⟨Or.inl (am_t6 _ (List.mem_of_getElem? (i := 124) rfl)), am_mok_X12_sittersIn, am_kd_X12_sittersIn⟩, List.forall_mem_cons.mpr ⟨⟨Or.inl (am_t6 _ (List.mem_of_getElem? (i := 148) rfl)), am_mok_X12_bitsOf, am_kd_X12_bitsOf⟩, List.forall_mem_cons.mpr ⟨⟨Or.inl (am_t6 _ (List.mem_of_getElem? (i := 151) rfl)), am_mok_X12_countsOf, am_kd_X12_countsOf⟩, List.forall_mem_cons.mpr ⟨⟨Or.inl (am_t6 _ (List.mem_of_getElem? (i := 144) rfl)), am_mok_X12_sumOf, am_kd_X12_sumOf⟩, List.forall_mem_cons.mpr ⟨⟨Or.inl (am_t6 _ (List.mem_of_getElem? (i := 140) rfl)), am_mok_X12_wishers, am_kd_X12_wishers⟩, List.forall_mem_cons.mpr ⟨⟨Or.inl (am_t6 _ (List.mem_of_getElem? (i := 159) rfl)), am_mok_X12_doesFall, am_kd_X12_doesFall⟩, List.forall_mem_cons.mpr ⟨⟨Or.inl (am_t6 _ (List.mem_of_getElem? (i := 113) rfl)), am_mok_X12_isTm, am_kd_X12_isTm⟩, List.forall_mem_cons.mpr ⟨⟨Or.inl (am_t6 _ (List.mem_of_getElem? (i := 117) rfl)), am_mok_X12_sittersNow, am_kd_X12_sittersNow⟩, List.forall_mem_cons.mpr ⟨⟨Or.inl (am_t6 _ (List.mem_of_getElem? (i := 155) rfl)), am_mok_X12_fallsNow, am_kd_X12_fallsNow⟩, List.forall_mem_cons.mpr ⟨⟨Or.inl (am_t6 _ (List.mem_of_getElem? (i := 163) rfl)), am_mok_X12_isShadedNow, am_kd_X12_isShadedNow⟩, List.forall_mem_cons.mpr ⟨⟨Or.inl (am_t6 _ (List.mem_of_getElem? (i := 172) rfl)), am_mok_X12_fallIn, am_kd_X12_fallIn⟩, List.forall_mem_cons.mpr ⟨⟨Or.inl (am_t6 _ (List.mem_of_getElem? (i := 189) rfl)), am_mok_X12_everybody, am_kd_X12_everybody⟩, List.forall_mem_cons.mpr ⟨⟨Or.inl (am_t6 _ (List.mem_of_getElem? (i := 202) rfl)), am_mok_X12_common, am_kd_X12_common⟩, List.forall_mem_cons.mpr ⟨⟨Or.inl (am_t6 _ (List.mem_of_getElem? (i := 214) rfl)), am_mok_X12_fallsFrom, am_kd_X12_fallsFrom⟩, List.forall_mem_cons.mpr ⟨⟨Or.inl (am_t6 _ (List.mem_of_getElem? (i := 230) rfl)), am_mok_X12_bytesIs, am_kd_X12_bytesIs⟩, List.forall_mem_cons.mpr ⟨⟨Or.inl (am_t6 _ (List.mem_of_getElem? (i := 234) rfl)), am_mok_X12_firstFalse, am_kd_X12_firstFalse⟩, List.forall_mem_cons.mpr ⟨⟨Or.inl (am_t7 _ (List.mem_of_getElem? (i := 7) rfl)), am_mok_X12_standsIn, am_kd_X12_standsIn⟩, List.forall_mem_cons.mpr ⟨⟨Or.inl (am_t7 _ (List.mem_of_getElem? (i := 62) rfl)), am_mok_X12_runs, am_kd_X12_runs⟩, List.forall_mem_cons.mpr ⟨⟨Or.inl (am_t7 _ (List.mem_of_getElem? (i := 58) rfl)), am_mok_X12_sitsAs, am_kd_X12_sitsAs⟩, List.forall_mem_cons.mpr ⟨⟨Or.inl (am_t7 _ (List.mem_of_getElem? (i := 66) rfl)), am_mok_X12_votesAs, am_kd_X12_votesAs⟩, List.forall_mem_cons.mpr ⟨⟨Or.inl (am_t7 _ (List.mem_of_getElem? (i := 70) rfl)), am_mok_X12_movesAs, am_kd_X12_movesAs⟩, List.forall_mem_cons.mpr ⟨⟨Or.inl (am_t7 _ (List.mem_of_getElem? (i := 74) rfl)), am_mok_X12_tellsAs, am_kd_X12_tellsAs⟩, List.forall_mem_cons.mpr ⟨⟨Or.inl (am_t7 _ (List.mem_of_getElem? (i := 54) rfl)), am_mok_X12_isBody, am_kd_X12_isBody⟩, List.forall_mem_cons.mpr ⟨⟨Or.inl (am_t7 _ (List.mem_of_getElem? (i := 94) rfl)), am_mok_X12_refusal, am_kd_X12_refusal⟩, List.forall_mem_cons.mpr ⟨⟨Or.inl (am_t7 _ (List.mem_of_getElem? (i := 98) rfl)), am_mok_X12_asSort, am_kd_X12_asSort⟩, List.forall_mem_cons.mpr ⟨⟨Or.inl (am_t7 _ (List.mem_of_getElem? (i := 113) rfl)), am_mok_X12_kindOf, am_kd_X12_kindOf⟩, List.forall_mem_cons.mpr ⟨⟨Or.inl (am_t7 _ (List.mem_of_getElem? (i := 117) rfl)), am_mok_X12_above, am_kd_X12_above⟩, fun _ h => absurd h List.not_mem_nil⟩⟩⟩⟩⟩⟩⟩⟩⟩⟩⟩⟩⟩⟩⟩⟩⟩⟩⟩⟩⟩⟩⟩⟩⟩⟩⟩⟩⟩⟩⟩⟩⟩⟩⟩⟩⟩⟩⟩⟩⟩⟩⟩⟩⟩⟩⟩⟩⟩⟩⟩
set_option maxRecDepth 100000 in
theorem am_site_f14 : ∀ x ∈ ([(9, (mX11_init, 0, 0)), (12, (mX12_init, 0, 0)), (13, (mX11_tree, 2, 2)), (17, (mX12_tree, 2, 2)), (18, (mX11_person, 2, 2)), (21, (mX12_person, 2, 2)), (22, (mX11_people, 3, 2)), (26, (mX12_people, 3, 2)), (27, (mX11_mend, 3, 2)), (30, (mX12_mend, 3, 2)), (31, (mX11_of, 2, 2)), (34, (mX12_of, 2, 2)), (35, (mX11_feed, 1, 2)), (39, (mX12_feed, 1, 2)), (40, (mX11_law, 0, 2)), (44, (mX12_law, 0, 2)), (45, (mX11_shade, 1, 2)), (48, (mX12_shade, 1, 2)), (49, (mX11_votes, 2, 2)), (52, (mX12_votes, 2, 2)), (53, (mX11_falls, 1, 2)), (56, (mX12_falls, 1, 2)), (57, (mX11_first, 1, 2)), (60, (mX12_first, 1, 2)), (61, (mX11_left, 2, 2)), (64, (mX12_left, 2, 2)), (65, (mX11_turn, 2, 2)), (68, (mX12_turn, 2, 2)), (69, (mX11_chair, 1, 2)), (72, (mX12_chair, 1, 2)), (73, (mX11_power, 3, 2)), (77, (mX12_power, 3, 2)), (78, (mX11_lop, 2, 2)), (81, (mX12_lop, 2, 2)), (82, (mX11_byTurns, 2, 2)), (85, (mX12_byTurns, 2, 2)), (86, (mX11_deepest, 2, 2)), (89, (mX12_deepest, 2, 2)), (90, (mX11_shadiest, 2, 2)), (93, (mX12_shadiest, 2, 2)), (94, (mX11_judge, 2, 2)), (97, (mX12_judge, 2, 2)), (98, (mX11_wishes, 3, 2)), (101, (mX12_wishes, 3, 2)), (102, (mX11_save, 2, 2)), (105, (mX12_save, 2, 2)), (106, (mX11_alike, 2, 2)), (109, (mX12_alike, 2, 2)), (110, (mX11_drawn, 3, 2)), (113, (mX12_drawn, 3, 2)), (114, (mX11_noon, 0, 2)), (117, (mX12_noon, 0, 2)), (118, (mX11_sits, 2, 2)), (121, (mX12_sits, 2, 2)), (122, (mX11_lopped, 1, 2)), (125, (mX12_lopped, 1, 2)), (126, (mX11_led, 1, 2)), (129, (mX12_led, 1, 2)), (130, (mX11_image, 0, 2)), (133, (mX12_image, 0, 2)), (134, (mX11_back, 0, 2)), (137, (mX12_back, 0, 2)), (138, (mX11_undo, 0, 2)), (141, (mX12_undo, 0, 2)), (142, (mX11_redo, 0, 2)), (145, (mX12_redo, 0, 2)), (146, (mX11_body, 1, 2)), (149, (mX12_body, 1, 2)), (150, (mX11_act, 3, 2)), (153, (mX12_act, 3, 2)), (154, (mX11_trace, 1, 2)), (157, (mX12_trace, 1, 2)), (158, (mX11_keep, 2, 2)), (161, (mX12_keep, 2, 2)), (162, (mX11_row, 3, 2)), (165, (mX12_row, 3, 2)), (168, (mX11_put, 3, 2)), (172, (mX12_put, 3, 2)), (173, (mX11_element, 2, 2)), (177, (mX12_element, 2, 2)), (178, (mX11_shift, 5, 2)), (182, (mX12_shift, 5, 2)), (183, (mX11_taken, 2, 2)), (186, (mX12_taken, 2, 2)), (187, (mX11_count, 1, 2)), (190, (mX12_count, 1, 2))] : List (Nat × (am_M × Nat × Nat))), am_ML 14 x.1 x.2.1.2.1 ∧ am_MOk x.2.1 x.2.2.1 ∧ am_kd x.2.1 x.2.2.2 := List.forall_mem_cons.mpr ⟨⟨Or.inl (am_t1 _ (List.mem_of_getElem? (i := 19) rfl)), am_mok_X11_init, am_kd_X11_init⟩, List.forall_mem_cons.mpr ⟨⟨Or.inl (am_t5 _ (List.mem_of_getElem? (i := 106) rfl)), am_mok_X12_init, am_kd_X12_init⟩, List.forall_mem_cons.mpr ⟨⟨Or.inl (am_t2 _ (List.mem_of_getElem? (i := 151) rfl)), am_mok_X11_tree, am_kd_X11_tree⟩, List.forall_mem_cons.mpr ⟨⟨Or.inl (am_t5 _ (List.mem_of_getElem? (i := 236) rfl)), am_mok_X12_tree, am_kd_X12_tree⟩, List.forall_mem_cons.mpr ⟨⟨Or.inl (am_t2 _ (List.mem_of_getElem? (i := 170) rfl)), am_mok_X11_person, am_kd_X11_person⟩, List.forall_mem_cons.mpr ⟨⟨Or.inl (am_t6 _ (List.mem_of_getElem? (i := 8) rfl)), am_mok_X12_person, am_kd_X12_person⟩, List.forall_mem_cons.mpr ⟨⟨Or.inl (am_t2 _ (List.mem_of_getElem? (i := 178) rfl)), am_mok_X11_people, am_kd_X11_people⟩, List.forall_mem_cons.mpr ⟨⟨Or.inl (am_t6 _ (List.mem_of_getElem? (i := 17) rfl)), am_mok_X12_people, am_kd_X12_people⟩, List.forall_mem_cons.mpr ⟨⟨Or.inl (am_t2 _ (List.mem_of_getElem? (i := 213) rfl)), am_mok_X11_mend, am_kd_X11_mend⟩, List.forall_mem_cons.mpr ⟨⟨Or.inl (am_t6 _ (List.mem_of_getElem? (i := 27) rfl)), am_mok_X12_mend, am_kd_X12_mend⟩, List.forall_mem_cons.mpr ⟨⟨Or.inl (am_t2 _ (List.mem_of_getElem? (i := 239) rfl)), am_mok_X11_of, am_kd_X11_of⟩, List.forall_mem_cons.mpr ⟨⟨Or.inl (am_t6 _ (List.mem_of_getElem? (i := 54) rfl)), am_mok_X12_of, am_kd_X12_of⟩, List.forall_mem_cons.mpr ⟨⟨Or.inl (am_t3 _ (List.mem_of_getElem? (i := 3) rfl)), am_mok_X11_feed, am_kd_X11_feed⟩, List.forall_mem_cons.mpr ⟨⟨Or.inl (am_t6 _ (List.mem_of_getElem? (i := 58) rfl)), am_mok_X12_feed, am_kd_X12_feed⟩, List.forall_mem_cons.mpr ⟨⟨Or.inl (am_t3 _ (List.mem_of_getElem? (i := 12) rfl)), am_mok_X11_law, am_kd_X11_law⟩, List.forall_mem_cons.mpr ⟨⟨Or.inl (am_t6 _ (List.mem_of_getElem? (i := 62) rfl)), am_mok_X12_law, am_kd_X12_law⟩, List.forall_mem_cons.mpr ⟨⟨Or.inl (am_t3 _ (List.mem_of_getElem? (i := 65) rfl)), am_mok_X11_shade, am_kd_X11_shade⟩, List.forall_mem_cons.mpr ⟨⟨Or.inl (am_t6 _ (List.mem_of_getElem? (i := 109) rfl)), am_mok_X12_shade, am_kd_X12_shade⟩, List.forall_mem_cons.mpr ⟨⟨Or.inl (am_t3 _ (List.mem_of_getElem? (i := 101) rfl)), am_mok_X11_votes, am_kd_X11_votes⟩, List.forall_mem_cons.mpr ⟨⟨Or.inl (am_t6 _ (List.mem_of_getElem? (i := 136) rfl)), am_mok_X12_votes, am_kd_X12_votes⟩, List.forall_mem_cons.mpr ⟨⟨Or.inl (am_t3 _ (List.mem_of_getElem? (i := 175) rfl)), am_mok_X11_falls, am_kd_X11_falls⟩, List.forall_mem_cons.mpr ⟨⟨Or.inl (am_t6 _ (List.mem_of_getElem? (i := 167) rfl)), am_mok_X12_falls, am_kd_X12_falls⟩, List.forall_mem_cons.mpr ⟨⟨Or.inl (am_t3 _ (List.mem_of_getElem? (i := 197) rfl)), am_mok_X11_first, am_kd_X11_first⟩, List.forall_mem_cons.mpr ⟨⟨Or.inl (am_t6 _ (List.mem_of_getElem? (i := 176) rfl)), am_mok_X12_first, am_kd_X12_first⟩, List.forall_mem_cons.mpr ⟨⟨Or.inl (am_t3 _ (List.mem_of_getElem? (i := 202) rfl)), am_mok_X11_left, am_kd_X11_left⟩, List.forall_mem_cons.mpr ⟨⟨Or.inl (am_t6 _ (List.mem_of_getElem? (i := 180) rfl)), am_mok_X12_left, am_kd_X12_left⟩, List.forall_mem_cons.mpr ⟨⟨Or.inl (am_t3 _ (List.mem_of_getElem? (i := 216) rfl)), am_mok_X11_turn, am_kd_X11_turn⟩, List.forall_mem_cons.mpr ⟨⟨Or.inl (am_t6 _ (List.mem_of_getElem? (i := 185) rfl)), am_mok_X12_turn, am_kd_X12_turn⟩, List.forall_mem_cons.mpr ⟨⟨Or.inl (am_t3 _ (List.mem_of_getElem? (i := 228) rfl)), am_mok_X11_chair, am_kd_X11_chair⟩, List.forall_mem_cons.mpr ⟨⟨Or.inl (am_t6 _ (List.mem_of_getElem? (i := 193) rfl)), am_mok_X12_chair, am_kd_X12_chair⟩, List.forall_mem_cons.mpr ⟨⟨Or.inl (am_t3 _ (List.mem_of_getElem? (i := 237) rfl)), am_mok_X11_power, am_kd_X11_power⟩, List.forall_mem_cons.mpr ⟨⟨Or.inl (am_t6 _ (List.mem_of_getElem? (i := 197) rfl)), am_mok_X12_power, am_kd_X12_power⟩, List.forall_mem_cons.mpr ⟨⟨Or.inl (am_t4 _ (List.mem_of_getElem? (i := 16) rfl)), am_mok_X11_lop, am_kd_X11_lop⟩, List.forall_mem_cons.mpr ⟨⟨Or.inl (am_t6 _ (List.mem_of_getElem? (i := 205) rfl)), am_mok_X12_lop, am_kd_X12_lop⟩, List.forall_mem_cons.mpr ⟨⟨Or.inl (am_t4 _ (List.mem_of_getElem? (i := 35) rfl)), am_mok_X11_byTurns, am_kd_X11_byTurns⟩, List.forall_mem_cons.mpr ⟨⟨Or.inl (am_t6 _ (List.mem_of_getElem? (i := 209) rfl)), am_mok_X12_byTurns, am_kd_X12_byTurns⟩, List.forall_mem_cons.mpr ⟨⟨Or.inl (am_t4 _ (List.mem_of_getElem? (i := 52) rfl)), am_mok_X11_deepest, am_kd_X11_deepest⟩, List.forall_mem_cons.mpr ⟨⟨Or.inl (am_t6 _ (List.mem_of_getElem? (i := 218) rfl)), am_mok_X12_deepest, am_kd_X12_deepest⟩, List.forall_mem_cons.mpr ⟨⟨Or.inl (am_t4 _ (List.mem_of_getElem? (i := 62) rfl)), am_mok_X11_shadiest, am_kd_X11_shadiest⟩, List.forall_mem_cons.mpr ⟨⟨Or.inl (am_t6 _ (List.mem_of_getElem? (i := 222) rfl)), am_mok_X12_shadiest, am_kd_X12_shadiest⟩, List.forall_mem_cons.mpr ⟨⟨Or.inl (am_t4 _ (List.mem_of_getElem? (i := 79) rfl)), am_mok_X11_judge, am_kd_X11_judge⟩, List.forall_mem_cons.mpr ⟨⟨Or.inl (am_t6 _ (List.mem_of_getElem? (i := 226) rfl)), am_mok_X12_judge, am_kd_X12_judge⟩, List.forall_mem_cons.mpr ⟨⟨Or.inl (am_t4 _ (List.mem_of_getElem? (i := 102) rfl)), am_mok_X11_wishes, am_kd_X11_wishes⟩, List.forall_mem_cons.mpr ⟨⟨Or.inl (am_t6 _ (List.mem_of_getElem? (i := 238) rfl)), am_mok_X12_wishes, am_kd_X12_wishes⟩, List.forall_mem_cons.mpr ⟨⟨Or.inl (am_t4 _ (List.mem_of_getElem? (i := 123) rfl)), am_mok_X11_save, am_kd_X11_save⟩, List.forall_mem_cons.mpr ⟨⟨Or.inl (am_t7 _ (List.mem_of_getElem? (i := 3) rfl)), am_mok_X12_save, am_kd_X12_save⟩, List.forall_mem_cons.mpr ⟨⟨Or.inl (am_t4 _ (List.mem_of_getElem? (i := 135) rfl)), am_mok_X11_alike, am_kd_X11_alike⟩, List.forall_mem_cons.mpr ⟨⟨Or.inl (am_t7 _ (List.mem_of_getElem? (i := 11) rfl)), am_mok_X12_alike, am_kd_X12_alike⟩, List.forall_mem_cons.mpr ⟨⟨Or.inl (am_t4 _ (List.mem_of_getElem? (i := 143) rfl)), am_mok_X11_drawn, am_kd_X11_drawn⟩, List.forall_mem_cons.mpr ⟨⟨Or.inl (am_t7 _ (List.mem_of_getElem? (i := 15) rfl)), am_mok_X12_drawn, am_kd_X12_drawn⟩, List.forall_mem_cons.mpr ⟨⟨Or.inl (am_t4 _ (List.mem_of_getElem? (i := 155) rfl)), am_mok_X11_noon, am_kd_X11_noon⟩, List.forall_mem_cons.mpr ⟨⟨Or.inl (am_t7 _ (List.mem_of_getElem? (i := 21) rfl)), am_mok_X12_noon, am_kd_X12_noon⟩, List.forall_mem_cons.mpr ⟨⟨Or.inl (am_t4 _ (List.mem_of_getElem? (i := 176) rfl)), am_mok_X11_sits, am_kd_X11_sits⟩, List.forall_mem_cons.mpr ⟨⟨Or.inl (am_t7 _ (List.mem_of_getElem? (i := 25) rfl)), am_mok_X12_sits, am_kd_X12_sits⟩, List.forall_mem_cons.mpr ⟨⟨Or.inl (am_t4 _ (List.mem_of_getElem? (i := 185) rfl)), am_mok_X11_lopped, am_kd_X11_lopped⟩, List.forall_mem_cons.mpr ⟨⟨Or.inl (am_t7 _ (List.mem_of_getElem? (i := 29) rfl)), am_mok_X12_lopped, am_kd_X12_lopped⟩, List.forall_mem_cons.mpr ⟨⟨Or.inl (am_t4 _ (List.mem_of_getElem? (i := 194) rfl)), am_mok_X11_led, am_kd_X11_led⟩, List.forall_mem_cons.mpr ⟨⟨Or.inl (am_t7 _ (List.mem_of_getElem? (i := 33) rfl)), am_mok_X12_led, am_kd_X12_led⟩, List.forall_mem_cons.mpr ⟨⟨Or.inl (am_t4 _ (List.mem_of_getElem? (i := 198) rfl)), am_mok_X11_image, am_kd_X11_image⟩, List.forall_mem_cons.mpr ⟨⟨Or.inl (am_t7 _ (List.mem_of_getElem? (i := 37) rfl)), am_mok_X12_image, am_kd_X12_image⟩, List.forall_mem_cons.mpr ⟨⟨Or.inl (am_t4 _ (List.mem_of_getElem? (i := 206) rfl)), am_mok_X11_back, am_kd_X11_back⟩, List.forall_mem_cons.mpr ⟨⟨Or.inl (am_t7 _ (List.mem_of_getElem? (i := 41) rfl)), am_mok_X12_back, am_kd_X12_back⟩, List.forall_mem_cons.mpr ⟨⟨Or.inl (am_t4 _ (List.mem_of_getElem? (i := 214) rfl)), am_mok_X11_undo, am_kd_X11_undo⟩, List.forall_mem_cons.mpr ⟨⟨Or.inl (am_t5 _ (List.mem_of_getElem? (i := 228) rfl)), am_mok_X12_undo, am_kd_X12_undo⟩, List.forall_mem_cons.mpr ⟨⟨Or.inl (am_t4 _ (List.mem_of_getElem? (i := 224) rfl)), am_mok_X11_redo, am_kd_X11_redo⟩, List.forall_mem_cons.mpr ⟨⟨Or.inl (am_t5 _ (List.mem_of_getElem? (i := 232) rfl)), am_mok_X12_redo, am_kd_X12_redo⟩, List.forall_mem_cons.mpr ⟨⟨Or.inl (am_t4 _ (List.mem_of_getElem? (i := 232) rfl)), am_mok_X11_body, am_kd_X11_body⟩, List.forall_mem_cons.mpr ⟨⟨Or.inl (am_t7 _ (List.mem_of_getElem? (i := 45) rfl)), am_mok_X12_body, am_kd_X12_body⟩, List.forall_mem_cons.mpr ⟨⟨Or.inl (am_t5 _ (List.mem_of_getElem? (i := 1) rfl)), am_mok_X11_act, am_kd_X11_act⟩, List.forall_mem_cons.mpr ⟨⟨Or.inl (am_t7 _ (List.mem_of_getElem? (i := 50) rfl)), am_mok_X12_act, am_kd_X12_act⟩, List.forall_mem_cons.mpr ⟨⟨Or.inl (am_t5 _ (List.mem_of_getElem? (i := 34) rfl)), am_mok_X11_trace, am_kd_X11_trace⟩, List.forall_mem_cons.mpr ⟨⟨Or.inl (am_t7 _ (List.mem_of_getElem? (i := 78) rfl)), am_mok_X12_trace, am_kd_X12_trace⟩, List.forall_mem_cons.mpr ⟨⟨Or.inl (am_t5 _ (List.mem_of_getElem? (i := 47) rfl)), am_mok_X11_keep, am_kd_X11_keep⟩, List.forall_mem_cons.mpr ⟨⟨Or.inl (am_t7 _ (List.mem_of_getElem? (i := 82) rfl)), am_mok_X12_keep, am_kd_X12_keep⟩, List.forall_mem_cons.mpr ⟨⟨Or.inl (am_t5 _ (List.mem_of_getElem? (i := 55) rfl)), am_mok_X11_row, am_kd_X11_row⟩, List.forall_mem_cons.mpr ⟨⟨Or.inl (am_t7 _ (List.mem_of_getElem? (i := 86) rfl)), am_mok_X12_row, am_kd_X12_row⟩, List.forall_mem_cons.mpr ⟨⟨Or.inl (am_t5 _ (List.mem_of_getElem? (i := 64) rfl)), am_mok_X11_put, am_kd_X11_put⟩, List.forall_mem_cons.mpr ⟨⟨Or.inl (am_t7 _ (List.mem_of_getElem? (i := 90) rfl)), am_mok_X12_put, am_kd_X12_put⟩, List.forall_mem_cons.mpr ⟨⟨Or.inl (am_t5 _ (List.mem_of_getElem? (i := 76) rfl)), am_mok_X11_element, am_kd_X11_element⟩, List.forall_mem_cons.mpr ⟨⟨Or.inl (am_t7 _ (List.mem_of_getElem? (i := 101) rfl)), am_mok_X12_element, am_kd_X12_element⟩, List.forall_mem_cons.mpr ⟨⟨Or.inl (am_t5 _ (List.mem_of_getElem? (i := 80) rfl)), am_mok_X11_shift, am_kd_X11_shift⟩, List.forall_mem_cons.mpr ⟨⟨Or.inl (am_t7 _ (List.mem_of_getElem? (i := 105) rfl)), am_mok_X12_shift, am_kd_X12_shift⟩, List.forall_mem_cons.mpr ⟨⟨Or.inl (am_t5 _ (List.mem_of_getElem? (i := 91) rfl)), am_mok_X11_taken, am_kd_X11_taken⟩, List.forall_mem_cons.mpr ⟨⟨Or.inl (am_t7 _ (List.mem_of_getElem? (i := 109) rfl)), am_mok_X12_taken, am_kd_X12_taken⟩, List.forall_mem_cons.mpr ⟨⟨Or.inl (am_t5 _ (List.mem_of_getElem? (i := 100) rfl)), am_mok_X11_count, am_kd_X11_count⟩, List.forall_mem_cons.mpr ⟨⟨Or.inl (am_t7 _ (List.mem_of_getElem? (i := 120) rfl)), am_mok_X12_count, am_kd_X12_count⟩, fun _ h => absurd h List.not_mem_nil⟩⟩⟩⟩⟩⟩⟩⟩⟩⟩⟩⟩⟩⟩⟩⟩⟩⟩⟩⟩⟩⟩⟩⟩⟩⟩⟩⟩⟩⟩⟩⟩⟩⟩⟩⟩⟩⟩⟩⟩⟩⟩⟩⟩⟩⟩⟩⟩⟩⟩⟩⟩⟩⟩⟩⟩⟩⟩⟩⟩⟩⟩⟩⟩⟩⟩⟩⟩⟩⟩⟩⟩⟩⟩⟩⟩⟩⟩⟩⟩⟩⟩⟩⟩⟩⟩
theorem am_site_ok {c i n k : Nat} {N : am_M} (h : am_site c i = some (N, n, k)) : am_ML c i N.2.1 ∧ am_MOk N n ∧ am_kd N k := by
  unfold am_site at h
  split at h
  · exact am_lookup (P := fun x : Nat × (am_M × Nat × Nat) => am_ML 0 x.1 x.2.1.2.1 ∧ am_MOk x.2.1 x.2.2.1 ∧ am_kd x.2.1 x.2.2.2) am_site_f0 h
  · exact am_lookup (P := fun x : Nat × (am_M × Nat × Nat) => am_ML 1 x.1 x.2.1.2.1 ∧ am_MOk x.2.1 x.2.2.1 ∧ am_kd x.2.1 x.2.2.2) am_site_f1 h
  · exact am_lookup (P := fun x : Nat × (am_M × Nat × Nat) => am_ML 2 x.1 x.2.1.2.1 ∧ am_MOk x.2.1 x.2.2.1 ∧ am_kd x.2.1 x.2.2.2) am_site_f2 h
  · exact am_lookup (P := fun x : Nat × (am_M × Nat × Nat) => am_ML 3 x.1 x.2.1.2.1 ∧ am_MOk x.2.1 x.2.2.1 ∧ am_kd x.2.1 x.2.2.2) am_site_f3 h
  · exact am_lookup (P := fun x : Nat × (am_M × Nat × Nat) => am_ML 4 x.1 x.2.1.2.1 ∧ am_MOk x.2.1 x.2.2.1 ∧ am_kd x.2.1 x.2.2.2) am_site_f4 h
  · exact am_lookup (P := fun x : Nat × (am_M × Nat × Nat) => am_ML 5 x.1 x.2.1.2.1 ∧ am_MOk x.2.1 x.2.2.1 ∧ am_kd x.2.1 x.2.2.2) am_site_f5 h
  · exact am_lookup (P := fun x : Nat × (am_M × Nat × Nat) => am_ML 6 x.1 x.2.1.2.1 ∧ am_MOk x.2.1 x.2.2.1 ∧ am_kd x.2.1 x.2.2.2) am_site_f6 h
  · exact am_lookup (P := fun x : Nat × (am_M × Nat × Nat) => am_ML 7 x.1 x.2.1.2.1 ∧ am_MOk x.2.1 x.2.2.1 ∧ am_kd x.2.1 x.2.2.2) am_site_f7 h
  · exact am_lookup (P := fun x : Nat × (am_M × Nat × Nat) => am_ML 8 x.1 x.2.1.2.1 ∧ am_MOk x.2.1 x.2.2.1 ∧ am_kd x.2.1 x.2.2.2) am_site_f8 h
  · exact am_lookup (P := fun x : Nat × (am_M × Nat × Nat) => am_ML 9 x.1 x.2.1.2.1 ∧ am_MOk x.2.1 x.2.2.1 ∧ am_kd x.2.1 x.2.2.2) am_site_f9 h
  · exact am_lookup (P := fun x : Nat × (am_M × Nat × Nat) => am_ML 10 x.1 x.2.1.2.1 ∧ am_MOk x.2.1 x.2.2.1 ∧ am_kd x.2.1 x.2.2.2) am_site_f10 h
  · exact am_lookup (P := fun x : Nat × (am_M × Nat × Nat) => am_ML 11 x.1 x.2.1.2.1 ∧ am_MOk x.2.1 x.2.2.1 ∧ am_kd x.2.1 x.2.2.2) am_site_f11 h
  · exact am_lookup (P := fun x : Nat × (am_M × Nat × Nat) => am_ML 12 x.1 x.2.1.2.1 ∧ am_MOk x.2.1 x.2.2.1 ∧ am_kd x.2.1 x.2.2.2) am_site_f12 h
  · exact am_lookup (P := fun x : Nat × (am_M × Nat × Nat) => am_ML 14 x.1 x.2.1.2.1 ∧ am_MOk x.2.1 x.2.2.1 ∧ am_kd x.2.1 x.2.2.2) am_site_f14 h
  · cases h
