-- ===== PART A: goes FIRST, ahead of the names: the tables' words, and 'selects' of the private methods out of them =====
/-- a private method of a class that the tables say can be made, by its rows of tables_1 -/
def lw_okq (q : MethodName × Nat) : Prop := (q.1.cls ≠ "java/lang/invoke/MethodHandle" ∧ q.1.cls ≠ "java/lang/invoke/VarHandle") ∧ Cond.instantiable q.1.cls q.2 ∈ tables_1 ∧ Cond.privateMethod q.1 ∈ tables_1 ∧ Cond.instanceMethod q.1 ∈ tables_1
theorem lw_p0 : lw_okq (⟨"ShadeVotes", "shelfAt", "(I)LShadeVotes$Shelf;"⟩, 13) := ⟨⟨by decide +kernel, by decide +kernel⟩, List.mem_of_getElem? (i := 18) (by decide +kernel), List.mem_of_getElem? (i := 423) (by decide +kernel), List.mem_of_getElem? (i := 424) (by decide +kernel)⟩
theorem lw_p1 : lw_okq (⟨"ShadeVotes", "comesFrom", "(LShadeVotes$Shelf;J)Z"⟩, 13) := ⟨⟨by decide +kernel, by decide +kernel⟩, List.mem_of_getElem? (i := 18) (by decide +kernel), List.mem_of_getElem? (i := 440) (by decide +kernel), List.mem_of_getElem? (i := 441) (by decide +kernel)⟩
theorem lw_p2 : lw_okq (⟨"ShadeVotes$Land", "owners", "(I)I"⟩, 3) := ⟨⟨by decide +kernel, by decide +kernel⟩, List.mem_of_getElem? (i := 26) (by decide +kernel), List.mem_of_getElem? (i := 462) (by decide +kernel), List.mem_of_getElem? (i := 463) (by decide +kernel)⟩
theorem lw_p3 : lw_okq (⟨"ShadeVotes$Changes", "placeOf", "(I)I"⟩, 8) := ⟨⟨by decide +kernel, by decide +kernel⟩, List.mem_of_getElem? (i := 275) (by decide +kernel), List.mem_of_getElem? (i := 475) (by decide +kernel), List.mem_of_getElem? (i := 476) (by decide +kernel)⟩
theorem lw_p4 : lw_okq (⟨"ShadeVotes$LawText", "readLine", "()Z"⟩, 5) := ⟨⟨by decide +kernel, by decide +kernel⟩, List.mem_of_getElem? (i := 64) (by decide +kernel), List.mem_of_getElem? (i := 501) (by decide +kernel), List.mem_of_getElem? (i := 502) (by decide +kernel)⟩
theorem lw_p5 : lw_okq (⟨"ShadeVotes$LawText", "readChain", "(II)Z"⟩, 5) := ⟨⟨by decide +kernel, by decide +kernel⟩, List.mem_of_getElem? (i := 64) (by decide +kernel), List.mem_of_getElem? (i := 505) (by decide +kernel), List.mem_of_getElem? (i := 506) (by decide +kernel)⟩
theorem lw_p6 : lw_okq (⟨"ShadeVotes$LawText", "readOperand", "(I)Z"⟩, 5) := ⟨⟨by decide +kernel, by decide +kernel⟩, List.mem_of_getElem? (i := 64) (by decide +kernel), List.mem_of_getElem? (i := 509) (by decide +kernel), List.mem_of_getElem? (i := 510) (by decide +kernel)⟩
theorem lw_p7 : lw_okq (⟨"ShadeVotes$LawText", "next", "()I"⟩, 5) := ⟨⟨by decide +kernel, by decide +kernel⟩, List.mem_of_getElem? (i := 64) (by decide +kernel), List.mem_of_getElem? (i := 513) (by decide +kernel), List.mem_of_getElem? (i := 514) (by decide +kernel)⟩
theorem lw_p8 : lw_okq (⟨"ShadeVotes$LawText", "readNumber", "()Z"⟩, 5) := ⟨⟨by decide +kernel, by decide +kernel⟩, List.mem_of_getElem? (i := 64) (by decide +kernel), List.mem_of_getElem? (i := 519) (by decide +kernel), List.mem_of_getElem? (i := 520) (by decide +kernel)⟩
theorem lw_p9 : lw_okq (⟨"ShadeVotes$LawText", "emit", "(I)V"⟩, 5) := ⟨⟨by decide +kernel, by decide +kernel⟩, List.mem_of_getElem? (i := 64) (by decide +kernel), List.mem_of_getElem? (i := 523) (by decide +kernel), List.mem_of_getElem? (i := 524) (by decide +kernel)⟩
theorem lw_p10 : lw_okq (⟨"ShadeVotes", "isTreeMonth", "(I)Z"⟩, 13) := ⟨⟨by decide +kernel, by decide +kernel⟩, List.mem_of_getElem? (i := 18) (by decide +kernel), List.mem_of_getElem? (i := 550) (by decide +kernel), List.mem_of_getElem? (i := 551) (by decide +kernel)⟩
theorem lw_p11 : lw_okq (⟨"ShadeVotes", "isTree", "(I)Z"⟩, 13) := ⟨⟨by decide +kernel, by decide +kernel⟩, List.mem_of_getElem? (i := 18) (by decide +kernel), List.mem_of_getElem? (i := 554) (by decide +kernel), List.mem_of_getElem? (i := 555) (by decide +kernel)⟩
theorem lw_p12 : lw_okq (⟨"ShadeVotes", "isMonth", "(I)Z"⟩, 13) := ⟨⟨by decide +kernel, by decide +kernel⟩, List.mem_of_getElem? (i := 18) (by decide +kernel), List.mem_of_getElem? (i := 558) (by decide +kernel), List.mem_of_getElem? (i := 559) (by decide +kernel)⟩
theorem lw_p13 : lw_okq (⟨"ShadeVotes$Law", "operand", "(I)I"⟩, 9) := ⟨⟨by decide +kernel, by decide +kernel⟩, List.mem_of_getElem? (i := 89) (by decide +kernel), List.mem_of_getElem? (i := 645) (by decide +kernel), List.mem_of_getElem? (i := 646) (by decide +kernel)⟩
theorem lw_p14 : lw_okq (⟨"ShadeVotes$Thought", "fallsIn", "(II)Z"⟩, 5) := ⟨⟨by decide +kernel, by decide +kernel⟩, List.mem_of_getElem? (i := 159) (by decide +kernel), List.mem_of_getElem? (i := 668) (by decide +kernel), List.mem_of_getElem? (i := 669) (by decide +kernel)⟩
theorem lw_p15 : lw_okq (⟨"ShadeVotes$Thought", "standing", "()I"⟩, 5) := ⟨⟨by decide +kernel, by decide +kernel⟩, List.mem_of_getElem? (i := 159) (by decide +kernel), List.mem_of_getElem? (i := 691) (by decide +kernel), List.mem_of_getElem? (i := 692) (by decide +kernel)⟩
def lw_privs_1 : List (MethodName × Nat) := [(⟨"ShadeVotes", "shelfAt", "(I)LShadeVotes$Shelf;"⟩, 13), (⟨"ShadeVotes", "comesFrom", "(LShadeVotes$Shelf;J)Z"⟩, 13), (⟨"ShadeVotes$Land", "owners", "(I)I"⟩, 3), (⟨"ShadeVotes$Changes", "placeOf", "(I)I"⟩, 8), (⟨"ShadeVotes$LawText", "readLine", "()Z"⟩, 5), (⟨"ShadeVotes$LawText", "readChain", "(II)Z"⟩, 5), (⟨"ShadeVotes$LawText", "readOperand", "(I)Z"⟩, 5), (⟨"ShadeVotes$LawText", "next", "()I"⟩, 5), (⟨"ShadeVotes$LawText", "readNumber", "()Z"⟩, 5), (⟨"ShadeVotes$LawText", "emit", "(I)V"⟩, 5), (⟨"ShadeVotes", "isTreeMonth", "(I)Z"⟩, 13), (⟨"ShadeVotes", "isTree", "(I)Z"⟩, 13), (⟨"ShadeVotes", "isMonth", "(I)Z"⟩, 13), (⟨"ShadeVotes$Law", "operand", "(I)I"⟩, 9), (⟨"ShadeVotes$Thought", "fallsIn", "(II)Z"⟩, 5), (⟨"ShadeVotes$Thought", "standing", "()I"⟩, 5)]
theorem lw_r1 : ∀ q ∈ lw_privs_1, lw_okq q := List.forall_mem_cons.mpr ⟨lw_p0, List.forall_mem_cons.mpr ⟨lw_p1, List.forall_mem_cons.mpr ⟨lw_p2, List.forall_mem_cons.mpr ⟨lw_p3, List.forall_mem_cons.mpr ⟨lw_p4, List.forall_mem_cons.mpr ⟨lw_p5, List.forall_mem_cons.mpr ⟨lw_p6, List.forall_mem_cons.mpr ⟨lw_p7, List.forall_mem_cons.mpr ⟨lw_p8, List.forall_mem_cons.mpr ⟨lw_p9, List.forall_mem_cons.mpr ⟨lw_p10, List.forall_mem_cons.mpr ⟨lw_p11, List.forall_mem_cons.mpr ⟨lw_p12, List.forall_mem_cons.mpr ⟨lw_p13, List.forall_mem_cons.mpr ⟨lw_p14, List.forall_mem_cons.mpr ⟨lw_p15, fun _ h => absurd h List.not_mem_nil⟩⟩⟩⟩⟩⟩⟩⟩⟩⟩⟩⟩⟩⟩⟩⟩
theorem lw_p16 : lw_okq (⟨"ShadeVotes$Games", "waysToDecide", "(II)I"⟩, 6) := ⟨⟨by decide +kernel, by decide +kernel⟩, List.mem_of_getElem? (i := 183) (by decide +kernel), List.mem_of_getElem? (i := 727) (by decide +kernel), List.mem_of_getElem? (i := 728) (by decide +kernel)⟩
theorem lw_p17 : lw_okq (⟨"ShadeVotes$Games", "fallsAt", "(III)Z"⟩, 6) := ⟨⟨by decide +kernel, by decide +kernel⟩, List.mem_of_getElem? (i := 183) (by decide +kernel), List.mem_of_getElem? (i := 747) (by decide +kernel), List.mem_of_getElem? (i := 748) (by decide +kernel)⟩
theorem lw_p18 : lw_okq (⟨"ShadeVotes$Games", "bestOf", "([III)I"⟩, 6) := ⟨⟨by decide +kernel, by decide +kernel⟩, List.mem_of_getElem? (i := 183) (by decide +kernel), List.mem_of_getElem? (i := 765) (by decide +kernel), List.mem_of_getElem? (i := 766) (by decide +kernel)⟩
theorem lw_p19 : lw_okq (⟨"ShadeVotes$Games", "leastMove", "([III)I"⟩, 6) := ⟨⟨by decide +kernel, by decide +kernel⟩, List.mem_of_getElem? (i := 183) (by decide +kernel), List.mem_of_getElem? (i := 769) (by decide +kernel), List.mem_of_getElem? (i := 770) (by decide +kernel)⟩
theorem lw_p20 : lw_okq (⟨"ShadeVotes$Books", "ruleOut", "(III)V"⟩, 7) := ⟨⟨by decide +kernel, by decide +kernel⟩, List.mem_of_getElem? (i := 210) (by decide +kernel), List.mem_of_getElem? (i := 831) (by decide +kernel), List.mem_of_getElem? (i := 832) (by decide +kernel)⟩
theorem lw_p21 : lw_okq (⟨"ShadeVotes$Books", "gather", "()V"⟩, 7) := ⟨⟨by decide +kernel, by decide +kernel⟩, List.mem_of_getElem? (i := 210) (by decide +kernel), List.mem_of_getElem? (i := 840) (by decide +kernel), List.mem_of_getElem? (i := 841) (by decide +kernel)⟩
theorem lw_p22 : lw_okq (⟨"ShadeVotes$Thought", "monthsOver", "(II)I"⟩, 5) := ⟨⟨by decide +kernel, by decide +kernel⟩, List.mem_of_getElem? (i := 159) (by decide +kernel), List.mem_of_getElem? (i := 852) (by decide +kernel), List.mem_of_getElem? (i := 853) (by decide +kernel)⟩
theorem lw_p23 : lw_okq (⟨"ShadeVotes$Deeds", "countOn", "(II)V"⟩, 9) := ⟨⟨by decide +kernel, by decide +kernel⟩, List.mem_of_getElem? (i := 241) (by decide +kernel), List.mem_of_getElem? (i := 892) (by decide +kernel), List.mem_of_getElem? (i := 893) (by decide +kernel)⟩
theorem lw_p24 : lw_okq (⟨"ShadeVotes$Voters", "perform", "(IIIII)I"⟩, 4) := ⟨⟨by decide +kernel, by decide +kernel⟩, List.mem_of_getElem? (i := 308) (by decide +kernel), List.mem_of_getElem? (i := 976) (by decide +kernel), List.mem_of_getElem? (i := 977) (by decide +kernel)⟩
theorem lw_p25 : lw_okq (⟨"ShadeVotes$Voters", "run", "(IIIII)I"⟩, 4) := ⟨⟨by decide +kernel, by decide +kernel⟩, List.mem_of_getElem? (i := 308) (by decide +kernel), List.mem_of_getElem? (i := 987) (by decide +kernel), List.mem_of_getElem? (i := 988) (by decide +kernel)⟩
theorem lw_p26 : lw_okq (⟨"ShadeVotes$Voters", "does", "(IIII)I"⟩, 4) := ⟨⟨by decide +kernel, by decide +kernel⟩, List.mem_of_getElem? (i := 308) (by decide +kernel), List.mem_of_getElem? (i := 991) (by decide +kernel), List.mem_of_getElem? (i := 992) (by decide +kernel)⟩
theorem lw_p27 : lw_okq (⟨"ShadeVotes$Shelf", "narrowed", "(J)J"⟩, 4) := ⟨⟨by decide +kernel, by decide +kernel⟩, List.mem_of_getElem? (i := 330) (by decide +kernel), List.mem_of_getElem? (i := 1033) (by decide +kernel), List.mem_of_getElem? (i := 1034) (by decide +kernel)⟩
theorem lw_p28 : lw_okq (⟨"ShadeVotesModel", "adds", "(III)V"⟩, 39) := ⟨⟨by decide +kernel, by decide +kernel⟩, List.mem_of_getElem? (i := 1065) (by decide +kernel), List.mem_of_getElem? (i := 1214) (by decide +kernel), List.mem_of_getElem? (i := 1215) (by decide +kernel)⟩
theorem lw_p29 : lw_okq (⟨"ShadeVotesModel", "placeOf", "(II)I"⟩, 39) := ⟨⟨by decide +kernel, by decide +kernel⟩, List.mem_of_getElem? (i := 1065) (by decide +kernel), List.mem_of_getElem? (i := 1232) (by decide +kernel), List.mem_of_getElem? (i := 1233) (by decide +kernel)⟩
theorem lw_p30 : lw_okq (⟨"ShadeVotesModel", "isTree", "(J)Z"⟩, 39) := ⟨⟨by decide +kernel, by decide +kernel⟩, List.mem_of_getElem? (i := 1065) (by decide +kernel), List.mem_of_getElem? (i := 1236) (by decide +kernel), List.mem_of_getElem? (i := 1237) (by decide +kernel)⟩
theorem lw_p31 : lw_okq (⟨"ShadeVotesModel", "isOne", "(J)Z"⟩, 39) := ⟨⟨by decide +kernel, by decide +kernel⟩, List.mem_of_getElem? (i := 1065) (by decide +kernel), List.mem_of_getElem? (i := 1244) (by decide +kernel), List.mem_of_getElem? (i := 1245) (by decide +kernel)⟩
def lw_privs_2 : List (MethodName × Nat) := [(⟨"ShadeVotes$Games", "waysToDecide", "(II)I"⟩, 6), (⟨"ShadeVotes$Games", "fallsAt", "(III)Z"⟩, 6), (⟨"ShadeVotes$Games", "bestOf", "([III)I"⟩, 6), (⟨"ShadeVotes$Games", "leastMove", "([III)I"⟩, 6), (⟨"ShadeVotes$Books", "ruleOut", "(III)V"⟩, 7), (⟨"ShadeVotes$Books", "gather", "()V"⟩, 7), (⟨"ShadeVotes$Thought", "monthsOver", "(II)I"⟩, 5), (⟨"ShadeVotes$Deeds", "countOn", "(II)V"⟩, 9), (⟨"ShadeVotes$Voters", "perform", "(IIIII)I"⟩, 4), (⟨"ShadeVotes$Voters", "run", "(IIIII)I"⟩, 4), (⟨"ShadeVotes$Voters", "does", "(IIII)I"⟩, 4), (⟨"ShadeVotes$Shelf", "narrowed", "(J)J"⟩, 4), (⟨"ShadeVotesModel", "adds", "(III)V"⟩, 39), (⟨"ShadeVotesModel", "placeOf", "(II)I"⟩, 39), (⟨"ShadeVotesModel", "isTree", "(J)Z"⟩, 39), (⟨"ShadeVotesModel", "isOne", "(J)Z"⟩, 39)]
theorem lw_r2 : ∀ q ∈ lw_privs_2, lw_okq q := List.forall_mem_cons.mpr ⟨lw_p16, List.forall_mem_cons.mpr ⟨lw_p17, List.forall_mem_cons.mpr ⟨lw_p18, List.forall_mem_cons.mpr ⟨lw_p19, List.forall_mem_cons.mpr ⟨lw_p20, List.forall_mem_cons.mpr ⟨lw_p21, List.forall_mem_cons.mpr ⟨lw_p22, List.forall_mem_cons.mpr ⟨lw_p23, List.forall_mem_cons.mpr ⟨lw_p24, List.forall_mem_cons.mpr ⟨lw_p25, List.forall_mem_cons.mpr ⟨lw_p26, List.forall_mem_cons.mpr ⟨lw_p27, List.forall_mem_cons.mpr ⟨lw_p28, List.forall_mem_cons.mpr ⟨lw_p29, List.forall_mem_cons.mpr ⟨lw_p30, List.forall_mem_cons.mpr ⟨lw_p31, fun _ h => absurd h List.not_mem_nil⟩⟩⟩⟩⟩⟩⟩⟩⟩⟩⟩⟩⟩⟩⟩⟩
theorem lw_p32 : lw_okq (⟨"ShadeVotesModel", "becomes", "(II)I"⟩, 39) := ⟨⟨by decide +kernel, by decide +kernel⟩, List.mem_of_getElem? (i := 1065) (by decide +kernel), List.mem_of_getElem? (i := 1251) (by decide +kernel), List.mem_of_getElem? (i := 1252) (by decide +kernel)⟩
theorem lw_p33 : lw_okq (⟨"ShadeVotesModel", "workOut", "(II)I"⟩, 39) := ⟨⟨by decide +kernel, by decide +kernel⟩, List.mem_of_getElem? (i := 1065) (by decide +kernel), List.mem_of_getElem? (i := 1267) (by decide +kernel), List.mem_of_getElem? (i := 1268) (by decide +kernel)⟩
theorem lw_p34 : lw_okq (⟨"ShadeVotesModel", "either", "()I"⟩, 39) := ⟨⟨by decide +kernel, by decide +kernel⟩, List.mem_of_getElem? (i := 1065) (by decide +kernel), List.mem_of_getElem? (i := 1271) (by decide +kernel), List.mem_of_getElem? (i := 1272) (by decide +kernel)⟩
theorem lw_p35 : lw_okq (⟨"ShadeVotesModel", "both", "()I"⟩, 39) := ⟨⟨by decide +kernel, by decide +kernel⟩, List.mem_of_getElem? (i := 1065) (by decide +kernel), List.mem_of_getElem? (i := 1275) (by decide +kernel), List.mem_of_getElem? (i := 1276) (by decide +kernel)⟩
theorem lw_p36 : lw_okq (⟨"ShadeVotesModel", "compared", "()I"⟩, 39) := ⟨⟨by decide +kernel, by decide +kernel⟩, List.mem_of_getElem? (i := 1065) (by decide +kernel), List.mem_of_getElem? (i := 1279) (by decide +kernel), List.mem_of_getElem? (i := 1280) (by decide +kernel)⟩
theorem lw_p37 : lw_okq (⟨"ShadeVotesModel", "sums", "()I"⟩, 39) := ⟨⟨by decide +kernel, by decide +kernel⟩, List.mem_of_getElem? (i := 1065) (by decide +kernel), List.mem_of_getElem? (i := 1283) (by decide +kernel), List.mem_of_getElem? (i := 1284) (by decide +kernel)⟩
theorem lw_p38 : lw_okq (⟨"ShadeVotesModel", "product", "()I"⟩, 39) := ⟨⟨by decide +kernel, by decide +kernel⟩, List.mem_of_getElem? (i := 1065) (by decide +kernel), List.mem_of_getElem? (i := 1287) (by decide +kernel), List.mem_of_getElem? (i := 1288) (by decide +kernel)⟩
theorem lw_p39 : lw_okq (⟨"ShadeVotesModel", "one", "()I"⟩, 39) := ⟨⟨by decide +kernel, by decide +kernel⟩, List.mem_of_getElem? (i := 1065) (by decide +kernel), List.mem_of_getElem? (i := 1291) (by decide +kernel), List.mem_of_getElem? (i := 1292) (by decide +kernel)⟩
theorem lw_p40 : lw_okq (⟨"ShadeVotesModel", "byteAt", "()I"⟩, 39) := ⟨⟨by decide +kernel, by decide +kernel⟩, List.mem_of_getElem? (i := 1065) (by decide +kernel), List.mem_of_getElem? (i := 1295) (by decide +kernel), List.mem_of_getElem? (i := 1296) (by decide +kernel)⟩
theorem lw_p41 : lw_okq (⟨"ShadeVotesModel", "wrong", "()I"⟩, 39) := ⟨⟨by decide +kernel, by decide +kernel⟩, List.mem_of_getElem? (i := 1065) (by decide +kernel), List.mem_of_getElem? (i := 1299) (by decide +kernel), List.mem_of_getElem? (i := 1300) (by decide +kernel)⟩
theorem lw_p42 : lw_okq (⟨"ShadeVotesModel", "takes", "(I)Z"⟩, 39) := ⟨⟨by decide +kernel, by decide +kernel⟩, List.mem_of_getElem? (i := 1065) (by decide +kernel), List.mem_of_getElem? (i := 1303) (by decide +kernel), List.mem_of_getElem? (i := 1304) (by decide +kernel)⟩
theorem lw_p43 : lw_okq (⟨"ShadeVotesModel", "isTm", "(I)Z"⟩, 39) := ⟨⟨by decide +kernel, by decide +kernel⟩, List.mem_of_getElem? (i := 1065) (by decide +kernel), List.mem_of_getElem? (i := 1314) (by decide +kernel), List.mem_of_getElem? (i := 1315) (by decide +kernel)⟩
theorem lw_p44 : lw_okq (⟨"ShadeVotesModel", "sittersNow", "(II)I"⟩, 39) := ⟨⟨by decide +kernel, by decide +kernel⟩, List.mem_of_getElem? (i := 1065) (by decide +kernel), List.mem_of_getElem? (i := 1318) (by decide +kernel), List.mem_of_getElem? (i := 1319) (by decide +kernel)⟩
theorem lw_p45 : lw_okq (⟨"ShadeVotesModel", "sittersIn", "(II)I"⟩, 39) := ⟨⟨by decide +kernel, by decide +kernel⟩, List.mem_of_getElem? (i := 1065) (by decide +kernel), List.mem_of_getElem? (i := 1325) (by decide +kernel), List.mem_of_getElem? (i := 1326) (by decide +kernel)⟩
theorem lw_p46 : lw_okq (⟨"ShadeVotesModel", "isShaded", "(III)Z"⟩, 39) := ⟨⟨by decide +kernel, by decide +kernel⟩, List.mem_of_getElem? (i := 1065) (by decide +kernel), List.mem_of_getElem? (i := 1329) (by decide +kernel), List.mem_of_getElem? (i := 1330) (by decide +kernel)⟩
theorem lw_p47 : lw_okq (⟨"ShadeVotesModel", "rowsOf", "(II)I"⟩, 39) := ⟨⟨by decide +kernel, by decide +kernel⟩, List.mem_of_getElem? (i := 1065) (by decide +kernel), List.mem_of_getElem? (i := 1333) (by decide +kernel), List.mem_of_getElem? (i := 1334) (by decide +kernel)⟩
def lw_privs_3 : List (MethodName × Nat) := [(⟨"ShadeVotesModel", "becomes", "(II)I"⟩, 39), (⟨"ShadeVotesModel", "workOut", "(II)I"⟩, 39), (⟨"ShadeVotesModel", "either", "()I"⟩, 39), (⟨"ShadeVotesModel", "both", "()I"⟩, 39), (⟨"ShadeVotesModel", "compared", "()I"⟩, 39), (⟨"ShadeVotesModel", "sums", "()I"⟩, 39), (⟨"ShadeVotesModel", "product", "()I"⟩, 39), (⟨"ShadeVotesModel", "one", "()I"⟩, 39), (⟨"ShadeVotesModel", "byteAt", "()I"⟩, 39), (⟨"ShadeVotesModel", "wrong", "()I"⟩, 39), (⟨"ShadeVotesModel", "takes", "(I)Z"⟩, 39), (⟨"ShadeVotesModel", "isTm", "(I)Z"⟩, 39), (⟨"ShadeVotesModel", "sittersNow", "(II)I"⟩, 39), (⟨"ShadeVotesModel", "sittersIn", "(II)I"⟩, 39), (⟨"ShadeVotesModel", "isShaded", "(III)Z"⟩, 39), (⟨"ShadeVotesModel", "rowsOf", "(II)I"⟩, 39)]
theorem lw_r3 : ∀ q ∈ lw_privs_3, lw_okq q := List.forall_mem_cons.mpr ⟨lw_p32, List.forall_mem_cons.mpr ⟨lw_p33, List.forall_mem_cons.mpr ⟨lw_p34, List.forall_mem_cons.mpr ⟨lw_p35, List.forall_mem_cons.mpr ⟨lw_p36, List.forall_mem_cons.mpr ⟨lw_p37, List.forall_mem_cons.mpr ⟨lw_p38, List.forall_mem_cons.mpr ⟨lw_p39, List.forall_mem_cons.mpr ⟨lw_p40, List.forall_mem_cons.mpr ⟨lw_p41, List.forall_mem_cons.mpr ⟨lw_p42, List.forall_mem_cons.mpr ⟨lw_p43, List.forall_mem_cons.mpr ⟨lw_p44, List.forall_mem_cons.mpr ⟨lw_p45, List.forall_mem_cons.mpr ⟨lw_p46, List.forall_mem_cons.mpr ⟨lw_p47, fun _ h => absurd h List.not_mem_nil⟩⟩⟩⟩⟩⟩⟩⟩⟩⟩⟩⟩⟩⟩⟩⟩
theorem lw_p48 : lw_okq (⟨"ShadeVotesModel", "wishers", "(I)I"⟩, 39) := ⟨⟨by decide +kernel, by decide +kernel⟩, List.mem_of_getElem? (i := 1065) (by decide +kernel), List.mem_of_getElem? (i := 1341) (by decide +kernel), List.mem_of_getElem? (i := 1342) (by decide +kernel)⟩
theorem lw_p49 : lw_okq (⟨"ShadeVotesModel", "sumOf", "(IIII)I"⟩, 39) := ⟨⟨by decide +kernel, by decide +kernel⟩, List.mem_of_getElem? (i := 1065) (by decide +kernel), List.mem_of_getElem? (i := 1345) (by decide +kernel), List.mem_of_getElem? (i := 1346) (by decide +kernel)⟩
theorem lw_p50 : lw_okq (⟨"ShadeVotesModel", "countsOf", "(IIII)I"⟩, 39) := ⟨⟨by decide +kernel, by decide +kernel⟩, List.mem_of_getElem? (i := 1065) (by decide +kernel), List.mem_of_getElem? (i := 1352) (by decide +kernel), List.mem_of_getElem? (i := 1353) (by decide +kernel)⟩
theorem lw_p51 : lw_okq (⟨"ShadeVotesModel", "fallsNow", "(II)Z"⟩, 39) := ⟨⟨by decide +kernel, by decide +kernel⟩, List.mem_of_getElem? (i := 1065) (by decide +kernel), List.mem_of_getElem? (i := 1356) (by decide +kernel), List.mem_of_getElem? (i := 1357) (by decide +kernel)⟩
theorem lw_p52 : lw_okq (⟨"ShadeVotesModel", "doesFall", "(IIII)Z"⟩, 39) := ⟨⟨by decide +kernel, by decide +kernel⟩, List.mem_of_getElem? (i := 1065) (by decide +kernel), List.mem_of_getElem? (i := 1360) (by decide +kernel), List.mem_of_getElem? (i := 1361) (by decide +kernel)⟩
theorem lw_p53 : lw_okq (⟨"ShadeVotesModel", "isShadedNow", "(III)Z"⟩, 39) := ⟨⟨by decide +kernel, by decide +kernel⟩, List.mem_of_getElem? (i := 1065) (by decide +kernel), List.mem_of_getElem? (i := 1364) (by decide +kernel), List.mem_of_getElem? (i := 1365) (by decide +kernel)⟩
theorem lw_p54 : lw_okq (⟨"ShadeVotesModel", "fallIn", "(I)I"⟩, 39) := ⟨⟨by decide +kernel, by decide +kernel⟩, List.mem_of_getElem? (i := 1065) (by decide +kernel), List.mem_of_getElem? (i := 1373) (by decide +kernel), List.mem_of_getElem? (i := 1374) (by decide +kernel)⟩
theorem lw_p55 : lw_okq (⟨"ShadeVotesModel", "everybody", "()I"⟩, 39) := ⟨⟨by decide +kernel, by decide +kernel⟩, List.mem_of_getElem? (i := 1065) (by decide +kernel), List.mem_of_getElem? (i := 1390) (by decide +kernel), List.mem_of_getElem? (i := 1391) (by decide +kernel)⟩
theorem lw_p56 : lw_okq (⟨"ShadeVotesModel", "fallsFrom", "(IIIII)Z"⟩, 39) := ⟨⟨by decide +kernel, by decide +kernel⟩, List.mem_of_getElem? (i := 1065) (by decide +kernel), List.mem_of_getElem? (i := 1415) (by decide +kernel), List.mem_of_getElem? (i := 1416) (by decide +kernel)⟩
theorem lw_p57 : lw_okq (⟨"ShadeVotesModel", "bytesIs", "(I)I"⟩, 39) := ⟨⟨by decide +kernel, by decide +kernel⟩, List.mem_of_getElem? (i := 1065) (by decide +kernel), List.mem_of_getElem? (i := 1431) (by decide +kernel), List.mem_of_getElem? (i := 1432) (by decide +kernel)⟩
theorem lw_p58 : lw_okq (⟨"ShadeVotesModel", "firstFalse", "(III)I"⟩, 39) := ⟨⟨by decide +kernel, by decide +kernel⟩, List.mem_of_getElem? (i := 1065) (by decide +kernel), List.mem_of_getElem? (i := 1435) (by decide +kernel), List.mem_of_getElem? (i := 1436) (by decide +kernel)⟩
theorem lw_p59 : lw_okq (⟨"ShadeVotesModel", "standsIn", "(I)I"⟩, 39) := ⟨⟨by decide +kernel, by decide +kernel⟩, List.mem_of_getElem? (i := 1065) (by decide +kernel), List.mem_of_getElem? (i := 1448) (by decide +kernel), List.mem_of_getElem? (i := 1449) (by decide +kernel)⟩
theorem lw_p60 : lw_okq (⟨"ShadeVotesModel", "isBody", "(I)Z"⟩, 39) := ⟨⟨by decide +kernel, by decide +kernel⟩, List.mem_of_getElem? (i := 1065) (by decide +kernel), List.mem_of_getElem? (i := 1495) (by decide +kernel), List.mem_of_getElem? (i := 1496) (by decide +kernel)⟩
theorem lw_p61 : lw_okq (⟨"ShadeVotesModel", "sitsAs", "(II)I"⟩, 39) := ⟨⟨by decide +kernel, by decide +kernel⟩, List.mem_of_getElem? (i := 1065) (by decide +kernel), List.mem_of_getElem? (i := 1499) (by decide +kernel), List.mem_of_getElem? (i := 1500) (by decide +kernel)⟩
theorem lw_p62 : lw_okq (⟨"ShadeVotesModel", "runs", "(I)V"⟩, 39) := ⟨⟨by decide +kernel, by decide +kernel⟩, List.mem_of_getElem? (i := 1065) (by decide +kernel), List.mem_of_getElem? (i := 1503) (by decide +kernel), List.mem_of_getElem? (i := 1504) (by decide +kernel)⟩
theorem lw_p63 : lw_okq (⟨"ShadeVotesModel", "votesAs", "(II)I"⟩, 39) := ⟨⟨by decide +kernel, by decide +kernel⟩, List.mem_of_getElem? (i := 1065) (by decide +kernel), List.mem_of_getElem? (i := 1507) (by decide +kernel), List.mem_of_getElem? (i := 1508) (by decide +kernel)⟩
def lw_privs_4 : List (MethodName × Nat) := [(⟨"ShadeVotesModel", "wishers", "(I)I"⟩, 39), (⟨"ShadeVotesModel", "sumOf", "(IIII)I"⟩, 39), (⟨"ShadeVotesModel", "countsOf", "(IIII)I"⟩, 39), (⟨"ShadeVotesModel", "fallsNow", "(II)Z"⟩, 39), (⟨"ShadeVotesModel", "doesFall", "(IIII)Z"⟩, 39), (⟨"ShadeVotesModel", "isShadedNow", "(III)Z"⟩, 39), (⟨"ShadeVotesModel", "fallIn", "(I)I"⟩, 39), (⟨"ShadeVotesModel", "everybody", "()I"⟩, 39), (⟨"ShadeVotesModel", "fallsFrom", "(IIIII)Z"⟩, 39), (⟨"ShadeVotesModel", "bytesIs", "(I)I"⟩, 39), (⟨"ShadeVotesModel", "firstFalse", "(III)I"⟩, 39), (⟨"ShadeVotesModel", "standsIn", "(I)I"⟩, 39), (⟨"ShadeVotesModel", "isBody", "(I)Z"⟩, 39), (⟨"ShadeVotesModel", "sitsAs", "(II)I"⟩, 39), (⟨"ShadeVotesModel", "runs", "(I)V"⟩, 39), (⟨"ShadeVotesModel", "votesAs", "(II)I"⟩, 39)]
theorem lw_r4 : ∀ q ∈ lw_privs_4, lw_okq q := List.forall_mem_cons.mpr ⟨lw_p48, List.forall_mem_cons.mpr ⟨lw_p49, List.forall_mem_cons.mpr ⟨lw_p50, List.forall_mem_cons.mpr ⟨lw_p51, List.forall_mem_cons.mpr ⟨lw_p52, List.forall_mem_cons.mpr ⟨lw_p53, List.forall_mem_cons.mpr ⟨lw_p54, List.forall_mem_cons.mpr ⟨lw_p55, List.forall_mem_cons.mpr ⟨lw_p56, List.forall_mem_cons.mpr ⟨lw_p57, List.forall_mem_cons.mpr ⟨lw_p58, List.forall_mem_cons.mpr ⟨lw_p59, List.forall_mem_cons.mpr ⟨lw_p60, List.forall_mem_cons.mpr ⟨lw_p61, List.forall_mem_cons.mpr ⟨lw_p62, List.forall_mem_cons.mpr ⟨lw_p63, fun _ h => absurd h List.not_mem_nil⟩⟩⟩⟩⟩⟩⟩⟩⟩⟩⟩⟩⟩⟩⟩⟩
theorem lw_p64 : lw_okq (⟨"ShadeVotesModel", "movesAs", "(II)I"⟩, 39) := ⟨⟨by decide +kernel, by decide +kernel⟩, List.mem_of_getElem? (i := 1065) (by decide +kernel), List.mem_of_getElem? (i := 1511) (by decide +kernel), List.mem_of_getElem? (i := 1512) (by decide +kernel)⟩
theorem lw_p65 : lw_okq (⟨"ShadeVotesModel", "tellsAs", "(II)I"⟩, 39) := ⟨⟨by decide +kernel, by decide +kernel⟩, List.mem_of_getElem? (i := 1065) (by decide +kernel), List.mem_of_getElem? (i := 1515) (by decide +kernel), List.mem_of_getElem? (i := 1516) (by decide +kernel)⟩
theorem lw_p66 : lw_okq (⟨"ShadeVotesModel", "refusal", "(II)I"⟩, 39) := ⟨⟨by decide +kernel, by decide +kernel⟩, List.mem_of_getElem? (i := 1065) (by decide +kernel), List.mem_of_getElem? (i := 1535) (by decide +kernel), List.mem_of_getElem? (i := 1536) (by decide +kernel)⟩
theorem lw_p67 : lw_okq (⟨"ShadeVotesModel", "kindOf", "(I)I"⟩, 39) := ⟨⟨by decide +kernel, by decide +kernel⟩, List.mem_of_getElem? (i := 1065) (by decide +kernel), List.mem_of_getElem? (i := 1554) (by decide +kernel), List.mem_of_getElem? (i := 1555) (by decide +kernel)⟩
def lw_privs_5 : List (MethodName × Nat) := [(⟨"ShadeVotesModel", "movesAs", "(II)I"⟩, 39), (⟨"ShadeVotesModel", "tellsAs", "(II)I"⟩, 39), (⟨"ShadeVotesModel", "refusal", "(II)I"⟩, 39), (⟨"ShadeVotesModel", "kindOf", "(I)I"⟩, 39)]
theorem lw_r5 : ∀ q ∈ lw_privs_5, lw_okq q := List.forall_mem_cons.mpr ⟨lw_p64, List.forall_mem_cons.mpr ⟨lw_p65, List.forall_mem_cons.mpr ⟨lw_p66, List.forall_mem_cons.mpr ⟨lw_p67, fun _ h => absurd h List.not_mem_nil⟩⟩⟩⟩
def lw_privs : List (MethodName × Nat) := lw_privs_1 ++ (lw_privs_2 ++ (lw_privs_3 ++ (lw_privs_4 ++ (lw_privs_5))))
def lw_tbl : List Cond := k2_sels lw_privs ++ tables_1
theorem lw_privs_ok : ∀ q ∈ lw_privs, lw_okq q := by
  show ∀ q ∈ lw_privs_1 ++ (lw_privs_2 ++ (lw_privs_3 ++ (lw_privs_4 ++ (lw_privs_5)))), lw_okq q
  exact List.forall_mem_append.mpr ⟨lw_r1, List.forall_mem_append.mpr ⟨lw_r2, List.forall_mem_append.mpr ⟨lw_r3, List.forall_mem_append.mpr ⟨lw_r4, lw_r5⟩⟩⟩⟩
theorem goodIn_r {big : List Cond} (ws : List Cond) (ps : List Nat) (hp : ws = ps.filterMap (fun i => big[i]?)) (h : ws.all goodWord = true) : GoodIn big ws := by
  intro w hw
  have h1 := List.all_eq_true.mp h w hw
  rw [hp] at hw
  obtain ⟨i, -, hi⟩ := List.mem_filterMap.mp hw
  have hm : w ∈ big := by first | exact List.mem_of_getElem? hi | exact List.getElem?_mem hi
  exact ⟨hm, good_of_word h1⟩
theorem goodIn_app {big a b : List Cond} (ha : GoodIn big a) (hb : GoodIn big b) : GoodIn big (a ++ b) := fun w h => (List.mem_append.mp h).elim (ha w) (hb w)
theorem goodIn_ca {big a b : List Cond} {c : Cond} (ha : GoodIn big (c :: a)) (hb : GoodIn big b) : GoodIn big (c :: (a ++ b)) := fun w h => (List.mem_cons.mp h).elim (fun e => ha w (List.mem_cons.mpr (Or.inl e))) (fun h => (List.mem_append.mp h).elim (fun h => ha w (List.mem_cons.mpr (Or.inr h))) (hb w))
theorem goodIn_sub {big ws : List Cond} (hm : ∀ w ∈ ws, w ∈ big) (h : ws.all goodWord = true) : GoodIn big ws := fun w hw => ⟨hm w hw, good_of_word (List.all_eq_true.mp h w hw)⟩
def RX0 : String := "ShadeVotes$Ballot"
def TX0 : u_T := fun k => match k with
  | 0 => ("ShadeVotes$Ballot", "land", "LShadeVotes$Land;", true)
  | 1 => ("ShadeVotes$Ballot", "law", "LShadeVotes$Law;", true)
  | 2 => ("ShadeVotes$Ballot", "worths", "[I", true)
  | 3 => ("ShadeVotes$Ballot", "known", "[I", true)
  | 4 => ("ShadeVotes$Ballot", "standing", "Z", false)
  | 5 => ("ShadeVotes$Ballot", "sitters", "I", false)
  | _ => ("ShadeVotes$Ballot", "wishers", "I", false)
def tyX0 : Nat → FieldType := fun k => match k with
  | 0 => .object "ShadeVotes$Land"
  | 1 => .object "ShadeVotes$Law"
  | 2 => .array .int
  | 3 => .array .int
  | 4 => .boolean
  | 5 => .int
  | _ => .int
abbrev wsX00 : List Cond := u_ws RX0 TX0 7
theorem nmX0 : ∀ a, a < 7 → ∀ b, b < 7 → a ≠ b → (TX0 a).2.1 ≠ (TX0 b).2.1 := by decide +kernel
theorem tyX0_ok : ∀ k, k < 7 → parseFieldDescriptor (TX0 k).2.2.1 = some (tyX0 k) := by decide +kernel
abbrev cX0_init : ByteArray := prog_2_method_1_code
def yX0_init : MethodName := ⟨RX0, "<init>", "(LShadeVotes$Land;LShadeVotes$Law;)V"⟩
abbrev cX0_open : ByteArray := prog_2_method_2_code
def yX0_open : MethodName := ⟨RX0, "open", "(II)V"⟩
abbrev cX0_openAsIf : ByteArray := prog_2_method_3_code
def yX0_openAsIf : MethodName := ⟨RX0, "openAsIf", "(III)V"⟩
abbrev cX0_worthOf : ByteArray := prog_2_method_4_code
def yX0_worthOf : MethodName := ⟨RX0, "worthOf", "(II)I"⟩
abbrev cX0_sumOf : ByteArray := prog_2_method_5_code
def yX0_sumOf : MethodName := ⟨RX0, "sumOf", "(I)I"⟩
abbrev cX0_passes : ByteArray := prog_2_method_6_code
def yX0_passes : MethodName := ⟨RX0, "passes", "(II)Z"⟩
abbrev cX0_sumSets : ByteArray := prog_2_method_7_code
def yX0_sumSets : MethodName := ⟨RX0, "sumSets", "([I)V"⟩
def RX1 : String := "ShadeVotes$Books"
def TX1 : u_T := fun k => match k with
  | 0 => ("ShadeVotes$Books", "land", "LShadeVotes$Land;", true)
  | 1 => ("ShadeVotes$Books", "ballot", "LShadeVotes$Ballot;", true)
  | 2 => ("ShadeVotes$Books", "sums", "[I", true)
  | 3 => ("ShadeVotes$Books", "ruledOut", "[I", true)
  | 4 => ("ShadeVotes$Books", "howMany", "I", false)
  | 5 => ("ShadeVotes$Books", "least", "I", false)
  | _ => ("ShadeVotes$Books", "certain", "I", false)
def tyX1 : Nat → FieldType := fun k => match k with
  | 0 => .object "ShadeVotes$Land"
  | 1 => .object "ShadeVotes$Ballot"
  | 2 => .array .int
  | 3 => .array .int
  | 4 => .int
  | 5 => .int
  | _ => .int
abbrev wsX10 : List Cond := u_ws RX1 TX1 7
theorem nmX1 : ∀ a, a < 7 → ∀ b, b < 7 → a ≠ b → (TX1 a).2.1 ≠ (TX1 b).2.1 := by decide +kernel
theorem tyX1_ok : ∀ k, k < 7 → parseFieldDescriptor (TX1 k).2.2.1 = some (tyX1 k) := by decide +kernel
abbrev cX1_init : ByteArray := prog_3_method_1_code
def yX1_init : MethodName := ⟨RX1, "<init>", "(LShadeVotes$Land;LShadeVotes$Ballot;[I[I)V"⟩
abbrev cX1_twosOf : ByteArray := prog_3_method_2_code
def yX1_twosOf : MethodName := ⟨RX1, "twosOf", "(LShadeVotes$Shelf;)I"⟩
abbrev cX1_isWellSaid : ByteArray := prog_3_method_3_code
def yX1_isWellSaid : MethodName := ⟨RX1, "isWellSaid", "(LShadeVotes$Shelf;I)Z"⟩
abbrev cX1_firstWrong : ByteArray := prog_3_method_4_code
def yX1_firstWrong : MethodName := ⟨RX1, "firstWrong", "(LShadeVotes$Shelf;I)I"⟩
abbrev cX1_findWishers : ByteArray := prog_3_method_5_code
def yX1_findWishers : MethodName := ⟨RX1, "findWishers", "(LShadeVotes$Shelf;I)V"⟩
abbrev cX1_ruleOut : ByteArray := prog_3_method_6_code
def yX1_ruleOut : MethodName := ⟨RX1, "ruleOut", "(III)V"⟩
abbrev cX1_gather : ByteArray := prog_3_method_7_code
def yX1_gather : MethodName := ⟨RX1, "gather", "()V"⟩
def RX2 : String := "ShadeVotes$Changes"
def TX2 : u_T := fun k => match k with
  | 0 => ("ShadeVotes$Changes", "land", "LShadeVotes$Land;", true)
  | 1 => ("ShadeVotes$Changes", "numbers", "[I", true)
  | 2 => ("ShadeVotes$Changes", "whats", "[I", true)
  | 3 => ("ShadeVotes$Changes", "before", "[I", true)
  | 4 => ("ShadeVotes$Changes", "after", "[I", true)
  | 5 => ("ShadeVotes$Changes", "oldest", "I", false)
  | 6 => ("ShadeVotes$Changes", "done", "I", false)
  | _ => ("ShadeVotes$Changes", "undone", "I", false)
def tyX2 : Nat → FieldType := fun k => match k with
  | 0 => .object "ShadeVotes$Land"
  | 1 => .array .int
  | 2 => .array .int
  | 3 => .array .int
  | 4 => .array .int
  | 5 => .int
  | 6 => .int
  | _ => .int
abbrev wsX20 : List Cond := u_ws RX2 TX2 8
theorem nmX2 : ∀ a, a < 8 → ∀ b, b < 8 → a ≠ b → (TX2 a).2.1 ≠ (TX2 b).2.1 := by decide +kernel
theorem tyX2_ok : ∀ k, k < 8 → parseFieldDescriptor (TX2 k).2.2.1 = some (tyX2 k) := by decide +kernel
abbrev cX2_init : ByteArray := prog_4_method_1_code
def yX2_init : MethodName := ⟨RX2, "<init>", "(LShadeVotes$Land;)V"⟩
abbrev cX2_placeOf : ByteArray := prog_4_method_2_code
def yX2_placeOf : MethodName := ⟨RX2, "placeOf", "(I)I"⟩
abbrev cX2_add : ByteArray := prog_4_method_3_code
def yX2_add : MethodName := ⟨RX2, "add", "(IIII)V"⟩
abbrev cX2_takeBack : ByteArray := prog_4_method_4_code
def yX2_takeBack : MethodName := ⟨RX2, "takeBack", "()Z"⟩
abbrev cX2_doAgain : ByteArray := prog_4_method_5_code
def yX2_doAgain : MethodName := ⟨RX2, "doAgain", "()Z"⟩
def RX3 : String := "ShadeVotes$Deeds"
def TX3 : u_T := fun k => match k with
  | 0 => ("ShadeVotes$Deeds", "land", "LShadeVotes$Land;", true)
  | 1 => ("ShadeVotes$Deeds", "led", "[I", true)
  | 2 => ("ShadeVotes$Deeds", "ledThen", "[I", true)
  | 3 => ("ShadeVotes$Deeds", "stoodThen", "[I", true)
  | 4 => ("ShadeVotes$Deeds", "highThen", "[I", true)
  | 5 => ("ShadeVotes$Deeds", "seatsThen", "[I", true)
  | 6 => ("ShadeVotes$Deeds", "treesThen", "I", false)
  | 7 => ("ShadeVotes$Deeds", "peopleThen", "I", false)
  | _ => ("ShadeVotes$Deeds", "kept", "Z", false)
def tyX3 : Nat → FieldType := fun k => match k with
  | 0 => .object "ShadeVotes$Land"
  | 1 => .array .int
  | 2 => .array .int
  | 3 => .array .int
  | 4 => .array .int
  | 5 => .array .int
  | 6 => .int
  | 7 => .int
  | _ => .boolean
abbrev wsX30 : List Cond := u_ws RX3 TX3 9
theorem nmX3 : ∀ a, a < 9 → ∀ b, b < 9 → a ≠ b → (TX3 a).2.1 ≠ (TX3 b).2.1 := by decide +kernel
theorem tyX3_ok : ∀ k, k < 9 → parseFieldDescriptor (TX3 k).2.2.1 = some (tyX3 k) := by decide +kernel
abbrev cX3_init : ByteArray := prog_5_method_1_code
def yX3_init : MethodName := ⟨RX3, "<init>", "(LShadeVotes$Land;)V"⟩
abbrev cX3_tell : ByteArray := prog_5_method_2_code
def yX3_tell : MethodName := ⟨RX3, "tell", "(I)I"⟩
abbrev cX3_countOn : ByteArray := prog_5_method_3_code
def yX3_countOn : MethodName := ⟨RX3, "countOn", "(II)V"⟩
abbrev cX3_fell : ByteArray := prog_5_method_4_code
def yX3_fell : MethodName := ⟨RX3, "fell", "(I)V"⟩
abbrev cX3_seat : ByteArray := prog_5_method_5_code
def yX3_seat : MethodName := ⟨RX3, "seat", "(II)I"⟩
abbrev cX3_lopOne : ByteArray := prog_5_method_6_code
def yX3_lopOne : MethodName := ⟨RX3, "lopOne", "(I)I"⟩
abbrev cX3_keepImage : ByteArray := prog_5_method_7_code
def yX3_keepImage : MethodName := ⟨RX3, "keepImage", "()V"⟩
abbrev cX3_layBack : ByteArray := prog_5_method_8_code
def yX3_layBack : MethodName := ⟨RX3, "layBack", "()Z"⟩
def RX4 : String := "ShadeVotes$Games"
def TX4 : u_T := fun k => match k with
  | 0 => ("ShadeVotes$Games", "land", "LShadeVotes$Land;", true)
  | 1 => ("ShadeVotes$Games", "ballot", "LShadeVotes$Ballot;", true)
  | 2 => ("ShadeVotes$Games", "behind", "[I", true)
  | 3 => ("ShadeVotes$Games", "ahead", "[I", true)
  | 4 => ("ShadeVotes$Games", "outcome", "I", false)
  | _ => ("ShadeVotes$Games", "firstMove", "I", false)
def tyX4 : Nat → FieldType := fun k => match k with
  | 0 => .object "ShadeVotes$Land"
  | 1 => .object "ShadeVotes$Ballot"
  | 2 => .array .int
  | 3 => .array .int
  | 4 => .int
  | _ => .int
abbrev wsX40 : List Cond := u_ws RX4 TX4 6
theorem nmX4 : ∀ a, a < 6 → ∀ b, b < 6 → a ≠ b → (TX4 a).2.1 ≠ (TX4 b).2.1 := by decide +kernel
theorem tyX4_ok : ∀ k, k < 6 → parseFieldDescriptor (TX4 k).2.2.1 = some (tyX4 k) := by decide +kernel
abbrev cX4_init : ByteArray := prog_6_method_1_code
def yX4_init : MethodName := ⟨RX4, "<init>", "(LShadeVotes$Land;LShadeVotes$Ballot;[I[I)V"⟩
abbrev cX4_fewestToTurn : ByteArray := prog_6_method_2_code
def yX4_fewestToTurn : MethodName := ⟨RX4, "fewestToTurn", "(II)I"⟩
abbrev cX4_hangsOn : ByteArray := prog_6_method_3_code
def yX4_hangsOn : MethodName := ⟨RX4, "hangsOn", "(II)I"⟩
abbrev cX4_powerOf : ByteArray := prog_6_method_4_code
def yX4_powerOf : MethodName := ⟨RX4, "powerOf", "(IIII)I"⟩
abbrev cX4_waysToDecide : ByteArray := prog_6_method_5_code
def yX4_waysToDecide : MethodName := ⟨RX4, "waysToDecide", "(II)I"⟩
abbrev cX4_lessHigh : ByteArray := prog_6_method_6_code
def yX4_lessHigh : MethodName := ⟨RX4, "lessHigh", "(II)I"⟩
abbrev cX4_moreHigh : ByteArray := prog_6_method_7_code
def yX4_moreHigh : MethodName := ⟨RX4, "moreHigh", "(II)I"⟩
abbrev cX4_fallsAt : ByteArray := prog_6_method_8_code
def yX4_fallsAt : MethodName := ⟨RX4, "fallsAt", "(III)Z"⟩
abbrev cX4_playTurns : ByteArray := prog_6_method_9_code
def yX4_playTurns : MethodName := ⟨RX4, "playTurns", "(III)V"⟩
abbrev cX4_bestOf : ByteArray := prog_6_method_10_code
def yX4_bestOf : MethodName := ⟨RX4, "bestOf", "([III)I"⟩
abbrev cX4_leastMove : ByteArray := prog_6_method_11_code
def yX4_leastMove : MethodName := ⟨RX4, "leastMove", "([III)I"⟩
def RX5 : String := "ShadeVotes$Land"
def TX5 : u_T := fun k => match k with
  | 0 => ("ShadeVotes$Land", "numbers", "[I", true)
  | 1 => ("ShadeVotes$Land", "trees", "I", false)
  | _ => ("ShadeVotes$Land", "people", "I", false)
def tyX5 : Nat → FieldType := fun k => match k with
  | 0 => .array .int
  | 1 => .int
  | _ => .int
abbrev wsX50 : List Cond := u_ws RX5 TX5 3
theorem nmX5 : ∀ a, a < 3 → ∀ b, b < 3 → a ≠ b → (TX5 a).2.1 ≠ (TX5 b).2.1 := by decide +kernel
theorem tyX5_ok : ∀ k, k < 3 → parseFieldDescriptor (TX5 k).2.2.1 = some (tyX5 k) := by decide +kernel
abbrev cX5_init : ByteArray := prog_7_method_1_code
def yX5_init : MethodName := ⟨RX5, "<init>", "()V"⟩
abbrev cX5_owners : ByteArray := prog_7_method_2_code
def yX5_owners : MethodName := ⟨RX5, "owners", "(I)I"⟩
abbrev cX5_has : ByteArray := prog_7_method_3_code
def yX5_has : MethodName := ⟨RX5, "has", "(II)Z"⟩
abbrev cX5_fits : ByteArray := prog_7_method_4_code
def yX5_fits : MethodName := ⟨RX5, "fits", "(II)Z"⟩
abbrev cX5_read : ByteArray := prog_7_method_5_code
def yX5_read : MethodName := ⟨RX5, "read", "(II)I"⟩
abbrev cX5_write : ByteArray := prog_7_method_6_code
def yX5_write : MethodName := ⟨RX5, "write", "(III)V"⟩
abbrev cX5_addTree : ByteArray := prog_7_method_7_code
def yX5_addTree : MethodName := ⟨RX5, "addTree", "(II)I"⟩
abbrev cX5_addPerson : ByteArray := prog_7_method_8_code
def yX5_addPerson : MethodName := ⟨RX5, "addPerson", "(III)I"⟩
abbrev cX5_stands : ByteArray := prog_7_method_9_code
def yX5_stands : MethodName := ⟨RX5, "stands", "(I)Z"⟩
abbrev cX5_lies : ByteArray := prog_7_method_10_code
def yX5_lies : MethodName := ⟨RX5, "lies", "(IIII)Z"⟩
abbrev cX5_shades : ByteArray := prog_7_method_11_code
def yX5_shades : MethodName := ⟨RX5, "shades", "(III)Z"⟩
abbrev cX5_coveredBy : ByteArray := prog_7_method_12_code
def yX5_coveredBy : MethodName := ⟨RX5, "coveredBy", "(III)I"⟩
abbrev cX5_wishersOf : ByteArray := prog_7_method_13_code
def yX5_wishersOf : MethodName := ⟨RX5, "wishersOf", "(I)I"⟩
abbrev cX5_cellsOf : ByteArray := prog_7_method_14_code
def yX5_cellsOf : MethodName := ⟨RX5, "cellsOf", "(II)I"⟩
def RX6 : String := "ShadeVotes$Law"
def TX6 : u_T := fun k => match k with
  | 0 => ("ShadeVotes$Law", "code", "[I", true)
  | 1 => ("ShadeVotes$Law", "stack", "[I", true)
  | 2 => ("ShadeVotes$Law", "length", "I", false)
  | 3 => ("ShadeVotes$Law", "weight", "I", false)
  | 4 => ("ShadeVotes$Law", "high", "I", false)
  | 5 => ("ShadeVotes$Law", "month", "I", false)
  | 6 => ("ShadeVotes$Law", "sitting", "I", false)
  | 7 => ("ShadeVotes$Law", "tree", "I", false)
  | _ => ("ShadeVotes$Law", "voter", "I", false)
def tyX6 : Nat → FieldType := fun k => match k with
  | 0 => .array .int
  | 1 => .array .int
  | 2 => .int
  | 3 => .int
  | 4 => .int
  | 5 => .int
  | 6 => .int
  | 7 => .int
  | _ => .int
abbrev wsX60 : List Cond := u_ws RX6 TX6 9
theorem nmX6 : ∀ a, a < 9 → ∀ b, b < 9 → a ≠ b → (TX6 a).2.1 ≠ (TX6 b).2.1 := by decide +kernel
theorem tyX6_ok : ∀ k, k < 9 → parseFieldDescriptor (TX6 k).2.2.1 = some (tyX6 k) := by decide +kernel
abbrev cX6_init : ByteArray := prog_8_method_1_code
def yX6_init : MethodName := ⟨RX6, "<init>", "()V"⟩
abbrev cX6_become : ByteArray := prog_8_method_2_code
def yX6_become : MethodName := ⟨RX6, "become", "([II)V"⟩
abbrev cX6_nameTree : ByteArray := prog_8_method_3_code
def yX6_nameTree : MethodName := ⟨RX6, "nameTree", "(III)V"⟩
abbrev cX6_nameVoter : ByteArray := prog_8_method_4_code
def yX6_nameVoter : MethodName := ⟨RX6, "nameVoter", "(III)V"⟩
abbrev cX6_value : ByteArray := prog_8_method_5_code
def yX6_value : MethodName := ⟨RX6, "value", "()I"⟩
abbrev cX6_operand : ByteArray := prog_8_method_6_code
def yX6_operand : MethodName := ⟨RX6, "operand", "(I)I"⟩
abbrev cX6_ofTwo : ByteArray := prog_8_method_7_code
def yX6_ofTwo : MethodName := ⟨RX6, "ofTwo", "(III)I"⟩
def RX7 : String := "ShadeVotes$LawText"
def TX7 : u_T := fun k => match k with
  | 0 => ("ShadeVotes$LawText", "bytes", "[I", true)
  | 1 => ("ShadeVotes$LawText", "code", "[I", true)
  | 2 => ("ShadeVotes$LawText", "fed", "I", false)
  | 3 => ("ShadeVotes$LawText", "place", "I", false)
  | _ => ("ShadeVotes$LawText", "written", "I", false)
def tyX7 : Nat → FieldType := fun k => match k with
  | 0 => .array .int
  | 1 => .array .int
  | 2 => .int
  | 3 => .int
  | _ => .int
abbrev wsX70 : List Cond := u_ws RX7 TX7 5
theorem nmX7 : ∀ a, a < 5 → ∀ b, b < 5 → a ≠ b → (TX7 a).2.1 ≠ (TX7 b).2.1 := by decide +kernel
theorem tyX7_ok : ∀ k, k < 5 → parseFieldDescriptor (TX7 k).2.2.1 = some (tyX7 k) := by decide +kernel
abbrev cX7_init : ByteArray := prog_9_method_1_code
def yX7_init : MethodName := ⟨RX7, "<init>", "()V"⟩
abbrev cX7_take : ByteArray := prog_9_method_2_code
def yX7_take : MethodName := ⟨RX7, "take", "(I)I"⟩
abbrev cX7_clear : ByteArray := prog_9_method_3_code
def yX7_clear : MethodName := ⟨RX7, "clear", "()V"⟩
abbrev cX7_findFault : ByteArray := prog_9_method_4_code
def yX7_findFault : MethodName := ⟨RX7, "findFault", "()I"⟩
abbrev cX7_next : ByteArray := prog_9_method_5_code
def yX7_next : MethodName := ⟨RX7, "next", "()I"⟩
abbrev cX7_emit : ByteArray := prog_9_method_6_code
def yX7_emit : MethodName := ⟨RX7, "emit", "(I)V"⟩
abbrev cX7_readLine : ByteArray := prog_9_method_7_code
def yX7_readLine : MethodName := ⟨RX7, "readLine", "()Z"⟩
abbrev cX7_levelOf : ByteArray := prog_9_method_8_code
def yX7_levelOf : MethodName := ⟨RX7, "levelOf", "(I)I"⟩
abbrev cX7_readChain : ByteArray := prog_9_method_9_code
def yX7_readChain : MethodName := ⟨RX7, "readChain", "(II)Z"⟩
abbrev cX7_readOperand : ByteArray := prog_9_method_10_code
def yX7_readOperand : MethodName := ⟨RX7, "readOperand", "(I)Z"⟩
abbrev cX7_readNumber : ByteArray := prog_9_method_11_code
def yX7_readNumber : MethodName := ⟨RX7, "readNumber", "()Z"⟩
abbrev cX7_isName : ByteArray := prog_9_method_12_code
def yX7_isName : MethodName := ⟨RX7, "isName", "(I)Z"⟩
def RX8 : String := "ShadeVotes$Shelf"
def TX8 : u_T := fun k => match k with
  | 0 => ("ShadeVotes$Shelf", "elements", "[J", true)
  | 1 => ("ShadeVotes$Shelf", "sort", "I", false)
  | 2 => ("ShadeVotes$Shelf", "length", "I", false)
  | _ => ("ShadeVotes$Shelf", "voter", "I", false)
def tyX8 : Nat → FieldType := fun k => match k with
  | 0 => .array .long
  | 1 => .int
  | 2 => .int
  | _ => .int
abbrev wsX80 : List Cond := u_ws RX8 TX8 4
theorem nmX8 : ∀ a, a < 4 → ∀ b, b < 4 → a ≠ b → (TX8 a).2.1 ≠ (TX8 b).2.1 := by decide +kernel
theorem tyX8_ok : ∀ k, k < 4 → parseFieldDescriptor (TX8 k).2.2.1 = some (tyX8 k) := by decide +kernel
abbrev cX8_init : ByteArray := prog_10_method_1_code
def yX8_init : MethodName := ⟨RX8, "<init>", "()V"⟩
abbrev cX8_isRow : ByteArray := prog_10_method_2_code
def yX8_isRow : MethodName := ⟨RX8, "isRow", "()Z"⟩
abbrev cX8_isRowOf : ByteArray := prog_10_method_3_code
def yX8_isRowOf : MethodName := ⟨RX8, "isRowOf", "(I)Z"⟩
abbrev cX8_isEmpty : ByteArray := prog_10_method_4_code
def yX8_isEmpty : MethodName := ⟨RX8, "isEmpty", "()Z"⟩
abbrev cX8_size : ByteArray := prog_10_method_5_code
def yX8_size : MethodName := ⟨RX8, "size", "()I"⟩
abbrev cX8_holdVoter : ByteArray := prog_10_method_6_code
def yX8_holdVoter : MethodName := ⟨RX8, "holdVoter", "(I)V"⟩
abbrev cX8_holdRow : ByteArray := prog_10_method_7_code
def yX8_holdRow : MethodName := ⟨RX8, "holdRow", "(II)V"⟩
abbrev cX8_valueAt : ByteArray := prog_10_method_8_code
def yX8_valueAt : MethodName := ⟨RX8, "valueAt", "(I)J"⟩
abbrev cX8_write : ByteArray := prog_10_method_9_code
def yX8_write : MethodName := ⟨RX8, "write", "(IJ)V"⟩
abbrev cX8_narrowed : ByteArray := prog_10_method_10_code
def yX8_narrowed : MethodName := ⟨RX8, "narrowed", "(J)J"⟩
abbrev cX8_takeFrom : ByteArray := prog_10_method_11_code
def yX8_takeFrom : MethodName := ⟨RX8, "takeFrom", "(LShadeVotes$Shelf;III)Z"⟩
def RX9 : String := "ShadeVotes$Thought"
def TX9 : u_T := fun k => match k with
  | 0 => ("ShadeVotes$Thought", "land", "LShadeVotes$Land;", true)
  | 1 => ("ShadeVotes$Thought", "ballot", "LShadeVotes$Ballot;", true)
  | 2 => ("ShadeVotes$Thought", "fallingIn", "[I", true)
  | 3 => ("ShadeVotes$Thought", "bestSeat", "I", false)
  | _ => ("ShadeVotes$Thought", "monthsSaved", "I", false)
def tyX9 : Nat → FieldType := fun k => match k with
  | 0 => .object "ShadeVotes$Land"
  | 1 => .object "ShadeVotes$Ballot"
  | 2 => .array .int
  | 3 => .int
  | _ => .int
abbrev wsX90 : List Cond := u_ws RX9 TX9 5
theorem nmX9 : ∀ a, a < 5 → ∀ b, b < 5 → a ≠ b → (TX9 a).2.1 ≠ (TX9 b).2.1 := by decide +kernel
theorem tyX9_ok : ∀ k, k < 5 → parseFieldDescriptor (TX9 k).2.2.1 = some (tyX9 k) := by decide +kernel
abbrev cX9_init : ByteArray := prog_11_method_1_code
def yX9_init : MethodName := ⟨RX9, "<init>", "(LShadeVotes$Land;LShadeVotes$Ballot;)V"⟩
abbrev cX9_sittersIn : ByteArray := prog_11_method_2_code
def yX9_sittersIn : MethodName := ⟨RX9, "sittersIn", "(II)I"⟩
abbrev cX9_fallsIn : ByteArray := prog_11_method_3_code
def yX9_fallsIn : MethodName := ⟨RX9, "fallsIn", "(II)Z"⟩
abbrev cX9_falling : ByteArray := prog_11_method_4_code
def yX9_falling : MethodName := ⟨RX9, "falling", "(I)I"⟩
abbrev cX9_neverFalling : ByteArray := prog_11_method_5_code
def yX9_neverFalling : MethodName := ⟨RX9, "neverFalling", "()I"⟩
abbrev cX9_firstFall : ByteArray := prog_11_method_6_code
def yX9_firstFall : MethodName := ⟨RX9, "firstFall", "(II)I"⟩
abbrev cX9_standing : ByteArray := prog_11_method_7_code
def yX9_standing : MethodName := ⟨RX9, "standing", "()I"⟩
abbrev cX9_leftBehind : ByteArray := prog_11_method_8_code
def yX9_leftBehind : MethodName := ⟨RX9, "leftBehind", "(II)I"⟩
abbrev cX9_deepestMonth : ByteArray := prog_11_method_9_code
def yX9_deepestMonth : MethodName := ⟨RX9, "deepestMonth", "(I)I"⟩
abbrev cX9_shadesOver : ByteArray := prog_11_method_10_code
def yX9_shadesOver : MethodName := ⟨RX9, "shadesOver", "(II)I"⟩
abbrev cX9_shadiestOne : ByteArray := prog_11_method_11_code
def yX9_shadiestOne : MethodName := ⟨RX9, "shadiestOne", "(I)I"⟩
abbrev cX9_sameShade : ByteArray := prog_11_method_12_code
def yX9_sameShade : MethodName := ⟨RX9, "sameShade", "(III)Z"⟩
abbrev cX9_findSeat : ByteArray := prog_11_method_13_code
def yX9_findSeat : MethodName := ⟨RX9, "findSeat", "(II)V"⟩
abbrev cX9_monthsOver : ByteArray := prog_11_method_14_code
def yX9_monthsOver : MethodName := ⟨RX9, "monthsOver", "(II)I"⟩
abbrev cX9_drawYears : ByteArray := prog_11_method_15_code
def yX9_drawYears : MethodName := ⟨RX9, "drawYears", "(IIII)I"⟩
def RX10 : String := "ShadeVotes$Voters"
def TX10 : u_T := fun k => match k with
  | 0 => ("ShadeVotes$Voters", "kinds", "[I", true)
  | 1 => ("ShadeVotes$Voters", "traces", "[I", true)
  | 2 => ("ShadeVotes$Voters", "bodies", "I", false)
  | _ => ("ShadeVotes$Voters", "ran", "I", false)
def tyX10 : Nat → FieldType := fun k => match k with
  | 0 => .array .int
  | 1 => .array .int
  | 2 => .int
  | _ => .int
abbrev wsX100 : List Cond := u_ws RX10 TX10 4
theorem nmX10 : ∀ a, a < 4 → ∀ b, b < 4 → a ≠ b → (TX10 a).2.1 ≠ (TX10 b).2.1 := by decide +kernel
theorem tyX10_ok : ∀ k, k < 4 → parseFieldDescriptor (TX10 k).2.2.1 = some (tyX10 k) := by decide +kernel
abbrev cX10_init : ByteArray := prog_12_method_1_code
def yX10_init : MethodName := ⟨RX10, "<init>", "()V"⟩
abbrev cX10_add : ByteArray := prog_12_method_2_code
def yX10_add : MethodName := ⟨RX10, "add", "(I)I"⟩
abbrev cX10_kindOf : ByteArray := prog_12_method_3_code
def yX10_kindOf : MethodName := ⟨RX10, "kindOf", "(I)I"⟩
abbrev cX10_isUnder : ByteArray := prog_12_method_4_code
def yX10_isUnder : MethodName := ⟨RX10, "isUnder", "(II)Z"⟩
abbrev cX10_tracesKept : ByteArray := prog_12_method_5_code
def yX10_tracesKept : MethodName := ⟨RX10, "tracesKept", "()I"⟩
abbrev cX10_traceAt : ByteArray := prog_12_method_6_code
def yX10_traceAt : MethodName := ⟨RX10, "traceAt", "(I)I"⟩
abbrev cX10_start : ByteArray := prog_12_method_7_code
def yX10_start : MethodName := ⟨RX10, "start", "(III)I"⟩
abbrev cX10_ownerOf : ByteArray := prog_12_method_8_code
def yX10_ownerOf : MethodName := ⟨RX10, "ownerOf", "(II)I"⟩
abbrev cX10_perform : ByteArray := prog_12_method_9_code
def yX10_perform : MethodName := ⟨RX10, "perform", "(IIIII)I"⟩
abbrev cX10_does : ByteArray := prog_12_method_10_code
def yX10_does : MethodName := ⟨RX10, "does", "(IIII)I"⟩
abbrev cX10_run : ByteArray := prog_12_method_11_code
def yX10_run : MethodName := ⟨RX10, "run", "(IIIII)I"⟩
def RX11 : String := "ShadeVotes"
def TX11 : u_T := fun k => match k with
  | 0 => ("ShadeVotes", "land", "LShadeVotes$Land;", true)
  | 1 => ("ShadeVotes", "tape", "LShadeVotes$LawText;", true)
  | 2 => ("ShadeVotes", "law", "LShadeVotes$Law;", true)
  | 3 => ("ShadeVotes", "ballot", "LShadeVotes$Ballot;", true)
  | 4 => ("ShadeVotes", "thought", "LShadeVotes$Thought;", true)
  | 5 => ("ShadeVotes", "overSets", "[I", true)
  | 6 => ("ShadeVotes", "alsoOverSets", "[I", true)
  | 7 => ("ShadeVotes", "games", "LShadeVotes$Games;", true)
  | 8 => ("ShadeVotes", "books", "LShadeVotes$Books;", true)
  | 9 => ("ShadeVotes", "deeds", "LShadeVotes$Deeds;", true)
  | 10 => ("ShadeVotes", "changes", "LShadeVotes$Changes;", true)
  | 11 => ("ShadeVotes", "voters", "LShadeVotes$Voters;", true)
  | _ => ("ShadeVotes", "shelves", "[LShadeVotes$Shelf;", true)
def tyX11 : Nat → FieldType := fun k => match k with
  | 0 => .object "ShadeVotes$Land"
  | 1 => .object "ShadeVotes$LawText"
  | 2 => .object "ShadeVotes$Law"
  | 3 => .object "ShadeVotes$Ballot"
  | 4 => .object "ShadeVotes$Thought"
  | 5 => .array .int
  | 6 => .array .int
  | 7 => .object "ShadeVotes$Games"
  | 8 => .object "ShadeVotes$Books"
  | 9 => .object "ShadeVotes$Deeds"
  | 10 => .object "ShadeVotes$Changes"
  | 11 => .object "ShadeVotes$Voters"
  | _ => .array (.object "ShadeVotes$Shelf")
abbrev wsX110 : List Cond := u_ws RX11 TX11 13
theorem nmX11 : ∀ a, a < 13 → ∀ b, b < 13 → a ≠ b → (TX11 a).2.1 ≠ (TX11 b).2.1 := by decide +kernel
theorem tyX11_ok : ∀ k, k < 13 → parseFieldDescriptor (TX11 k).2.2.1 = some (tyX11 k) := by decide +kernel
abbrev cX11_init : ByteArray := prog_1_method_1_code
def yX11_init : MethodName := ⟨RX11, "<init>", "()V"⟩
abbrev cX11_tree : ByteArray := prog_1_method_2_code
def yX11_tree : MethodName := ⟨RX11, "tree", "(II)I"⟩
abbrev cX11_person : ByteArray := prog_1_method_3_code
def yX11_person : MethodName := ⟨RX11, "person", "(II)I"⟩
abbrev cX11_people : ByteArray := prog_1_method_4_code
def yX11_people : MethodName := ⟨RX11, "people", "(III)I"⟩
abbrev cX11_comesFrom : ByteArray := prog_1_method_5_code
def yX11_comesFrom : MethodName := ⟨RX11, "comesFrom", "(LShadeVotes$Shelf;J)Z"⟩
abbrev cX11_mend : ByteArray := prog_1_method_6_code
def yX11_mend : MethodName := ⟨RX11, "mend", "(III)I"⟩
abbrev cX11_of : ByteArray := prog_1_method_7_code
def yX11_of : MethodName := ⟨RX11, "of", "(II)I"⟩
abbrev cX11_feed : ByteArray := prog_1_method_8_code
def yX11_feed : MethodName := ⟨RX11, "feed", "(I)I"⟩
abbrev cX11_law : ByteArray := prog_1_method_9_code
def yX11_law : MethodName := ⟨RX11, "law", "()I"⟩
abbrev cX11_shade : ByteArray := prog_1_method_10_code
def yX11_shade : MethodName := ⟨RX11, "shade", "(I)I"⟩
abbrev cX11_votes : ByteArray := prog_1_method_11_code
def yX11_votes : MethodName := ⟨RX11, "votes", "(II)I"⟩
abbrev cX11_falls : ByteArray := prog_1_method_12_code
def yX11_falls : MethodName := ⟨RX11, "falls", "(I)I"⟩
abbrev cX11_first : ByteArray := prog_1_method_13_code
def yX11_first : MethodName := ⟨RX11, "first", "(I)I"⟩
abbrev cX11_left : ByteArray := prog_1_method_14_code
def yX11_left : MethodName := ⟨RX11, "left", "(II)I"⟩
abbrev cX11_turn : ByteArray := prog_1_method_15_code
def yX11_turn : MethodName := ⟨RX11, "turn", "(II)I"⟩
abbrev cX11_chair : ByteArray := prog_1_method_16_code
def yX11_chair : MethodName := ⟨RX11, "chair", "(I)I"⟩
abbrev cX11_power : ByteArray := prog_1_method_17_code
def yX11_power : MethodName := ⟨RX11, "power", "(III)J"⟩
abbrev cX11_lop : ByteArray := prog_1_method_18_code
def yX11_lop : MethodName := ⟨RX11, "lop", "(II)I"⟩
abbrev cX11_byTurns : ByteArray := prog_1_method_19_code
def yX11_byTurns : MethodName := ⟨RX11, "byTurns", "(II)I"⟩
abbrev cX11_deepest : ByteArray := prog_1_method_20_code
def yX11_deepest : MethodName := ⟨RX11, "deepest", "(II)I"⟩
abbrev cX11_shadiest : ByteArray := prog_1_method_21_code
def yX11_shadiest : MethodName := ⟨RX11, "shadiest", "(II)I"⟩
abbrev cX11_judge : ByteArray := prog_1_method_22_code
def yX11_judge : MethodName := ⟨RX11, "judge", "(II)I"⟩
abbrev cX11_wishes : ByteArray := prog_1_method_23_code
def yX11_wishes : MethodName := ⟨RX11, "wishes", "(III)I"⟩
abbrev cX11_save : ByteArray := prog_1_method_24_code
def yX11_save : MethodName := ⟨RX11, "save", "(II)I"⟩
abbrev cX11_alike : ByteArray := prog_1_method_25_code
def yX11_alike : MethodName := ⟨RX11, "alike", "(II)I"⟩
abbrev cX11_drawn : ByteArray := prog_1_method_26_code
def yX11_drawn : MethodName := ⟨RX11, "drawn", "(III)I"⟩
abbrev cX11_noon : ByteArray := prog_1_method_27_code
def yX11_noon : MethodName := ⟨RX11, "noon", "()I"⟩
abbrev cX11_sits : ByteArray := prog_1_method_28_code
def yX11_sits : MethodName := ⟨RX11, "sits", "(II)I"⟩
abbrev cX11_lopped : ByteArray := prog_1_method_29_code
def yX11_lopped : MethodName := ⟨RX11, "lopped", "(I)I"⟩
abbrev cX11_led : ByteArray := prog_1_method_30_code
def yX11_led : MethodName := ⟨RX11, "led", "(I)I"⟩
abbrev cX11_image : ByteArray := prog_1_method_31_code
def yX11_image : MethodName := ⟨RX11, "image", "()I"⟩
abbrev cX11_back : ByteArray := prog_1_method_32_code
def yX11_back : MethodName := ⟨RX11, "back", "()I"⟩
abbrev cX11_undo : ByteArray := prog_1_method_33_code
def yX11_undo : MethodName := ⟨RX11, "undo", "()I"⟩
abbrev cX11_redo : ByteArray := prog_1_method_34_code
def yX11_redo : MethodName := ⟨RX11, "redo", "()I"⟩
abbrev cX11_body : ByteArray := prog_1_method_35_code
def yX11_body : MethodName := ⟨RX11, "body", "(I)I"⟩
abbrev cX11_act : ByteArray := prog_1_method_36_code
def yX11_act : MethodName := ⟨RX11, "act", "(III)I"⟩
abbrev cX11_trace : ByteArray := prog_1_method_37_code
def yX11_trace : MethodName := ⟨RX11, "trace", "(I)I"⟩
abbrev cX11_keep : ByteArray := prog_1_method_38_code
def yX11_keep : MethodName := ⟨RX11, "keep", "(II)I"⟩
abbrev cX11_row : ByteArray := prog_1_method_39_code
def yX11_row : MethodName := ⟨RX11, "row", "(III)I"⟩
abbrev cX11_put : ByteArray := prog_1_method_40_code
def yX11_put : MethodName := ⟨RX11, "put", "(IIJ)I"⟩
abbrev cX11_element : ByteArray := prog_1_method_41_code
def yX11_element : MethodName := ⟨RX11, "element", "(II)J"⟩
abbrev cX11_shift : ByteArray := prog_1_method_42_code
def yX11_shift : MethodName := ⟨RX11, "shift", "(IIIII)I"⟩
abbrev cX11_taken : ByteArray := prog_1_method_43_code
def yX11_taken : MethodName := ⟨RX11, "taken", "(II)I"⟩
abbrev cX11_count : ByteArray := prog_1_method_44_code
def yX11_count : MethodName := ⟨RX11, "count", "(I)I"⟩
abbrev cX11_isTree : ByteArray := prog_1_method_45_code
def yX11_isTree : MethodName := ⟨RX11, "isTree", "(I)Z"⟩
abbrev cX11_isMonth : ByteArray := prog_1_method_46_code
def yX11_isMonth : MethodName := ⟨RX11, "isMonth", "(I)Z"⟩
abbrev cX11_isTreeMonth : ByteArray := prog_1_method_47_code
def yX11_isTreeMonth : MethodName := ⟨RX11, "isTreeMonth", "(I)Z"⟩
abbrev cX11_shelfAt : ByteArray := prog_1_method_48_code
def yX11_shelfAt : MethodName := ⟨RX11, "shelfAt", "(I)LShadeVotes$Shelf;"⟩
abbrev cX11_refusalOf : ByteArray := prog_1_method_49_code
def yX11_refusalOf : MethodName := ⟨RX11, "refusalOf", "(LShadeVotes$Shelf;)I"⟩
abbrev cX11_within : ByteArray := prog_1_method_50_code
def yX11_within : MethodName := ⟨RX11, "within", "(III)Z"⟩
abbrev cX11_holds : ByteArray := prog_1_method_51_code
def yX11_holds : MethodName := ⟨RX11, "holds", "(II)Z"⟩
abbrev cX11_at : ByteArray := prog_1_method_52_code
def yX11_at : MethodName := ⟨RX11, "at", "([II)I"⟩
abbrev cX11_lay : ByteArray := prog_1_method_53_code
def yX11_lay : MethodName := ⟨RX11, "lay", "([III)V"⟩
def RX12 : String := "ShadeVotesModel"
def TX12 : u_T := fun k => match k with
  | 0 => ("ShadeVotesModel", "may", "[I", true)
  | 1 => ("ShadeVotesModel", "changeAt", "[I", true)
  | 2 => ("ShadeVotesModel", "changeWas", "[I", true)
  | 3 => ("ShadeVotesModel", "changeIs", "[I", true)
  | 4 => ("ShadeVotesModel", "keptMany", "I", false)
  | 5 => ("ShadeVotesModel", "done", "I", false)
  | 6 => ("ShadeVotesModel", "trees", "I", false)
  | 7 => ("ShadeVotesModel", "people", "I", false)
  | 8 => ("ShadeVotesModel", "standing", "I", false)
  | 9 => ("ShadeVotesModel", "tape", "[I", true)
  | 10 => ("ShadeVotesModel", "tapeMany", "I", false)
  | 11 => ("ShadeVotesModel", "text", "[I", true)
  | 12 => ("ShadeVotesModel", "textMany", "I", false)
  | 13 => ("ShadeVotesModel", "base", "I", false)
  | 14 => ("ShadeVotesModel", "at", "I", false)
  | 15 => ("ShadeVotesModel", "ends", "I", false)
  | 16 => ("ShadeVotesModel", "fault", "I", false)
  | 17 => ("ShadeVotesModel", "opened", "I", false)
  | 18 => ("ShadeVotesModel", "names", "[I", true)
  | 19 => ("ShadeVotesModel", "month", "I", false)
  | 20 => ("ShadeVotesModel", "ledNow", "[I", true)
  | 21 => ("ShadeVotesModel", "isKept", "Z", false)
  | 22 => ("ShadeVotesModel", "imageTrees", "I", false)
  | 23 => ("ShadeVotesModel", "imagePeople", "I", false)
  | 24 => ("ShadeVotesModel", "imageStanding", "I", false)
  | 25 => ("ShadeVotesModel", "imageMonth", "I", false)
  | 26 => ("ShadeVotesModel", "imageHigh", "[I", true)
  | 27 => ("ShadeVotesModel", "imageSeat", "[I", true)
  | 28 => ("ShadeVotesModel", "imageLed", "[I", true)
  | 29 => ("ShadeVotesModel", "bodies", "I", false)
  | 30 => ("ShadeVotesModel", "bodyKind", "[I", true)
  | 31 => ("ShadeVotesModel", "trace", "[I", true)
  | 32 => ("ShadeVotesModel", "ran", "I", false)
  | 33 => ("ShadeVotesModel", "ownKind", "I", false)
  | 34 => ("ShadeVotesModel", "ownNumber", "I", false)
  | 35 => ("ShadeVotesModel", "shelf", "[I", true)
  | 36 => ("ShadeVotesModel", "many", "[I", true)
  | 37 => ("ShadeVotesModel", "items", "[J", true)
  | _ => ("ShadeVotesModel", "carried", "[J", true)
def tyX12 : Nat → FieldType := fun k => match k with
  | 0 => .array .int
  | 1 => .array .int
  | 2 => .array .int
  | 3 => .array .int
  | 4 => .int
  | 5 => .int
  | 6 => .int
  | 7 => .int
  | 8 => .int
  | 9 => .array .int
  | 10 => .int
  | 11 => .array .int
  | 12 => .int
  | 13 => .int
  | 14 => .int
  | 15 => .int
  | 16 => .int
  | 17 => .int
  | 18 => .array .int
  | 19 => .int
  | 20 => .array .int
  | 21 => .boolean
  | 22 => .int
  | 23 => .int
  | 24 => .int
  | 25 => .int
  | 26 => .array .int
  | 27 => .array .int
  | 28 => .array .int
  | 29 => .int
  | 30 => .array .int
  | 31 => .array .int
  | 32 => .int
  | 33 => .int
  | 34 => .int
  | 35 => .array .int
  | 36 => .array .int
  | 37 => .array .long
  | _ => .array .long
abbrev wsX120 : List Cond := u_ws RX12 TX12 39
theorem nmX12 : ∀ a, a < 39 → ∀ b, b < 39 → a ≠ b → (TX12 a).2.1 ≠ (TX12 b).2.1 := by decide +kernel
theorem tyX12_ok : ∀ k, k < 39 → parseFieldDescriptor (TX12 k).2.2.1 = some (tyX12 k) := by decide +kernel
abbrev cX12_within : ByteArray := prog_14_method_1_code
def yX12_within : MethodName := ⟨RX12, "within", "(JJJ)Z"⟩
abbrev cX12_isIn : ByteArray := prog_14_method_2_code
def yX12_isIn : MethodName := ⟨RX12, "isIn", "(II)Z"⟩
abbrev cX12_bitsOf : ByteArray := prog_14_method_3_code
def yX12_bitsOf : MethodName := ⟨RX12, "bitsOf", "(I)I"⟩
abbrev cX12_init : ByteArray := prog_14_method_4_code
def yX12_init : MethodName := ⟨RX12, "<init>", "()V"⟩
abbrev cX12_becomes : ByteArray := prog_14_method_5_code
def yX12_becomes : MethodName := ⟨RX12, "becomes", "(II)I"⟩
abbrev cX12_undo : ByteArray := prog_14_method_6_code
def yX12_undo : MethodName := ⟨RX12, "undo", "()I"⟩
abbrev cX12_redo : ByteArray := prog_14_method_7_code
def yX12_redo : MethodName := ⟨RX12, "redo", "()I"⟩
abbrev cX12_isTree : ByteArray := prog_14_method_8_code
def yX12_isTree : MethodName := ⟨RX12, "isTree", "(J)Z"⟩
abbrev cX12_isOne : ByteArray := prog_14_method_9_code
def yX12_isOne : MethodName := ⟨RX12, "isOne", "(J)Z"⟩
abbrev cX12_isCell : ByteArray := prog_14_method_10_code
def yX12_isCell : MethodName := ⟨RX12, "isCell", "(J)Z"⟩
abbrev cX12_isMonth : ByteArray := prog_14_method_11_code
def yX12_isMonth : MethodName := ⟨RX12, "isMonth", "(J)Z"⟩
abbrev cX12_isTm : ByteArray := prog_14_method_12_code
def yX12_isTm : MethodName := ⟨RX12, "isTm", "(I)Z"⟩
abbrev cX12_tree : ByteArray := prog_14_method_13_code
def yX12_tree : MethodName := ⟨RX12, "tree", "(II)I"⟩
abbrev cX12_adds : ByteArray := prog_14_method_14_code
def yX12_adds : MethodName := ⟨RX12, "adds", "(III)V"⟩
abbrev cX12_person : ByteArray := prog_14_method_15_code
def yX12_person : MethodName := ⟨RX12, "person", "(II)I"⟩
abbrev cX12_people : ByteArray := prog_14_method_16_code
def yX12_people : MethodName := ⟨RX12, "people", "(III)I"⟩
abbrev cX12_placeOf : ByteArray := prog_14_method_17_code
def yX12_placeOf : MethodName := ⟨RX12, "placeOf", "(II)I"⟩
abbrev cX12_mayBecome : ByteArray := prog_14_method_18_code
def yX12_mayBecome : MethodName := ⟨RX12, "mayBecome", "(II)Z"⟩
abbrev cX12_mend : ByteArray := prog_14_method_19_code
def yX12_mend : MethodName := ⟨RX12, "mend", "(III)I"⟩
abbrev cX12_of : ByteArray := prog_14_method_20_code
def yX12_of : MethodName := ⟨RX12, "of", "(II)I"⟩
abbrev cX12_feed : ByteArray := prog_14_method_21_code
def yX12_feed : MethodName := ⟨RX12, "feed", "(I)I"⟩
abbrev cX12_byteAt : ByteArray := prog_14_method_22_code
def yX12_byteAt : MethodName := ⟨RX12, "byteAt", "()I"⟩
abbrev cX12_wrong : ByteArray := prog_14_method_23_code
def yX12_wrong : MethodName := ⟨RX12, "wrong", "()I"⟩
abbrev cX12_takes : ByteArray := prog_14_method_24_code
def yX12_takes : MethodName := ⟨RX12, "takes", "(I)Z"⟩
abbrev cX12_either : ByteArray := prog_14_method_25_code
def yX12_either : MethodName := ⟨RX12, "either", "()I"⟩
abbrev cX12_both : ByteArray := prog_14_method_26_code
def yX12_both : MethodName := ⟨RX12, "both", "()I"⟩
abbrev cX12_compared : ByteArray := prog_14_method_27_code
def yX12_compared : MethodName := ⟨RX12, "compared", "()I"⟩
abbrev cX12_sums : ByteArray := prog_14_method_28_code
def yX12_sums : MethodName := ⟨RX12, "sums", "()I"⟩
abbrev cX12_product : ByteArray := prog_14_method_29_code
def yX12_product : MethodName := ⟨RX12, "product", "()I"⟩
abbrev cX12_nameOf : ByteArray := prog_14_method_30_code
def yX12_nameOf : MethodName := ⟨RX12, "nameOf", "(I)I"⟩
abbrev cX12_one : ByteArray := prog_14_method_31_code
def yX12_one : MethodName := ⟨RX12, "one", "()I"⟩
abbrev cX12_workOut : ByteArray := prog_14_method_32_code
def yX12_workOut : MethodName := ⟨RX12, "workOut", "(II)I"⟩
abbrev cX12_law : ByteArray := prog_14_method_33_code
def yX12_law : MethodName := ⟨RX12, "law", "()I"⟩
abbrev cX12_rowsOf : ByteArray := prog_14_method_34_code
def yX12_rowsOf : MethodName := ⟨RX12, "rowsOf", "(II)I"⟩
abbrev cX12_isShaded : ByteArray := prog_14_method_35_code
def yX12_isShaded : MethodName := ⟨RX12, "isShaded", "(III)Z"⟩
abbrev cX12_sittersIn : ByteArray := prog_14_method_36_code
def yX12_sittersIn : MethodName := ⟨RX12, "sittersIn", "(II)I"⟩
abbrev cX12_sittersNow : ByteArray := prog_14_method_37_code
def yX12_sittersNow : MethodName := ⟨RX12, "sittersNow", "(II)I"⟩
abbrev cX12_countsOf : ByteArray := prog_14_method_38_code
def yX12_countsOf : MethodName := ⟨RX12, "countsOf", "(IIII)I"⟩
abbrev cX12_wishers : ByteArray := prog_14_method_39_code
def yX12_wishers : MethodName := ⟨RX12, "wishers", "(I)I"⟩
abbrev cX12_sumOf : ByteArray := prog_14_method_40_code
def yX12_sumOf : MethodName := ⟨RX12, "sumOf", "(IIII)I"⟩
abbrev cX12_doesFall : ByteArray := prog_14_method_41_code
def yX12_doesFall : MethodName := ⟨RX12, "doesFall", "(IIII)Z"⟩
abbrev cX12_fallsNow : ByteArray := prog_14_method_42_code
def yX12_fallsNow : MethodName := ⟨RX12, "fallsNow", "(II)Z"⟩
abbrev cX12_shade : ByteArray := prog_14_method_43_code
def yX12_shade : MethodName := ⟨RX12, "shade", "(I)I"⟩
abbrev cX12_isShadedNow : ByteArray := prog_14_method_44_code
def yX12_isShadedNow : MethodName := ⟨RX12, "isShadedNow", "(III)Z"⟩
abbrev cX12_votes : ByteArray := prog_14_method_45_code
def yX12_votes : MethodName := ⟨RX12, "votes", "(II)I"⟩
abbrev cX12_fallIn : ByteArray := prog_14_method_46_code
def yX12_fallIn : MethodName := ⟨RX12, "fallIn", "(I)I"⟩
abbrev cX12_falls : ByteArray := prog_14_method_47_code
def yX12_falls : MethodName := ⟨RX12, "falls", "(I)I"⟩
abbrev cX12_first : ByteArray := prog_14_method_48_code
def yX12_first : MethodName := ⟨RX12, "first", "(I)I"⟩
abbrev cX12_left : ByteArray := prog_14_method_49_code
def yX12_left : MethodName := ⟨RX12, "left", "(II)I"⟩
abbrev cX12_everybody : ByteArray := prog_14_method_50_code
def yX12_everybody : MethodName := ⟨RX12, "everybody", "()I"⟩
abbrev cX12_turn : ByteArray := prog_14_method_51_code
def yX12_turn : MethodName := ⟨RX12, "turn", "(II)I"⟩
abbrev cX12_chair : ByteArray := prog_14_method_52_code
def yX12_chair : MethodName := ⟨RX12, "chair", "(I)I"⟩
abbrev cX12_common : ByteArray := prog_14_method_53_code
def yX12_common : MethodName := ⟨RX12, "common", "(JJ)J"⟩
abbrev cX12_power : ByteArray := prog_14_method_54_code
def yX12_power : MethodName := ⟨RX12, "power", "(III)J"⟩
abbrev cX12_lop : ByteArray := prog_14_method_55_code
def yX12_lop : MethodName := ⟨RX12, "lop", "(II)I"⟩
abbrev cX12_fallsFrom : ByteArray := prog_14_method_56_code
def yX12_fallsFrom : MethodName := ⟨RX12, "fallsFrom", "(IIIII)Z"⟩
abbrev cX12_byTurns : ByteArray := prog_14_method_57_code
def yX12_byTurns : MethodName := ⟨RX12, "byTurns", "(II)I"⟩
abbrev cX12_deepest : ByteArray := prog_14_method_58_code
def yX12_deepest : MethodName := ⟨RX12, "deepest", "(II)I"⟩
abbrev cX12_shadiest : ByteArray := prog_14_method_59_code
def yX12_shadiest : MethodName := ⟨RX12, "shadiest", "(II)I"⟩
abbrev cX12_bytesIs : ByteArray := prog_14_method_60_code
def yX12_bytesIs : MethodName := ⟨RX12, "bytesIs", "(I)I"⟩
abbrev cX12_firstFalse : ByteArray := prog_14_method_61_code
def yX12_firstFalse : MethodName := ⟨RX12, "firstFalse", "(III)I"⟩
abbrev cX12_judge : ByteArray := prog_14_method_62_code
def yX12_judge : MethodName := ⟨RX12, "judge", "(II)I"⟩
abbrev cX12_wishes : ByteArray := prog_14_method_63_code
def yX12_wishes : MethodName := ⟨RX12, "wishes", "(III)I"⟩
abbrev cX12_standsIn : ByteArray := prog_14_method_64_code
def yX12_standsIn : MethodName := ⟨RX12, "standsIn", "(I)I"⟩
abbrev cX12_save : ByteArray := prog_14_method_65_code
def yX12_save : MethodName := ⟨RX12, "save", "(II)I"⟩
abbrev cX12_alike : ByteArray := prog_14_method_66_code
def yX12_alike : MethodName := ⟨RX12, "alike", "(II)I"⟩
abbrev cX12_drawn : ByteArray := prog_14_method_67_code
def yX12_drawn : MethodName := ⟨RX12, "drawn", "(III)I"⟩
abbrev cX12_noon : ByteArray := prog_14_method_68_code
def yX12_noon : MethodName := ⟨RX12, "noon", "()I"⟩
abbrev cX12_sits : ByteArray := prog_14_method_69_code
def yX12_sits : MethodName := ⟨RX12, "sits", "(II)I"⟩
abbrev cX12_lopped : ByteArray := prog_14_method_70_code
def yX12_lopped : MethodName := ⟨RX12, "lopped", "(I)I"⟩
abbrev cX12_led : ByteArray := prog_14_method_71_code
def yX12_led : MethodName := ⟨RX12, "led", "(I)I"⟩
abbrev cX12_image : ByteArray := prog_14_method_72_code
def yX12_image : MethodName := ⟨RX12, "image", "()I"⟩
abbrev cX12_back : ByteArray := prog_14_method_73_code
def yX12_back : MethodName := ⟨RX12, "back", "()I"⟩
abbrev cX12_isBody : ByteArray := prog_14_method_74_code
def yX12_isBody : MethodName := ⟨RX12, "isBody", "(I)Z"⟩
abbrev cX12_kindOf : ByteArray := prog_14_method_75_code
def yX12_kindOf : MethodName := ⟨RX12, "kindOf", "(I)I"⟩
abbrev cX12_body : ByteArray := prog_14_method_76_code
def yX12_body : MethodName := ⟨RX12, "body", "(I)I"⟩
abbrev cX12_above : ByteArray := prog_14_method_77_code
def yX12_above : MethodName := ⟨RX12, "above", "(I)I"⟩
abbrev cX12_runs : ByteArray := prog_14_method_78_code
def yX12_runs : MethodName := ⟨RX12, "runs", "(I)V"⟩
abbrev cX12_sitsAs : ByteArray := prog_14_method_79_code
def yX12_sitsAs : MethodName := ⟨RX12, "sitsAs", "(II)I"⟩
abbrev cX12_votesAs : ByteArray := prog_14_method_80_code
def yX12_votesAs : MethodName := ⟨RX12, "votesAs", "(II)I"⟩
abbrev cX12_movesAs : ByteArray := prog_14_method_81_code
def yX12_movesAs : MethodName := ⟨RX12, "movesAs", "(II)I"⟩
abbrev cX12_tellsAs : ByteArray := prog_14_method_82_code
def yX12_tellsAs : MethodName := ⟨RX12, "tellsAs", "(II)I"⟩
abbrev cX12_act : ByteArray := prog_14_method_83_code
def yX12_act : MethodName := ⟨RX12, "act", "(III)I"⟩
abbrev cX12_trace : ByteArray := prog_14_method_84_code
def yX12_trace : MethodName := ⟨RX12, "trace", "(I)I"⟩
abbrev cX12_isShelf : ByteArray := prog_14_method_85_code
def yX12_isShelf : MethodName := ⟨RX12, "isShelf", "(I)Z"⟩
abbrev cX12_keep : ByteArray := prog_14_method_86_code
def yX12_keep : MethodName := ⟨RX12, "keep", "(II)I"⟩
abbrev cX12_row : ByteArray := prog_14_method_87_code
def yX12_row : MethodName := ⟨RX12, "row", "(III)I"⟩
abbrev cX12_refusal : ByteArray := prog_14_method_88_code
def yX12_refusal : MethodName := ⟨RX12, "refusal", "(II)I"⟩
abbrev cX12_asSort : ByteArray := prog_14_method_89_code
def yX12_asSort : MethodName := ⟨RX12, "asSort", "(IJ)J"⟩
abbrev cX12_put : ByteArray := prog_14_method_90_code
def yX12_put : MethodName := ⟨RX12, "put", "(IIJ)I"⟩
abbrev cX12_element : ByteArray := prog_14_method_91_code
def yX12_element : MethodName := ⟨RX12, "element", "(II)J"⟩
abbrev cX12_shift : ByteArray := prog_14_method_92_code
def yX12_shift : MethodName := ⟨RX12, "shift", "(IIIII)I"⟩
abbrev cX12_taken : ByteArray := prog_14_method_93_code
def yX12_taken : MethodName := ⟨RX12, "taken", "(II)I"⟩
abbrev cX12_count : ByteArray := prog_14_method_94_code
def yX12_count : MethodName := ⟨RX12, "count", "(I)I"⟩
def RJ6 : String := "java/lang/Integer"
def TJ6 : u_T := fun k => match k with
  | _ => ("", "", "", false)
def tyJ6 : Nat → FieldType := fun k => match k with
  | _ => .int
abbrev wsJ60 : List Cond := u_ws RJ6 TJ6 0
theorem nmJ6 : ∀ a, a < 0 → ∀ b, b < 0 → a ≠ b → (TJ6 a).2.1 ≠ (TJ6 b).2.1 := by decide +kernel
theorem tyJ6_ok : ∀ k, k < 0 → parseFieldDescriptor (TJ6 k).2.2.1 = some (tyJ6 k) := by decide +kernel
abbrev cJ6_bitCount_0f7a4 : ByteArray := prog_15_method_49_code
def yJ6_bitCount_0f7a4 : MethodName := ⟨RJ6, "bitCount", "(I)I"⟩
def RJ9 : String := "java/lang/Math"
def TJ9 : u_T := fun k => match k with
  | _ => ("", "", "", false)
def tyJ9 : Nat → FieldType := fun k => match k with
  | _ => .int
abbrev wsJ90 : List Cond := u_ws RJ9 TJ9 0
theorem nmJ9 : ∀ a, a < 0 → ∀ b, b < 0 → a ≠ b → (TJ9 a).2.1 ≠ (TJ9 b).2.1 := by decide +kernel
theorem tyJ9_ok : ∀ k, k < 0 → parseFieldDescriptor (TJ9 k).2.2.1 = some (tyJ9 k) := by decide +kernel
abbrev cJ9_abs_0f7a4 : ByteArray := prog_16_method_59_code
def yJ9_abs_0f7a4 : MethodName := ⟨RJ9, "abs", "(I)I"⟩
abbrev cJ9_max_7cf53 : ByteArray := prog_16_method_65_code
def yJ9_max_7cf53 : MethodName := ⟨RJ9, "max", "(II)I"⟩
abbrev cJ9_min_7cf53 : ByteArray := prog_16_method_69_code
def yJ9_min_7cf53 : MethodName := ⟨RJ9, "min", "(II)I"⟩
def RJ10 : String := "java/lang/System"
def TJ10 : u_T := fun k => match k with
  | _ => ("", "", "", false)
def tyJ10 : Nat → FieldType := fun k => match k with
  | _ => .int
abbrev wsJ100 : List Cond := u_ws RJ10 TJ10 0
theorem nmJ10 : ∀ a, a < 0 → ∀ b, b < 0 → a ≠ b → (TJ10 a).2.1 ≠ (TJ10 b).2.1 := by decide +kernel
theorem tyJ10_ok : ∀ k, k < 0 → parseFieldDescriptor (TJ10 k).2.2.1 = some (tyJ10 k) := by decide +kernel
def RL : String := "ShadeVotesLaw"
abbrev cL_law : ByteArray := code
def yL_law : MethodName := ⟨RL, "law", "([I)Z"⟩
abbrev vwCl : List vw_C := [(RX0, TX0, 7), (RX1, TX1, 7), (RX2, TX2, 8), (RX3, TX3, 9), (RX4, TX4, 6), (RX5, TX5, 3), (RX6, TX6, 9), (RX7, TX7, 5), (RX8, TX8, 4), (RX9, TX9, 5), (RX10, TX10, 4), (RX11, TX11, 13), (RX12, TX12, 39)]
