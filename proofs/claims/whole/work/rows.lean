section
-- ===== PART A: goes FIRST, ahead of the names: the tables' words, and 'selects' of the private methods out of them =====
/-- a private method of a class that the tables say can be made, by its rows of tables_1 -/
def lw_okq (q : MethodName × Nat) : Prop := (q.1.cls ≠ "java/lang/invoke/MethodHandle" ∧ q.1.cls ≠ "java/lang/invoke/VarHandle") ∧ Cond.instantiable q.1.cls q.2 ∈ tables_1 ∧ Cond.privateMethod q.1 ∈ tables_1 ∧ Cond.instanceMethod q.1 ∈ tables_1
theorem lw_p0 : lw_okq (⟨"MissedSale", "comesFrom", "(LMissedSale$Shelf;I)Z"⟩, 10) := ⟨⟨by decide +kernel, by decide +kernel⟩, List.mem_of_getElem? (i := 22) (by decide +kernel), List.mem_of_getElem? (i := 361) (by decide +kernel), List.mem_of_getElem? (i := 362) (by decide +kernel)⟩
theorem lw_p1 : lw_okq (⟨"MissedSale", "mayBe", "(II)Z"⟩, 10) := ⟨⟨by decide +kernel, by decide +kernel⟩, List.mem_of_getElem? (i := 22) (by decide +kernel), List.mem_of_getElem? (i := 386) (by decide +kernel), List.mem_of_getElem? (i := 387) (by decide +kernel)⟩
theorem lw_p2 : lw_okq (⟨"MissedSale$Law", "readLines", "()Z"⟩, 10) := ⟨⟨by decide +kernel, by decide +kernel⟩, List.mem_of_getElem? (i := 59) (by decide +kernel), List.mem_of_getElem? (i := 428) (by decide +kernel), List.mem_of_getElem? (i := 429) (by decide +kernel)⟩
theorem lw_p3 : lw_okq (⟨"MissedSale$Law", "readLine", "()Z"⟩, 10) := ⟨⟨by decide +kernel, by decide +kernel⟩, List.mem_of_getElem? (i := 59) (by decide +kernel), List.mem_of_getElem? (i := 432) (by decide +kernel), List.mem_of_getElem? (i := 433) (by decide +kernel)⟩
theorem lw_p4 : lw_okq (⟨"MissedSale$Law", "readRank", "(II)Z"⟩, 10) := ⟨⟨by decide +kernel, by decide +kernel⟩, List.mem_of_getElem? (i := 59) (by decide +kernel), List.mem_of_getElem? (i := 436) (by decide +kernel), List.mem_of_getElem? (i := 437) (by decide +kernel)⟩
theorem lw_p5 : lw_okq (⟨"MissedSale$Law", "readOperand", "(I)Z"⟩, 10) := ⟨⟨by decide +kernel, by decide +kernel⟩, List.mem_of_getElem? (i := 59) (by decide +kernel), List.mem_of_getElem? (i := 440) (by decide +kernel), List.mem_of_getElem? (i := 441) (by decide +kernel)⟩
theorem lw_p6 : lw_okq (⟨"MissedSale$Law", "next", "()I"⟩, 10) := ⟨⟨by decide +kernel, by decide +kernel⟩, List.mem_of_getElem? (i := 59) (by decide +kernel), List.mem_of_getElem? (i := 444) (by decide +kernel), List.mem_of_getElem? (i := 445) (by decide +kernel)⟩
theorem lw_p7 : lw_okq (⟨"MissedSale$Law", "readNumber", "()Z"⟩, 10) := ⟨⟨by decide +kernel, by decide +kernel⟩, List.mem_of_getElem? (i := 59) (by decide +kernel), List.mem_of_getElem? (i := 451) (by decide +kernel), List.mem_of_getElem? (i := 452) (by decide +kernel)⟩
theorem lw_p8 : lw_okq (⟨"MissedSale$Law", "emit", "(I)V"⟩, 10) := ⟨⟨by decide +kernel, by decide +kernel⟩, List.mem_of_getElem? (i := 59) (by decide +kernel), List.mem_of_getElem? (i := 455) (by decide +kernel), List.mem_of_getElem? (i := 456) (by decide +kernel)⟩
theorem lw_p9 : lw_okq (⟨"MissedSale$Law", "takes", "(I)Z"⟩, 10) := ⟨⟨by decide +kernel, by decide +kernel⟩, List.mem_of_getElem? (i := 59) (by decide +kernel), List.mem_of_getElem? (i := 546) (by decide +kernel), List.mem_of_getElem? (i := 547) (by decide +kernel)⟩
theorem lw_p10 : lw_okq (⟨"MissedSale", "isPair", "(I)Z"⟩, 10) := ⟨⟨by decide +kernel, by decide +kernel⟩, List.mem_of_getElem? (i := 22) (by decide +kernel), List.mem_of_getElem? (i := 558) (by decide +kernel), List.mem_of_getElem? (i := 559) (by decide +kernel)⟩
theorem lw_p11 : lw_okq (⟨"MissedSale$Thought", "lengthOf", "(LMissedSale$Shelf;)I"⟩, 12) := ⟨⟨by decide +kernel, by decide +kernel⟩, List.mem_of_getElem? (i := 97) (by decide +kernel), List.mem_of_getElem? (i := 626) (by decide +kernel), List.mem_of_getElem? (i := 627) (by decide +kernel)⟩
theorem lw_p12 : lw_okq (⟨"MissedSale$Ways", "tryOrder", "(III)V"⟩, 6) := ⟨⟨by decide +kernel, by decide +kernel⟩, List.mem_of_getElem? (i := 157) (by decide +kernel), List.mem_of_getElem? (i := 657) (by decide +kernel), List.mem_of_getElem? (i := 658) (by decide +kernel)⟩
theorem lw_p13 : lw_okq (⟨"MissedSale$Dealing", "weigh", "(LMissedSale$Thought;I)V"⟩, 3) := ⟨⟨by decide +kernel, by decide +kernel⟩, List.mem_of_getElem? (i := 184) (by decide +kernel), List.mem_of_getElem? (i := 692) (by decide +kernel), List.mem_of_getElem? (i := 693) (by decide +kernel)⟩
theorem lw_p14 : lw_okq (⟨"MissedSale$Dealing", "bestOf", "(I)J"⟩, 3) := ⟨⟨by decide +kernel, by decide +kernel⟩, List.mem_of_getElem? (i := 184) (by decide +kernel), List.mem_of_getElem? (i := 701) (by decide +kernel), List.mem_of_getElem? (i := 702) (by decide +kernel)⟩
theorem lw_p15 : lw_okq (⟨"MissedSale", "refusesBoth", "(I)I"⟩, 10) := ⟨⟨by decide +kernel, by decide +kernel⟩, List.mem_of_getElem? (i := 22) (by decide +kernel), List.mem_of_getElem? (i := 754) (by decide +kernel), List.mem_of_getElem? (i := 755) (by decide +kernel)⟩
def lw_privs_1 : List (MethodName × Nat) := [(⟨"MissedSale", "comesFrom", "(LMissedSale$Shelf;I)Z"⟩, 10), (⟨"MissedSale", "mayBe", "(II)Z"⟩, 10), (⟨"MissedSale$Law", "readLines", "()Z"⟩, 10), (⟨"MissedSale$Law", "readLine", "()Z"⟩, 10), (⟨"MissedSale$Law", "readRank", "(II)Z"⟩, 10), (⟨"MissedSale$Law", "readOperand", "(I)Z"⟩, 10), (⟨"MissedSale$Law", "next", "()I"⟩, 10), (⟨"MissedSale$Law", "readNumber", "()Z"⟩, 10), (⟨"MissedSale$Law", "emit", "(I)V"⟩, 10), (⟨"MissedSale$Law", "takes", "(I)Z"⟩, 10), (⟨"MissedSale", "isPair", "(I)Z"⟩, 10), (⟨"MissedSale$Thought", "lengthOf", "(LMissedSale$Shelf;)I"⟩, 12), (⟨"MissedSale$Ways", "tryOrder", "(III)V"⟩, 6), (⟨"MissedSale$Dealing", "weigh", "(LMissedSale$Thought;I)V"⟩, 3), (⟨"MissedSale$Dealing", "bestOf", "(I)J"⟩, 3), (⟨"MissedSale", "refusesBoth", "(I)I"⟩, 10)]
theorem lw_r1 : ∀ q ∈ lw_privs_1, lw_okq q := List.forall_mem_cons.mpr ⟨lw_p0, List.forall_mem_cons.mpr ⟨lw_p1, List.forall_mem_cons.mpr ⟨lw_p2, List.forall_mem_cons.mpr ⟨lw_p3, List.forall_mem_cons.mpr ⟨lw_p4, List.forall_mem_cons.mpr ⟨lw_p5, List.forall_mem_cons.mpr ⟨lw_p6, List.forall_mem_cons.mpr ⟨lw_p7, List.forall_mem_cons.mpr ⟨lw_p8, List.forall_mem_cons.mpr ⟨lw_p9, List.forall_mem_cons.mpr ⟨lw_p10, List.forall_mem_cons.mpr ⟨lw_p11, List.forall_mem_cons.mpr ⟨lw_p12, List.forall_mem_cons.mpr ⟨lw_p13, List.forall_mem_cons.mpr ⟨lw_p14, List.forall_mem_cons.mpr ⟨lw_p15, fun _ h => absurd h List.not_mem_nil⟩⟩⟩⟩⟩⟩⟩⟩⟩⟩⟩⟩⟩⟩⟩⟩
theorem lw_p16 : lw_okq (⟨"MissedSale$Ways", "moved", "(IIII)I"⟩, 6) := ⟨⟨by decide +kernel, by decide +kernel⟩, List.mem_of_getElem? (i := 157) (by decide +kernel), List.mem_of_getElem? (i := 782) (by decide +kernel), List.mem_of_getElem? (i := 783) (by decide +kernel)⟩
theorem lw_p17 : lw_okq (⟨"MissedSale$Ways", "outcome", "(III)I"⟩, 6) := ⟨⟨by decide +kernel, by decide +kernel⟩, List.mem_of_getElem? (i := 157) (by decide +kernel), List.mem_of_getElem? (i := 789) (by decide +kernel), List.mem_of_getElem? (i := 790) (by decide +kernel)⟩
theorem lw_p18 : lw_okq (⟨"MissedSale$Lots", "runs", "(IIII)I"⟩, 5) := ⟨⟨by decide +kernel, by decide +kernel⟩, List.mem_of_getElem? (i := 238) (by decide +kernel), List.mem_of_getElem? (i := 887) (by decide +kernel), List.mem_of_getElem? (i := 888) (by decide +kernel)⟩
theorem lw_p19 : lw_okq (⟨"MissedSale$Lots", "runBody", "(IIII)I"⟩, 5) := ⟨⟨by decide +kernel, by decide +kernel⟩, List.mem_of_getElem? (i := 238) (by decide +kernel), List.mem_of_getElem? (i := 895) (by decide +kernel), List.mem_of_getElem? (i := 896) (by decide +kernel)⟩
theorem lw_p20 : lw_okq (⟨"MissedSale$Lots", "own", "(III)I"⟩, 5) := ⟨⟨by decide +kernel, by decide +kernel⟩, List.mem_of_getElem? (i := 238) (by decide +kernel), List.mem_of_getElem? (i := 899) (by decide +kernel), List.mem_of_getElem? (i := 900) (by decide +kernel)⟩
theorem lw_p21 : lw_okq (⟨"MissedSale", "refusesElement", "(II)I"⟩, 10) := ⟨⟨by decide +kernel, by decide +kernel⟩, List.mem_of_getElem? (i := 22) (by decide +kernel), List.mem_of_getElem? (i := 940) (by decide +kernel), List.mem_of_getElem? (i := 941) (by decide +kernel)⟩
theorem lw_p22 : lw_okq (⟨"MissedSale$Shelf", "kept", "(J)J"⟩, 5) := ⟨⟨by decide +kernel, by decide +kernel⟩, List.mem_of_getElem? (i := 263) (by decide +kernel), List.mem_of_getElem? (i := 948) (by decide +kernel), List.mem_of_getElem? (i := 949) (by decide +kernel)⟩
theorem lw_p23 : lw_okq (⟨"MissedSaleModel", "newOne", "(III)I"⟩, 45) := ⟨⟨by decide +kernel, by decide +kernel⟩, List.mem_of_getElem? (i := 977) (by decide +kernel), List.mem_of_getElem? (i := 1130) (by decide +kernel), List.mem_of_getElem? (i := 1131) (by decide +kernel)⟩
theorem lw_p24 : lw_okq (⟨"MissedSaleModel", "toldAt", "(II)I"⟩, 45) := ⟨⟨by decide +kernel, by decide +kernel⟩, List.mem_of_getElem? (i := 977) (by decide +kernel), List.mem_of_getElem? (i := 1142) (by decide +kernel), List.mem_of_getElem? (i := 1143) (by decide +kernel)⟩
theorem lw_p25 : lw_okq (⟨"MissedSaleModel", "isOf", "(II)Z"⟩, 45) := ⟨⟨by decide +kernel, by decide +kernel⟩, List.mem_of_getElem? (i := 977) (by decide +kernel), List.mem_of_getElem? (i := 1150) (by decide +kernel), List.mem_of_getElem? (i := 1151) (by decide +kernel)⟩
theorem lw_p26 : lw_okq (⟨"MissedSaleModel", "isThing", "(I)Z"⟩, 45) := ⟨⟨by decide +kernel, by decide +kernel⟩, List.mem_of_getElem? (i := 977) (by decide +kernel), List.mem_of_getElem? (i := 1154) (by decide +kernel), List.mem_of_getElem? (i := 1155) (by decide +kernel)⟩
theorem lw_p27 : lw_okq (⟨"MissedSaleModel", "isOne", "(I)Z"⟩, 45) := ⟨⟨by decide +kernel, by decide +kernel⟩, List.mem_of_getElem? (i := 977) (by decide +kernel), List.mem_of_getElem? (i := 1158) (by decide +kernel), List.mem_of_getElem? (i := 1159) (by decide +kernel)⟩
theorem lw_p28 : lw_okq (⟨"MissedSaleModel", "isFit", "(II)Z"⟩, 45) := ⟨⟨by decide +kernel, by decide +kernel⟩, List.mem_of_getElem? (i := 977) (by decide +kernel), List.mem_of_getElem? (i := 1162) (by decide +kernel), List.mem_of_getElem? (i := 1163) (by decide +kernel)⟩
theorem lw_p29 : lw_okq (⟨"MissedSaleModel", "get", "(II)I"⟩, 45) := ⟨⟨by decide +kernel, by decide +kernel⟩, List.mem_of_getElem? (i := 977) (by decide +kernel), List.mem_of_getElem? (i := 1167) (by decide +kernel), List.mem_of_getElem? (i := 1168) (by decide +kernel)⟩
theorem lw_p30 : lw_okq (⟨"MissedSaleModel", "becomes", "(III)V"⟩, 45) := ⟨⟨by decide +kernel, by decide +kernel⟩, List.mem_of_getElem? (i := 977) (by decide +kernel), List.mem_of_getElem? (i := 1171) (by decide +kernel), List.mem_of_getElem? (i := 1172) (by decide +kernel)⟩
theorem lw_p31 : lw_okq (⟨"MissedSaleModel", "isLine", "()Z"⟩, 45) := ⟨⟨by decide +kernel, by decide +kernel⟩, List.mem_of_getElem? (i := 977) (by decide +kernel), List.mem_of_getElem? (i := 1195) (by decide +kernel), List.mem_of_getElem? (i := 1196) (by decide +kernel)⟩
def lw_privs_2 : List (MethodName × Nat) := [(⟨"MissedSale$Ways", "moved", "(IIII)I"⟩, 6), (⟨"MissedSale$Ways", "outcome", "(III)I"⟩, 6), (⟨"MissedSale$Lots", "runs", "(IIII)I"⟩, 5), (⟨"MissedSale$Lots", "runBody", "(IIII)I"⟩, 5), (⟨"MissedSale$Lots", "own", "(III)I"⟩, 5), (⟨"MissedSale", "refusesElement", "(II)I"⟩, 10), (⟨"MissedSale$Shelf", "kept", "(J)J"⟩, 5), (⟨"MissedSaleModel", "newOne", "(III)I"⟩, 45), (⟨"MissedSaleModel", "toldAt", "(II)I"⟩, 45), (⟨"MissedSaleModel", "isOf", "(II)Z"⟩, 45), (⟨"MissedSaleModel", "isThing", "(I)Z"⟩, 45), (⟨"MissedSaleModel", "isOne", "(I)Z"⟩, 45), (⟨"MissedSaleModel", "isFit", "(II)Z"⟩, 45), (⟨"MissedSaleModel", "get", "(II)I"⟩, 45), (⟨"MissedSaleModel", "becomes", "(III)V"⟩, 45), (⟨"MissedSaleModel", "isLine", "()Z"⟩, 45)]
theorem lw_r2 : ∀ q ∈ lw_privs_2, lw_okq q := List.forall_mem_cons.mpr ⟨lw_p16, List.forall_mem_cons.mpr ⟨lw_p17, List.forall_mem_cons.mpr ⟨lw_p18, List.forall_mem_cons.mpr ⟨lw_p19, List.forall_mem_cons.mpr ⟨lw_p20, List.forall_mem_cons.mpr ⟨lw_p21, List.forall_mem_cons.mpr ⟨lw_p22, List.forall_mem_cons.mpr ⟨lw_p23, List.forall_mem_cons.mpr ⟨lw_p24, List.forall_mem_cons.mpr ⟨lw_p25, List.forall_mem_cons.mpr ⟨lw_p26, List.forall_mem_cons.mpr ⟨lw_p27, List.forall_mem_cons.mpr ⟨lw_p28, List.forall_mem_cons.mpr ⟨lw_p29, List.forall_mem_cons.mpr ⟨lw_p30, List.forall_mem_cons.mpr ⟨lw_p31, fun _ h => absurd h List.not_mem_nil⟩⟩⟩⟩⟩⟩⟩⟩⟩⟩⟩⟩⟩⟩⟩⟩
theorem lw_p32 : lw_okq (⟨"MissedSaleModel", "isE", "()Z"⟩, 45) := ⟨⟨by decide +kernel, by decide +kernel⟩, List.mem_of_getElem? (i := 977) (by decide +kernel), List.mem_of_getElem? (i := 1199) (by decide +kernel), List.mem_of_getElem? (i := 1200) (by decide +kernel)⟩
theorem lw_p33 : lw_okq (⟨"MissedSaleModel", "isA", "()Z"⟩, 45) := ⟨⟨by decide +kernel, by decide +kernel⟩, List.mem_of_getElem? (i := 977) (by decide +kernel), List.mem_of_getElem? (i := 1203) (by decide +kernel), List.mem_of_getElem? (i := 1204) (by decide +kernel)⟩
theorem lw_p34 : lw_okq (⟨"MissedSaleModel", "isB", "()Z"⟩, 45) := ⟨⟨by decide +kernel, by decide +kernel⟩, List.mem_of_getElem? (i := 977) (by decide +kernel), List.mem_of_getElem? (i := 1207) (by decide +kernel), List.mem_of_getElem? (i := 1208) (by decide +kernel)⟩
theorem lw_p35 : lw_okq (⟨"MissedSaleModel", "isS", "()Z"⟩, 45) := ⟨⟨by decide +kernel, by decide +kernel⟩, List.mem_of_getElem? (i := 977) (by decide +kernel), List.mem_of_getElem? (i := 1211) (by decide +kernel), List.mem_of_getElem? (i := 1212) (by decide +kernel)⟩
theorem lw_p36 : lw_okq (⟨"MissedSaleModel", "isP", "()Z"⟩, 45) := ⟨⟨by decide +kernel, by decide +kernel⟩, List.mem_of_getElem? (i := 977) (by decide +kernel), List.mem_of_getElem? (i := 1215) (by decide +kernel), List.mem_of_getElem? (i := 1216) (by decide +kernel)⟩
theorem lw_p37 : lw_okq (⟨"MissedSaleModel", "isO", "()Z"⟩, 45) := ⟨⟨by decide +kernel, by decide +kernel⟩, List.mem_of_getElem? (i := 977) (by decide +kernel), List.mem_of_getElem? (i := 1219) (by decide +kernel), List.mem_of_getElem? (i := 1220) (by decide +kernel)⟩
theorem lw_p38 : lw_okq (⟨"MissedSaleModel", "isDigit", "()Z"⟩, 45) := ⟨⟨by decide +kernel, by decide +kernel⟩, List.mem_of_getElem? (i := 977) (by decide +kernel), List.mem_of_getElem? (i := 1223) (by decide +kernel), List.mem_of_getElem? (i := 1224) (by decide +kernel)⟩
theorem lw_p39 : lw_okq (⟨"MissedSaleModel", "sign", "()I"⟩, 45) := ⟨⟨by decide +kernel, by decide +kernel⟩, List.mem_of_getElem? (i := 977) (by decide +kernel), List.mem_of_getElem? (i := 1227) (by decide +kernel), List.mem_of_getElem? (i := 1228) (by decide +kernel)⟩
theorem lw_p40 : lw_okq (⟨"MissedSaleModel", "codes", "(I)Z"⟩, 45) := ⟨⟨by decide +kernel, by decide +kernel⟩, List.mem_of_getElem? (i := 977) (by decide +kernel), List.mem_of_getElem? (i := 1231) (by decide +kernel), List.mem_of_getElem? (i := 1232) (by decide +kernel)⟩
theorem lw_p41 : lw_okq (⟨"MissedSaleModel", "is", "(I)Z"⟩, 45) := ⟨⟨by decide +kernel, by decide +kernel⟩, List.mem_of_getElem? (i := 977) (by decide +kernel), List.mem_of_getElem? (i := 1238) (by decide +kernel), List.mem_of_getElem? (i := 1239) (by decide +kernel)⟩
theorem lw_p42 : lw_okq (⟨"MissedSaleModel", "wouldMiss", "(II)I"⟩, 45) := ⟨⟨by decide +kernel, by decide +kernel⟩, List.mem_of_getElem? (i := 977) (by decide +kernel), List.mem_of_getElem? (i := 1246) (by decide +kernel), List.mem_of_getElem? (i := 1247) (by decide +kernel)⟩
theorem lw_p43 : lw_okq (⟨"MissedSaleModel", "countOf", "(I)I"⟩, 45) := ⟨⟨by decide +kernel, by decide +kernel⟩, List.mem_of_getElem? (i := 977) (by decide +kernel), List.mem_of_getElem? (i := 1250) (by decide +kernel), List.mem_of_getElem? (i := 1251) (by decide +kernel)⟩
theorem lw_p44 : lw_okq (⟨"MissedSaleModel", "yearsOf", "(III)I"⟩, 45) := ⟨⟨by decide +kernel, by decide +kernel⟩, List.mem_of_getElem? (i := 977) (by decide +kernel), List.mem_of_getElem? (i := 1254) (by decide +kernel), List.mem_of_getElem? (i := 1255) (by decide +kernel)⟩
theorem lw_p45 : lw_okq (⟨"MissedSaleModel", "missing", "(I)I"⟩, 45) := ⟨⟨by decide +kernel, by decide +kernel⟩, List.mem_of_getElem? (i := 977) (by decide +kernel), List.mem_of_getElem? (i := 1258) (by decide +kernel), List.mem_of_getElem? (i := 1259) (by decide +kernel)⟩
theorem lw_p46 : lw_okq (⟨"MissedSaleModel", "byLaw", "()I"⟩, 45) := ⟨⟨by decide +kernel, by decide +kernel⟩, List.mem_of_getElem? (i := 977) (by decide +kernel), List.mem_of_getElem? (i := 1262) (by decide +kernel), List.mem_of_getElem? (i := 1263) (by decide +kernel)⟩
theorem lw_p47 : lw_okq (⟨"MissedSaleModel", "worked", "(II)I"⟩, 45) := ⟨⟨by decide +kernel, by decide +kernel⟩, List.mem_of_getElem? (i := 977) (by decide +kernel), List.mem_of_getElem? (i := 1266) (by decide +kernel), List.mem_of_getElem? (i := 1267) (by decide +kernel)⟩
def lw_privs_3 : List (MethodName × Nat) := [(⟨"MissedSaleModel", "isE", "()Z"⟩, 45), (⟨"MissedSaleModel", "isA", "()Z"⟩, 45), (⟨"MissedSaleModel", "isB", "()Z"⟩, 45), (⟨"MissedSaleModel", "isS", "()Z"⟩, 45), (⟨"MissedSaleModel", "isP", "()Z"⟩, 45), (⟨"MissedSaleModel", "isO", "()Z"⟩, 45), (⟨"MissedSaleModel", "isDigit", "()Z"⟩, 45), (⟨"MissedSaleModel", "sign", "()I"⟩, 45), (⟨"MissedSaleModel", "codes", "(I)Z"⟩, 45), (⟨"MissedSaleModel", "is", "(I)Z"⟩, 45), (⟨"MissedSaleModel", "wouldMiss", "(II)I"⟩, 45), (⟨"MissedSaleModel", "countOf", "(I)I"⟩, 45), (⟨"MissedSaleModel", "yearsOf", "(III)I"⟩, 45), (⟨"MissedSaleModel", "missing", "(I)I"⟩, 45), (⟨"MissedSaleModel", "byLaw", "()I"⟩, 45), (⟨"MissedSaleModel", "worked", "(II)I"⟩, 45)]
theorem lw_r3 : ∀ q ∈ lw_privs_3, lw_okq q := List.forall_mem_cons.mpr ⟨lw_p32, List.forall_mem_cons.mpr ⟨lw_p33, List.forall_mem_cons.mpr ⟨lw_p34, List.forall_mem_cons.mpr ⟨lw_p35, List.forall_mem_cons.mpr ⟨lw_p36, List.forall_mem_cons.mpr ⟨lw_p37, List.forall_mem_cons.mpr ⟨lw_p38, List.forall_mem_cons.mpr ⟨lw_p39, List.forall_mem_cons.mpr ⟨lw_p40, List.forall_mem_cons.mpr ⟨lw_p41, List.forall_mem_cons.mpr ⟨lw_p42, List.forall_mem_cons.mpr ⟨lw_p43, List.forall_mem_cons.mpr ⟨lw_p44, List.forall_mem_cons.mpr ⟨lw_p45, List.forall_mem_cons.mpr ⟨lw_p46, List.forall_mem_cons.mpr ⟨lw_p47, fun _ h => absurd h List.not_mem_nil⟩⟩⟩⟩⟩⟩⟩⟩⟩⟩⟩⟩⟩⟩⟩⟩
theorem lw_p48 : lw_okq (⟨"MissedSaleModel", "bidOf", "(II)I"⟩, 45) := ⟨⟨by decide +kernel, by decide +kernel⟩, List.mem_of_getElem? (i := 977) (by decide +kernel), List.mem_of_getElem? (i := 1275) (by decide +kernel), List.mem_of_getElem? (i := 1276) (by decide +kernel)⟩
theorem lw_p49 : lw_okq (⟨"MissedSaleModel", "winner", "(I)I"⟩, 45) := ⟨⟨by decide +kernel, by decide +kernel⟩, List.mem_of_getElem? (i := 977) (by decide +kernel), List.mem_of_getElem? (i := 1283) (by decide +kernel), List.mem_of_getElem? (i := 1284) (by decide +kernel)⟩
theorem lw_p50 : lw_okq (⟨"MissedSaleModel", "noBytes", "(I)I"⟩, 45) := ⟨⟨by decide +kernel, by decide +kernel⟩, List.mem_of_getElem? (i := 977) (by decide +kernel), List.mem_of_getElem? (i := 1291) (by decide +kernel), List.mem_of_getElem? (i := 1292) (by decide +kernel)⟩
theorem lw_p51 : lw_okq (⟨"MissedSaleModel", "listed", "(I)I"⟩, 45) := ⟨⟨by decide +kernel, by decide +kernel⟩, List.mem_of_getElem? (i := 977) (by decide +kernel), List.mem_of_getElem? (i := 1295) (by decide +kernel), List.mem_of_getElem? (i := 1296) (by decide +kernel)⟩
theorem lw_p52 : lw_okq (⟨"MissedSaleModel", "keeps", "([I)V"⟩, 45) := ⟨⟨by decide +kernel, by decide +kernel⟩, List.mem_of_getElem? (i := 977) (by decide +kernel), List.mem_of_getElem? (i := 1299) (by decide +kernel), List.mem_of_getElem? (i := 1300) (by decide +kernel)⟩
theorem lw_p53 : lw_okq (⟨"MissedSaleModel", "goes", "(I)I"⟩, 45) := ⟨⟨by decide +kernel, by decide +kernel⟩, List.mem_of_getElem? (i := 977) (by decide +kernel), List.mem_of_getElem? (i := 1303) (by decide +kernel), List.mem_of_getElem? (i := 1304) (by decide +kernel)⟩
theorem lw_p54 : lw_okq (⟨"MissedSaleModel", "isForSale", "(I)Z"⟩, 45) := ⟨⟨by decide +kernel, by decide +kernel⟩, List.mem_of_getElem? (i := 977) (by decide +kernel), List.mem_of_getElem? (i := 1307) (by decide +kernel), List.mem_of_getElem? (i := 1308) (by decide +kernel)⟩
theorem lw_p55 : lw_okq (⟨"MissedSaleModel", "laysBack", "()V"⟩, 45) := ⟨⟨by decide +kernel, by decide +kernel⟩, List.mem_of_getElem? (i := 977) (by decide +kernel), List.mem_of_getElem? (i := 1311) (by decide +kernel), List.mem_of_getElem? (i := 1312) (by decide +kernel)⟩
theorem lw_p56 : lw_okq (⟨"MissedSaleModel", "laysBack", "([III)V"⟩, 45) := ⟨⟨by decide +kernel, by decide +kernel⟩, List.mem_of_getElem? (i := 977) (by decide +kernel), List.mem_of_getElem? (i := 1315) (by decide +kernel), List.mem_of_getElem? (i := 1316) (by decide +kernel)⟩
theorem lw_p57 : lw_okq (⟨"MissedSaleModel", "forSale", "()I"⟩, 45) := ⟨⟨by decide +kernel, by decide +kernel⟩, List.mem_of_getElem? (i := 977) (by decide +kernel), List.mem_of_getElem? (i := 1327) (by decide +kernel), List.mem_of_getElem? (i := 1328) (by decide +kernel)⟩
theorem lw_p58 : lw_okq (⟨"MissedSaleModel", "orders", "(III)V"⟩, 45) := ⟨⟨by decide +kernel, by decide +kernel⟩, List.mem_of_getElem? (i := 977) (by decide +kernel), List.mem_of_getElem? (i := 1332) (by decide +kernel), List.mem_of_getElem? (i := 1333) (by decide +kernel)⟩
theorem lw_p59 : lw_okq (⟨"MissedSaleModel", "deals", "(III)V"⟩, 45) := ⟨⟨by decide +kernel, by decide +kernel⟩, List.mem_of_getElem? (i := 977) (by decide +kernel), List.mem_of_getElem? (i := 1348) (by decide +kernel), List.mem_of_getElem? (i := 1349) (by decide +kernel)⟩
theorem lw_p60 : lw_okq (⟨"MissedSaleModel", "wouldChange", "(III)Z"⟩, 45) := ⟨⟨by decide +kernel, by decide +kernel⟩, List.mem_of_getElem? (i := 977) (by decide +kernel), List.mem_of_getElem? (i := 1356) (by decide +kernel), List.mem_of_getElem? (i := 1357) (by decide +kernel)⟩
theorem lw_p61 : lw_okq (⟨"MissedSaleModel", "passes", "()V"⟩, 45) := ⟨⟨by decide +kernel, by decide +kernel⟩, List.mem_of_getElem? (i := 977) (by decide +kernel), List.mem_of_getElem? (i := 1364) (by decide +kernel), List.mem_of_getElem? (i := 1365) (by decide +kernel)⟩
theorem lw_p62 : lw_okq (⟨"MissedSaleModel", "missedNow", "()I"⟩, 45) := ⟨⟨by decide +kernel, by decide +kernel⟩, List.mem_of_getElem? (i := 977) (by decide +kernel), List.mem_of_getElem? (i := 1371) (by decide +kernel), List.mem_of_getElem? (i := 1372) (by decide +kernel)⟩
theorem lw_p63 : lw_okq (⟨"MissedSaleModel", "quiet", "()I"⟩, 45) := ⟨⟨by decide +kernel, by decide +kernel⟩, List.mem_of_getElem? (i := 977) (by decide +kernel), List.mem_of_getElem? (i := 1379) (by decide +kernel), List.mem_of_getElem? (i := 1380) (by decide +kernel)⟩
def lw_privs_4 : List (MethodName × Nat) := [(⟨"MissedSaleModel", "bidOf", "(II)I"⟩, 45), (⟨"MissedSaleModel", "winner", "(I)I"⟩, 45), (⟨"MissedSaleModel", "noBytes", "(I)I"⟩, 45), (⟨"MissedSaleModel", "listed", "(I)I"⟩, 45), (⟨"MissedSaleModel", "keeps", "([I)V"⟩, 45), (⟨"MissedSaleModel", "goes", "(I)I"⟩, 45), (⟨"MissedSaleModel", "isForSale", "(I)Z"⟩, 45), (⟨"MissedSaleModel", "laysBack", "()V"⟩, 45), (⟨"MissedSaleModel", "laysBack", "([III)V"⟩, 45), (⟨"MissedSaleModel", "forSale", "()I"⟩, 45), (⟨"MissedSaleModel", "orders", "(III)V"⟩, 45), (⟨"MissedSaleModel", "deals", "(III)V"⟩, 45), (⟨"MissedSaleModel", "wouldChange", "(III)Z"⟩, 45), (⟨"MissedSaleModel", "passes", "()V"⟩, 45), (⟨"MissedSaleModel", "missedNow", "()I"⟩, 45), (⟨"MissedSaleModel", "quiet", "()I"⟩, 45)]
theorem lw_r4 : ∀ q ∈ lw_privs_4, lw_okq q := List.forall_mem_cons.mpr ⟨lw_p48, List.forall_mem_cons.mpr ⟨lw_p49, List.forall_mem_cons.mpr ⟨lw_p50, List.forall_mem_cons.mpr ⟨lw_p51, List.forall_mem_cons.mpr ⟨lw_p52, List.forall_mem_cons.mpr ⟨lw_p53, List.forall_mem_cons.mpr ⟨lw_p54, List.forall_mem_cons.mpr ⟨lw_p55, List.forall_mem_cons.mpr ⟨lw_p56, List.forall_mem_cons.mpr ⟨lw_p57, List.forall_mem_cons.mpr ⟨lw_p58, List.forall_mem_cons.mpr ⟨lw_p59, List.forall_mem_cons.mpr ⟨lw_p60, List.forall_mem_cons.mpr ⟨lw_p61, List.forall_mem_cons.mpr ⟨lw_p62, List.forall_mem_cons.mpr ⟨lw_p63, fun _ h => absurd h List.not_mem_nil⟩⟩⟩⟩⟩⟩⟩⟩⟩⟩⟩⟩⟩⟩⟩⟩
theorem lw_p64 : lw_okq (⟨"MissedSaleModel", "longest", "()I"⟩, 45) := ⟨⟨by decide +kernel, by decide +kernel⟩, List.mem_of_getElem? (i := 977) (by decide +kernel), List.mem_of_getElem? (i := 1383) (by decide +kernel), List.mem_of_getElem? (i := 1384) (by decide +kernel)⟩
theorem lw_p65 : lw_okq (⟨"MissedSaleModel", "noBook", "(I)I"⟩, 45) := ⟨⟨by decide +kernel, by decide +kernel⟩, List.mem_of_getElem? (i := 977) (by decide +kernel), List.mem_of_getElem? (i := 1391) (by decide +kernel), List.mem_of_getElem? (i := 1392) (by decide +kernel)⟩
theorem lw_p66 : lw_okq (⟨"MissedSaleModel", "unlike", "(I)I"⟩, 45) := ⟨⟨by decide +kernel, by decide +kernel⟩, List.mem_of_getElem? (i := 977) (by decide +kernel), List.mem_of_getElem? (i := 1395) (by decide +kernel), List.mem_of_getElem? (i := 1396) (by decide +kernel)⟩
theorem lw_p67 : lw_okq (⟨"MissedSaleModel", "turnBy", "(IIIII)I"⟩, 45) := ⟨⟨by decide +kernel, by decide +kernel⟩, List.mem_of_getElem? (i := 977) (by decide +kernel), List.mem_of_getElem? (i := 1407) (by decide +kernel), List.mem_of_getElem? (i := 1408) (by decide +kernel)⟩
theorem lw_p68 : lw_okq (⟨"MissedSaleModel", "turnFrom", "(IIII)I"⟩, 45) := ⟨⟨by decide +kernel, by decide +kernel⟩, List.mem_of_getElem? (i := 977) (by decide +kernel), List.mem_of_getElem? (i := 1411) (by decide +kernel), List.mem_of_getElem? (i := 1412) (by decide +kernel)⟩
theorem lw_p69 : lw_okq (⟨"MissedSaleModel", "bidsBy", "(III)I"⟩, 45) := ⟨⟨by decide +kernel, by decide +kernel⟩, List.mem_of_getElem? (i := 977) (by decide +kernel), List.mem_of_getElem? (i := 1456) (by decide +kernel), List.mem_of_getElem? (i := 1457) (by decide +kernel)⟩
theorem lw_p70 : lw_okq (⟨"MissedSaleModel", "ran", "(I)V"⟩, 45) := ⟨⟨by decide +kernel, by decide +kernel⟩, List.mem_of_getElem? (i := 977) (by decide +kernel), List.mem_of_getElem? (i := 1460) (by decide +kernel), List.mem_of_getElem? (i := 1461) (by decide +kernel)⟩
theorem lw_p71 : lw_okq (⟨"MissedSaleModel", "missesBy", "(III)I"⟩, 45) := ⟨⟨by decide +kernel, by decide +kernel⟩, List.mem_of_getElem? (i := 977) (by decide +kernel), List.mem_of_getElem? (i := 1467) (by decide +kernel), List.mem_of_getElem? (i := 1468) (by decide +kernel)⟩
theorem lw_p72 : lw_okq (⟨"MissedSaleModel", "losesBy", "(III)I"⟩, 45) := ⟨⟨by decide +kernel, by decide +kernel⟩, List.mem_of_getElem? (i := 977) (by decide +kernel), List.mem_of_getElem? (i := 1471) (by decide +kernel), List.mem_of_getElem? (i := 1472) (by decide +kernel)⟩
theorem lw_p73 : lw_okq (⟨"MissedSaleModel", "tells", "(III)I"⟩, 45) := ⟨⟨by decide +kernel, by decide +kernel⟩, List.mem_of_getElem? (i := 977) (by decide +kernel), List.mem_of_getElem? (i := 1475) (by decide +kernel), List.mem_of_getElem? (i := 1476) (by decide +kernel)⟩
theorem lw_p74 : lw_okq (⟨"MissedSaleModel", "isRow", "(I)Z"⟩, 45) := ⟨⟨by decide +kernel, by decide +kernel⟩, List.mem_of_getElem? (i := 977) (by decide +kernel), List.mem_of_getElem? (i := 1495) (by decide +kernel), List.mem_of_getElem? (i := 1496) (by decide +kernel)⟩
def lw_privs_5 : List (MethodName × Nat) := [(⟨"MissedSaleModel", "longest", "()I"⟩, 45), (⟨"MissedSaleModel", "noBook", "(I)I"⟩, 45), (⟨"MissedSaleModel", "unlike", "(I)I"⟩, 45), (⟨"MissedSaleModel", "turnBy", "(IIIII)I"⟩, 45), (⟨"MissedSaleModel", "turnFrom", "(IIII)I"⟩, 45), (⟨"MissedSaleModel", "bidsBy", "(III)I"⟩, 45), (⟨"MissedSaleModel", "ran", "(I)V"⟩, 45), (⟨"MissedSaleModel", "missesBy", "(III)I"⟩, 45), (⟨"MissedSaleModel", "losesBy", "(III)I"⟩, 45), (⟨"MissedSaleModel", "tells", "(III)I"⟩, 45), (⟨"MissedSaleModel", "isRow", "(I)Z"⟩, 45)]
theorem lw_r5 : ∀ q ∈ lw_privs_5, lw_okq q := List.forall_mem_cons.mpr ⟨lw_p64, List.forall_mem_cons.mpr ⟨lw_p65, List.forall_mem_cons.mpr ⟨lw_p66, List.forall_mem_cons.mpr ⟨lw_p67, List.forall_mem_cons.mpr ⟨lw_p68, List.forall_mem_cons.mpr ⟨lw_p69, List.forall_mem_cons.mpr ⟨lw_p70, List.forall_mem_cons.mpr ⟨lw_p71, List.forall_mem_cons.mpr ⟨lw_p72, List.forall_mem_cons.mpr ⟨lw_p73, List.forall_mem_cons.mpr ⟨lw_p74, fun _ h => absurd h List.not_mem_nil⟩⟩⟩⟩⟩⟩⟩⟩⟩⟩⟩
def lw_privs : List (MethodName × Nat) := lw_privs_1 ++ (lw_privs_2 ++ (lw_privs_3 ++ (lw_privs_4 ++ (lw_privs_5))))
def lw_tbl : List Cond := k2_sels lw_privs ++ tables_1
theorem lw_privs_ok : ∀ q ∈ lw_privs, lw_okq q := by
  show ∀ q ∈ lw_privs_1 ++ (lw_privs_2 ++ (lw_privs_3 ++ (lw_privs_4 ++ (lw_privs_5)))), lw_okq q
  exact List.forall_mem_append.mpr ⟨lw_r1, List.forall_mem_append.mpr ⟨lw_r2, List.forall_mem_append.mpr ⟨lw_r3, List.forall_mem_append.mpr ⟨lw_r4, lw_r5⟩⟩⟩⟩
end
section
def RX0 : String := "MissedSale$Changes"
def TX0 : u_T := fun k => match k with
  | 0 => ("MissedSale$Changes", "row", "[I", true)
  | 1 => ("MissedSale$Changes", "behind", "I", false)
  | _ => ("MissedSale$Changes", "ahead", "I", false)
def tyX0 : Nat → FieldType := fun k => match k with
  | 0 => .array .int
  | 1 => .int
  | _ => .int
abbrev wsX00 : List Cond := u_ws RX0 TX0 3
theorem nmX0 : ∀ a, a < 3 → ∀ b, b < 3 → a ≠ b → (TX0 a).2.1 ≠ (TX0 b).2.1 := by decide +kernel
theorem tyX0_ok : ∀ k, k < 3 → parseFieldDescriptor (TX0 k).2.2.1 = some (tyX0 k) := by decide +kernel
abbrev cX0_init : ByteArray := prog_2_method_1_code
def yX0_init : MethodName := ⟨RX0, "<init>", "()V"⟩
abbrev cX0_came : ByteArray := prog_2_method_2_code
def yX0_came : MethodName := ⟨RX0, "came", "(IIII)V"⟩
abbrev cX0_unmake : ByteArray := prog_2_method_3_code
def yX0_unmake : MethodName := ⟨RX0, "unmake", "(LMissedSale$House;)I"⟩
abbrev cX0_remake : ByteArray := prog_2_method_4_code
def yX0_remake : MethodName := ⟨RX0, "remake", "(LMissedSale$House;)I"⟩
def RX1 : String := "MissedSale$Dealing"
def TX1 : u_T := fun k => match k with
  | 0 => ("MissedSale$Dealing", "best", "[J", true)
  | 1 => ("MissedSale$Dealing", "worth", "[J", true)
  | _ => ("MissedSale$Dealing", "answer", "J", false)
def tyX1 : Nat → FieldType := fun k => match k with
  | 0 => .array .long
  | 1 => .array .long
  | _ => .long
abbrev wsX10 : List Cond := u_ws RX1 TX1 3
theorem nmX1 : ∀ a, a < 3 → ∀ b, b < 3 → a ≠ b → (TX1 a).2.1 ≠ (TX1 b).2.1 := by decide +kernel
theorem tyX1_ok : ∀ k, k < 3 → parseFieldDescriptor (TX1 k).2.2.1 = some (tyX1 k) := by decide +kernel
abbrev cX1_init : ByteArray := prog_3_method_1_code
def yX1_init : MethodName := ⟨RX1, "<init>", "()V"⟩
abbrev cX1_deals : ByteArray := prog_3_method_2_code
def yX1_deals : MethodName := ⟨RX1, "deals", "(LMissedSale$Thought;)V"⟩
abbrev cX1_weigh : ByteArray := prog_3_method_3_code
def yX1_weigh : MethodName := ⟨RX1, "weigh", "(LMissedSale$Thought;I)V"⟩
abbrev cX1_bestOf : ByteArray := prog_3_method_4_code
def yX1_bestOf : MethodName := ⟨RX1, "bestOf", "(I)J"⟩
abbrev cX1_total : ByteArray := prog_3_method_5_code
def yX1_total : MethodName := ⟨RX1, "total", "()I"⟩
abbrev cX1_share : ByteArray := prog_3_method_6_code
def yX1_share : MethodName := ⟨RX1, "share", "(I)I"⟩
def RX2 : String := "MissedSale$House"
def TX2 : u_T := fun k => match k with
  | 0 => ("MissedSale$House", "thingRow", "[I", true)
  | 1 => ("MissedSale$House", "bidderRow", "[I", true)
  | 2 => ("MissedSale$House", "things", "I", false)
  | _ => ("MissedSale$House", "bidders", "I", false)
def tyX2 : Nat → FieldType := fun k => match k with
  | 0 => .array .int
  | 1 => .array .int
  | 2 => .int
  | _ => .int
abbrev wsX20 : List Cond := u_ws RX2 TX2 4
theorem nmX2 : ∀ a, a < 4 → ∀ b, b < 4 → a ≠ b → (TX2 a).2.1 ≠ (TX2 b).2.1 := by decide +kernel
theorem tyX2_ok : ∀ k, k < 4 → parseFieldDescriptor (TX2 k).2.2.1 = some (tyX2 k) := by decide +kernel
abbrev cX2_init : ByteArray := prog_4_method_1_code
def yX2_init : MethodName := ⟨RX2, "<init>", "()V"⟩
abbrev cX2_hasThing : ByteArray := prog_4_method_2_code
def yX2_hasThing : MethodName := ⟨RX2, "hasThing", "(I)Z"⟩
abbrev cX2_hasBidder : ByteArray := prog_4_method_3_code
def yX2_hasBidder : MethodName := ⟨RX2, "hasBidder", "(I)Z"⟩
abbrev cX2_has : ByteArray := prog_4_method_4_code
def yX2_has : MethodName := ⟨RX2, "has", "(II)Z"⟩
abbrev cX2_number : ByteArray := prog_4_method_5_code
def yX2_number : MethodName := ⟨RX2, "number", "(II)I"⟩
abbrev cX2_become : ByteArray := prog_4_method_6_code
def yX2_become : MethodName := ⟨RX2, "become", "(III)V"⟩
abbrev cX2_addThing : ByteArray := prog_4_method_7_code
def yX2_addThing : MethodName := ⟨RX2, "addThing", "(I)I"⟩
abbrev cX2_addBidder : ByteArray := prog_4_method_8_code
def yX2_addBidder : MethodName := ⟨RX2, "addBidder", "(III)I"⟩
abbrev cX2_copies : ByteArray := prog_4_method_9_code
def yX2_copies : MethodName := ⟨RX2, "copies", "(LMissedSale$House;)V"⟩
abbrev cX2_yearPasses : ByteArray := prog_4_method_10_code
def yX2_yearPasses : MethodName := ⟨RX2, "yearPasses", "()V"⟩
abbrev cX2_missedBits : ByteArray := prog_4_method_11_code
def yX2_missedBits : MethodName := ⟨RX2, "missedBits", "()I"⟩
abbrev cX2_missedLongest : ByteArray := prog_4_method_12_code
def yX2_missedLongest : MethodName := ⟨RX2, "missedLongest", "()I"⟩
def RX3 : String := "MissedSale$Image"
def TX3 : u_T := fun k => match k with
  | 0 => ("MissedSale$Image", "was", "LMissedSale$House;", true)
  | 1 => ("MissedSale$Image", "led", "[I", true)
  | _ => ("MissedSale$Image", "isThere", "Z", false)
def tyX3 : Nat → FieldType := fun k => match k with
  | 0 => .object "MissedSale$House"
  | 1 => .array .int
  | _ => .boolean
abbrev wsX30 : List Cond := u_ws RX3 TX3 3
theorem nmX3 : ∀ a, a < 3 → ∀ b, b < 3 → a ≠ b → (TX3 a).2.1 ≠ (TX3 b).2.1 := by decide +kernel
theorem tyX3_ok : ∀ k, k < 3 → parseFieldDescriptor (TX3 k).2.2.1 = some (tyX3 k) := by decide +kernel
abbrev cX3_init : ByteArray := prog_5_method_1_code
def yX3_init : MethodName := ⟨RX3, "<init>", "()V"⟩
abbrev cX3_takes : ByteArray := prog_5_method_2_code
def yX3_takes : MethodName := ⟨RX3, "takes", "(LMissedSale$House;[I)V"⟩
abbrev cX3_laysBack : ByteArray := prog_5_method_3_code
def yX3_laysBack : MethodName := ⟨RX3, "laysBack", "(LMissedSale$House;[I)V"⟩
def RX4 : String := "MissedSale$Law"
def TX4 : u_T := fun k => match k with
  | 0 => ("MissedSale$Law", "tape", "[I", true)
  | 1 => ("MissedSale$Law", "names", "[I", true)
  | 2 => ("MissedSale$Law", "stack", "[I", true)
  | 3 => ("MissedSale$Law", "steps", "[I", false)
  | 4 => ("MissedSale$Law", "draft", "[I", false)
  | 5 => ("MissedSale$Law", "fed", "I", false)
  | 6 => ("MissedSale$Law", "place", "I", false)
  | 7 => ("MissedSale$Law", "drafted", "I", false)
  | 8 => ("MissedSale$Law", "length", "I", false)
  | _ => ("MissedSale$Law", "isTold", "Z", false)
def tyX4 : Nat → FieldType := fun k => match k with
  | 0 => .array .int
  | 1 => .array .int
  | 2 => .array .int
  | 3 => .array .int
  | 4 => .array .int
  | 5 => .int
  | 6 => .int
  | 7 => .int
  | 8 => .int
  | _ => .boolean
abbrev wsX40 : List Cond := u_ws RX4 TX4 10
theorem nmX4 : ∀ a, a < 10 → ∀ b, b < 10 → a ≠ b → (TX4 a).2.1 ≠ (TX4 b).2.1 := by decide +kernel
theorem tyX4_ok : ∀ k, k < 10 → parseFieldDescriptor (TX4 k).2.2.1 = some (tyX4 k) := by decide +kernel
abbrev cX4_init : ByteArray := prog_6_method_1_code
def yX4_init : MethodName := ⟨RX4, "<init>", "()V"⟩
abbrev cX4_isTapeFull : ByteArray := prog_6_method_2_code
def yX4_isTapeFull : MethodName := ⟨RX4, "isTapeFull", "()Z"⟩
abbrev cX4_comes : ByteArray := prog_6_method_3_code
def yX4_comes : MethodName := ⟨RX4, "comes", "(I)I"⟩
abbrev cX4_fromTape : ByteArray := prog_6_method_4_code
def yX4_fromTape : MethodName := ⟨RX4, "fromTape", "()I"⟩
abbrev cX4_readLines : ByteArray := prog_6_method_5_code
def yX4_readLines : MethodName := ⟨RX4, "readLines", "()Z"⟩
abbrev cX4_readLine : ByteArray := prog_6_method_6_code
def yX4_readLine : MethodName := ⟨RX4, "readLine", "()Z"⟩
abbrev cX4_readRank : ByteArray := prog_6_method_7_code
def yX4_readRank : MethodName := ⟨RX4, "readRank", "(II)Z"⟩
abbrev cX4_readOperand : ByteArray := prog_6_method_8_code
def yX4_readOperand : MethodName := ⟨RX4, "readOperand", "(I)Z"⟩
abbrev cX4_readNumber : ByteArray := prog_6_method_9_code
def yX4_readNumber : MethodName := ⟨RX4, "readNumber", "()Z"⟩
abbrev cX4_isDigit : ByteArray := prog_6_method_10_code
def yX4_isDigit : MethodName := ⟨RX4, "isDigit", "(I)Z"⟩
abbrev cX4_rankOf : ByteArray := prog_6_method_11_code
def yX4_rankOf : MethodName := ⟨RX4, "rankOf", "(I)I"⟩
abbrev cX4_next : ByteArray := prog_6_method_12_code
def yX4_next : MethodName := ⟨RX4, "next", "()I"⟩
abbrev cX4_takes : ByteArray := prog_6_method_13_code
def yX4_takes : MethodName := ⟨RX4, "takes", "(I)Z"⟩
abbrev cX4_emit : ByteArray := prog_6_method_14_code
def yX4_emit : MethodName := ⟨RX4, "emit", "(I)V"⟩
abbrev cX4_gives : ByteArray := prog_6_method_15_code
def yX4_gives : MethodName := ⟨RX4, "gives", "(IIIIII)I"⟩
abbrev cX4_worked : ByteArray := prog_6_method_16_code
def yX4_worked : MethodName := ⟨RX4, "worked", "(III)I"⟩
def RX5 : String := "MissedSale$Lots"
def TX5 : u_T := fun k => match k with
  | 0 => ("MissedSale$Lots", "kinds", "[I", true)
  | 1 => ("MissedSale$Lots", "trace", "[I", true)
  | 2 => ("MissedSale$Lots", "kept", "I", false)
  | 3 => ("MissedSale$Lots", "ran", "I", false)
  | _ => ("MissedSale$Lots", "self", "I", false)
def tyX5 : Nat → FieldType := fun k => match k with
  | 0 => .array .int
  | 1 => .array .int
  | 2 => .int
  | 3 => .int
  | _ => .int
abbrev wsX50 : List Cond := u_ws RX5 TX5 5
theorem nmX5 : ∀ a, a < 5 → ∀ b, b < 5 → a ≠ b → (TX5 a).2.1 ≠ (TX5 b).2.1 := by decide +kernel
theorem tyX5_ok : ∀ k, k < 5 → parseFieldDescriptor (TX5 k).2.2.1 = some (tyX5 k) := by decide +kernel
abbrev cX5_init : ByteArray := prog_7_method_1_code
def yX5_init : MethodName := ⟨RX5, "<init>", "()V"⟩
abbrev cX5_isFull : ByteArray := prog_7_method_2_code
def yX5_isFull : MethodName := ⟨RX5, "isFull", "()Z"⟩
abbrev cX5_has : ByteArray := prog_7_method_3_code
def yX5_has : MethodName := ⟨RX5, "has", "(I)Z"⟩
abbrev cX5_add : ByteArray := prog_7_method_4_code
def yX5_add : MethodName := ⟨RX5, "add", "(I)I"⟩
abbrev cX5_kindOf : ByteArray := prog_7_method_5_code
def yX5_kindOf : MethodName := ⟨RX5, "kindOf", "(I)I"⟩
abbrev cX5_isUnder : ByteArray := prog_7_method_6_code
def yX5_isUnder : MethodName := ⟨RX5, "isUnder", "(II)Z"⟩
abbrev cX5_traced : ByteArray := prog_7_method_7_code
def yX5_traced : MethodName := ⟨RX5, "traced", "(I)I"⟩
abbrev cX5_acts : ByteArray := prog_7_method_8_code
def yX5_acts : MethodName := ⟨RX5, "acts", "(III)I"⟩
abbrev cX5_runs : ByteArray := prog_7_method_9_code
def yX5_runs : MethodName := ⟨RX5, "runs", "(IIII)I"⟩
abbrev cX5_own : ByteArray := prog_7_method_10_code
def yX5_own : MethodName := ⟨RX5, "own", "(III)I"⟩
abbrev cX5_runBody : ByteArray := prog_7_method_11_code
def yX5_runBody : MethodName := ⟨RX5, "runBody", "(IIII)I"⟩
def RX6 : String := "MissedSale$Shelf"
def TX6 : u_T := fun k => match k with
  | 0 => ("MissedSale$Shelf", "row", "[J", true)
  | 1 => ("MissedSale$Shelf", "holds", "I", false)
  | 2 => ("MissedSale$Shelf", "lot", "I", false)
  | 3 => ("MissedSale$Shelf", "sort", "I", false)
  | _ => ("MissedSale$Shelf", "length", "I", false)
def tyX6 : Nat → FieldType := fun k => match k with
  | 0 => .array .long
  | 1 => .int
  | 2 => .int
  | 3 => .int
  | _ => .int
abbrev wsX60 : List Cond := u_ws RX6 TX6 5
theorem nmX6 : ∀ a, a < 5 → ∀ b, b < 5 → a ≠ b → (TX6 a).2.1 ≠ (TX6 b).2.1 := by decide +kernel
theorem tyX6_ok : ∀ k, k < 5 → parseFieldDescriptor (TX6 k).2.2.1 = some (tyX6 k) := by decide +kernel
abbrev cX6_init : ByteArray := prog_8_method_1_code
def yX6_init : MethodName := ⟨RX6, "<init>", "()V"⟩
abbrev cX6_holdNothing : ByteArray := prog_8_method_2_code
def yX6_holdNothing : MethodName := ⟨RX6, "holdNothing", "()V"⟩
abbrev cX6_holdLot : ByteArray := prog_8_method_3_code
def yX6_holdLot : MethodName := ⟨RX6, "holdLot", "(I)V"⟩
abbrev cX6_holdRow : ByteArray := prog_8_method_4_code
def yX6_holdRow : MethodName := ⟨RX6, "holdRow", "(II)V"⟩
abbrev cX6_holdsBytes : ByteArray := prog_8_method_5_code
def yX6_holdsBytes : MethodName := ⟨RX6, "holdsBytes", "()Z"⟩
abbrev cX6_refusesBytes : ByteArray := prog_8_method_6_code
def yX6_refusesBytes : MethodName := ⟨RX6, "refusesBytes", "()I"⟩
abbrev cX6_hasRun : ByteArray := prog_8_method_7_code
def yX6_hasRun : MethodName := ⟨RX6, "hasRun", "(II)Z"⟩
abbrev cX6_at : ByteArray := prog_8_method_8_code
def yX6_at : MethodName := ⟨RX6, "at", "(I)J"⟩
abbrev cX6_lay : ByteArray := prog_8_method_9_code
def yX6_lay : MethodName := ⟨RX6, "lay", "(IJ)V"⟩
abbrev cX6_kept : ByteArray := prog_8_method_10_code
def yX6_kept : MethodName := ⟨RX6, "kept", "(J)J"⟩
def RX7 : String := "MissedSale$Thought"
def TX7 : u_T := fun k => match k with
  | 0 => ("MissedSale$Thought", "house", "LMissedSale$House;", true)
  | 1 => ("MissedSale$Thought", "law", "LMissedSale$Law;", true)
  | 2 => ("MissedSale$Thought", "had", "[I", true)
  | 3 => ("MissedSale$Thought", "mourned", "[I", true)
  | 4 => ("MissedSale$Thought", "known", "[I", true)
  | 5 => ("MissedSale$Thought", "would", "[I", true)
  | 6 => ("MissedSale$Thought", "won", "[I", true)
  | 7 => ("MissedSale$Thought", "listed", "I", false)
  | 8 => ("MissedSale$Thought", "open", "I", false)
  | 9 => ("MissedSale$Thought", "slipped", "I", false)
  | 10 => ("MissedSale$Thought", "sold", "I", false)
  | _ => ("MissedSale$Thought", "pieces", "I", false)
def tyX7 : Nat → FieldType := fun k => match k with
  | 0 => .object "MissedSale$House"
  | 1 => .object "MissedSale$Law"
  | 2 => .array .int
  | 3 => .array .int
  | 4 => .array .int
  | 5 => .array .int
  | 6 => .array .int
  | 7 => .int
  | 8 => .int
  | 9 => .int
  | 10 => .int
  | _ => .int
abbrev wsX70 : List Cond := u_ws RX7 TX7 12
theorem nmX7 : ∀ a, a < 12 → ∀ b, b < 12 → a ≠ b → (TX7 a).2.1 ≠ (TX7 b).2.1 := by decide +kernel
theorem tyX7_ok : ∀ k, k < 12 → parseFieldDescriptor (TX7 k).2.2.1 = some (tyX7 k) := by decide +kernel
abbrev cX7_init : ByteArray := prog_9_method_1_code
def yX7_init : MethodName := ⟨RX7, "<init>", "(LMissedSale$Law;)V"⟩
abbrev cX7_begin : ByteArray := prog_9_method_2_code
def yX7_begin : MethodName := ⟨RX7, "begin", "(LMissedSale$House;)V"⟩
abbrev cX7_restarts : ByteArray := prog_9_method_3_code
def yX7_restarts : MethodName := ⟨RX7, "restarts", "()V"⟩
abbrev cX7_varies : ByteArray := prog_9_method_4_code
def yX7_varies : MethodName := ⟨RX7, "varies", "(III)V"⟩
abbrev cX7_misses : ByteArray := prog_9_method_5_code
def yX7_misses : MethodName := ⟨RX7, "misses", "(III)I"⟩
abbrev cX7_considers : ByteArray := prog_9_method_6_code
def yX7_considers : MethodName := ⟨RX7, "considers", "(I)V"⟩
abbrev cX7_bid : ByteArray := prog_9_method_7_code
def yX7_bid : MethodName := ⟨RX7, "bid", "(I)I"⟩
abbrev cX7_winner : ByteArray := prog_9_method_8_code
def yX7_winner : MethodName := ⟨RX7, "winner", "()I"⟩
abbrev cX7_sellsOne : ByteArray := prog_9_method_9_code
def yX7_sellsOne : MethodName := ⟨RX7, "sellsOne", "(I)I"⟩
abbrev cX7_unsellsOne : ByteArray := prog_9_method_10_code
def yX7_unsellsOne : MethodName := ⟨RX7, "unsellsOne", "(II)V"⟩
abbrev cX7_sellsAll : ByteArray := prog_9_method_11_code
def yX7_sellsAll : MethodName := ⟨RX7, "sellsAll", "(LMissedSale$Shelf;)V"⟩
abbrev cX7_sellsByDraws : ByteArray := prog_9_method_12_code
def yX7_sellsByDraws : MethodName := ⟨RX7, "sellsByDraws", "(LMissedSale$Shelf;II)I"⟩
abbrev cX7_lengthOf : ByteArray := prog_9_method_13_code
def yX7_lengthOf : MethodName := ⟨RX7, "lengthOf", "(LMissedSale$Shelf;)I"⟩
abbrev cX7_firstWrong : ByteArray := prog_9_method_14_code
def yX7_firstWrong : MethodName := ⟨RX7, "firstWrong", "(LMissedSale$Shelf;LMissedSale$Shelf;)I"⟩
abbrev cX7_wouldChange : ByteArray := prog_9_method_15_code
def yX7_wouldChange : MethodName := ⟨RX7, "wouldChange", "(II)Z"⟩
def RX8 : String := "MissedSale$Ways"
def TX8 : u_T := fun k => match k with
  | 0 => ("MissedSale$Ways", "thought", "LMissedSale$Thought;", true)
  | 1 => ("MissedSale$Ways", "order", "[I", true)
  | 2 => ("MissedSale$Ways", "best", "[I", true)
  | 3 => ("MissedSale$Ways", "most", "I", false)
  | 4 => ("MissedSale$Ways", "ordered", "I", false)
  | _ => ("MissedSale$Ways", "firstMove", "I", false)
def tyX8 : Nat → FieldType := fun k => match k with
  | 0 => .object "MissedSale$Thought"
  | 1 => .array .int
  | 2 => .array .int
  | 3 => .int
  | 4 => .int
  | _ => .int
abbrev wsX80 : List Cond := u_ws RX8 TX8 6
theorem nmX8 : ∀ a, a < 6 → ∀ b, b < 6 → a ≠ b → (TX8 a).2.1 ≠ (TX8 b).2.1 := by decide +kernel
theorem tyX8_ok : ∀ k, k < 6 → parseFieldDescriptor (TX8 k).2.2.1 = some (tyX8 k) := by decide +kernel
abbrev cX8_init : ByteArray := prog_10_method_1_code
def yX8_init : MethodName := ⟨RX8, "<init>", "(LMissedSale$Thought;)V"⟩
abbrev cX8_orders : ByteArray := prog_10_method_2_code
def yX8_orders : MethodName := ⟨RX8, "orders", "(II)I"⟩
abbrev cX8_tryOrder : ByteArray := prog_10_method_3_code
def yX8_tryOrder : MethodName := ⟨RX8, "tryOrder", "(III)V"⟩
abbrev cX8_fewestExamined : ByteArray := prog_10_method_4_code
def yX8_fewestExamined : MethodName := ⟨RX8, "fewestExamined", "(I)I"⟩
abbrev cX8_turns : ByteArray := prog_10_method_5_code
def yX8_turns : MethodName := ⟨RX8, "turns", "(III)I"⟩
abbrev cX8_outcome : ByteArray := prog_10_method_6_code
def yX8_outcome : MethodName := ⟨RX8, "outcome", "(III)I"⟩
abbrev cX8_moved : ByteArray := prog_10_method_7_code
def yX8_moved : MethodName := ⟨RX8, "moved", "(IIII)I"⟩
def RX9 : String := "MissedSale"
def TX9 : u_T := fun k => match k with
  | 0 => ("MissedSale", "house", "LMissedSale$House;", true)
  | 1 => ("MissedSale", "law", "LMissedSale$Law;", true)
  | 2 => ("MissedSale", "thought", "LMissedSale$Thought;", true)
  | 3 => ("MissedSale", "ways", "LMissedSale$Ways;", true)
  | 4 => ("MissedSale", "dealing", "LMissedSale$Dealing;", true)
  | 5 => ("MissedSale", "changes", "LMissedSale$Changes;", true)
  | 6 => ("MissedSale", "image", "LMissedSale$Image;", true)
  | 7 => ("MissedSale", "lots", "LMissedSale$Lots;", true)
  | 8 => ("MissedSale", "shelves", "[LMissedSale$Shelf;", true)
  | _ => ("MissedSale", "led", "[I", true)
def tyX9 : Nat → FieldType := fun k => match k with
  | 0 => .object "MissedSale$House"
  | 1 => .object "MissedSale$Law"
  | 2 => .object "MissedSale$Thought"
  | 3 => .object "MissedSale$Ways"
  | 4 => .object "MissedSale$Dealing"
  | 5 => .object "MissedSale$Changes"
  | 6 => .object "MissedSale$Image"
  | 7 => .object "MissedSale$Lots"
  | 8 => .array (.object "MissedSale$Shelf")
  | _ => .array .int
abbrev wsX90 : List Cond := u_ws RX9 TX9 10
theorem nmX9 : ∀ a, a < 10 → ∀ b, b < 10 → a ≠ b → (TX9 a).2.1 ≠ (TX9 b).2.1 := by decide +kernel
theorem tyX9_ok : ∀ k, k < 10 → parseFieldDescriptor (TX9 k).2.2.1 = some (tyX9 k) := by decide +kernel
abbrev cX9_init : ByteArray := prog_1_method_1_code
def yX9_init : MethodName := ⟨RX9, "<init>", "()V"⟩
abbrev cX9_thing : ByteArray := prog_1_method_2_code
def yX9_thing : MethodName := ⟨RX9, "thing", "(I)I"⟩
abbrev cX9_bidder : ByteArray := prog_1_method_3_code
def yX9_bidder : MethodName := ⟨RX9, "bidder", "(II)I"⟩
abbrev cX9_bidders : ByteArray := prog_1_method_4_code
def yX9_bidders : MethodName := ⟨RX9, "bidders", "(III)I"⟩
abbrev cX9_comesFrom : ByteArray := prog_1_method_5_code
def yX9_comesFrom : MethodName := ⟨RX9, "comesFrom", "(LMissedSale$Shelf;I)Z"⟩
abbrev cX9_mend : ByteArray := prog_1_method_6_code
def yX9_mend : MethodName := ⟨RX9, "mend", "(III)I"⟩
abbrev cX9_of : ByteArray := prog_1_method_7_code
def yX9_of : MethodName := ⟨RX9, "of", "(II)I"⟩
abbrev cX9_feed : ByteArray := prog_1_method_8_code
def yX9_feed : MethodName := ⟨RX9, "feed", "(I)I"⟩
abbrev cX9_law : ByteArray := prog_1_method_9_code
def yX9_law : MethodName := ⟨RX9, "law", "()I"⟩
abbrev cX9_years : ByteArray := prog_1_method_10_code
def yX9_years : MethodName := ⟨RX9, "years", "(II)I"⟩
abbrev cX9_wins : ByteArray := prog_1_method_11_code
def yX9_wins : MethodName := ⟨RX9, "wins", "(I)I"⟩
abbrev cX9_sale : ByteArray := prog_1_method_12_code
def yX9_sale : MethodName := ⟨RX9, "sale", "(II)I"⟩
abbrev cX9_after : ByteArray := prog_1_method_13_code
def yX9_after : MethodName := ⟨RX9, "after", "(III)I"⟩
abbrev cX9_bestOrder : ByteArray := prog_1_method_14_code
def yX9_bestOrder : MethodName := ⟨RX9, "bestOrder", "(II)I"⟩
abbrev cX9_feign : ByteArray := prog_1_method_15_code
def yX9_feign : MethodName := ⟨RX9, "feign", "(I)I"⟩
abbrev cX9_examined : ByteArray := prog_1_method_16_code
def yX9_examined : MethodName := ⟨RX9, "examined", "(II)I"⟩
abbrev cX9_dealt : ByteArray := prog_1_method_17_code
def yX9_dealt : MethodName := ⟨RX9, "dealt", "(I)I"⟩
abbrev cX9_hands : ByteArray := prog_1_method_18_code
def yX9_hands : MethodName := ⟨RX9, "hands", "()I"⟩
abbrev cX9_later : ByteArray := prog_1_method_19_code
def yX9_later : MethodName := ⟨RX9, "later", "(III)I"⟩
abbrev cX9_missed : ByteArray := prog_1_method_20_code
def yX9_missed : MethodName := ⟨RX9, "missed", "(I)I"⟩
abbrev cX9_judge : ByteArray := prog_1_method_21_code
def yX9_judge : MethodName := ⟨RX9, "judge", "(I)I"⟩
abbrev cX9_fits : ByteArray := prog_1_method_22_code
def yX9_fits : MethodName := ⟨RX9, "fits", "(III)I"⟩
abbrev cX9_byTurns : ByteArray := prog_1_method_23_code
def yX9_byTurns : MethodName := ⟨RX9, "byTurns", "(IIII)I"⟩
abbrev cX9_drawn : ByteArray := prog_1_method_24_code
def yX9_drawn : MethodName := ⟨RX9, "drawn", "(IIII)I"⟩
abbrev cX9_putUp : ByteArray := prog_1_method_25_code
def yX9_putUp : MethodName := ⟨RX9, "putUp", "(I)I"⟩
abbrev cX9_loses : ByteArray := prog_1_method_26_code
def yX9_loses : MethodName := ⟨RX9, "loses", "(I)I"⟩
abbrev cX9_slip : ByteArray := prog_1_method_27_code
def yX9_slip : MethodName := ⟨RX9, "slip", "(II)I"⟩
abbrev cX9_year : ByteArray := prog_1_method_28_code
def yX9_year : MethodName := ⟨RX9, "year", "()I"⟩
abbrev cX9_led : ByteArray := prog_1_method_29_code
def yX9_led : MethodName := ⟨RX9, "led", "(I)I"⟩
abbrev cX9_image : ByteArray := prog_1_method_30_code
def yX9_image : MethodName := ⟨RX9, "image", "()I"⟩
abbrev cX9_back : ByteArray := prog_1_method_31_code
def yX9_back : MethodName := ⟨RX9, "back", "()I"⟩
abbrev cX9_undo : ByteArray := prog_1_method_32_code
def yX9_undo : MethodName := ⟨RX9, "undo", "()I"⟩
abbrev cX9_redo : ByteArray := prog_1_method_33_code
def yX9_redo : MethodName := ⟨RX9, "redo", "()I"⟩
abbrev cX9_body : ByteArray := prog_1_method_34_code
def yX9_body : MethodName := ⟨RX9, "body", "(I)I"⟩
abbrev cX9_act : ByteArray := prog_1_method_35_code
def yX9_act : MethodName := ⟨RX9, "act", "(III)I"⟩
abbrev cX9_trace : ByteArray := prog_1_method_36_code
def yX9_trace : MethodName := ⟨RX9, "trace", "(I)I"⟩
abbrev cX9_keep : ByteArray := prog_1_method_37_code
def yX9_keep : MethodName := ⟨RX9, "keep", "(II)I"⟩
abbrev cX9_row : ByteArray := prog_1_method_38_code
def yX9_row : MethodName := ⟨RX9, "row", "(III)I"⟩
abbrev cX9_put : ByteArray := prog_1_method_39_code
def yX9_put : MethodName := ⟨RX9, "put", "(IIJ)I"⟩
abbrev cX9_element : ByteArray := prog_1_method_40_code
def yX9_element : MethodName := ⟨RX9, "element", "(II)J"⟩
abbrev cX9_shift : ByteArray := prog_1_method_41_code
def yX9_shift : MethodName := ⟨RX9, "shift", "(IIIII)I"⟩
abbrev cX9_taken : ByteArray := prog_1_method_42_code
def yX9_taken : MethodName := ⟨RX9, "taken", "(II)I"⟩
abbrev cX9_count : ByteArray := prog_1_method_43_code
def yX9_count : MethodName := ⟨RX9, "count", "(I)I"⟩
abbrev cX9_isWithin : ByteArray := prog_1_method_44_code
def yX9_isWithin : MethodName := ⟨RX9, "isWithin", "(II)Z"⟩
abbrev cX9_mayBe : ByteArray := prog_1_method_45_code
def yX9_mayBe : MethodName := ⟨RX9, "mayBe", "(II)Z"⟩
abbrev cX9_isShelf : ByteArray := prog_1_method_46_code
def yX9_isShelf : MethodName := ⟨RX9, "isShelf", "(I)Z"⟩
abbrev cX9_areShelves : ByteArray := prog_1_method_47_code
def yX9_areShelves : MethodName := ⟨RX9, "areShelves", "(I)Z"⟩
abbrev cX9_isPair : ByteArray := prog_1_method_48_code
def yX9_isPair : MethodName := ⟨RX9, "isPair", "(I)Z"⟩
abbrev cX9_refusesBoth : ByteArray := prog_1_method_49_code
def yX9_refusesBoth : MethodName := ⟨RX9, "refusesBoth", "(I)I"⟩
abbrev cX9_refusesElement : ByteArray := prog_1_method_50_code
def yX9_refusesElement : MethodName := ⟨RX9, "refusesElement", "(II)I"⟩
def RX10 : String := "MissedSaleModel"
def TX10 : u_T := fun k => match k with
  | 0 => ("MissedSaleModel", "things", "I", false)
  | 1 => ("MissedSaleModel", "kind", "[I", true)
  | 2 => ("MissedSaleModel", "owner", "[I", true)
  | 3 => ("MissedSaleModel", "lost", "[I", true)
  | 4 => ("MissedSaleModel", "missed", "[I", true)
  | 5 => ("MissedSaleModel", "bidders", "I", false)
  | 6 => ("MissedSaleModel", "ways", "[I", true)
  | 7 => ("MissedSaleModel", "taped", "I", false)
  | 8 => ("MissedSaleModel", "tape", "[I", true)
  | 9 => ("MissedSaleModel", "isTold", "Z", false)
  | 10 => ("MissedSaleModel", "lines", "I", false)
  | 11 => ("MissedSaleModel", "asks", "[I", true)
  | 12 => ("MissedSaleModel", "says", "[I", true)
  | 13 => ("MissedSaleModel", "ends", "[I", true)
  | 14 => ("MissedSaleModel", "code", "[I", true)
  | 15 => ("MissedSaleModel", "at", "I", false)
  | 16 => ("MissedSaleModel", "open", "I", false)
  | 17 => ("MissedSaleModel", "coded", "I", false)
  | 18 => ("MissedSaleModel", "newLines", "I", false)
  | 19 => ("MissedSaleModel", "newAsks", "[I", true)
  | 20 => ("MissedSaleModel", "newSays", "[I", true)
  | 21 => ("MissedSaleModel", "newEnds", "[I", true)
  | 22 => ("MissedSaleModel", "newCode", "[I", true)
  | 23 => ("MissedSaleModel", "stack", "[I", true)
  | 24 => ("MissedSaleModel", "names", "[I", true)
  | 25 => ("MissedSaleModel", "led", "[I", true)
  | 26 => ("MissedSaleModel", "imaged", "Z", false)
  | 27 => ("MissedSaleModel", "oldThings", "I", false)
  | 28 => ("MissedSaleModel", "oldBidders", "I", false)
  | 29 => ("MissedSaleModel", "old", "[I", true)
  | 30 => ("MissedSaleModel", "oldLed", "[I", true)
  | 31 => ("MissedSaleModel", "changes", "I", false)
  | 32 => ("MissedSaleModel", "done", "I", false)
  | 33 => ("MissedSaleModel", "changed", "[I", true)
  | 34 => ("MissedSaleModel", "bodies", "I", false)
  | 35 => ("MissedSaleModel", "bodyKind", "[I", true)
  | 36 => ("MissedSaleModel", "traced", "I", false)
  | 37 => ("MissedSaleModel", "traces", "[I", true)
  | 38 => ("MissedSaleModel", "holding", "[I", true)
  | 39 => ("MissedSaleModel", "rowLength", "[I", true)
  | 40 => ("MissedSaleModel", "rowOf", "[J", true)
  | 41 => ("MissedSaleModel", "was", "[I", true)
  | 42 => ("MissedSaleModel", "tried", "[I", true)
  | 43 => ("MissedSaleModel", "best", "[I", true)
  | _ => ("MissedSaleModel", "most", "I", false)
def tyX10 : Nat → FieldType := fun k => match k with
  | 0 => .int
  | 1 => .array .int
  | 2 => .array .int
  | 3 => .array .int
  | 4 => .array .int
  | 5 => .int
  | 6 => .array .int
  | 7 => .int
  | 8 => .array .int
  | 9 => .boolean
  | 10 => .int
  | 11 => .array .int
  | 12 => .array .int
  | 13 => .array .int
  | 14 => .array .int
  | 15 => .int
  | 16 => .int
  | 17 => .int
  | 18 => .int
  | 19 => .array .int
  | 20 => .array .int
  | 21 => .array .int
  | 22 => .array .int
  | 23 => .array .int
  | 24 => .array .int
  | 25 => .array .int
  | 26 => .boolean
  | 27 => .int
  | 28 => .int
  | 29 => .array .int
  | 30 => .array .int
  | 31 => .int
  | 32 => .int
  | 33 => .array .int
  | 34 => .int
  | 35 => .array .int
  | 36 => .int
  | 37 => .array .int
  | 38 => .array .int
  | 39 => .array .int
  | 40 => .array .long
  | 41 => .array .int
  | 42 => .array .int
  | 43 => .array .int
  | _ => .int
abbrev wsX100 : List Cond := u_ws RX10 TX10 45
theorem nmX10 : ∀ a, a < 45 → ∀ b, b < 45 → a ≠ b → (TX10 a).2.1 ≠ (TX10 b).2.1 := by decide +kernel
theorem tyX10_ok : ∀ k, k < 45 → parseFieldDescriptor (TX10 k).2.2.1 = some (tyX10 k) := by decide +kernel
abbrev cX10_init : ByteArray := prog_12_method_1_code
def yX10_init : MethodName := ⟨RX10, "<init>", "()V"⟩
abbrev cX10_within : ByteArray := prog_12_method_2_code
def yX10_within : MethodName := ⟨RX10, "within", "(III)Z"⟩
abbrev cX10_isThing : ByteArray := prog_12_method_3_code
def yX10_isThing : MethodName := ⟨RX10, "isThing", "(I)Z"⟩
abbrev cX10_isOne : ByteArray := prog_12_method_4_code
def yX10_isOne : MethodName := ⟨RX10, "isOne", "(I)Z"⟩
abbrev cX10_isShelf : ByteArray := prog_12_method_5_code
def yX10_isShelf : MethodName := ⟨RX10, "isShelf", "(I)Z"⟩
abbrev cX10_thing : ByteArray := prog_12_method_6_code
def yX10_thing : MethodName := ⟨RX10, "thing", "(I)I"⟩
abbrev cX10_newOne : ByteArray := prog_12_method_7_code
def yX10_newOne : MethodName := ⟨RX10, "newOne", "(III)I"⟩
abbrev cX10_bidder : ByteArray := prog_12_method_8_code
def yX10_bidder : MethodName := ⟨RX10, "bidder", "(II)I"⟩
abbrev cX10_bidders : ByteArray := prog_12_method_9_code
def yX10_bidders : MethodName := ⟨RX10, "bidders", "(III)I"⟩
abbrev cX10_toldAt : ByteArray := prog_12_method_10_code
def yX10_toldAt : MethodName := ⟨RX10, "toldAt", "(II)I"⟩
abbrev cX10_isOf : ByteArray := prog_12_method_11_code
def yX10_isOf : MethodName := ⟨RX10, "isOf", "(II)Z"⟩
abbrev cX10_isFit : ByteArray := prog_12_method_12_code
def yX10_isFit : MethodName := ⟨RX10, "isFit", "(II)Z"⟩
abbrev cX10_get : ByteArray := prog_12_method_13_code
def yX10_get : MethodName := ⟨RX10, "get", "(II)I"⟩
abbrev cX10_becomes : ByteArray := prog_12_method_14_code
def yX10_becomes : MethodName := ⟨RX10, "becomes", "(III)V"⟩
abbrev cX10_mend : ByteArray := prog_12_method_15_code
def yX10_mend : MethodName := ⟨RX10, "mend", "(III)I"⟩
abbrev cX10_of : ByteArray := prog_12_method_16_code
def yX10_of : MethodName := ⟨RX10, "of", "(II)I"⟩
abbrev cX10_undo : ByteArray := prog_12_method_17_code
def yX10_undo : MethodName := ⟨RX10, "undo", "()I"⟩
abbrev cX10_redo : ByteArray := prog_12_method_18_code
def yX10_redo : MethodName := ⟨RX10, "redo", "()I"⟩
abbrev cX10_feed : ByteArray := prog_12_method_19_code
def yX10_feed : MethodName := ⟨RX10, "feed", "(I)I"⟩
abbrev cX10_sign : ByteArray := prog_12_method_20_code
def yX10_sign : MethodName := ⟨RX10, "sign", "()I"⟩
abbrev cX10_is : ByteArray := prog_12_method_21_code
def yX10_is : MethodName := ⟨RX10, "is", "(I)Z"⟩
abbrev cX10_codes : ByteArray := prog_12_method_22_code
def yX10_codes : MethodName := ⟨RX10, "codes", "(I)Z"⟩
abbrev cX10_isDigit : ByteArray := prog_12_method_23_code
def yX10_isDigit : MethodName := ⟨RX10, "isDigit", "()Z"⟩
abbrev cX10_nameOf : ByteArray := prog_12_method_24_code
def yX10_nameOf : MethodName := ⟨RX10, "nameOf", "(I)I"⟩
abbrev cX10_isO : ByteArray := prog_12_method_25_code
def yX10_isO : MethodName := ⟨RX10, "isO", "()Z"⟩
abbrev cX10_isP : ByteArray := prog_12_method_26_code
def yX10_isP : MethodName := ⟨RX10, "isP", "()Z"⟩
abbrev cX10_isS : ByteArray := prog_12_method_27_code
def yX10_isS : MethodName := ⟨RX10, "isS", "()Z"⟩
abbrev cX10_isB : ByteArray := prog_12_method_28_code
def yX10_isB : MethodName := ⟨RX10, "isB", "()Z"⟩
abbrev cX10_isA : ByteArray := prog_12_method_29_code
def yX10_isA : MethodName := ⟨RX10, "isA", "()Z"⟩
abbrev cX10_isE : ByteArray := prog_12_method_30_code
def yX10_isE : MethodName := ⟨RX10, "isE", "()Z"⟩
abbrev cX10_isLine : ByteArray := prog_12_method_31_code
def yX10_isLine : MethodName := ⟨RX10, "isLine", "()Z"⟩
abbrev cX10_law : ByteArray := prog_12_method_32_code
def yX10_law : MethodName := ⟨RX10, "law", "()I"⟩
abbrev cX10_both : ByteArray := prog_12_method_33_code
def yX10_both : MethodName := ⟨RX10, "both", "(III)I"⟩
abbrev cX10_worked : ByteArray := prog_12_method_34_code
def yX10_worked : MethodName := ⟨RX10, "worked", "(II)I"⟩
abbrev cX10_countOf : ByteArray := prog_12_method_35_code
def yX10_countOf : MethodName := ⟨RX10, "countOf", "(I)I"⟩
abbrev cX10_missing : ByteArray := prog_12_method_36_code
def yX10_missing : MethodName := ⟨RX10, "missing", "(I)I"⟩
abbrev cX10_byLaw : ByteArray := prog_12_method_37_code
def yX10_byLaw : MethodName := ⟨RX10, "byLaw", "()I"⟩
abbrev cX10_yearsOf : ByteArray := prog_12_method_38_code
def yX10_yearsOf : MethodName := ⟨RX10, "yearsOf", "(III)I"⟩
abbrev cX10_wouldMiss : ByteArray := prog_12_method_39_code
def yX10_wouldMiss : MethodName := ⟨RX10, "wouldMiss", "(II)I"⟩
abbrev cX10_bidOf : ByteArray := prog_12_method_40_code
def yX10_bidOf : MethodName := ⟨RX10, "bidOf", "(II)I"⟩
abbrev cX10_years : ByteArray := prog_12_method_41_code
def yX10_years : MethodName := ⟨RX10, "years", "(II)I"⟩
abbrev cX10_winner : ByteArray := prog_12_method_42_code
def yX10_winner : MethodName := ⟨RX10, "winner", "(I)I"⟩
abbrev cX10_wins : ByteArray := prog_12_method_43_code
def yX10_wins : MethodName := ⟨RX10, "wins", "(I)I"⟩
abbrev cX10_isForSale : ByteArray := prog_12_method_44_code
def yX10_isForSale : MethodName := ⟨RX10, "isForSale", "(I)Z"⟩
abbrev cX10_goes : ByteArray := prog_12_method_45_code
def yX10_goes : MethodName := ⟨RX10, "goes", "(I)I"⟩
abbrev cX10_keeps : ByteArray := prog_12_method_46_code
def yX10_keeps : MethodName := ⟨RX10, "keeps", "([I)V"⟩
abbrev cX10_laysBack : ByteArray := prog_12_method_47_code
def yX10_laysBack : MethodName := ⟨RX10, "laysBack", "([III)V"⟩
abbrev cX10_laysBack_ : ByteArray := prog_12_method_48_code
def yX10_laysBack_ : MethodName := ⟨RX10, "laysBack", "()V"⟩
abbrev cX10_noBytes : ByteArray := prog_12_method_49_code
def yX10_noBytes : MethodName := ⟨RX10, "noBytes", "(I)I"⟩
abbrev cX10_listed : ByteArray := prog_12_method_50_code
def yX10_listed : MethodName := ⟨RX10, "listed", "(I)I"⟩
abbrev cX10_sale : ByteArray := prog_12_method_51_code
def yX10_sale : MethodName := ⟨RX10, "sale", "(II)I"⟩
abbrev cX10_after : ByteArray := prog_12_method_52_code
def yX10_after : MethodName := ⟨RX10, "after", "(III)I"⟩
abbrev cX10_orders : ByteArray := prog_12_method_53_code
def yX10_orders : MethodName := ⟨RX10, "orders", "(III)V"⟩
abbrev cX10_forSale : ByteArray := prog_12_method_54_code
def yX10_forSale : MethodName := ⟨RX10, "forSale", "()I"⟩
abbrev cX10_bestOrder : ByteArray := prog_12_method_55_code
def yX10_bestOrder : MethodName := ⟨RX10, "bestOrder", "(II)I"⟩
abbrev cX10_feign : ByteArray := prog_12_method_56_code
def yX10_feign : MethodName := ⟨RX10, "feign", "(I)I"⟩
abbrev cX10_examined : ByteArray := prog_12_method_57_code
def yX10_examined : MethodName := ⟨RX10, "examined", "(II)I"⟩
abbrev cX10_deals : ByteArray := prog_12_method_58_code
def yX10_deals : MethodName := ⟨RX10, "deals", "(III)V"⟩
abbrev cX10_dealt : ByteArray := prog_12_method_59_code
def yX10_dealt : MethodName := ⟨RX10, "dealt", "(I)I"⟩
abbrev cX10_wouldChange : ByteArray := prog_12_method_60_code
def yX10_wouldChange : MethodName := ⟨RX10, "wouldChange", "(III)Z"⟩
abbrev cX10_hands : ByteArray := prog_12_method_61_code
def yX10_hands : MethodName := ⟨RX10, "hands", "()I"⟩
abbrev cX10_less : ByteArray := prog_12_method_62_code
def yX10_less : MethodName := ⟨RX10, "less", "(I)I"⟩
abbrev cX10_passes : ByteArray := prog_12_method_63_code
def yX10_passes : MethodName := ⟨RX10, "passes", "()V"⟩
abbrev cX10_missedNow : ByteArray := prog_12_method_64_code
def yX10_missedNow : MethodName := ⟨RX10, "missedNow", "()I"⟩
abbrev cX10_later : ByteArray := prog_12_method_65_code
def yX10_later : MethodName := ⟨RX10, "later", "(III)I"⟩
abbrev cX10_quiet : ByteArray := prog_12_method_66_code
def yX10_quiet : MethodName := ⟨RX10, "quiet", "()I"⟩
abbrev cX10_longest : ByteArray := prog_12_method_67_code
def yX10_longest : MethodName := ⟨RX10, "longest", "()I"⟩
abbrev cX10_missed : ByteArray := prog_12_method_68_code
def yX10_missed : MethodName := ⟨RX10, "missed", "(I)I"⟩
abbrev cX10_noBook : ByteArray := prog_12_method_69_code
def yX10_noBook : MethodName := ⟨RX10, "noBook", "(I)I"⟩
abbrev cX10_unlike : ByteArray := prog_12_method_70_code
def yX10_unlike : MethodName := ⟨RX10, "unlike", "(I)I"⟩
abbrev cX10_judge : ByteArray := prog_12_method_71_code
def yX10_judge : MethodName := ⟨RX10, "judge", "(I)I"⟩
abbrev cX10_fits : ByteArray := prog_12_method_72_code
def yX10_fits : MethodName := ⟨RX10, "fits", "(III)I"⟩
abbrev cX10_turnFrom : ByteArray := prog_12_method_73_code
def yX10_turnFrom : MethodName := ⟨RX10, "turnFrom", "(IIII)I"⟩
abbrev cX10_turnBy : ByteArray := prog_12_method_74_code
def yX10_turnBy : MethodName := ⟨RX10, "turnBy", "(IIIII)I"⟩
abbrev cX10_byTurns : ByteArray := prog_12_method_75_code
def yX10_byTurns : MethodName := ⟨RX10, "byTurns", "(IIII)I"⟩
abbrev cX10_drawn : ByteArray := prog_12_method_76_code
def yX10_drawn : MethodName := ⟨RX10, "drawn", "(IIII)I"⟩
abbrev cX10_putUp : ByteArray := prog_12_method_77_code
def yX10_putUp : MethodName := ⟨RX10, "putUp", "(I)I"⟩
abbrev cX10_loses : ByteArray := prog_12_method_78_code
def yX10_loses : MethodName := ⟨RX10, "loses", "(I)I"⟩
abbrev cX10_slip : ByteArray := prog_12_method_79_code
def yX10_slip : MethodName := ⟨RX10, "slip", "(II)I"⟩
abbrev cX10_year : ByteArray := prog_12_method_80_code
def yX10_year : MethodName := ⟨RX10, "year", "()I"⟩
abbrev cX10_led : ByteArray := prog_12_method_81_code
def yX10_led : MethodName := ⟨RX10, "led", "(I)I"⟩
abbrev cX10_image : ByteArray := prog_12_method_82_code
def yX10_image : MethodName := ⟨RX10, "image", "()I"⟩
abbrev cX10_back : ByteArray := prog_12_method_83_code
def yX10_back : MethodName := ⟨RX10, "back", "()I"⟩
abbrev cX10_above : ByteArray := prog_12_method_84_code
def yX10_above : MethodName := ⟨RX10, "above", "(I)I"⟩
abbrev cX10_ran : ByteArray := prog_12_method_85_code
def yX10_ran : MethodName := ⟨RX10, "ran", "(I)V"⟩
abbrev cX10_bidsBy : ByteArray := prog_12_method_86_code
def yX10_bidsBy : MethodName := ⟨RX10, "bidsBy", "(III)I"⟩
abbrev cX10_missesBy : ByteArray := prog_12_method_87_code
def yX10_missesBy : MethodName := ⟨RX10, "missesBy", "(III)I"⟩
abbrev cX10_losesBy : ByteArray := prog_12_method_88_code
def yX10_losesBy : MethodName := ⟨RX10, "losesBy", "(III)I"⟩
abbrev cX10_tells : ByteArray := prog_12_method_89_code
def yX10_tells : MethodName := ⟨RX10, "tells", "(III)I"⟩
abbrev cX10_body : ByteArray := prog_12_method_90_code
def yX10_body : MethodName := ⟨RX10, "body", "(I)I"⟩
abbrev cX10_act : ByteArray := prog_12_method_91_code
def yX10_act : MethodName := ⟨RX10, "act", "(III)I"⟩
abbrev cX10_trace : ByteArray := prog_12_method_92_code
def yX10_trace : MethodName := ⟨RX10, "trace", "(I)I"⟩
abbrev cX10_keep : ByteArray := prog_12_method_93_code
def yX10_keep : MethodName := ⟨RX10, "keep", "(II)I"⟩
abbrev cX10_row : ByteArray := prog_12_method_94_code
def yX10_row : MethodName := ⟨RX10, "row", "(III)I"⟩
abbrev cX10_isRow : ByteArray := prog_12_method_95_code
def yX10_isRow : MethodName := ⟨RX10, "isRow", "(I)Z"⟩
abbrev cX10_kept : ByteArray := prog_12_method_96_code
def yX10_kept : MethodName := ⟨RX10, "kept", "(IJ)J"⟩
abbrev cX10_put : ByteArray := prog_12_method_97_code
def yX10_put : MethodName := ⟨RX10, "put", "(IIJ)I"⟩
abbrev cX10_element : ByteArray := prog_12_method_98_code
def yX10_element : MethodName := ⟨RX10, "element", "(II)J"⟩
abbrev cX10_shift : ByteArray := prog_12_method_99_code
def yX10_shift : MethodName := ⟨RX10, "shift", "(IIIII)I"⟩
abbrev cX10_taken : ByteArray := prog_12_method_100_code
def yX10_taken : MethodName := ⟨RX10, "taken", "(II)I"⟩
abbrev cX10_count : ByteArray := prog_12_method_101_code
def yX10_count : MethodName := ⟨RX10, "count", "(I)I"⟩
def RJx145de : String := "java/io/Serializable"
def TJx145de : u_T := fun k => match k with
  | _ => ("", "", "", false)
def tyJx145de : Nat → FieldType := fun k => match k with
  | _ => .int
abbrev wsJx145de0 : List Cond := u_ws RJx145de TJx145de 0
theorem nmJx145de : ∀ a, a < 0 → ∀ b, b < 0 → a ≠ b → (TJx145de a).2.1 ≠ (TJx145de b).2.1 := by decide +kernel
theorem tyJx145de_ok : ∀ k, k < 0 → parseFieldDescriptor (TJx145de k).2.2.1 = some (tyJx145de k) := by decide +kernel
def RJx9f9b0 : String := "java/lang/CharSequence"
def TJx9f9b0 : u_T := fun k => match k with
  | _ => ("", "", "", false)
def tyJx9f9b0 : Nat → FieldType := fun k => match k with
  | _ => .int
abbrev wsJx9f9b00 : List Cond := u_ws RJx9f9b0 TJx9f9b0 0
theorem nmJx9f9b0 : ∀ a, a < 0 → ∀ b, b < 0 → a ≠ b → (TJx9f9b0 a).2.1 ≠ (TJx9f9b0 b).2.1 := by decide +kernel
theorem tyJx9f9b0_ok : ∀ k, k < 0 → parseFieldDescriptor (TJx9f9b0 k).2.2.1 = some (tyJx9f9b0 k) := by decide +kernel
def RJ11 : String := "java/lang/Character"
def TJ11 : u_T := fun k => match k with
  | _ => ("", "", "", false)
def tyJ11 : Nat → FieldType := fun k => match k with
  | _ => .int
abbrev wsJ110 : List Cond := u_ws RJ11 TJ11 0
theorem nmJ11 : ∀ a, a < 0 → ∀ b, b < 0 → a ≠ b → (TJ11 a).2.1 ≠ (TJ11 b).2.1 := by decide +kernel
theorem tyJ11_ok : ∀ k, k < 0 → parseFieldDescriptor (TJ11 k).2.2.1 = some (tyJ11 k) := by decide +kernel
abbrev cJ11_isValidCodePoint_9a6ad : ByteArray := prog_13_method_11_code
def yJ11_isValidCodePoint_9a6ad : MethodName := ⟨RJ11, "isValidCodePoint", "(I)Z"⟩
abbrev cJ11_highSurrogate_5068e : ByteArray := prog_13_method_28_code
def yJ11_highSurrogate_5068e : MethodName := ⟨RJ11, "highSurrogate", "(I)C"⟩
abbrev cJ11_lowSurrogate_5068e : ByteArray := prog_13_method_29_code
def yJ11_lowSurrogate_5068e : MethodName := ⟨RJ11, "lowSurrogate", "(I)C"⟩
def RJxb160c : String := "java/lang/Comparable"
def TJxb160c : u_T := fun k => match k with
  | _ => ("", "", "", false)
def tyJxb160c : Nat → FieldType := fun k => match k with
  | _ => .int
abbrev wsJxb160c0 : List Cond := u_ws RJxb160c TJxb160c 0
theorem nmJxb160c : ∀ a, a < 0 → ∀ b, b < 0 → a ≠ b → (TJxb160c a).2.1 ≠ (TJxb160c b).2.1 := by decide +kernel
theorem tyJxb160c_ok : ∀ k, k < 0 → parseFieldDescriptor (TJxb160c k).2.2.1 = some (tyJxb160c k) := by decide +kernel
def RJ6 : String := "java/lang/Integer"
def TJ6 : u_T := fun k => match k with
  | _ => ("", "", "", false)
def tyJ6 : Nat → FieldType := fun k => match k with
  | _ => .int
abbrev wsJ60 : List Cond := u_ws RJ6 TJ6 0
theorem nmJ6 : ∀ a, a < 0 → ∀ b, b < 0 → a ≠ b → (TJ6 a).2.1 ≠ (TJ6 b).2.1 := by decide +kernel
theorem tyJ6_ok : ∀ k, k < 0 → parseFieldDescriptor (TJ6 k).2.2.1 = some (tyJ6 k) := by decide +kernel
abbrev cJ6_bitCount_0f7a4 : ByteArray := prog_14_method_49_code
def yJ6_bitCount_0f7a4 : MethodName := ⟨RJ6, "bitCount", "(I)I"⟩
def RJ9 : String := "java/lang/Math"
def TJ9 : u_T := fun k => match k with
  | _ => ("", "", "", false)
def tyJ9 : Nat → FieldType := fun k => match k with
  | _ => .int
abbrev wsJ90 : List Cond := u_ws RJ9 TJ9 0
theorem nmJ9 : ∀ a, a < 0 → ∀ b, b < 0 → a ≠ b → (TJ9 a).2.1 ≠ (TJ9 b).2.1 := by decide +kernel
theorem tyJ9_ok : ∀ k, k < 0 → parseFieldDescriptor (TJ9 k).2.2.1 = some (tyJ9 k) := by decide +kernel
abbrev cJ9_max_7cf53 : ByteArray := prog_15_method_65_code
def yJ9_max_7cf53 : MethodName := ⟨RJ9, "max", "(II)I"⟩
abbrev cJ9_max_f86c9 : ByteArray := prog_15_method_66_code
def yJ9_max_f86c9 : MethodName := ⟨RJ9, "max", "(JJ)J"⟩
abbrev cJ9_min_7cf53 : ByteArray := prog_15_method_69_code
def yJ9_min_7cf53 : MethodName := ⟨RJ9, "min", "(II)I"⟩
def RJ0 : String := "java/lang/String"
def TJ0 : u_T := fun k => match k with
  | _ => ("", "", "", false)
def tyJ0 : Nat → FieldType := fun k => match k with
  | _ => .int
abbrev wsJ00 : List Cond := u_ws RJ0 TJ0 0
theorem nmJ0 : ∀ a, a < 0 → ∀ b, b < 0 → a ≠ b → (TJ0 a).2.1 ≠ (TJ0 b).2.1 := by decide +kernel
theorem tyJ0_ok : ∀ k, k < 0 → parseFieldDescriptor (TJ0 k).2.2.1 = some (tyJ0 k) := by decide +kernel
abbrev cJ0_length_8abf5 : ByteArray := prog_16_method_54_code
def yJ0_length_8abf5 : MethodName := ⟨RJ0, "length", "()I"⟩
abbrev cJ0_indexOf_0f7a4 : ByteArray := prog_16_method_79_code
def yJ0_indexOf_0f7a4 : MethodName := ⟨RJ0, "indexOf", "(I)I"⟩
abbrev cJ0_indexOf_7cf53 : ByteArray := prog_16_method_80_code
def yJ0_indexOf_7cf53 : MethodName := ⟨RJ0, "indexOf", "(II)I"⟩
abbrev cJ0_coder_7d493 : ByteArray := prog_16_method_152_code
def yJ0_coder_7d493 : MethodName := ⟨RJ0, "coder", "()B"⟩
abbrev cJ0_isLatin1_aae02 : ByteArray := prog_16_method_154_code
def yJ0_isLatin1_aae02 : MethodName := ⟨RJ0, "isLatin1", "()Z"⟩
abbrev cJ0_checkBoundsBeginEnd_23922 : ByteArray := prog_16_method_158_code
def yJ0_checkBoundsBeginEnd_23922 : MethodName := ⟨RJ0, "checkBoundsBeginEnd", "(III)V"⟩
def RJ1 : String := "java/lang/StringLatin1"
def TJ1 : u_T := fun k => match k with
  | _ => ("", "", "", false)
def tyJ1 : Nat → FieldType := fun k => match k with
  | _ => .int
abbrev wsJ10 : List Cond := u_ws RJ1 TJ1 0
theorem nmJ1 : ∀ a, a < 0 → ∀ b, b < 0 → a ≠ b → (TJ1 a).2.1 ≠ (TJ1 b).2.1 := by decide +kernel
theorem tyJ1_ok : ∀ k, k < 0 → parseFieldDescriptor (TJ1 k).2.2.1 = some (tyJ1 k) := by decide +kernel
abbrev cJ1_canEncode_9a6ad : ByteArray := prog_17_method_4_code
def yJ1_canEncode_9a6ad : MethodName := ⟨RJ1, "canEncode", "(I)Z"⟩
abbrev cJ1_indexOf_4cfef : ByteArray := prog_17_method_22_code
def yJ1_indexOf_4cfef : MethodName := ⟨RJ1, "indexOf", "([BIII)I"⟩
abbrev cJ1_indexOfChar_4cfef : ByteArray := prog_17_method_23_code
def yJ1_indexOfChar_4cfef : MethodName := ⟨RJ1, "indexOfChar", "([BIII)I"⟩
def RJ2 : String := "java/lang/StringUTF16"
def TJ2 : u_T := fun k => match k with
  | _ => ("", "", "", false)
def tyJ2 : Nat → FieldType := fun k => match k with
  | _ => .int
abbrev wsJ20 : List Cond := u_ws RJ2 TJ2 0
theorem nmJ2 : ∀ a, a < 0 → ∀ b, b < 0 → a ≠ b → (TJ2 a).2.1 ≠ (TJ2 b).2.1 := by decide +kernel
theorem tyJ2_ok : ∀ k, k < 0 → parseFieldDescriptor (TJ2 k).2.2.1 = some (tyJ2 k) := by decide +kernel
abbrev cJ2_getChar_3b067 : ByteArray := prog_18_method_5_code
def yJ2_getChar_3b067 : MethodName := ⟨RJ2, "getChar", "([BI)C"⟩
abbrev cJ2_length_9d52b : ByteArray := prog_18_method_6_code
def yJ2_length_9d52b : MethodName := ⟨RJ2, "length", "([B)I"⟩
abbrev cJ2_indexOf_4cfef : ByteArray := prog_18_method_40_code
def yJ2_indexOf_4cfef : MethodName := ⟨RJ2, "indexOf", "([BIII)I"⟩
abbrev cJ2_indexOfChar_4cfef : ByteArray := prog_18_method_47_code
def yJ2_indexOfChar_4cfef : MethodName := ⟨RJ2, "indexOfChar", "([BIII)I"⟩
abbrev cJ2_indexOfCharUnsafe_4cfef : ByteArray := prog_18_method_48_code
def yJ2_indexOfCharUnsafe_4cfef : MethodName := ⟨RJ2, "indexOfCharUnsafe", "([BIII)I"⟩
abbrev cJ2_indexOfSupplementary_4cfef : ByteArray := prog_18_method_49_code
def yJ2_indexOfSupplementary_4cfef : MethodName := ⟨RJ2, "indexOfSupplementary", "([BIII)I"⟩
abbrev cJ2_checkBoundsBeginEnd_d044e : ByteArray := prog_18_method_93_code
def yJ2_checkBoundsBeginEnd_d044e : MethodName := ⟨RJ2, "checkBoundsBeginEnd", "(II[B)V"⟩
def RJ10 : String := "java/lang/System"
def TJ10 : u_T := fun k => match k with
  | _ => ("", "", "", false)
def tyJ10 : Nat → FieldType := fun k => match k with
  | _ => .int
abbrev wsJ100 : List Cond := u_ws RJ10 TJ10 0
theorem nmJ10 : ∀ a, a < 0 → ∀ b, b < 0 → a ≠ b → (TJ10 a).2.1 ≠ (TJ10 b).2.1 := by decide +kernel
theorem tyJ10_ok : ∀ k, k < 0 → parseFieldDescriptor (TJ10 k).2.2.1 = some (tyJ10 k) := by decide +kernel
def RJxfd54e : String := "java/lang/constant/Constable"
def TJxfd54e : u_T := fun k => match k with
  | _ => ("", "", "", false)
def tyJxfd54e : Nat → FieldType := fun k => match k with
  | _ => .int
abbrev wsJxfd54e0 : List Cond := u_ws RJxfd54e TJxfd54e 0
theorem nmJxfd54e : ∀ a, a < 0 → ∀ b, b < 0 → a ≠ b → (TJxfd54e a).2.1 ≠ (TJxfd54e b).2.1 := by decide +kernel
theorem tyJxfd54e_ok : ∀ k, k < 0 → parseFieldDescriptor (TJxfd54e k).2.2.1 = some (tyJxfd54e k) := by decide +kernel
def RJx3cf43 : String := "java/lang/constant/ConstantDesc"
def TJx3cf43 : u_T := fun k => match k with
  | _ => ("", "", "", false)
def tyJx3cf43 : Nat → FieldType := fun k => match k with
  | _ => .int
abbrev wsJx3cf430 : List Cond := u_ws RJx3cf43 TJx3cf43 0
theorem nmJx3cf43 : ∀ a, a < 0 → ∀ b, b < 0 → a ≠ b → (TJx3cf43 a).2.1 ≠ (TJx3cf43 b).2.1 := by decide +kernel
theorem tyJx3cf43_ok : ∀ k, k < 0 → parseFieldDescriptor (TJx3cf43 k).2.2.1 = some (tyJx3cf43 k) := by decide +kernel
def RJ7 : String := "java/util/Arrays"
def TJ7 : u_T := fun k => match k with
  | _ => ("", "", "", false)
def tyJ7 : Nat → FieldType := fun k => match k with
  | _ => .int
abbrev wsJ70 : List Cond := u_ws RJ7 TJ7 0
theorem nmJ7 : ∀ a, a < 0 → ∀ b, b < 0 → a ≠ b → (TJ7 a).2.1 ≠ (TJ7 b).2.1 := by decide +kernel
theorem tyJ7_ok : ∀ k, k < 0 → parseFieldDescriptor (TJ7 k).2.2.1 = some (tyJ7 k) := by decide +kernel
abbrev cJ7_fill_d0a16 : ByteArray := prog_20_method_101_code
def yJ7_fill_d0a16 : MethodName := ⟨RJ7, "fill", "([JJ)V"⟩
abbrev cJ7_fill_53178 : ByteArray := prog_20_method_103_code
def yJ7_fill_53178 : MethodName := ⟨RJ7, "fill", "([II)V"⟩
def RJ3 : String := "jdk/internal/util/Preconditions"
def TJ3 : u_T := fun k => match k with
  | _ => ("", "", "", false)
def tyJ3 : Nat → FieldType := fun k => match k with
  | _ => .int
abbrev wsJ30 : List Cond := u_ws RJ3 TJ3 0
theorem nmJ3 : ∀ a, a < 0 → ∀ b, b < 0 → a ≠ b → (TJ3 a).2.1 ≠ (TJ3 b).2.1 := by decide +kernel
theorem tyJ3_ok : ∀ k, k < 0 → parseFieldDescriptor (TJ3 k).2.2.1 = some (tyJ3 k) := by decide +kernel
abbrev cJ3_checkFromToIndex_8c36e : ByteArray := prog_21_method_12_code
def yJ3_checkFromToIndex_8c36e : MethodName := ⟨RJ3, "checkFromToIndex", "(IIILjava/util/function/BiFunction;)I"⟩
def RL : String := "MissedSaleLaw"
abbrev cL_law : ByteArray := code
def yL_law : MethodName := ⟨RL, "law", "([I)Z"⟩
theorem inX0 : ∀ w ∈ wsX00, w ∈ lw_tbl := by decide +kernel
theorem inX1 : ∀ w ∈ wsX10, w ∈ lw_tbl := by decide +kernel
theorem inX2 : ∀ w ∈ wsX20, w ∈ lw_tbl := by decide +kernel
theorem inX3 : ∀ w ∈ wsX30, w ∈ lw_tbl := by decide +kernel
theorem inX4 : ∀ w ∈ wsX40, w ∈ lw_tbl := by decide +kernel
theorem inX5 : ∀ w ∈ wsX50, w ∈ lw_tbl := by decide +kernel
theorem inX6 : ∀ w ∈ wsX60, w ∈ lw_tbl := by decide +kernel
theorem inX7 : ∀ w ∈ wsX70, w ∈ lw_tbl := by decide +kernel
theorem inX8 : ∀ w ∈ wsX80, w ∈ lw_tbl := by decide +kernel
theorem inX9 : ∀ w ∈ wsX90, w ∈ lw_tbl := by decide +kernel
theorem inX10 : ∀ w ∈ wsX100, w ∈ lw_tbl := by decide +kernel
abbrev vwCl : List vw_C := [(RX0, TX0, 3), (RX1, TX1, 3), (RX2, TX2, 4), (RX3, TX3, 3), (RX4, TX4, 10), (RX5, TX5, 5), (RX6, TX6, 5), (RX7, TX7, 12), (RX8, TX8, 6), (RX9, TX9, 10), (RX10, TX10, 45)]
end
section
/-! My own abstract store: cells by number, values as whole numbers; G is the walk's goal in its terms. -/
def lw_w : List Cond := lw_tbl.filter goodWord
theorem lw_w_good : ∀ w ∈ lw_w, (w.onTables && w.keeps) = true ∨ ∃ ty, w = .arrayClass ty := fun _ h => good_of_word (List.mem_filter.mp h).2
theorem lw_w_in {w : Cond} {l : List Cond} (i : Nat) (hl : l = lw_tbl) (h : l[i]? = some w) (hg : goodWord w = true) : w ∈ lw_w := List.mem_filter.mpr ⟨hl ▸ List.mem_of_getElem? h, hg⟩
abbrev Vl : Type := Int ⊕ Int ⊕ Nat ⊕ Nat
abbrev vi (x : Int) : Vl := Sum.inl x
abbrev vl (x : Int) : Vl := Sum.inr (Sum.inl x)
abbrev vr (c : Nat) : Vl := Sum.inr (Sum.inr (Sum.inl c))
abbrev vo (c : Nat) : Vl := Sum.inr (Sum.inr (Sum.inr c))
def ok32 (x : Int) : Prop := -2147483648 ≤ x ∧ x < 2147483648
def ok64 (x : Int) : Prop := -9223372036854775808 ≤ x ∧ x < 9223372036854775808
def okv (v : Vl) : Prop := match v with
  | .inl x => ok32 x
  | .inr (.inl x) => ok64 x
  | _ => True
theorem ok32_toInt (w : Int32) : ok32 w.toInt := ⟨by have := Int32.le_toInt w; omega, by have := Int32.toInt_lt w; omega⟩
theorem ok64_toInt (w : Int64) : ok64 w.toInt := ⟨by have := Int64.le_toInt w; omega, by have := Int64.toInt_lt w; omega⟩
theorem toInt_of32 {x : Int} (h : ok32 x) : (Int32.ofInt x).toInt = x := Int32.toInt_ofInt_of_le (by have := h.1; omega) (by have := h.2; omega)
theorem toInt_of64 {x : Int} (h : ok64 x) : (Int64.ofInt x).toInt = x := Int64.toInt_ofInt_of_le (by have := h.1; omega) (by have := h.2; omega)
theorem clamp_of32 {x : Int} (h : ok32 x) : (Int32.ofInt x).toNatClampNeg = x.toNat := Int32.toNatClampNeg_ofInt_of_le (by have := h.1; omega) (by have := h.2; omega)
theorem le_of32 {x y : Int} (hx : ok32 x) (hy : ok32 y) : Int32.ofInt x ≤ Int32.ofInt y ↔ x ≤ y := by rw [Int32.le_iff_toInt_le, toInt_of32 hx, toInt_of32 hy]
theorem lt_of32 {x y : Int} (hx : ok32 x) (hy : ok32 y) : Int32.ofInt x < Int32.ofInt y ↔ x < y := by rw [Int32.lt_iff_toInt_lt, toInt_of32 hx, toInt_of32 hy]
theorem eq_of32 {x y : Int} (hx : ok32 x) (hy : ok32 y) : Int32.ofInt x = Int32.ofInt y ↔ x = y := by rw [← Int32.toInt_inj, toInt_of32 hx, toInt_of32 hy]
theorem eq_of64 {x y : Int} (hx : ok64 x) (hy : ok64 y) : Int64.ofInt x = Int64.ofInt y ↔ x = y := by rw [← Int64.toInt_inj, toInt_of64 hx, toInt_of64 hy]
theorem ok32_0 : ok32 0 := by unfold ok32; omega
theorem in_of32 {x : Int} {n : Nat} (h : ok32 x) (h0 : 0 ≤ x) (h1 : x < n) : vp_in (Int32.ofInt x) n := by
  intro hh
  rcases hh with hh | hh
  · have := (lt_of32 h ok32_0).mp hh
    omega
  · rw [clamp_of32 h] at hh
    omega
abbrev St : Type := Nat → Nat → Int
abbrev Sh : Type := Nat × Nat × List (Nat × Option Nat)
abbrev S2 : Type := List Sh × St
abbrev GT : Type := Nat × va_G × (ClassId × ClassId × ClassId) × (Nat → Nat)
def up (σ : St) (c j : Nat) (x : Int) : St := fun a b => if a = c ∧ b = j then x else σ a b
def cv (g : GT) (v : Vl) : Value := match v with
  | .inl x => .int (Int32.ofInt x)
  | .inr (.inl x) => .long (Int64.ofInt x)
  | .inr (.inr (.inl c)) => .ref (g.1 + c)
  | .inr (.inr (.inr k)) => .ref (g.2.2.2 k)
def fv (g : GT) (f : Nat × Option Nat) (x : Int) : Value := if f.1 = 1 then .long (Int64.ofInt x) else if f.1 = 2 then (match f.2 with
  | none => .null
  | some c => .ref (g.1 + c)) else .int (Int32.ofInt x)
def ce (g : GT) (τ : Nat → Int) (h : Sh) : va_E :=
  if h.1 = 0 then .inr (h.2.1, h.2.2.mapIdx (fun j f => fv g f (τ j)))
  else if h.1 = 1 then .inl (g.2.2.1.1, h.2.1, .inl (fun j => Int32.ofInt (τ j)))
  else if h.1 = 2 then .inl (g.2.2.1.2.1, h.2.1, .inr (.inl (fun j => Int64.ofInt (τ j))))
  else .inl (g.2.2.1.2.2, h.2.1, .inr (.inr (.inr (.inr (fun j => ((h.2.2[j]?).bind (fun q => q.2)).map (fun c => g.1 + c))))))
def okf (f : Nat × Option Nat) (x : Int) : Prop := if f.1 = 1 then ok64 x else if f.1 = 2 then True else ok32 x
def okc (τ : Nat → Int) (h : Sh) : Prop := if h.1 = 0 then ∀ (j : Nat) (f : Nat × Option Nat), h.2.2[j]? = some f → okf f (τ j) else if h.1 = 1 then ∀ j, ok32 (τ j) else if h.1 = 2 then ∀ j, ok64 (τ j) else True
def wsO (g : GT) (S : S2) : va_W := S.1.mapIdx (fun k h => (g.1 + k, ce g (S.2 k) h))
def AO (g : GT) : Nat → Prop := fun q => g.1 ≤ q
def Wh (g : GT) (S : S2) (H : Heap) : Prop := va_P g.2.1 vwCl (wsO g S) H ∧ ∀ (k : Nat) (h : Sh), S.1[k]? = some h → okc (S.2 k) h
def tyO (g : GT) : List (ClassId × FieldType) := [(g.2.2.1.1, .int), (g.2.2.1.2.1, .long), (g.2.2.1.2.2, .object RX6)]
theorem wsO_get {g : GT} {S : S2} {k : Nat} {h : Sh} (hk : S.1[k]? = some h) : (wsO g S)[k]? = some (g.1 + k, ce g (S.2 k) h) := by
  simp [wsO, List.getElem?_mapIdx, hk]
theorem wsO_D (g : GT) (S : S2) : va_D (AO g) (wsO g S) := by
  constructor
  · intro i j p q hi hj hpq
    simp only [wsO, List.getElem?_mapIdx, Option.map_eq_some_iff] at hi hj
    obtain ⟨a, -, rfl⟩ := hi
    obtain ⟨b, -, rfl⟩ := hj
    simp only at hpq
    omega
  · intro k q hk
    simp only [wsO, List.getElem?_mapIdx, Option.map_eq_some_iff] at hk
    obtain ⟨a, -, rfl⟩ := hk
    exact Nat.le_add_right _ _
theorem up_ne {σ : St} {c j a : Nat} {x : Int} (h : a ≠ c) : up σ c j x a = σ a := by
  funext b
  simp [up, h]
theorem up_at {σ : St} {c j : Nat} {x : Int} : up σ c j x c = vf_upd (σ c) j x := by
  funext b
  simp [up, vf_upd]
/-- the world behind a write of one place of one cell -/
theorem wsO_up {g : GT} {S : S2} {k j : Nat} {h : Sh} {x : Int} (hk : S.1[k]? = some h) : (wsO g S).set k (g.1 + k, ce g (vf_upd (S.2 k) j x) h) = wsO g (S.1, up S.2 k j x) := by
  apply List.ext_getElem?
  intro i
  rw [List.getElem?_set]
  by_cases hi : k = i
  · subst hi
    have hlt : k < S.1.length := (List.getElem?_eq_some_iff.mp hk).1
    have e := (List.getElem?_eq_some_iff.mp hk).2
    simp [hlt, wsO, List.getElem?_mapIdx, up_at, e]
  · simp [hi, wsO, List.getElem?_mapIdx, up_ne (Ne.symm hi)]
/-- the static arrays: class, name, descriptor, kind of element, what they hold -/
def sts : List (String × String × String × FieldType × List Int) := [("MissedSale", "MOST", "[I", .int, [3, 6, 1, 99, 9, 99, 9, 9, 1, 9, 9, 9, 9]), ("MissedSale$Dealing", "WEIGHT", "[J", .long, [531441, 59049, 6561, 729, 81, 9, 1]), ("MissedSale$Lots", "ABOVE", "[I", .int, [-1, 0, 0, 2, 1, 3, 0, 4]), ("MissedSale$Lots", "OWN", "[I", .int, [1, 10, 11, 2, 20, 0, 0, 0, 0, 30, 0, 0, 0, 41, 40, 0, 0, 0, 50, 0, 0, 0, 0, 60, 70, 0, 0, 0, 0, 80, 0, 81]), ("MissedSale$Ways", "MOVE_ORDER", "[I", .int, [2, 0, 1])]
def tv (ty : FieldType) (x : Int) : Value := match ty with
  | .long => .long (Int64.ofInt x)
  | _ => .int (Int32.ofInt x)
def Old (g : GT) (U : State) (H : Heap) : Prop := (∀ (k : Nat) (C n d : String) (ty : FieldType) (xs : List Int), sts[k]? = some (C, n, d, ty, xs) → va_Z C n d (.ref (g.2.2.2 k)) (AO g) U H ∧ va_T ty (g.2.2.2 k) xs.length (fun j => tv ty (xs.getD j 0)) (AO g) U H) ∧ vk_S 1 [6] [[99, 108, 104, 118, 110, 109]] (fun _ => g.2.2.2 5) (fun _ => g.2.2.2 6) (AO g) U H ∧ va_Z "java/lang/String" "COMPACT_STRINGS" "Z" (.int 1) (AO g) U H
theorem Old.moved {g : GT} {u U : State} {H : Heap} (hvm : u.vm.Alike U.vm) (h : Old g u H) : Old g U H := ⟨fun k C n d ty xs hk => ⟨va_Z.moved hvm (h.1 k C n d ty xs hk).1, va_T.moved hvm (h.1 k C n d ty xs hk).2⟩, vk_S.moved hvm h.2.1, va_Z.moved hvm h.2.2⟩
theorem Old.kept {g : GT} {U : State} {H H1 : Heap} (h : Old g U H) (hq : ∀ a : Nat, a < H.size → ¬ AO g a → H1[a]? = H[a]?) : Old g U H1 := ⟨fun k C n d ty xs hk => ⟨(h.1 k C n d ty xs hk).1.kept hq, (h.1 k C n d ty xs hk).2.kept hq⟩, h.2.1.kept hq, h.2.2.kept hq⟩
def nestWord (w : Cond) : Bool := match w with
  | .fieldLinkNest .. => true
  | .methodLinkNest .. => true
  | _ => false
/-- what a state says of the tables and of what was there before us -/
def Wst (g : GT) (U : State) (H : Heap) : Prop := va_K g.2.1 vwCl (tyO g) U ∧ Old g U H ∧ (∀ w ∈ lw_tbl, nestWord w = true → va_Nw w U) ∧ vk_R RX4 78 "clhvnm" (g.2.2.2 5) U ∧ va_AO RX6 U
theorem Wst.warm {g : GT} {s U : State} {H H1 : Heap} (hW : s.WarmedH U.vm) (h : Wst g s H) (hq : ∀ a : Nat, a < H.size → ¬ AO g a → H1[a]? = H[a]?) : Wst g U H1 := by
  refine ⟨va_K.moved hW.alike h.1, (h.2.1.moved hW.alike).kept hq, fun w hw hn => ?_, vk_R.warm hW h.2.2.2.1, ?_⟩
  · have := h.2.2.1 w hw hn
    cases w <;> first | exact va_Nw.warmF hW this | exact va_Nw.warmM hW this | (simp [nestWord] at hn)
  · exact va_AO.moved hW.alike h.2.2.2.2
theorem Wst.same {g : GT} {s U : State} {H : Heap} (hv : U.vm = s.vm) (h : Wst g s H) : Wst g U H := by
  have ha : s.vm.Alike U.vm := by rw [hv]; exact Vm.Alike.refl _
  refine ⟨va_K.moved ha h.1, h.2.1.moved ha, fun w hw hn => ?_, vk_R.same hv h.2.2.2.1, ?_⟩
  · have := h.2.2.1 w hw hn
    cases w <;> first | exact va_Nw.same rfl hv.symm this | (simp [nestWord] at hn)
  · exact va_AO.moved ha h.2.2.2.2
abbrev KT : Type := Program × Launch × Env × Room × State × MethodId × Array Value × List Frame × Method × Code × (State → Prop)
def WK (K : KT) (H : Heap) (locs : List Loc) (cs : Nat × Nat) (pc : Nat) (ls : Array Slot) (st : List Value) : Prop := match K with
  | (p, l, e, R, s, m, args, below, meth, c, Q) => W p l e R s m args below meth c H locs cs.1 cs.2 Q (F0 m pc ls st)
def Kheap (K : KT) : Heap := match K with
  | (_, _, _, _, s, _, _, _, _, _, _) => s.heap
/-- the walk's surroundings: the machine, the code, its class, the words, the world before us, the room: fr frames, cells up to cm, slots up to sm -/
def Ctx (K : KT) (g : GT) (own : String) (cc : ByteArray) (nL fr cm sm : Nat) : Prop := match K with
  | (p, _, _, R, s, m, args, _, _, c, _) => p.tables.exec = Jvm.exec ∧ c.code = cc ∧ c.maxLocals = nL ∧ s.vm.findClass own = some m.cls ∧ (∀ w ∈ lw_w, w.before args s = true) ∧ Wst g s s.heap ∧ g.1 ≤ s.heap.size ∧ fr ≤ R.frames ∧ 40 * fr ≤ R.locals ∧ cm ≤ R.cells ∧ sm ≤ R.slots
def G (K : KT) (g : GT) (nL : Nat) (cs : Nat × Nat) (pc : Nat) (L : List (Nat × Vl)) (st : List Vl) (S : S2) : Prop :=
  ∀ (H : Heap) (locs : List Loc) (ls : Array Slot), Wh g S H → va_S (AO g) (Kheap K) H locs → (∀ v ∈ st, okv v) → (∀ q ∈ L, okv q.2) → lv_has ls nL (L.map (fun q => (q.1, cv g q.2))) → WK K H locs cs pc ls (st.map (cv g))
theorem g_sub {K : KT} {g : GT} {nL : Nat} {cs : Nat × Nat} {pc : Nat} {L L' : List (Nat × Vl)} {st : List Vl} {S : S2} (h : ∀ q ∈ L', q ∈ L) (k : G K g nL cs pc L' st S) : G K g nL cs pc L st S :=
  fun H locs ls h1 h2 h3 h4 h5 => k H locs ls h1 h2 h3 (fun q hq => h4 q (h q hq)) ⟨h5.1, h5.2.1, fun q hq => by
    obtain ⟨a, ha, rfl⟩ := List.mem_map.mp hq
    exact h5.2.2 _ (List.mem_map.mpr ⟨a, h a ha, rfl⟩)⟩
/-- fewer locals, by their places -/
theorem g_pick {K : KT} {g : GT} {nL : Nat} {cs : Nat × Nat} {pc : Nat} {L L' : List (Nat × Vl)} {st : List Vl} {S : S2} (ks : List Nat) (h : L' = ks.filterMap (fun i => L[i]?)) (k : G K g nL cs pc L' st S) : G K g nL cs pc L st S :=
  g_sub (fun q hq => by
    rw [h] at hq
    obtain ⟨i, -, hi⟩ := List.mem_filterMap.mp hq
    exact List.mem_of_getElem? hi) k
end
section
/-! Rows: an instruction each, over G. -/
section Rows
variable {K : KT} {g : GT} {own : String} {cc : ByteArray} {nL fr cm sm : Nat} {cs : Nat × Nat} {pc : Nat} {L : List (Nat × Vl)} {st : List Vl} {S : S2}
theorem okv_i (w : Int32) : okv (vi w.toInt) := ok32_toInt w
theorem okv_l (w : Int64) : okv (vl w.toInt) := ok64_toInt w
theorem cv_i (g : GT) (w : Int32) : cv g (vi w.toInt) = .int w := by simp [cv]
theorem cv_l (g : GT) (w : Int64) : cv g (vl w.toInt) = .long w := by simp [cv]
theorem okv_cons {v : Vl} {st : List Vl} (h : okv v) (hs : ∀ v ∈ st, okv v) : ∀ u ∈ v :: st, okv u := fun u hu => (List.mem_cons.mp hu).elim (fun e => e ▸ h) (hs u)
theorem okv_tail {v : Vl} {st : List Vl} (hs : ∀ u ∈ v :: st, okv u) : ∀ v ∈ st, okv v := fun u hu => hs u (List.mem_cons_of_mem _ hu)
theorem okv_head {v : Vl} {st : List Vl} (hs : ∀ u ∈ v :: st, okv u) : okv v := hs v List.mem_cons_self
theorem lv_of {ls : Array Slot} {i : Nat} {v : Vl} (hl : lv_has ls nL (L.map (fun q => (q.1, cv g q.2)))) (k : Nat) (h : L[k]? = some (i, v)) : ls[i]? = some (.val (cv g v)) := hl.2.2 (i, cv g v) (List.mem_map.mpr ⟨(i, v), List.mem_of_getElem? h, rfl⟩)
theorem okL_of {i : Nat} {v : Vl} (hL : ∀ q ∈ L, okv q.2) (k : Nat) (h : L[k]? = some (i, v)) : okv v := hL (i, v) (List.mem_of_getElem? h)

def i_add (x y : Int) : Int := (Int32.ofInt x + Int32.ofInt y).toInt
theorem g_iadd {x y : Int} (hC : Ctx K g own cc nL fr cm sm) (hd : decode cc pc = .ok (.iadd, 1)) (k : G K g nL cs (pc + 1) L (vi (i_add x y) :: st) S) : G K g nL cs pc L (vi y :: vi x :: st) S := by
  obtain ⟨p, l, e, R, s, m, args, below, meth, c, Q⟩ := K
  intro H locs ls h1 h2 h3 h4 h5
  have k' := k H locs ls h1 h2 (okv_cons (okv_i _) (okv_tail (okv_tail h3))) h4 h5
  rw [List.map_cons, i_add, cv_i] at k'
  exact lv_iadd hC.1 hC.2.1 hd k'
def i_sub (x y : Int) : Int := (Int32.ofInt x - Int32.ofInt y).toInt
theorem g_isub {x y : Int} (hC : Ctx K g own cc nL fr cm sm) (hd : decode cc pc = .ok (.isub, 1)) (k : G K g nL cs (pc + 1) L (vi (i_sub x y) :: st) S) : G K g nL cs pc L (vi y :: vi x :: st) S := by
  obtain ⟨p, l, e, R, s, m, args, below, meth, c, Q⟩ := K
  intro H locs ls h1 h2 h3 h4 h5
  have k' := k H locs ls h1 h2 (okv_cons (okv_i _) (okv_tail (okv_tail h3))) h4 h5
  rw [List.map_cons, i_sub, cv_i] at k'
  exact lv_isub hC.1 hC.2.1 hd k'
def i_mul (x y : Int) : Int := (Int32.ofInt x * Int32.ofInt y).toInt
theorem g_imul {x y : Int} (hC : Ctx K g own cc nL fr cm sm) (hd : decode cc pc = .ok (.imul, 1)) (k : G K g nL cs (pc + 1) L (vi (i_mul x y) :: st) S) : G K g nL cs pc L (vi y :: vi x :: st) S := by
  obtain ⟨p, l, e, R, s, m, args, below, meth, c, Q⟩ := K
  intro H locs ls h1 h2 h3 h4 h5
  have k' := k H locs ls h1 h2 (okv_cons (okv_i _) (okv_tail (okv_tail h3))) h4 h5
  rw [List.map_cons, i_mul, cv_i] at k'
  exact lv_imul hC.1 hC.2.1 hd k'
def i_and (x y : Int) : Int := (Int32.ofInt x &&& Int32.ofInt y).toInt
theorem g_iand {x y : Int} (hC : Ctx K g own cc nL fr cm sm) (hd : decode cc pc = .ok (.iand, 1)) (k : G K g nL cs (pc + 1) L (vi (i_and x y) :: st) S) : G K g nL cs pc L (vi y :: vi x :: st) S := by
  obtain ⟨p, l, e, R, s, m, args, below, meth, c, Q⟩ := K
  intro H locs ls h1 h2 h3 h4 h5
  have k' := k H locs ls h1 h2 (okv_cons (okv_i _) (okv_tail (okv_tail h3))) h4 h5
  rw [List.map_cons, i_and, cv_i] at k'
  exact lv_iand hC.1 hC.2.1 hd k'
def i_or (x y : Int) : Int := (Int32.ofInt x ||| Int32.ofInt y).toInt
theorem g_ior {x y : Int} (hC : Ctx K g own cc nL fr cm sm) (hd : decode cc pc = .ok (.ior, 1)) (k : G K g nL cs (pc + 1) L (vi (i_or x y) :: st) S) : G K g nL cs pc L (vi y :: vi x :: st) S := by
  obtain ⟨p, l, e, R, s, m, args, below, meth, c, Q⟩ := K
  intro H locs ls h1 h2 h3 h4 h5
  have k' := k H locs ls h1 h2 (okv_cons (okv_i _) (okv_tail (okv_tail h3))) h4 h5
  rw [List.map_cons, i_or, cv_i] at k'
  exact lv_ior hC.1 hC.2.1 hd k'
def i_xor (x y : Int) : Int := (Int32.ofInt x ^^^ Int32.ofInt y).toInt
theorem g_ixor {x y : Int} (hC : Ctx K g own cc nL fr cm sm) (hd : decode cc pc = .ok (.ixor, 1)) (k : G K g nL cs (pc + 1) L (vi (i_xor x y) :: st) S) : G K g nL cs pc L (vi y :: vi x :: st) S := by
  obtain ⟨p, l, e, R, s, m, args, below, meth, c, Q⟩ := K
  intro H locs ls h1 h2 h3 h4 h5
  have k' := k H locs ls h1 h2 (okv_cons (okv_i _) (okv_tail (okv_tail h3))) h4 h5
  rw [List.map_cons, i_xor, cv_i] at k'
  exact lv_ixor hC.1 hC.2.1 hd k'
def i_shl (x y : Int) : Int := (Int32.ofInt x <<< (Int32.ofInt y &&& 31)).toInt
theorem g_ishl {x y : Int} (hC : Ctx K g own cc nL fr cm sm) (hd : decode cc pc = .ok (.ishl, 1)) (k : G K g nL cs (pc + 1) L (vi (i_shl x y) :: st) S) : G K g nL cs pc L (vi y :: vi x :: st) S := by
  obtain ⟨p, l, e, R, s, m, args, below, meth, c, Q⟩ := K
  intro H locs ls h1 h2 h3 h4 h5
  have k' := k H locs ls h1 h2 (okv_cons (okv_i _) (okv_tail (okv_tail h3))) h4 h5
  rw [List.map_cons, i_shl, cv_i] at k'
  exact lv_ishl hC.1 hC.2.1 hd k'
def i_shr (x y : Int) : Int := (Int32.ofInt x >>> (Int32.ofInt y &&& 31)).toInt
theorem g_ishr {x y : Int} (hC : Ctx K g own cc nL fr cm sm) (hd : decode cc pc = .ok (.ishr, 1)) (k : G K g nL cs (pc + 1) L (vi (i_shr x y) :: st) S) : G K g nL cs pc L (vi y :: vi x :: st) S := by
  obtain ⟨p, l, e, R, s, m, args, below, meth, c, Q⟩ := K
  intro H locs ls h1 h2 h3 h4 h5
  have k' := k H locs ls h1 h2 (okv_cons (okv_i _) (okv_tail (okv_tail h3))) h4 h5
  rw [List.map_cons, i_shr, cv_i] at k'
  exact lv_ishr hC.1 hC.2.1 hd k'
def i_ushr (x y : Int) : Int := (((Int32.ofInt x).toUInt32 >>> ((Int32.ofInt y).toUInt32 &&& Int32.toUInt32 31)).toInt32).toInt
theorem g_iushr {x y : Int} (hC : Ctx K g own cc nL fr cm sm) (hd : decode cc pc = .ok (.iushr, 1)) (k : G K g nL cs (pc + 1) L (vi (i_ushr x y) :: st) S) : G K g nL cs pc L (vi y :: vi x :: st) S := by
  obtain ⟨p, l, e, R, s, m, args, below, meth, c, Q⟩ := K
  intro H locs ls h1 h2 h3 h4 h5
  have k' := k H locs ls h1 h2 (okv_cons (okv_i _) (okv_tail (okv_tail h3))) h4 h5
  rw [List.map_cons, i_ushr, cv_i] at k'
  exact lv_iushr hC.1 hC.2.1 hd rfl k'

def i_div (x y : Int) : Int := (Int32.ofInt x / Int32.ofInt y).toInt
theorem g_idiv {x y : Int} (hC : Ctx K g own cc nL fr cm sm) (hd : decode cc pc = .ok (.idiv, 1)) (hne : ¬ y = 0) (k : G K g nL cs (pc + 1) L (vi (i_div x y) :: st) S) : G K g nL cs pc L (vi y :: vi x :: st) S := by
  obtain ⟨p, l, e, R, s, m, args, below, meth, c, Q⟩ := K
  intro H locs ls h1 h2 h3 h4 h5
  have k' := k H locs ls h1 h2 (okv_cons (okv_i _) (okv_tail (okv_tail h3))) h4 h5
  rw [List.map_cons, i_div, cv_i] at k'
  exact lv_idiv hC.1 hC.2.1 hd (fun h => hne ((eq_of32 (okv_head h3) ok32_0).mp h)) k'
def i_rem (x y : Int) : Int := (Int32.ofInt x - Int32.ofInt x / Int32.ofInt y * Int32.ofInt y).toInt
theorem g_irem {x y : Int} (hC : Ctx K g own cc nL fr cm sm) (hd : decode cc pc = .ok (.irem, 1)) (hne : ¬ y = 0) (k : G K g nL cs (pc + 1) L (vi (i_rem x y) :: st) S) : G K g nL cs pc L (vi y :: vi x :: st) S := by
  obtain ⟨p, l, e, R, s, m, args, below, meth, c, Q⟩ := K
  intro H locs ls h1 h2 h3 h4 h5
  have k' := k H locs ls h1 h2 (okv_cons (okv_i _) (okv_tail (okv_tail h3))) h4 h5
  rw [List.map_cons, i_rem, cv_i] at k'
  exact lv_irem hC.1 hC.2.1 hd (fun h => hne ((eq_of32 (okv_head h3) ok32_0).mp h)) k'
def i_neg (x : Int) : Int := (-Int32.ofInt x).toInt
theorem g_ineg {x : Int} (hC : Ctx K g own cc nL fr cm sm) (hd : decode cc pc = .ok (.ineg, 1)) (k : G K g nL cs (pc + 1) L (vi (i_neg x) :: st) S) : G K g nL cs pc L (vi x :: st) S := by
  obtain ⟨p, l, e, R, s, m, args, below, meth, c, Q⟩ := K
  intro H locs ls h1 h2 h3 h4 h5
  have k' := k H locs ls h1 h2 (okv_cons (okv_i _) (okv_tail h3)) h4 h5
  rw [List.map_cons, i_neg, cv_i] at k'
  exact lv_ineg hC.1 hC.2.1 hd k'
def c_i2b (x : Int) : Int := ((Int32.ofInt x).toInt8.toInt32).toInt
theorem g_i2b {x : Int} (hC : Ctx K g own cc nL fr cm sm) (hd : decode cc pc = .ok (.i2b, 1)) (k : G K g nL cs (pc + 1) L (vi (c_i2b x) :: st) S) : G K g nL cs pc L (vi x :: st) S := by
  obtain ⟨p, l, e, R, s, m, args, below, meth, c, Q⟩ := K
  intro H locs ls h1 h2 h3 h4 h5
  have k' := k H locs ls h1 h2 (okv_cons (okv_i _) (okv_tail h3)) h4 h5
  rw [List.map_cons, c_i2b, cv_i] at k'
  exact lv_i2b hC.1 hC.2.1 hd rfl k'
def c_i2s (x : Int) : Int := ((Int32.ofInt x).toInt16.toInt32).toInt
theorem g_i2s {x : Int} (hC : Ctx K g own cc nL fr cm sm) (hd : decode cc pc = .ok (.i2s, 1)) (k : G K g nL cs (pc + 1) L (vi (c_i2s x) :: st) S) : G K g nL cs pc L (vi x :: st) S := by
  obtain ⟨p, l, e, R, s, m, args, below, meth, c, Q⟩ := K
  intro H locs ls h1 h2 h3 h4 h5
  have k' := k H locs ls h1 h2 (okv_cons (okv_i _) (okv_tail h3)) h4 h5
  rw [List.map_cons, c_i2s, cv_i] at k'
  exact lv_i2s hC.1 hC.2.1 hd rfl k'
def c_i2c (x : Int) : Int := (((Int32.ofInt x).toUInt32 % 65536).toInt32).toInt
theorem g_i2c {x : Int} (hC : Ctx K g own cc nL fr cm sm) (hd : decode cc pc = .ok (.i2c, 1)) (k : G K g nL cs (pc + 1) L (vi (c_i2c x) :: st) S) : G K g nL cs pc L (vi x :: st) S := by
  obtain ⟨p, l, e, R, s, m, args, below, meth, c, Q⟩ := K
  intro H locs ls h1 h2 h3 h4 h5
  have k' := k H locs ls h1 h2 (okv_cons (okv_i _) (okv_tail h3)) h4 h5
  rw [List.map_cons, c_i2c, cv_i] at k'
  exact lv_i2c hC.1 hC.2.1 hd rfl k'
def c_i2l (x : Int) : Int := ((Int32.ofInt x).toInt64).toInt
theorem g_i2l {x : Int} (hC : Ctx K g own cc nL fr cm sm) (hd : decode cc pc = .ok (.i2l, 1)) (k : G K g nL cs (pc + 1) L (vl (c_i2l x) :: st) S) : G K g nL cs pc L (vi x :: st) S := by
  obtain ⟨p, l, e, R, s, m, args, below, meth, c, Q⟩ := K
  intro H locs ls h1 h2 h3 h4 h5
  have k' := k H locs ls h1 h2 (okv_cons (okv_l _) (okv_tail h3)) h4 h5
  rw [List.map_cons, c_i2l, cv_l] at k'
  exact lv_i2l hC.1 hC.2.1 hd rfl k'
def c_l2i (x : Int) : Int := ((Int64.ofInt x).toInt32).toInt
theorem g_l2i {x : Int} (hC : Ctx K g own cc nL fr cm sm) (hd : decode cc pc = .ok (.l2i, 1)) (k : G K g nL cs (pc + 1) L (vi (c_l2i x) :: st) S) : G K g nL cs pc L (vl x :: st) S := by
  obtain ⟨p, l, e, R, s, m, args, below, meth, c, Q⟩ := K
  intro H locs ls h1 h2 h3 h4 h5
  have k' := k H locs ls h1 h2 (okv_cons (okv_i _) (okv_tail h3)) h4 h5
  rw [List.map_cons, c_l2i, cv_i] at k'
  exact lv_l2i hC.1 hC.2.1 hd rfl k'

def l_add (x y : Int) : Int := (Int64.ofInt x + Int64.ofInt y).toInt
theorem g_ladd {x y : Int} (hC : Ctx K g own cc nL fr cm sm) (hd : decode cc pc = .ok (.ladd, 1)) (k : G K g nL cs (pc + 1) L (vl (l_add x y) :: st) S) : G K g nL cs pc L (vl y :: vl x :: st) S := by
  obtain ⟨p, l, e, R, s, m, args, below, meth, c, Q⟩ := K
  intro H locs ls h1 h2 h3 h4 h5
  have k' := k H locs ls h1 h2 (okv_cons (okv_l _) (okv_tail (okv_tail h3))) h4 h5
  rw [List.map_cons, l_add, cv_l] at k'
  exact lv_ladd hC.1 hC.2.1 hd k'
def l_sub (x y : Int) : Int := (Int64.ofInt x - Int64.ofInt y).toInt
theorem g_lsub {x y : Int} (hC : Ctx K g own cc nL fr cm sm) (hd : decode cc pc = .ok (.lsub, 1)) (k : G K g nL cs (pc + 1) L (vl (l_sub x y) :: st) S) : G K g nL cs pc L (vl y :: vl x :: st) S := by
  obtain ⟨p, l, e, R, s, m, args, below, meth, c, Q⟩ := K
  intro H locs ls h1 h2 h3 h4 h5
  have k' := k H locs ls h1 h2 (okv_cons (okv_l _) (okv_tail (okv_tail h3))) h4 h5
  rw [List.map_cons, l_sub, cv_l] at k'
  exact lv_lsub hC.1 hC.2.1 hd k'
def l_mul (x y : Int) : Int := (Int64.ofInt x * Int64.ofInt y).toInt
theorem g_lmul {x y : Int} (hC : Ctx K g own cc nL fr cm sm) (hd : decode cc pc = .ok (.lmul, 1)) (k : G K g nL cs (pc + 1) L (vl (l_mul x y) :: st) S) : G K g nL cs pc L (vl y :: vl x :: st) S := by
  obtain ⟨p, l, e, R, s, m, args, below, meth, c, Q⟩ := K
  intro H locs ls h1 h2 h3 h4 h5
  have k' := k H locs ls h1 h2 (okv_cons (okv_l _) (okv_tail (okv_tail h3))) h4 h5
  rw [List.map_cons, l_mul, cv_l] at k'
  exact lv_lmul hC.1 hC.2.1 hd k'
def l_and (x y : Int) : Int := (Int64.ofInt x &&& Int64.ofInt y).toInt
theorem g_land {x y : Int} (hC : Ctx K g own cc nL fr cm sm) (hd : decode cc pc = .ok (.land, 1)) (k : G K g nL cs (pc + 1) L (vl (l_and x y) :: st) S) : G K g nL cs pc L (vl y :: vl x :: st) S := by
  obtain ⟨p, l, e, R, s, m, args, below, meth, c, Q⟩ := K
  intro H locs ls h1 h2 h3 h4 h5
  have k' := k H locs ls h1 h2 (okv_cons (okv_l _) (okv_tail (okv_tail h3))) h4 h5
  rw [List.map_cons, l_and, cv_l] at k'
  exact lv_land hC.1 hC.2.1 hd k'
def l_or (x y : Int) : Int := (Int64.ofInt x ||| Int64.ofInt y).toInt
theorem g_lor {x y : Int} (hC : Ctx K g own cc nL fr cm sm) (hd : decode cc pc = .ok (.lor, 1)) (k : G K g nL cs (pc + 1) L (vl (l_or x y) :: st) S) : G K g nL cs pc L (vl y :: vl x :: st) S := by
  obtain ⟨p, l, e, R, s, m, args, below, meth, c, Q⟩ := K
  intro H locs ls h1 h2 h3 h4 h5
  have k' := k H locs ls h1 h2 (okv_cons (okv_l _) (okv_tail (okv_tail h3))) h4 h5
  rw [List.map_cons, l_or, cv_l] at k'
  exact lv_lor hC.1 hC.2.1 hd k'
def ok64_0 : ok64 0 := by unfold ok64; omega
def l_div (x y : Int) : Int := (Int64.ofInt x / Int64.ofInt y).toInt
theorem g_ldiv {x y : Int} (hC : Ctx K g own cc nL fr cm sm) (hd : decode cc pc = .ok (.ldiv, 1)) (hne : ¬ y = 0) (k : G K g nL cs (pc + 1) L (vl (l_div x y) :: st) S) : G K g nL cs pc L (vl y :: vl x :: st) S := by
  obtain ⟨p, l, e, R, s, m, args, below, meth, c, Q⟩ := K
  intro H locs ls h1 h2 h3 h4 h5
  have k' := k H locs ls h1 h2 (okv_cons (okv_l _) (okv_tail (okv_tail h3))) h4 h5
  rw [List.map_cons, l_div, cv_l] at k'
  exact lv_ldiv hC.1 hC.2.1 hd (fun h => hne ((eq_of64 (okv_head h3) ok64_0).mp h)) k'
def l_rem (x y : Int) : Int := (Int64.ofInt x - Int64.ofInt x / Int64.ofInt y * Int64.ofInt y).toInt
theorem g_lrem {x y : Int} (hC : Ctx K g own cc nL fr cm sm) (hd : decode cc pc = .ok (.lrem, 1)) (hne : ¬ y = 0) (k : G K g nL cs (pc + 1) L (vl (l_rem x y) :: st) S) : G K g nL cs pc L (vl y :: vl x :: st) S := by
  obtain ⟨p, l, e, R, s, m, args, below, meth, c, Q⟩ := K
  intro H locs ls h1 h2 h3 h4 h5
  have k' := k H locs ls h1 h2 (okv_cons (okv_l _) (okv_tail (okv_tail h3))) h4 h5
  rw [List.map_cons, l_rem, cv_l] at k'
  exact lv_lrem hC.1 hC.2.1 hd (fun h => hne ((eq_of64 (okv_head h3) ok64_0).mp h)) k'
def l_shl (x y : Int) : Int := (Int64.ofInt x <<< ((Int32.ofInt y).toInt64 &&& 63)).toInt
theorem g_lshl {x y : Int} (hC : Ctx K g own cc nL fr cm sm) (hd : decode cc pc = .ok (.lshl, 1)) (k : G K g nL cs (pc + 1) L (vl (l_shl x y) :: st) S) : G K g nL cs pc L (vi y :: vl x :: st) S := by
  obtain ⟨p, l, e, R, s, m, args, below, meth, c, Q⟩ := K
  intro H locs ls h1 h2 h3 h4 h5
  have k' := k H locs ls h1 h2 (okv_cons (okv_l _) (okv_tail (okv_tail h3))) h4 h5
  rw [List.map_cons, l_shl, cv_l] at k'
  exact lv_lshl hC.1 hC.2.1 hd rfl k'
def l_cmp (x y : Int) : Int := if y < x then 1 else if x = y then 0 else -1
theorem cmp_eq {x y : Int} (hx : ok64 x) (hy : ok64 y) : (lg_cmp (Int64.ofInt x) (Int64.ofInt y)) = Int32.ofInt (l_cmp x y) := by
  unfold lg_cmp l_cmp
  have e1 : Int64.ofInt x > Int64.ofInt y ↔ y < x := by
    show Int64.ofInt y < Int64.ofInt x ↔ _
    rw [Int64.lt_iff_toInt_lt, toInt_of64 hx, toInt_of64 hy]
  have e2 := eq_of64 hx hy
  by_cases h1 : y < x
  · rw [if_pos (e1.mpr h1), if_pos h1]; rfl
  · rw [if_neg (fun h => h1 (e1.mp h)), if_neg h1]
    by_cases h2 : x = y
    · rw [if_pos (e2.mpr h2), if_pos h2]; rfl
    · rw [if_neg (fun h => h2 (e2.mp h)), if_neg h2]; rfl
theorem ok_cmp (x y : Int) : ok32 (l_cmp x y) := by unfold l_cmp ok32; split <;> (try split) <;> omega
theorem g_lcmp {x y : Int} (hC : Ctx K g own cc nL fr cm sm) (hd : decode cc pc = .ok (.lcmp, 1)) (k : G K g nL cs (pc + 1) L (vi (l_cmp x y) :: st) S) : G K g nL cs pc L (vl y :: vl x :: st) S := by
  obtain ⟨p, l, e, R, s, m, args, below, meth, c, Q⟩ := K
  intro H locs ls h1 h2 h3 h4 h5
  have k' := k H locs ls h1 h2 (okv_cons (ok_cmp x y) (okv_tail (okv_tail h3))) h4 h5
  refine W.lcmp hC.1 hC.2.1 hd ?_
  rw [cmp_eq (okv_head (okv_tail h3)) (okv_head h3)]
  exact k'

theorem g_iconst {n : Int} (hC : Ctx K g own cc nL fr cm sm) (hd : decode cc pc = .ok (.iconst n, 1)) (hn : ok32 n) (k : G K g nL cs (pc + 1) L (vi n :: st) S) : G K g nL cs pc L st S := by
  obtain ⟨p, l, e, R, s, m, args, below, meth, c, Q⟩ := K
  intro H locs ls h1 h2 h3 h4 h5
  exact lv_iconst hC.1 hC.2.1 hd rfl (k H locs ls h1 h2 (okv_cons hn h3) h4 h5)
theorem g_bipush {n : Int} (hC : Ctx K g own cc nL fr cm sm) (hd : decode cc pc = .ok (.bipush n, 2)) (hn : ok32 n ∧ (Int8.ofInt n).toInt32 = Int32.ofInt n) (k : G K g nL cs (pc + 2) L (vi n :: st) S) : G K g nL cs pc L st S := by
  obtain ⟨p, l, e, R, s, m, args, below, meth, c, Q⟩ := K
  intro H locs ls h1 h2 h3 h4 h5
  exact lv_bipush hC.1 hC.2.1 hd hn.2 (k H locs ls h1 h2 (okv_cons hn.1 h3) h4 h5)
theorem g_sipush {n : Int} (hC : Ctx K g own cc nL fr cm sm) (hd : decode cc pc = .ok (.sipush n, 3)) (hn : ok32 n ∧ (Int16.ofInt n).toInt32 = Int32.ofInt n) (k : G K g nL cs (pc + 3) L (vi n :: st) S) : G K g nL cs pc L st S := by
  obtain ⟨p, l, e, R, s, m, args, below, meth, c, Q⟩ := K
  intro H locs ls h1 h2 h3 h4 h5
  exact lv_sipush hC.1 hC.2.1 hd hn.2 (k H locs ls h1 h2 (okv_cons hn.1 h3) h4 h5)
theorem g_ldc {ix : Nat} {n : Int} (hC : Ctx K g own cc nL fr cm sm) (hd : decode cc pc = .ok (.ldc ix, 2)) (hn : ok32 n ∧ Cond.constant own ix (Int32.ofInt n) ∈ lw_w) (k : G K g nL cs (pc + 2) L (vi n :: st) S) : G K g nL cs pc L st S := by
  obtain ⟨p, l, e, R, s, m, args, below, meth, c, Q⟩ := K
  intro H locs ls h1 h2 h3 h4 h5
  exact lv_ldc hC.1 hC.2.1 hC.2.2.2.1 (hC.2.2.2.2.1 _ hn.2) hd (k H locs ls h1 h2 (okv_cons hn.1 h3) h4 h5)
theorem g_ldcw {ix : Nat} {n : Int} (hC : Ctx K g own cc nL fr cm sm) (hd : decode cc pc = .ok (.ldc_w ix, 3)) (hn : ok32 n ∧ Cond.constant own ix (Int32.ofInt n) ∈ lw_w) (k : G K g nL cs (pc + 3) L (vi n :: st) S) : G K g nL cs pc L st S := by
  obtain ⟨p, l, e, R, s, m, args, below, meth, c, Q⟩ := K
  intro H locs ls h1 h2 h3 h4 h5
  exact lv_ldcw hC.1 hC.2.1 hC.2.2.2.1 (hC.2.2.2.2.1 _ hn.2) hd (k H locs ls h1 h2 (okv_cons hn.1 h3) h4 h5)
theorem g_ldc2 {ix : Nat} {n : Int} (hC : Ctx K g own cc nL fr cm sm) (hd : decode cc pc = .ok (.ldc2_w ix, 3)) (hn : ok64 n ∧ Cond.constantLong own ix (Int64.ofInt n) ∈ lw_w) (k : G K g nL cs (pc + 3) L (vl n :: st) S) : G K g nL cs pc L st S := by
  obtain ⟨p, l, e, R, s, m, args, below, meth, c, Q⟩ := K
  intro H locs ls h1 h2 h3 h4 h5
  exact lv_ldc2 hC.1 hC.2.1 hC.2.2.2.1 (hC.2.2.2.2.1 _ hn.2) hd (k H locs ls h1 h2 (okv_cons hn.1 h3) h4 h5)
theorem g_lconst {n : Fin 2} {z : Int} (hC : Ctx K g own cc nL fr cm sm) (hd : decode cc pc = .ok (.lconst n, 1)) (hn : ok64 z ∧ Int64.ofNat (n : Nat) = Int64.ofInt z) (k : G K g nL cs (pc + 1) L (vl z :: st) S) : G K g nL cs pc L st S := by
  obtain ⟨p, l, e, R, s, m, args, below, meth, c, Q⟩ := K
  intro H locs ls h1 h2 h3 h4 h5
  exact lv_lconst hC.1 hC.2.1 hd hn.2 (k H locs ls h1 h2 (okv_cons hn.1 h3) h4 h5)

theorem g_iload {i : Nat} {x : Int} (hC : Ctx K g own cc nL fr cm sm) (hd : decode cc pc = .ok (.iload i, 2)) (q : Nat) (hq : L[q]? = some (i, vi x)) (k : G K g nL cs (pc + 2) L (vi x :: st) S) : G K g nL cs pc L st S := by
  obtain ⟨p, l, e, R, s, m, args, below, meth, c, Q⟩ := K
  intro H locs ls h1 h2 h3 h4 h5
  exact lv_iload hC.1 hC.2.1 hd (lv_of h5 q hq) (k H locs ls h1 h2 (okv_cons (okL_of h4 q hq) h3) h4 h5)
theorem g_iload_n {n : Fin 4} {i : Nat} {x : Int} (hC : Ctx K g own cc nL fr cm sm) (hd : decode cc pc = .ok (.iload_n n, 1)) (q : Nat) (hq : L[q]? = some (i, vi x)) (hi : (n : Nat) = i) (k : G K g nL cs (pc + 1) L (vi x :: st) S) : G K g nL cs pc L st S := by
  obtain ⟨p, l, e, R, s, m, args, below, meth, c, Q⟩ := K
  intro H locs ls h1 h2 h3 h4 h5
  exact lv_iload_n hC.1 hC.2.1 hd hi (lv_of h5 q hq) (k H locs ls h1 h2 (okv_cons (okL_of h4 q hq) h3) h4 h5)

theorem g_lload {i : Nat} {x : Int} (hC : Ctx K g own cc nL fr cm sm) (hd : decode cc pc = .ok (.lload i, 2)) (q : Nat) (hq : L[q]? = some (i, vl x)) (k : G K g nL cs (pc + 2) L (vl x :: st) S) : G K g nL cs pc L st S := by
  obtain ⟨p, l, e, R, s, m, args, below, meth, c, Q⟩ := K
  intro H locs ls h1 h2 h3 h4 h5
  exact lv_lload hC.1 hC.2.1 hd (lv_of h5 q hq) (k H locs ls h1 h2 (okv_cons (okL_of h4 q hq) h3) h4 h5)
theorem g_lload_n {n : Fin 4} {i : Nat} {x : Int} (hC : Ctx K g own cc nL fr cm sm) (hd : decode cc pc = .ok (.lload_n n, 1)) (q : Nat) (hq : L[q]? = some (i, vl x)) (hi : (n : Nat) = i) (k : G K g nL cs (pc + 1) L (vl x :: st) S) : G K g nL cs pc L st S := by
  obtain ⟨p, l, e, R, s, m, args, below, meth, c, Q⟩ := K
  intro H locs ls h1 h2 h3 h4 h5
  exact lv_lload_n hC.1 hC.2.1 hd hi (lv_of h5 q hq) (k H locs ls h1 h2 (okv_cons (okL_of h4 q hq) h3) h4 h5)

theorem g_aload {i : Nat} {x : Nat} (hC : Ctx K g own cc nL fr cm sm) (hd : decode cc pc = .ok (.aload i, 2)) (q : Nat) (hq : L[q]? = some (i, vr x)) (k : G K g nL cs (pc + 2) L (vr x :: st) S) : G K g nL cs pc L st S := by
  obtain ⟨p, l, e, R, s, m, args, below, meth, c, Q⟩ := K
  intro H locs ls h1 h2 h3 h4 h5
  exact lv_aload hC.1 hC.2.1 hd (lv_of h5 q hq) (k H locs ls h1 h2 (okv_cons (okL_of h4 q hq) h3) h4 h5)
theorem g_aload_n {n : Fin 4} {i : Nat} {x : Nat} (hC : Ctx K g own cc nL fr cm sm) (hd : decode cc pc = .ok (.aload_n n, 1)) (q : Nat) (hq : L[q]? = some (i, vr x)) (hi : (n : Nat) = i) (k : G K g nL cs (pc + 1) L (vr x :: st) S) : G K g nL cs pc L st S := by
  obtain ⟨p, l, e, R, s, m, args, below, meth, c, Q⟩ := K
  intro H locs ls h1 h2 h3 h4 h5
  exact lv_aload_n hC.1 hC.2.1 hd hi (lv_of h5 q hq) (k H locs ls h1 h2 (okv_cons (okL_of h4 q hq) h3) h4 h5)

theorem g_aloado_n {n : Fin 4} {i x : Nat} (hC : Ctx K g own cc nL fr cm sm) (hd : decode cc pc = .ok (.aload_n n, 1)) (q : Nat) (hq : L[q]? = some (i, vo x)) (hi : (n : Nat) = i) (k : G K g nL cs (pc + 1) L (vo x :: st) S) : G K g nL cs pc L st S := by
  obtain ⟨p, l, e, R, s, m, args, below, meth, c, Q⟩ := K
  intro H locs ls h1 h2 h3 h4 h5
  exact lv_aload_n hC.1 hC.2.1 hd hi (lv_of h5 q hq) (k H locs ls h1 h2 (okv_cons trivial h3) h4 h5)
def isL (v : Vl) : Bool := match v with
  | .inr (.inl _) => true
  | _ => false
theorem cat_isL (g : GT) (v : Vl) : ((cv g v).category == 2) = isL v := by
  rcases v with x | x | x | x <;> rfl
def st1 (L : List (Nat × Vl)) (i : Nat) : List (Nat × Vl) := L.filter (fun q => !(q.1 == i) && !(q.1 + 1 == i && isL q.2))
def st2 (L : List (Nat × Vl)) (i : Nat) : List (Nat × Vl) := L.filter (fun q => !(q.1 == i) && (!(q.1 == i + 1) && !(q.1 + 1 == i && isL q.2)))
theorem st1_map (g : GT) (L : List (Nat × Vl)) (i : Nat) : (L.map (fun q => (q.1, cv g q.2))).filter (fun q => !(q.1 == i) && !(q.1 + 1 == i && q.2.category == 2)) = (st1 L i).map (fun q => (q.1, cv g q.2)) := by
  unfold st1
  rw [List.filter_map]
  congr 1
  apply List.filter_congr
  intro q _
  simp only [Function.comp, cat_isL]
theorem st2_map (g : GT) (L : List (Nat × Vl)) (i : Nat) : (L.map (fun q => (q.1, cv g q.2))).filter (fun q => !(q.1 == i) && (!(q.1 == i + 1) && !(q.1 + 1 == i && q.2.category == 2))) = (st2 L i).map (fun q => (q.1, cv g q.2)) := by
  unfold st2
  rw [List.filter_map]
  congr 1
  apply List.filter_congr
  intro q _
  simp only [Function.comp, cat_isL]
theorem okL_st1 {i : Nat} {v : Vl} (h : ∀ q ∈ L, okv q.2) (hv : okv v) : ∀ q ∈ (i, v) :: st1 L i, okv q.2 := fun q hq => (List.mem_cons.mp hq).elim (fun e => e ▸ hv) (fun z => h q (List.mem_filter.mp z).1)
theorem okL_st2 {i : Nat} {v : Vl} (h : ∀ q ∈ L, okv q.2) (hv : okv v) : ∀ q ∈ (i, v) :: st2 L i, okv q.2 := fun q hq => (List.mem_cons.mp hq).elim (fun e => e ▸ hv) (fun z => h q (List.mem_filter.mp z).1)

theorem g_istore {i : Nat} {x : Int} {L' : List (Nat × Vl)} (hC : Ctx K g own cc nL fr cm sm) (hd : decode cc pc = .ok (.istore i, 2)) (hn : i < nL) (hl : (i, vi x) :: st1 L i = L') (k : G K g nL cs (pc + 2) L' st S) : G K g nL cs pc L (vi x :: st) S := by
  obtain ⟨p, l, e, R, s, m, args, below, meth, c, Q⟩ := K
  intro H locs ls h1 h2 h3 h4 h5
  subst hl
  exact lv_istore hC.1 hC.2.1 hd h5 hn rfl (fun ls' h6 => k H locs ls' h1 h2 (okv_tail h3) (okL_st1 h4 (okv_head h3)) (by rw [st1_map] at h6; exact h6))

theorem g_istore_n {n : Fin 4} {i : Nat} {x : Int} {L' : List (Nat × Vl)} (hC : Ctx K g own cc nL fr cm sm) (hd : decode cc pc = .ok (.istore_n n, 1)) (hi : (n : Nat) = i) (hn : i < nL) (hl : (i, vi x) :: st1 L i = L') (k : G K g nL cs (pc + 1) L' st S) : G K g nL cs pc L (vi x :: st) S := by
  obtain ⟨p, l, e, R, s, m, args, below, meth, c, Q⟩ := K
  intro H locs ls h1 h2 h3 h4 h5
  subst hl
  exact lv_istore_n hC.1 hC.2.1 hd hi h5 hn rfl (fun ls' h6 => k H locs ls' h1 h2 (okv_tail h3) (okL_st1 h4 (okv_head h3)) (by rw [st1_map] at h6; exact h6))

theorem g_lstore {i : Nat} {x : Int} {L' : List (Nat × Vl)} (hC : Ctx K g own cc nL fr cm sm) (hd : decode cc pc = .ok (.lstore i, 2)) (hn : i + 1 < nL) (hl : (i, vl x) :: st2 L i = L') (k : G K g nL cs (pc + 2) L' st S) : G K g nL cs pc L (vl x :: st) S := by
  obtain ⟨p, l, e, R, s, m, args, below, meth, c, Q⟩ := K
  intro H locs ls h1 h2 h3 h4 h5
  subst hl
  exact lv_lstore hC.1 hC.2.1 hd h5 hn rfl (fun ls' h6 => k H locs ls' h1 h2 (okv_tail h3) (okL_st2 h4 (okv_head h3)) (by rw [st2_map] at h6; exact h6))

theorem g_lstore_n {n : Fin 4} {i : Nat} {x : Int} {L' : List (Nat × Vl)} (hC : Ctx K g own cc nL fr cm sm) (hd : decode cc pc = .ok (.lstore_n n, 1)) (hi : (n : Nat) = i) (hn : i + 1 < nL) (hl : (i, vl x) :: st2 L i = L') (k : G K g nL cs (pc + 1) L' st S) : G K g nL cs pc L (vl x :: st) S := by
  obtain ⟨p, l, e, R, s, m, args, below, meth, c, Q⟩ := K
  intro H locs ls h1 h2 h3 h4 h5
  subst hl
  exact lv_lstore_n hC.1 hC.2.1 hd hi h5 hn rfl (fun ls' h6 => k H locs ls' h1 h2 (okv_tail h3) (okL_st2 h4 (okv_head h3)) (by rw [st2_map] at h6; exact h6))

theorem g_astore {i : Nat} {x : Nat} {L' : List (Nat × Vl)} (hC : Ctx K g own cc nL fr cm sm) (hd : decode cc pc = .ok (.astore i, 2)) (hn : i < nL) (hl : (i, vr x) :: st1 L i = L') (k : G K g nL cs (pc + 2) L' st S) : G K g nL cs pc L (vr x :: st) S := by
  obtain ⟨p, l, e, R, s, m, args, below, meth, c, Q⟩ := K
  intro H locs ls h1 h2 h3 h4 h5
  subst hl
  exact lv_astore hC.1 hC.2.1 hd h5 hn rfl (fun ls' h6 => k H locs ls' h1 h2 (okv_tail h3) (okL_st1 h4 (okv_head h3)) (by rw [st1_map] at h6; exact h6))

theorem g_astore_n {n : Fin 4} {i : Nat} {x : Nat} {L' : List (Nat × Vl)} (hC : Ctx K g own cc nL fr cm sm) (hd : decode cc pc = .ok (.astore_n n, 1)) (hi : (n : Nat) = i) (hn : i < nL) (hl : (i, vr x) :: st1 L i = L') (k : G K g nL cs (pc + 1) L' st S) : G K g nL cs pc L (vr x :: st) S := by
  obtain ⟨p, l, e, R, s, m, args, below, meth, c, Q⟩ := K
  intro H locs ls h1 h2 h3 h4 h5
  subst hl
  exact lv_astore_n hC.1 hC.2.1 hd hi h5 hn rfl (fun ls' h6 => k H locs ls' h1 h2 (okv_tail h3) (okL_st1 h4 (okv_head h3)) (by rw [st1_map] at h6; exact h6))

theorem g_iinc {i : Nat} {n x : Int} {L' : List (Nat × Vl)} (hC : Ctx K g own cc nL fr cm sm) (hd : decode cc pc = .ok (.iinc i n, 3)) (q : Nat) (hq : L[q]? = some (i, vi x)) (hn : i < nL) (hl : (i, vi (i_add x n)) :: st1 L i = L') (k : G K g nL cs (pc + 3) L' st S) : G K g nL cs pc L st S := by
  obtain ⟨p, l, e, R, s, m, args, below, meth, c, Q⟩ := K
  intro H locs ls h1 h2 h3 h4 h5
  subst hl
  refine lv_iinc hC.1 hC.2.1 hd h5 (k := q) (x := Int32.ofInt x) (v := Int32.ofInt x + Int32.ofInt n) (by rw [List.getElem?_map, hq]; rfl) rfl hn rfl (fun ls' h6 => k H locs ls' h1 h2 h3 (okL_st1 h4 (okv_i _)) ?_)
  rw [st1_map] at h6
  rw [List.map_cons, i_add, cv_i]
  exact h6
theorem cat_ne (g : GT) {v : Vl} (h : isL v = false) : (cv g v).category = 1 := by
  rcases v with x | x | x | x
  · rfl
  · cases h
  · rfl
  · rfl
theorem g_dup {v : Vl} (hC : Ctx K g own cc nL fr cm sm) (hd : decode cc pc = .ok (.dup, 1)) (hv : isL v = false) (k : G K g nL cs (pc + 1) L (v :: v :: st) S) : G K g nL cs pc L (v :: st) S := by
  obtain ⟨p, l, e, R, s, m, args, below, meth, c, Q⟩ := K
  intro H locs ls h1 h2 h3 h4 h5
  exact lv_dup hC.1 hC.2.1 hd (cat_ne g hv) (k H locs ls h1 h2 (okv_cons (okv_head h3) h3) h4 h5)
theorem g_dup2 {v u : Vl} (hC : Ctx K g own cc nL fr cm sm) (hd : decode cc pc = .ok (.dup2, 1)) (hv : isL v = false) (hu : isL u = false) (k : G K g nL cs (pc + 1) L (v :: u :: v :: u :: st) S) : G K g nL cs pc L (v :: u :: st) S := by
  obtain ⟨p, l, e, R, s, m, args, below, meth, c, Q⟩ := K
  intro H locs ls h1 h2 h3 h4 h5
  exact lv_dup2_11 hC.1 hC.2.1 hd (cat_ne g hv) (cat_ne g hu) (k H locs ls h1 h2 (okv_cons (okv_head h3) (okv_cons (okv_head (okv_tail h3)) h3)) h4 h5)
theorem g_dup_x1 {v u : Vl} (hC : Ctx K g own cc nL fr cm sm) (hd : decode cc pc = .ok (.dup_x1, 1)) (hv : isL v = false) (hu : isL u = false) (k : G K g nL cs (pc + 1) L (v :: u :: v :: st) S) : G K g nL cs pc L (v :: u :: st) S := by
  obtain ⟨p, l, e, R, s, m, args, below, meth, c, Q⟩ := K
  intro H locs ls h1 h2 h3 h4 h5
  exact lv_dup_x1 hC.1 hC.2.1 hd (cat_ne g hv) (cat_ne g hu) (k H locs ls h1 h2 (okv_cons (okv_head h3) (okv_cons (okv_head (okv_tail h3)) (okv_cons (okv_head h3) (okv_tail (okv_tail h3))))) h4 h5)
theorem g_pop {v : Vl} (hC : Ctx K g own cc nL fr cm sm) (hd : decode cc pc = .ok (.pop, 1)) (hv : isL v = false) (k : G K g nL cs (pc + 1) L st S) : G K g nL cs pc L (v :: st) S := by
  obtain ⟨p, l, e, R, s, m, args, below, meth, c, Q⟩ := K
  intro H locs ls h1 h2 h3 h4 h5
  exact lv_pop hC.1 hC.2.1 hd (cat_ne g hv) (k H locs ls h1 h2 (okv_tail h3) h4 h5)
theorem g_goto {off : Int} {tgt : Nat} (hC : Ctx K g own cc nL fr cm sm) (hd : decode cc pc = .ok (.goto off, 3)) (ht : (pc : Int) + off = (tgt : Int)) (k : G K g nL cs tgt L st S) : G K g nL cs pc L st S := by
  obtain ⟨p, l, e, R, s, m, args, below, meth, c, Q⟩ := K
  intro H locs ls h1 h2 h3 h4 h5
  exact lv_goto hC.1 hC.2.1 hd ht (k H locs ls h1 h2 h3 h4 h5)

theorem g_icmp_eq {x y off : Int} {tgt : Nat} (hC : Ctx K g own cc nL fr cm sm) (hd : decode cc pc = .ok (.if_icmp .eq off, 3)) (ht : (pc : Int) + off = (tgt : Int)) (kt : x = y → G K g nL cs tgt L st S) (kf : ¬ x = y → G K g nL cs (pc + 3) L st S) : G K g nL cs pc L (vi y :: vi x :: st) S := by
  obtain ⟨p, l, e, R, s, m, args, below, meth, c, Q⟩ := K
  intro H locs ls h1 h2 h3 h4 h5
  have hx : ok32 x := okv_head (okv_tail h3)
  have hy : ok32 y := okv_head h3
  have hh := eq_of32 hx hy
  exact lv_icmp_eq hC.1 hC.2.1 hd ht (fun z => kt (hh.mp z) H locs ls h1 h2 (okv_tail (okv_tail h3)) h4 h5) (fun z => kf (fun w => z (hh.mpr w)) H locs ls h1 h2 (okv_tail (okv_tail h3)) h4 h5)

theorem g_if_eq {x off : Int} {tgt : Nat} (hC : Ctx K g own cc nL fr cm sm) (hd : decode cc pc = .ok (.ifCond .eq off, 3)) (ht : (pc : Int) + off = (tgt : Int)) (kt : x = 0 → G K g nL cs tgt L st S) (kf : ¬ x = 0 → G K g nL cs (pc + 3) L st S) : G K g nL cs pc L (vi x :: st) S := by
  obtain ⟨p, l, e, R, s, m, args, below, meth, c, Q⟩ := K
  intro H locs ls h1 h2 h3 h4 h5
  have hx : ok32 x := okv_head h3
  have hh := eq_of32 hx ok32_0
  exact lv_if_eq hC.1 hC.2.1 hd ht (fun z => kt (hh.mp z) H locs ls h1 h2 (okv_tail h3) h4 h5) (fun z => kf (fun w => z (hh.mpr w)) H locs ls h1 h2 (okv_tail h3) h4 h5)

theorem g_icmp_lt {x y off : Int} {tgt : Nat} (hC : Ctx K g own cc nL fr cm sm) (hd : decode cc pc = .ok (.if_icmp .lt off, 3)) (ht : (pc : Int) + off = (tgt : Int)) (kt : x < y → G K g nL cs tgt L st S) (kf : ¬ x < y → G K g nL cs (pc + 3) L st S) : G K g nL cs pc L (vi y :: vi x :: st) S := by
  obtain ⟨p, l, e, R, s, m, args, below, meth, c, Q⟩ := K
  intro H locs ls h1 h2 h3 h4 h5
  have hx : ok32 x := okv_head (okv_tail h3)
  have hy : ok32 y := okv_head h3
  have hh := lt_of32 hx hy
  exact lv_icmp_lt hC.1 hC.2.1 hd ht (fun z => kt (hh.mp z) H locs ls h1 h2 (okv_tail (okv_tail h3)) h4 h5) (fun z => kf (fun w => z (hh.mpr w)) H locs ls h1 h2 (okv_tail (okv_tail h3)) h4 h5)

theorem g_if_lt {x off : Int} {tgt : Nat} (hC : Ctx K g own cc nL fr cm sm) (hd : decode cc pc = .ok (.ifCond .lt off, 3)) (ht : (pc : Int) + off = (tgt : Int)) (kt : x < 0 → G K g nL cs tgt L st S) (kf : ¬ x < 0 → G K g nL cs (pc + 3) L st S) : G K g nL cs pc L (vi x :: st) S := by
  obtain ⟨p, l, e, R, s, m, args, below, meth, c, Q⟩ := K
  intro H locs ls h1 h2 h3 h4 h5
  have hx : ok32 x := okv_head h3
  have hh := lt_of32 hx ok32_0
  exact lv_if_lt hC.1 hC.2.1 hd ht (fun z => kt (hh.mp z) H locs ls h1 h2 (okv_tail h3) h4 h5) (fun z => kf (fun w => z (hh.mpr w)) H locs ls h1 h2 (okv_tail h3) h4 h5)

theorem g_icmp_ge {x y off : Int} {tgt : Nat} (hC : Ctx K g own cc nL fr cm sm) (hd : decode cc pc = .ok (.if_icmp .ge off, 3)) (ht : (pc : Int) + off = (tgt : Int)) (kt : y ≤ x → G K g nL cs tgt L st S) (kf : ¬ y ≤ x → G K g nL cs (pc + 3) L st S) : G K g nL cs pc L (vi y :: vi x :: st) S := by
  obtain ⟨p, l, e, R, s, m, args, below, meth, c, Q⟩ := K
  intro H locs ls h1 h2 h3 h4 h5
  have hx : ok32 x := okv_head (okv_tail h3)
  have hy : ok32 y := okv_head h3
  have hh := le_of32 hy hx
  exact lv_icmp_ge hC.1 hC.2.1 hd ht (fun z => kt (hh.mp z) H locs ls h1 h2 (okv_tail (okv_tail h3)) h4 h5) (fun z => kf (fun w => z (hh.mpr w)) H locs ls h1 h2 (okv_tail (okv_tail h3)) h4 h5)

theorem g_if_ge {x off : Int} {tgt : Nat} (hC : Ctx K g own cc nL fr cm sm) (hd : decode cc pc = .ok (.ifCond .ge off, 3)) (ht : (pc : Int) + off = (tgt : Int)) (kt : 0 ≤ x → G K g nL cs tgt L st S) (kf : ¬ 0 ≤ x → G K g nL cs (pc + 3) L st S) : G K g nL cs pc L (vi x :: st) S := by
  obtain ⟨p, l, e, R, s, m, args, below, meth, c, Q⟩ := K
  intro H locs ls h1 h2 h3 h4 h5
  have hx : ok32 x := okv_head h3
  have hh := le_of32 ok32_0 hx
  exact lv_if_ge hC.1 hC.2.1 hd ht (fun z => kt (hh.mp z) H locs ls h1 h2 (okv_tail h3) h4 h5) (fun z => kf (fun w => z (hh.mpr w)) H locs ls h1 h2 (okv_tail h3) h4 h5)

theorem g_icmp_gt {x y off : Int} {tgt : Nat} (hC : Ctx K g own cc nL fr cm sm) (hd : decode cc pc = .ok (.if_icmp .gt off, 3)) (ht : (pc : Int) + off = (tgt : Int)) (kt : y < x → G K g nL cs tgt L st S) (kf : ¬ y < x → G K g nL cs (pc + 3) L st S) : G K g nL cs pc L (vi y :: vi x :: st) S := by
  obtain ⟨p, l, e, R, s, m, args, below, meth, c, Q⟩ := K
  intro H locs ls h1 h2 h3 h4 h5
  have hx : ok32 x := okv_head (okv_tail h3)
  have hy : ok32 y := okv_head h3
  have hh := lt_of32 hy hx
  exact lv_icmp_gt hC.1 hC.2.1 hd ht (fun z => kt (hh.mp z) H locs ls h1 h2 (okv_tail (okv_tail h3)) h4 h5) (fun z => kf (fun w => z (hh.mpr w)) H locs ls h1 h2 (okv_tail (okv_tail h3)) h4 h5)

theorem g_if_gt {x off : Int} {tgt : Nat} (hC : Ctx K g own cc nL fr cm sm) (hd : decode cc pc = .ok (.ifCond .gt off, 3)) (ht : (pc : Int) + off = (tgt : Int)) (kt : 0 < x → G K g nL cs tgt L st S) (kf : ¬ 0 < x → G K g nL cs (pc + 3) L st S) : G K g nL cs pc L (vi x :: st) S := by
  obtain ⟨p, l, e, R, s, m, args, below, meth, c, Q⟩ := K
  intro H locs ls h1 h2 h3 h4 h5
  have hx : ok32 x := okv_head h3
  have hh := lt_of32 ok32_0 hx
  exact lv_if_gt hC.1 hC.2.1 hd ht (fun z => kt (hh.mp z) H locs ls h1 h2 (okv_tail h3) h4 h5) (fun z => kf (fun w => z (hh.mpr w)) H locs ls h1 h2 (okv_tail h3) h4 h5)

theorem g_icmp_le {x y off : Int} {tgt : Nat} (hC : Ctx K g own cc nL fr cm sm) (hd : decode cc pc = .ok (.if_icmp .le off, 3)) (ht : (pc : Int) + off = (tgt : Int)) (kt : x ≤ y → G K g nL cs tgt L st S) (kf : ¬ x ≤ y → G K g nL cs (pc + 3) L st S) : G K g nL cs pc L (vi y :: vi x :: st) S := by
  obtain ⟨p, l, e, R, s, m, args, below, meth, c, Q⟩ := K
  intro H locs ls h1 h2 h3 h4 h5
  have hx : ok32 x := okv_head (okv_tail h3)
  have hy : ok32 y := okv_head h3
  have hh := le_of32 hx hy
  exact lv_icmp_le hC.1 hC.2.1 hd ht (fun z => kt (hh.mp z) H locs ls h1 h2 (okv_tail (okv_tail h3)) h4 h5) (fun z => kf (fun w => z (hh.mpr w)) H locs ls h1 h2 (okv_tail (okv_tail h3)) h4 h5)

theorem g_if_le {x off : Int} {tgt : Nat} (hC : Ctx K g own cc nL fr cm sm) (hd : decode cc pc = .ok (.ifCond .le off, 3)) (ht : (pc : Int) + off = (tgt : Int)) (kt : x ≤ 0 → G K g nL cs tgt L st S) (kf : ¬ x ≤ 0 → G K g nL cs (pc + 3) L st S) : G K g nL cs pc L (vi x :: st) S := by
  obtain ⟨p, l, e, R, s, m, args, below, meth, c, Q⟩ := K
  intro H locs ls h1 h2 h3 h4 h5
  have hx : ok32 x := okv_head h3
  have hh := le_of32 hx ok32_0
  exact lv_if_le hC.1 hC.2.1 hd ht (fun z => kt (hh.mp z) H locs ls h1 h2 (okv_tail h3) h4 h5) (fun z => kf (fun w => z (hh.mpr w)) H locs ls h1 h2 (okv_tail h3) h4 h5)

theorem g_icmp_ne {x y off : Int} {tgt : Nat} (hC : Ctx K g own cc nL fr cm sm) (hd : decode cc pc = .ok (.if_icmp .ne off, 3)) (ht : (pc : Int) + off = (tgt : Int)) (kt : ¬ x = y → G K g nL cs tgt L st S) (kf : x = y → G K g nL cs (pc + 3) L st S) : G K g nL cs pc L (vi y :: vi x :: st) S := by
  obtain ⟨p, l, e, R, s, m, args, below, meth, c, Q⟩ := K
  intro H locs ls h1 h2 h3 h4 h5
  have hx : ok32 x := okv_head (okv_tail h3)
  have hy : ok32 y := okv_head h3
  have hh := eq_of32 hx hy
  exact lv_icmp_ne hC.1 hC.2.1 hd ht (fun z => kt (fun w => z (hh.mpr w)) H locs ls h1 h2 (okv_tail (okv_tail h3)) h4 h5) (fun z => kf (hh.mp z) H locs ls h1 h2 (okv_tail (okv_tail h3)) h4 h5)
theorem g_if_ne {x off : Int} {tgt : Nat} (hC : Ctx K g own cc nL fr cm sm) (hd : decode cc pc = .ok (.ifCond .ne off, 3)) (ht : (pc : Int) + off = (tgt : Int)) (kt : ¬ x = 0 → G K g nL cs tgt L st S) (kf : x = 0 → G K g nL cs (pc + 3) L st S) : G K g nL cs pc L (vi x :: st) S := by
  obtain ⟨p, l, e, R, s, m, args, below, meth, c, Q⟩ := K
  intro H locs ls h1 h2 h3 h4 h5
  have hx : ok32 x := okv_head h3
  have hh := eq_of32 hx ok32_0
  exact lv_if_ne hC.1 hC.2.1 hd ht (fun z => kt (fun w => z (hh.mpr w)) H locs ls h1 h2 (okv_tail h3) h4 h5) (fun z => kf (hh.mp z) H locs ls h1 h2 (okv_tail h3) h4 h5)
theorem g_table {x dflt lo hi : Int} {offs : Array Int} {len : Nat} (hC : Ctx K g own cc nL fr cm sm) (hd : decode cc pc = .ok (.tableswitch dflt lo hi offs, len)) (tgt : Nat) (h : ((x < lo ∨ hi < x) ∧ (pc : Int) + dflt = (tgt : Int)) ∨ (¬ x < lo ∧ ¬ hi < x ∧ ∃ off, offs[(x - lo).toNat]? = some off ∧ (pc : Int) + off = (tgt : Int))) (k : G K g nL cs tgt L st S) : G K g nL cs pc L (vi x :: st) S := by
  obtain ⟨p, l, e, R, s, m, args, below, meth, c, Q⟩ := K
  intro H locs ls h1 h2 h3 h4 h5
  have hx : (Int32.ofInt x).toInt = x := toInt_of32 (okv_head h3)
  rcases h with ⟨a, b⟩ | ⟨a, b, off, d, f⟩
  · exact lv_tableOut hC.1 hC.2.1 hd (by rw [hx]; exact a) b (k H locs ls h1 h2 (okv_tail h3) h4 h5)
  · exact lv_tableIn hC.1 hC.2.1 hd (by rw [hx]; exact a) (by rw [hx]; exact b) (by rw [hx]; exact d) f (k H locs ls h1 h2 (okv_tail h3) h4 h5)
theorem g_lookup {x dflt : Int} {ps : Array (Int × Int)} {len : Nat} (hC : Ctx K g own cc nL fr cm sm) (hd : decode cc pc = .ok (.lookupswitch dflt ps, len)) (hp : (ps.toList.zip (ps.toList.drop 1)).all (fun (a, next) => a.1 < next.1) = true) (off : Int) (tgt : Nat) (ho : Op.lookupswitch.offset ps.toList dflt x = off) (ht : (pc : Int) + off = (tgt : Int)) (k : G K g nL cs tgt L st S) : G K g nL cs pc L (vi x :: st) S := by
  obtain ⟨p, l, e, R, s, m, args, below, meth, c, Q⟩ := K
  intro H locs ls h1 h2 h3 h4 h5
  have hx : (Int32.ofInt x).toInt = x := toInt_of32 (okv_head h3)
  exact lv_lookup hC.1 hC.2.1 hd hp (by rw [hx]; exact ho) ht (k H locs ls h1 h2 (okv_tail h3) h4 h5)
end Rows
end
section
/-! Rows over the store: fields, arrays, statics. -/
section HeapRows
variable {K : KT} {g : GT} {own : String} {cc : ByteArray} {nL fr cm sm : Nat} {cs : Nat × Nat} {pc : Nat} {L : List (Nat × Vl)} {st : List Vl} {S : S2}
/-- a field of class ci, place k, as own's pool entry ix names it -/
def FL (own : String) (ix ci k : Nat) : Prop := ∃ (C : String) (T : u_T) (N : Nat), vwCl[ci]? = some (C, T, N) ∧ k < N ∧ (∀ w ∈ u_ws C T N, w ∈ lw_w) ∧ (Cond.fieldLink own ix (T k).1 (T k).2.1 (T k).2.2.1 ∈ lw_w ∨ ∃ host : String, Cond.fieldLinkNest own ix (T k).1 (T k).2.1 (T k).2.2.1 host ∈ lw_tbl)
/-- what a write of it needs besides -/
def FP (ci k : Nat) (ty : FieldType) : Prop := ∃ (C : String) (T : u_T) (N : Nat) (ty0 : Nat → FieldType), vwCl[ci]? = some (C, T, N) ∧ (∀ k, k < N → parseFieldDescriptor (T k).2.2.1 = some (ty0 k)) ∧ (∀ a, a < N → ∀ b, b < N → a ≠ b → (T a).2.1 ≠ (T b).2.1) ∧ (T k).2.2.2 = false ∧ parseFieldDescriptor (T k).2.2.1 = some ty
theorem obj_get {c ci : Nat} {fs : List (Nat × Option Nat)} (hs : S.1[c]? = some (0, ci, fs)) : (wsO g S)[c]? = some (g.1 + c, .inr (ci, fs.mapIdx (fun j f => fv g f (S.2 c j)))) := by
  rw [wsO_get hs]
  rfl
theorem g_get {c ix ci k : Nat} {fs : List (Nat × Option Nat)} {f : Nat × Option Nat} {v : Vl} (hC : Ctx K g own cc nL fr cm sm) (hd : decode cc pc = .ok (.getfield ix, 3)) (hF : FL own ix ci k) (hs : S.1[c]? = some (0, ci, fs)) (hf : fs[k]? = some f) (hv : fv g f (S.2 c k) = cv g v) (hok : okf f (S.2 c k) → okv v) (kk : G K g nL cs (pc + 3) L (v :: st) S) : G K g nL cs pc L (vr c :: st) S := by
  obtain ⟨p, l, e, R, s, m, args, below, meth, c0, Q⟩ := K
  obtain ⟨C, T, N, e1, e2, e3, e4⟩ := hF
  intro H locs ls h1 h2 h3 h4 h5
  have hk := kk H locs ls h1 h2 (okv_cons (hok (by have := h1.2 c _ hs; exact this k f hf)) (okv_tail h3)) h4 h5
  have hv' : (fs.mapIdx (fun j f => fv g f (S.2 c j)))[k]? = some (cv g v) := by rw [List.getElem?_mapIdx, hf, ← hv]; rfl
  rcases e4 with e4 | ⟨host, e4⟩
  · exact va_get hC.1 hC.2.1 hC.2.2.2.2.1 e3 hC.2.2.2.1 hC.2.2.2.2.2.1.1 h1.1 c (obj_get hs) e1 k e2 (hC.2.2.2.2.1 _ e4) (fun _ h => h) hv' hd hk
  · exact va_getN hC.1 hC.2.1 hC.2.2.2.2.1 e3 hC.2.2.2.1 hC.2.2.2.2.2.1.1 h1.1 c (obj_get hs) e1 k e2 (va_Nw.use rfl (hC.2.2.2.2.2.1.2.2.1 _ e4 rfl)) (fun _ h => h) hv' hd hk
theorem g_geti {c ix ci k : Nat} {fs : List (Nat × Option Nat)} (hC : Ctx K g own cc nL fr cm sm) (hd : decode cc pc = .ok (.getfield ix, 3)) (hF : FL own ix ci k) (hs : S.1[c]? = some (0, ci, fs)) (hf : fs[k]? = some (0, none)) (kk : G K g nL cs (pc + 3) L (vi (S.2 c k) :: st) S) : G K g nL cs pc L (vr c :: st) S := g_get (v := vi (S.2 c k)) hC hd hF hs hf rfl (fun h => h) kk
theorem g_getz {c ix ci k : Nat} {fs : List (Nat × Option Nat)} (hC : Ctx K g own cc nL fr cm sm) (hd : decode cc pc = .ok (.getfield ix, 3)) (hF : FL own ix ci k) (hs : S.1[c]? = some (0, ci, fs)) (hf : fs[k]? = some (3, none)) (kk : G K g nL cs (pc + 3) L (vi (S.2 c k) :: st) S) : G K g nL cs pc L (vr c :: st) S := g_get (v := vi (S.2 c k)) hC hd hF hs hf rfl (fun h => h) kk
theorem g_getl {c ix ci k : Nat} {fs : List (Nat × Option Nat)} (hC : Ctx K g own cc nL fr cm sm) (hd : decode cc pc = .ok (.getfield ix, 3)) (hF : FL own ix ci k) (hs : S.1[c]? = some (0, ci, fs)) (hf : fs[k]? = some (1, none)) (kk : G K g nL cs (pc + 3) L (vl (S.2 c k) :: st) S) : G K g nL cs pc L (vr c :: st) S := g_get (v := vl (S.2 c k)) hC hd hF hs hf rfl (fun h => h) kk
theorem g_getr {c ix ci k d : Nat} {fs : List (Nat × Option Nat)} (hC : Ctx K g own cc nL fr cm sm) (hd : decode cc pc = .ok (.getfield ix, 3)) (hF : FL own ix ci k) (hs : S.1[c]? = some (0, ci, fs)) (hf : fs[k]? = some (2, some d)) (kk : G K g nL cs (pc + 3) L (vr d :: st) S) : G K g nL cs pc L (vr c :: st) S := g_get (v := vr d) hC hd hF hs hf rfl (fun _ => trivial) kk
theorem Wh_up {k j : Nat} {x : Int} {h : Sh} {H H1 : Heap} (h1 : Wh g S H) (hk : S.1[k]? = some h) (hx : okc (vf_upd (S.2 k) j x) h) (hP : va_P g.2.1 vwCl ((wsO g S).set k (g.1 + k, ce g (vf_upd (S.2 k) j x) h)) H1) : Wh g (S.1, up S.2 k j x) H1 := by
  refine ⟨by rw [← wsO_up hk]; exact hP, fun q h' hq => ?_⟩
  by_cases e : q = k
  · subst e
    cases hk.symm.trans hq
    show okc (up S.2 q j x q) h
    rw [up_at]
    exact hx
  · show okc (up S.2 k j x q) h'
    rw [up_ne e]
    exact h1.2 q h' hq
theorem g_put {c ix ci k : Nat} {fs : List (Nat × Option Nat)} {f : Nat × Option Nat} {v : Vl} {x : Int} {ty : FieldType} (hC : Ctx K g own cc nL fr cm sm) (hd : decode cc pc = .ok (.putfield ix, 3)) (hF : FL own ix ci k) (hp : FP ci k ty) (hs : S.1[c]? = some (0, ci, fs)) (hf : fs[k]? = some f) (hv : cv g v = fv g f x) (hok : okv v → okf f x) (hn : narrow ty (cv g v) = cv g v) (hfit : fits ty (cv g v) = true) (kk : G K g nL cs (pc + 3) L st (S.1, up S.2 c k x)) : G K g nL cs pc L (v :: vr c :: st) S := by
  obtain ⟨p, l, e, R, s, m, args, below, meth, c0, Q⟩ := K
  obtain ⟨C, T, N, e1, e2, e3, e4⟩ := hF
  obtain ⟨C', T', N', ty0, p1, p2, p3, p4, p5⟩ := hp
  cases e1.symm.trans p1
  intro H locs ls h1 h2 h3 h4 h5
  have hl : k < (fs.mapIdx (fun j f => fv g f (S.2 c j))).length := by rw [List.length_mapIdx]; exact (List.getElem?_eq_some_iff.mp hf).1
  have hset : (fs.mapIdx (fun j f => fv g f (S.2 c j))).set k (cv g v) = fs.mapIdx (fun j f => fv g f (vf_upd (S.2 c) k x j)) := by
    apply List.ext_getElem?
    intro i
    rw [List.getElem?_set, List.getElem?_mapIdx, List.getElem?_mapIdx]
    by_cases hi : k = i
    · subst hi
      rw [hf, hv]
      simp [vf_upd, (List.getElem?_eq_some_iff.mp hf).1]
    · simp [hi, vf_upd, Ne.symm hi]
  have hokc : okc (vf_upd (S.2 c) k x) (0, ci, fs) := by
    intro j f' hj
    by_cases hi : j = k
    · subst hi
      cases hf.symm.trans hj
      simp only [vf_upd, if_pos]
      exact hok (okv_head h3)
    · have := h1.2 c _ hs
      simp only [vf_upd, if_neg hi]
      exact this j f' hj
  have go : ∀ (H1 : Heap) (locs1 : List Loc), va_P g.2.1 vwCl ((wsO g S).set c (g.1 + c, .inr (ci, (fs.mapIdx (fun j f => fv g f (S.2 c j))).set k (cv g v)))) H1 → va_S (AO g) s.heap H1 locs1 → W p l e R s m args below meth c0 H1 locs1 cs.1 cs.2 Q (F0 m (pc + 3) ls (st.map (cv g))) := by
    intro H1 locs1 hP hS
    rw [hset] at hP
    exact kk H1 locs1 ls (Wh_up h1 hs hokc hP) hS (okv_tail (okv_tail h3)) h4 h5
  rcases e4 with e4 | ⟨host, e4⟩
  · exact va_put hC.1 hC.2.1 hC.2.2.2.2.1 e3 ty0 p2 p3 hC.2.2.2.1 hC.2.2.2.2.2.1.1 h1.1 (wsO_D g S) h2 c (obj_get hs) e1 k e2 (hC.2.2.2.2.1 _ e4) (fun _ h => h) p4 p5 hn hfit hl hd (fun H1 locs1 a _ b => go H1 locs1 a b)
  · exact va_putN hC.1 hC.2.1 hC.2.2.2.2.1 e3 ty0 p2 p3 hC.2.2.2.1 hC.2.2.2.2.2.1.1 h1.1 (wsO_D g S) h2 c (obj_get hs) e1 k e2 (va_Nw.use rfl (hC.2.2.2.2.2.1.2.2.1 _ e4 rfl)) (fun _ h => h) p4 p5 hn hfit hl hd (fun H1 locs1 a _ b => go H1 locs1 a b)
theorem g_puti {c ix ci k : Nat} {fs : List (Nat × Option Nat)} {x : Int} (hC : Ctx K g own cc nL fr cm sm) (hd : decode cc pc = .ok (.putfield ix, 3)) (hF : FL own ix ci k) (hp : FP ci k .int) (hs : S.1[c]? = some (0, ci, fs)) (hf : fs[k]? = some (0, none)) (kk : G K g nL cs (pc + 3) L st (S.1, up S.2 c k x)) : G K g nL cs pc L (vi x :: vr c :: st) S := g_put (v := vi x) hC hd hF hp hs hf rfl (fun h => h) rfl rfl kk
theorem g_putl {c ix ci k : Nat} {fs : List (Nat × Option Nat)} {x : Int} (hC : Ctx K g own cc nL fr cm sm) (hd : decode cc pc = .ok (.putfield ix, 3)) (hF : FL own ix ci k) (hp : FP ci k .long) (hs : S.1[c]? = some (0, ci, fs)) (hf : fs[k]? = some (1, none)) (kk : G K g nL cs (pc + 3) L st (S.1, up S.2 c k x)) : G K g nL cs pc L (vl x :: vr c :: st) S := g_put (v := vl x) hC hd hF hp hs hf rfl (fun h => h) rfl rfl kk
theorem nar_z {x : Int} (h : x = 0 ∨ x = 1) : narrow .boolean (.int (Int32.ofInt x)) = .int (Int32.ofInt x) ∧ fits .boolean (.int (Int32.ofInt x)) = true := by
  rcases h with rfl | rfl <;> exact ⟨rfl, by decide +kernel⟩
theorem g_putz {c ix ci k : Nat} {fs : List (Nat × Option Nat)} {x : Int} (hC : Ctx K g own cc nL fr cm sm) (hd : decode cc pc = .ok (.putfield ix, 3)) (hF : FL own ix ci k) (hp : FP ci k .boolean) (hs : S.1[c]? = some (0, ci, fs)) (hf : fs[k]? = some (3, none)) (hx : x = 0 ∨ x = 1) (kk : G K g nL cs (pc + 3) L st (S.1, up S.2 c k x)) : G K g nL cs pc L (vi x :: vr c :: st) S := g_put (v := vi x) hC hd hF hp hs hf rfl (fun h => h) (nar_z hx).1 (nar_z hx).2 kk
/-- an index in its row -/
def inb (i : Int) (n : Nat) : Prop := 0 ≤ i ∧ i < n
theorem ints_get {c n : Nat} {z : List (Nat × Option Nat)} (hs : S.1[c]? = some (1, n, z)) : (wsO g S)[c]? = some (g.1 + c, .inl (g.2.2.1.1, n, .inl (fun j => Int32.ofInt (S.2 c j)))) := by
  rw [wsO_get hs]
  rfl
theorem longs_get {c n : Nat} {z : List (Nat × Option Nat)} (hs : S.1[c]? = some (2, n, z)) : (wsO g S)[c]? = some (g.1 + c, .inl (g.2.2.1.2.1, n, .inr (.inl (fun j => Int64.ofInt (S.2 c j))))) := by
  rw [wsO_get hs]
  rfl
theorem refs_get {c n : Nat} {z : List (Nat × Option Nat)} (hs : S.1[c]? = some (3, n, z)) : (wsO g S)[c]? = some (g.1 + c, .inl (g.2.2.1.2.2, n, .inr (.inr (.inr (.inr (fun j => ((z[j]?).bind (fun q => q.2)).map (fun c => g.1 + c))))))) := by
  rw [wsO_get hs]
  rfl
theorem g_iald {c n : Nat} {z : List (Nat × Option Nat)} {i : Int} (hC : Ctx K g own cc nL fr cm sm) (hd : decode cc pc = .ok (.iaload, 1)) (hs : S.1[c]? = some (1, n, z)) (hi : inb i n) (kk : G K g nL cs (pc + 1) L (vi (S.2 c i.toNat) :: st) S) : G K g nL cs pc L (vi i :: vr c :: st) S := by
  obtain ⟨p, l, e, R, s, m, args, below, meth, c0, Q⟩ := K
  intro H locs ls h1 h2 h3 h4 h5
  have hi' : ok32 i := okv_head h3
  refine va_iald hC.1 hC.2.1 hC.2.2.2.2.2.1.1 h1.1 c 0 (ints_get hs) rfl (in_of32 hi' hi.1 hi.2) hd ?_
  have hk := kk H locs ls h1 h2 (okv_cons (by have := h1.2 c _ hs; exact this i.toNat) (okv_tail (okv_tail h3))) h4 h5
  rw [clamp_of32 hi']
  exact hk
theorem g_lald {c n : Nat} {z : List (Nat × Option Nat)} {i : Int} (hC : Ctx K g own cc nL fr cm sm) (hd : decode cc pc = .ok (.laload, 1)) (hs : S.1[c]? = some (2, n, z)) (hi : inb i n) (kk : G K g nL cs (pc + 1) L (vl (S.2 c i.toNat) :: st) S) : G K g nL cs pc L (vi i :: vr c :: st) S := by
  obtain ⟨p, l, e, R, s, m, args, below, meth, c0, Q⟩ := K
  intro H locs ls h1 h2 h3 h4 h5
  have hi' : ok32 i := okv_head h3
  refine va_lald hC.1 hC.2.1 hC.2.2.2.2.2.1.1 h1.1 c 1 (longs_get hs) rfl (in_of32 hi' hi.1 hi.2) hd ?_
  have hk := kk H locs ls h1 h2 (okv_cons (by have := h1.2 c _ hs; exact this i.toNat) (okv_tail (okv_tail h3))) h4 h5
  rw [clamp_of32 hi']
  exact hk
theorem g_aald {c n d : Nat} {z : List (Nat × Option Nat)} {i : Int} (hC : Ctx K g own cc nL fr cm sm) (hd : decode cc pc = .ok (.aaload, 1)) (hs : S.1[c]? = some (3, n, z)) (hi : inb i n) (hz : z[i.toNat]? = some (2, some d)) (kk : G K g nL cs (pc + 1) L (vr d :: st) S) : G K g nL cs pc L (vi i :: vr c :: st) S := by
  obtain ⟨p, l, e, R, s, m, args, below, meth, c0, Q⟩ := K
  intro H locs ls h1 h2 h3 h4 h5
  have hi' : ok32 i := okv_head h3
  refine va_aldq hC.1 hC.2.1 hC.2.2.2.2.2.1.1 h1.1 c 2 (refs_get hs) rfl (in_of32 hi' hi.1 hi.2) hd ?_
  have hk := kk H locs ls h1 h2 (okv_cons (v := vr d) trivial (okv_tail (okv_tail h3))) h4 h5
  rw [clamp_of32 hi', hz]
  exact hk
theorem g_iast {c n : Nat} {z : List (Nat × Option Nat)} {i x : Int} (hC : Ctx K g own cc nL fr cm sm) (hd : decode cc pc = .ok (.iastore, 1)) (hs : S.1[c]? = some (1, n, z)) (hi : inb i n) (kk : G K g nL cs (pc + 1) L st (S.1, up S.2 c i.toNat x)) : G K g nL cs pc L (vi x :: vi i :: vr c :: st) S := by
  obtain ⟨p, l, e, R, s, m, args, below, meth, c0, Q⟩ := K
  intro H locs ls h1 h2 h3 h4 h5
  have hi' : ok32 i := okv_head (okv_tail h3)
  refine va_iast hC.1 hC.2.1 hC.2.2.2.2.2.1.1 h1.1 (wsO_D g S) h2 c 0 (ints_get hs) rfl (in_of32 hi' hi.1 hi.2) hd (fun H1 locs1 hP _ hS => ?_)
  refine kk H1 locs1 ls (Wh_up (j := i.toNat) (x := x) h1 hs ?_ ?_) hS (okv_tail (okv_tail (okv_tail h3))) h4 h5
  · intro j
    have := h1.2 c _ hs
    by_cases hj : j = i.toNat
    · simp only [vf_upd, if_pos hj]; exact okv_head h3
    · simp only [vf_upd, if_neg hj]; exact this j
  · rw [clamp_of32 hi'] at hP
    have e9 : (upd (fun j => Int32.ofInt (S.2 c j)) i.toNat (Int32.ofInt x)) = (fun j => Int32.ofInt (vf_upd (S.2 c) i.toNat x j)) := by
      funext j
      by_cases hj : j = i.toNat <;> simp [upd, vf_upd, hj]
    rw [e9] at hP
    exact hP
theorem g_last {c n : Nat} {z : List (Nat × Option Nat)} {i x : Int} (hC : Ctx K g own cc nL fr cm sm) (hd : decode cc pc = .ok (.lastore, 1)) (hs : S.1[c]? = some (2, n, z)) (hi : inb i n) (kk : G K g nL cs (pc + 1) L st (S.1, up S.2 c i.toNat x)) : G K g nL cs pc L (vl x :: vi i :: vr c :: st) S := by
  obtain ⟨p, l, e, R, s, m, args, below, meth, c0, Q⟩ := K
  intro H locs ls h1 h2 h3 h4 h5
  have hi' : ok32 i := okv_head (okv_tail h3)
  refine va_last hC.1 hC.2.1 hC.2.2.2.2.2.1.1 h1.1 (wsO_D g S) h2 c 1 (longs_get hs) rfl (in_of32 hi' hi.1 hi.2) hd (fun H1 locs1 hP _ hS => ?_)
  refine kk H1 locs1 ls (Wh_up (j := i.toNat) (x := x) h1 hs ?_ ?_) hS (okv_tail (okv_tail (okv_tail h3))) h4 h5
  · intro j
    have := h1.2 c _ hs
    by_cases hj : j = i.toNat
    · simp only [vf_upd, if_pos hj]; exact okv_head h3
    · simp only [vf_upd, if_neg hj]; exact this j
  · rw [clamp_of32 hi'] at hP
    have e9 : (vp_updL (fun j => Int64.ofInt (S.2 c j)) i.toNat (Int64.ofInt x)) = (fun j => Int64.ofInt (vf_upd (S.2 c) i.toNat x j)) := by
      funext j
      by_cases hj : j = i.toNat <;> simp [vp_updL, vf_upd, hj]
    rw [e9] at hP
    exact hP
theorem g_alen {c n : Nat} {z : List (Nat × Option Nat)} (hC : Ctx K g own cc nL fr cm sm) (hd : decode cc pc = .ok (.arraylength, 1)) (hs : S.1[c]? = some (1, n, z) ∨ S.1[c]? = some (2, n, z)) (hn : ok32 n) (kk : G K g nL cs (pc + 1) L (vi n :: st) S) : G K g nL cs pc L (vr c :: st) S := by
  obtain ⟨p, l, e, R, s, m, args, below, meth, c0, Q⟩ := K
  intro H locs ls h1 h2 h3 h4 h5
  have hk := kk H locs ls h1 h2 (okv_cons (v := vi n) hn (okv_tail h3)) h4 h5
  rcases hs with hs | hs
  · exact va_alen hC.1 hC.2.1 hC.2.2.2.2.2.1.1 h1.1 c 0 (ints_get hs) rfl (v := Int32.ofInt n) (by rw [Int32.ofInt_eq_ofNat]) hd hk
  · exact va_alen hC.1 hC.2.1 hC.2.2.2.2.2.1.1 h1.1 c 1 (longs_get hs) rfl (v := Int32.ofInt n) (by rw [Int32.ofInt_eq_ofNat]) hd hk
/-- a static array, read -/
theorem g_gets {ix k : Nat} {C n d : String} {ty : FieldType} {xs : List Int} (hC : Ctx K g own cc nL fr cm sm) (hd : decode cc pc = .ok (.getstatic ix, 3)) (hk : sts[k]? = some (C, n, d, ty, xs)) (hl : Cond.fieldLink own ix C n d ∈ lw_w) (kk : G K g nL cs (pc + 3) L (vo k :: st) S) : G K g nL cs pc L st S := by
  obtain ⟨p, l, e, R, s, m, args, below, meth, c0, Q⟩ := K
  intro H locs ls h1 h2 h3 h4 h5
  exact va_gets hC.1 hC.2.1 (hC.2.2.2.2.2.1.2.1.1 k C n d ty xs hk).1 h2 hC.2.2.2.1 (hC.2.2.2.2.1 _ hl) (fun _ h => h) hd (kk H locs ls h1 h2 (okv_cons (v := vo k) trivial h3) h4 h5)
theorem g_oald {k : Nat} {C n d : String} {xs : List Int} {i x : Int} (hC : Ctx K g own cc nL fr cm sm) (hd : decode cc pc = .ok (.iaload, 1)) (hk : sts[k]? = some (C, n, d, .int, xs)) (hi : inb i xs.length) (hx : ok32 (xs.getD i.toNat 0)) (kk : G K g nL cs (pc + 1) L (vi (xs.getD i.toNat 0) :: st) S) : G K g nL cs pc L (vi i :: vo k :: st) S := by
  obtain ⟨p, l, e, R, s, m, args, below, meth, c0, Q⟩ := K
  intro H locs ls h1 h2 h3 h4 h5
  have hi' : ok32 i := okv_head h3
  exact va_ti hC.1 hC.2.1 (hC.2.2.2.2.2.1.2.1.1 k C n d .int xs hk).2 h2 (in_of32 hi' hi.1 hi.2) (v := .int (Int32.ofInt (xs.getD i.toNat 0))) (by rw [clamp_of32 hi']; rfl) hd (kk H locs ls h1 h2 (okv_cons (v := vi _) hx (okv_tail (okv_tail h3))) h4 h5)
end HeapRows
end
section
/-! Contracts over the abstract store, calls, returns. -/
def Pc0 (g : GT) (vs : List Vl) (S : S2) : Array Value → State → Prop := fun v U => v = (vs.map (cv g)).toArray ∧ (∀ v ∈ vs, okv v) ∧ Wst g U U.heap ∧ Wh g S U.heap ∧ g.1 ≤ U.heap.size
def Qc0 (g : GT) (r : Option Vl) (S' : S2) : Array Value → State → Outcome → State → Prop := fun _ st oc t => oc = .returned (r.map (cv g)) ∧ (∀ v, r = some v → okv v) ∧ Wh g S' t.heap ∧ va_F (AO g) st t
def rmk (fr mc ms : Nat) : Room := { frames := fr, cells := mc, slots := ms, locals := 40 * fr }
/-- the contract of a method: fr frames of room, mc cells of ms slots made, from the arguments vs and the store S to the answer r and the store S' -/
def Cn (l : Launch) (g : GT) (y : MethodName) (b : ByteArray) (nL : Nat) (ret : Option FieldType) (fr mc ms : Nat) (vs : List Vl) (S : S2) (r : Option Vl) (S' : S2) : Prop := Met l y (Cond.code y b nL ret :: lw_w) (rmk fr mc ms) (Pc0 g vs S) (Qc0 g r S') mc ms (AO g)
def Kl (K : KT) : Launch := match K with
  | (_, l, _, _, _, _, _, _, _, _, _) => l
/-- what the tables say of a method: its code, its class is initialised, n arguments -/
def MI (y : MethodName) (b : ByteArray) (nL : Nat) (ret : Option FieldType) (n : Nat) : Prop := Cond.code y b nL ret ∈ lw_w ∧ Cond.initialized y.cls ∈ lw_w ∧ y.cls ≠ "java/lang/invoke/MethodHandle" ∧ y.cls ≠ "java/lang/invoke/VarHandle" ∧ (parseMethodDescriptor y.desc).map (fun d => d.parameters.length) = some n
def ML (own : String) (ix : Nat) (y : MethodName) : Prop := Cond.methodLink own ix y ∈ lw_w ∨ ∃ host : String, Cond.methodLinkNest own ix y host ∈ lw_tbl
def MV (y : MethodName) : Prop := Cond.instanceMethod y ∈ lw_w ∧ Cond.selects y.cls y y ∈ lw_w
def wsum (st : List Vl) : Nat := (st.map (fun v => if isL v then 2 else 1)).sum
theorem wsum_cv (g : GT) (st : List Vl) : ((st.map (cv g)).map fun v => v.category).sum = wsum st := by
  unfold wsum
  rw [List.map_map]
  congr 1
  apply List.map_congr_left
  intro v _
  rcases v with x | x | x | x <;> rfl
theorem goodCode {y : MethodName} {b : ByteArray} {nL n : Nat} {ret : Option FieldType} (h : MI y b nL ret n) : GoodIn lw_w (Cond.code y b nL ret :: lw_w) := fun w hw => (List.mem_cons.mp hw).elim (fun e => ⟨e ▸ h.1, e ▸ lw_w_good _ h.1⟩) (fun z => ⟨z, lw_w_good _ z⟩)
theorem Pc0_blind (g : GT) (vs : List Vl) (S : S2) : FrameBlind (Pc0 g vs S) := fun _ U _ _ q => ⟨q.1, q.2.1, Wst.same (s := U) rfl q.2.2.1, q.2.2.2.1, q.2.2.2.2⟩
section Calls
variable {K : KT} {g : GT} {own : String} {cc : ByteArray} {nL fr cm sm : Nat} {cs : Nat × Nat} {pc : Nat} {L : List (Nat × Vl)} {st : List Vl} {S : S2}
theorem run_goes {p : Program} {l : Launch} {e : Env} {R : Room} {s : State} {m : MethodId} {args : Array Value} {below : List Frame} {meth : Method} {c : Code} {H : Heap} {locs : List Loc} {cells slots mc ms : Nat} {Q : State → Prop} {ls : Array Slot} {st0 rest : List Value} {r : Option Vl} {S' : S2} {a : Array Value}
    (hr : va_Run p l e R s m args below meth c H locs cells slots mc ms (F0 m pc ls st0) rest (Qc0 g r S' a) (AO g)) (hS : va_S (AO g) s.heap H locs)
    (kk : ∀ (H1 : Heap) (locs1 : List Loc), (∀ v, r = some v → okv v) → Wh g S' H1 → va_S (AO g) s.heap H1 locs1 → W p l e R s m args below meth c H1 locs1 (cells + mc) (slots + ms) Q (F0 m (pc + 3) ls ((r.map (cv g)).toList ++ rest))) : W p l e R s m args below meth c H locs cells slots Q (F0 m pc ls st0) := by
  intro T hT X
  obtain ⟨v, st₀, t, T', L, h0, X', hL, e1, e2, ⟨hv, hok, hw, hz, hk⟩, st⟩ := hr T hT X
  cases hv
  rw [h0] at hz hk
  obtain ⟨t2, a1, b1⟩ := kk T'.heap (locs ++ L) hok (by rw [e1]; exact hw)
    ⟨Nat.le_trans hS.1 (by rw [e1]; exact hz), fun q h1 h2 => by rw [e1, hk q (Nat.lt_of_lt_of_le h1 hS.1) h2]; exact hS.2.1 q h1 h2, fun q hq => by
      rcases List.mem_append.mp hq with h | h
      · exact hS.2.2 q h
      · exact hL q h⟩ T' rfl X'
  exact ⟨t2, st t2 a1, b1⟩
theorem pre_in {p : Program} {l : Launch} {e : Env} {R : Room} {s : State} {m : MethodId} {args : Array Value} {below : List Frame} {meth : Method} {c : Code} {Q : State → Prop} {H : Heap} {locs : List Loc} {vs : List Vl} (hC : Ctx (p, l, e, R, s, m, args, below, meth, c, Q) g own cc nL fr cm sm) (hS : va_S (AO g) s.heap H locs) (h1 : Wh g S H) (hv : ∀ v ∈ vs, okv v) : ∀ U : State, U.heap = H → s.WarmedH U.vm → Pc0 g vs S (vs.map (cv g)).toArray U := by
  intro U hU hW
  refine ⟨rfl, hv, ?_, by rw [hU]; exact h1, by rw [hU]; exact Nat.le_trans hC.2.2.2.2.2.2.1 hS.1⟩
  rw [hU]
  exact Wst.warm hW hC.2.2.2.2.2.1 hS.2.1
theorem room_in {p : Program} {l : Launch} {e : Env} {R : Room} {s : State} {m : MethodId} {args : Array Value} {below : List Frame} {meth : Method} {c : Code} {Q : State → Prop} {fr' mc ms nL' : Nat} (hC : Ctx (p, l, e, R, s, m, args, below, meth, c, Q) g own cc nL fr cm sm) (hfr : fr' + 1 ≤ fr) (hnl : nL' ≤ 21) : (rmk fr' mc ms).frames + 1 ≤ R.frames ∧ 8 + (nL' + 11) + (rmk fr' mc ms).locals ≤ R.locals := by
  obtain ⟨-, -, -, -, -, -, -, h1, h2, -, -⟩ := hC
  simp only [rmk]
  omega
theorem g_callV {y : MethodName} {b : ByteArray} {nL' : Nat} {ret : Option FieldType} {fr' mc ms n ix c ci : Nat} {fs : List (Nat × Option Nat)} {T : u_T} {N : Nat} {As stk : List Vl} {r : Option Vl} {S' : S2}
    (hC : Ctx K g own cc nL fr cm sm) (hd : decode cc pc = .ok (.invokevirtual ix, 3)) (hm : MI y b nL' ret n) (hv : MV y) (hl : ML own ix y) (hs : S.1[c]? = some (0, ci, fs)) (hcl : vwCl[ci]? = some (y.cls, T, N)) (hstk : stk = As.reverse ++ vr c :: st) (hn : As.length = n) (hw : wsum st ≤ 8) (hfr : fr' + 1 ≤ fr) (hnl : nL' ≤ 21) (hcs : cs.1 + mc ≤ cm ∧ cs.2 + ms ≤ sm)
    (hM : Cn (Kl K) g y b nL' ret fr' mc ms (vr c :: As) S r S') (kk : G K g nL (cs.1 + mc, cs.2 + ms) (pc + 3) L (r.toList ++ st) S') : G K g nL cs pc L stk S := by
  obtain ⟨p, l, e, R, s, m, args, below, meth, c0, Q⟩ := K
  intro H locs ls h1 h2 h3 h4 h5
  subst hstk
  have hcr := hC.2.2.2.2.2.2.2.2.2
  have hvs : ∀ v ∈ vr c :: As, okv v := fun v hv => (List.mem_cons.mp hv).elim (fun e => e ▸ trivial) (fun z => h3 v (List.mem_append_left _ (List.mem_reverse.mpr z)))
  have hst : ∀ v ∈ st, okv v := fun v hv => h3 v (List.mem_append_right _ (List.mem_cons_of_mem _ hv))
  have hrun : va_Run p l e R s m args below meth c0 H locs cs.1 cs.2 mc ms (F0 m pc ls ((As.reverse ++ vr c :: st).map (cv g))) (st.map (cv g)) (Qc0 g r S' (((vr c :: As).map (cv g)).toArray)) (AO g) := by
    have hp : PreV s H y.cls (g.1 + c) (Pc0 g (vr c :: As) S) (As.map (cv g)) := ⟨Pc0_blind g _ _, va_recv hC.2.2.2.2.2.1.1 h1.1 hcl (obj_get hs), pre_in hC h2 h1 hvs⟩
    have hstack : (F0 m pc ls ((As.reverse ++ vr c :: st).map (cv g))).stack = (As.map (cv g)).reverse ++ .ref (g.1 + c) :: st.map (cv g) := by
      show (As.reverse ++ vr c :: st).map (cv g) = _
      rw [List.map_append, List.map_reverse]
      rfl
    have hW : 2 * (F0 m pc ls ((As.reverse ++ vr c :: st).map (cv g))).monitorRoom + ((st.map (cv g)).map fun v => v.category).sum ≤ 8 := lv_room (by rw [wsum_cv]; exact hw)
    rcases hl with hl | ⟨host, hl⟩
    · exact va_runV ⟨hC.1, hC.2.1, hC.2.2.1, hC.2.2.2.1, hC.2.2.2.2.1⟩ hM ⟨callB_of n hC.2.2.2.2.1 (goodCode hm) rfl rfl rfl (hC.2.2.2.2.1 _ hm.2.1) (hC.2.2.2.2.1 _ hl) ⟨hm.2.2.1, hm.2.2.2.1, hm.2.2.2.2⟩ (room_in hC hfr hnl), hC.2.2.2.2.1 _ hv.1, hC.2.2.2.2.1 _ hv.2⟩ hp rfl (by rw [List.length_map]; exact hn) h5.1 hstack hW hd (by omega)
    · exact va_runVN ⟨hC.1, hC.2.1, hC.2.2.1, hC.2.2.2.1, hC.2.2.2.2.1⟩ hM ⟨va_cnB n hC.2.2.2.2.1 (goodCode hm) rfl rfl rfl (hC.2.2.2.2.2.1.2.2.1 _ hl rfl) (hC.2.2.2.2.1 _ hm.2.1) ⟨hm.2.2.1, hm.2.2.2.1, hm.2.2.2.2⟩ (room_in hC hfr hnl), hC.2.2.2.2.1 _ hv.1, hC.2.2.2.2.1 _ hv.2⟩ hp rfl (by rw [List.length_map]; exact hn) h5.1 hstack hW hd (by omega)
  refine run_goes hrun h2 (fun H1 locs1 hok hw1 hS1 => ?_)
  have hk := kk H1 locs1 ls hw1 hS1 (fun v hv => (List.mem_append.mp hv).elim (fun z => hok v (Option.mem_toList.mp z)) (hst v)) h4 h5
  have e9 : (r.toList ++ st).map (cv g) = (r.map (cv g)).toList ++ st.map (cv g) := by
    rw [List.map_append]
    cases r <;> rfl
  rw [e9] at hk
  exact hk
theorem g_callS {y : MethodName} {b : ByteArray} {nL' : Nat} {ret : Option FieldType} {fr' mc ms n ix : Nat} {As stk : List Vl} {r : Option Vl} {S' : S2}
    (hC : Ctx K g own cc nL fr cm sm) (hd : decode cc pc = .ok (.invokestatic ix, 3)) (hm : MI y b nL' ret n) (hv : Cond.static y ∈ lw_w) (hl : ML own ix y) (hstk : stk = As.reverse ++ st) (hn : As.length = n) (hw : wsum st ≤ 8) (hfr : fr' + 1 ≤ fr) (hnl : nL' ≤ 21) (hcs : cs.1 + mc ≤ cm ∧ cs.2 + ms ≤ sm)
    (hM : Cn (Kl K) g y b nL' ret fr' mc ms As S r S') (kk : G K g nL (cs.1 + mc, cs.2 + ms) (pc + 3) L (r.toList ++ st) S') : G K g nL cs pc L stk S := by
  obtain ⟨p, l, e, R, s, m, args, below, meth, c0, Q⟩ := K
  intro H locs ls h1 h2 h3 h4 h5
  subst hstk
  have hcr := hC.2.2.2.2.2.2.2.2.2
  have hvs : ∀ v ∈ As, okv v := fun v hv => h3 v (List.mem_append_left _ (List.mem_reverse.mpr hv))
  have hst : ∀ v ∈ st, okv v := fun v hv => h3 v (List.mem_append_right _ hv)
  have hrun : va_Run p l e R s m args below meth c0 H locs cs.1 cs.2 mc ms (F0 m pc ls ((As.reverse ++ st).map (cv g))) (st.map (cv g)) (Qc0 g r S' ((As.map (cv g)).toArray)) (AO g) := by
    have hp : PreS s H (Pc0 g As S) (As.map (cv g)) := ⟨Pc0_blind g _ _, pre_in hC h2 h1 hvs⟩
    have hstack : (F0 m pc ls ((As.reverse ++ st).map (cv g))).stack = (As.map (cv g)).reverse ++ st.map (cv g) := by
      show (As.reverse ++ st).map (cv g) = _
      rw [List.map_append, List.map_reverse]
    have hW : 2 * (F0 m pc ls ((As.reverse ++ st).map (cv g))).monitorRoom + ((st.map (cv g)).map fun v => v.category).sum ≤ 8 := lv_room (by rw [wsum_cv]; exact hw)
    rcases hl with hl | ⟨host, hl⟩
    · exact va_runS ⟨hC.1, hC.2.1, hC.2.2.1, hC.2.2.2.1, hC.2.2.2.2.1⟩ hM ⟨callB_of n hC.2.2.2.2.1 (goodCode hm) rfl rfl rfl (hC.2.2.2.2.1 _ hm.2.1) (hC.2.2.2.2.1 _ hl) ⟨hm.2.2.1, hm.2.2.2.1, hm.2.2.2.2⟩ (room_in hC hfr hnl), hC.2.2.2.2.1 _ hv⟩ hp rfl (by rw [List.length_map]; exact hn) h5.1 hstack hW hd (by omega)
    · exact va_runSN ⟨hC.1, hC.2.1, hC.2.2.1, hC.2.2.2.1, hC.2.2.2.2.1⟩ hM ⟨va_cnB n hC.2.2.2.2.1 (goodCode hm) rfl rfl rfl (hC.2.2.2.2.2.1.2.2.1 _ hl rfl) (hC.2.2.2.2.1 _ hm.2.1) ⟨hm.2.2.1, hm.2.2.2.1, hm.2.2.2.2⟩ (room_in hC hfr hnl), hC.2.2.2.2.1 _ hv, trivial⟩ hp rfl (by rw [List.length_map]; exact hn) h5.1 hstack hW hd (by omega)
  refine run_goes hrun h2 (fun H1 locs1 hok hw1 hS1 => ?_)
  have hk := kk H1 locs1 ls hw1 hS1 (fun v hv => (List.mem_append.mp hv).elim (fun z => hok v (Option.mem_toList.mp z)) (hst v)) h4 h5
  have e9 : (r.toList ++ st).map (cv g) = (r.map (cv g)).toList ++ st.map (cv g) := by
    rw [List.map_append]
    cases r <;> rfl
  rw [e9] at hk
  exact hk
end Calls
/-- what a return hands on: the goal at a return instruction -/
def RetI (K : KT) (g : GT) (cc : ByteArray) (nL : Nat) (cs : Nat × Nat) (r : Int) (S : S2) : Prop := ∀ (pc : Nat) (L : List (Nat × Vl)), decode cc pc = .ok (.ireturn, 1) → G K g nL cs pc L [vi r] S
def RetZ (K : KT) (g : GT) (cc : ByteArray) (nL : Nat) (cs : Nat × Nat) (r : Int) (S : S2) : Prop := ∀ (pc : Nat) (L : List (Nat × Vl)), r = 0 ∨ r = 1 → decode cc pc = .ok (.ireturn, 1) → G K g nL cs pc L [vi r] S
def RetL (K : KT) (g : GT) (cc : ByteArray) (nL : Nat) (cs : Nat × Nat) (r : Int) (S : S2) : Prop := ∀ (pc : Nat) (L : List (Nat × Vl)), decode cc pc = .ok (.lreturn, 1) → G K g nL cs pc L [vl r] S
def RetV (K : KT) (g : GT) (cc : ByteArray) (nL : Nat) (cs : Nat × Nat) (S : S2) : Prop := ∀ (pc : Nat) (L : List (Nat × Vl)), decode cc pc = .ok (.return_, 1) → G K g nL cs pc L [] S
/-- the locals at the entry -/
def argL : Nat → List Vl → List (Nat × Vl)
  | _, [] => []
  | i, v :: vs => (i, v) :: argL (if isL v then i + 2 else i + 1) vs
theorem argL_map (g : GT) : ∀ (vs : List Vl) (i : Nat), (argL i vs).map (fun q => (q.1, cv g q.2)) = lv_args i (vs.map (cv g)) := by
  intro vs
  induction vs with
  | nil => intro i; rfl
  | cons v vs ih =>
    intro i
    simp only [argL, List.map_cons, lv_args, ih]
    rcases v with x | x | x | x <;> rfl
theorem sl_len (g : GT) : ∀ vs : List Vl, (lg_sl (vs.map (cv g))).length = wsum vs := by
  intro vs
  induction vs with
  | nil => rfl
  | cons v vs ih =>
    have e : lg_sl ((v :: vs).map (cv g)) = (if (cv g v).category = 2 then [Slot.val (cv g v), .second] else [.val (cv g v)]) ++ lg_sl (vs.map (cv g)) := rfl
    rw [e, List.length_append, ih]
    unfold wsum
    rw [List.map_cons, List.sum_cons]
    congr 1
    rcases v with x | x | x | x <;> rfl
theorem argL_ok (vs : List Vl) (h : ∀ v ∈ vs, okv v) : ∀ i, ∀ q ∈ argL i vs, okv q.2 := by
  induction vs with
  | nil => intro i q hq; cases hq
  | cons v vs ih =>
    intro i q hq
    rcases List.mem_cons.mp hq with e | e
    · subst e; exact h v List.mem_cons_self
    · exact ih (fun v hv => h v (List.mem_cons_of_mem _ hv)) _ q e
/-- a contract out of a walk of the body -/
theorem Cn.of {l : Launch} {g : GT} {y : MethodName} {b : ByteArray} {nL : Nat} {ret : Option FieldType} {fr mc ms : Nat} {vs : List Vl} {S : S2} {r : Option Vl} {S' : S2} (hy : plainName y.cls = true) (hlen : wsum vs ≤ nL)
    (body : ∀ K : KT, Kl K = l → Ctx K g y.cls b nL fr mc ms → (∀ (v : Int) (pc : Nat) (L : List (Nat × Vl)), r = some (vi v) → ret = some .int → decode b pc = .ok (.ireturn, 1) → G K g nL (mc, ms) pc L [vi v] S') → (∀ (v : Int) (pc : Nat) (L : List (Nat × Vl)), r = some (vi v) → ret = some .boolean → v = 0 ∨ v = 1 → decode b pc = .ok (.ireturn, 1) → G K g nL (mc, ms) pc L [vi v] S') → (∀ (v : Int) (pc : Nat) (L : List (Nat × Vl)), r = some (vl v) → ret = some .long → decode b pc = .ok (.lreturn, 1) → G K g nL (mc, ms) pc L [vl v] S') → (∀ (pc : Nat) (L : List (Nat × Vl)), r = none → ret = none → decode b pc = .ok (.return_, 1) → G K g nL (mc, ms) pc L [] S') → G K g nL (0, 0) 0 (argL 0 vs) [] S) : Cn l g y b nL ret fr mc ms vs S r S' := by
  refine Met.ofW (cc := b) (maxL := nL) (ret := ret) hy rfl ?_
  intro p e s m args below meth c s₁ B hml hv
  obtain ⟨rfl, hok, hst, hwh, hbs⟩ := hv
  have hx := B.exec
  have hb := B.bytes
  have hr := B.returns
  have hts := atoms_spec (ws := Cond.code y b nL ret :: lw_w) B.pre
  have hown : s.vm.findClass y.cls = some m.cls := findClass_of_methodNamed B.named
  have hlocks := B.notSynchronized
  have key : ∀ (H : Heap) (locs : List Loc), Wh g S' H → va_S (AO g) s.heap H locs → (∀ v, r = some v → okv v) → (∀ t : State, t.heap = H → s.WarmedH t.vm → Qc0 g r S' (vs.map (cv g)).toArray s (.returned (r.map (cv g))) t) := by
    intro H locs h1 h2 h3 t ht _
    exact ⟨rfl, h3, by rw [ht]; exact h1, h2.F ht⟩
  have hG := body (p, l, e, (headSpec (Cond.code y b nL ret :: lw_w) (rmk fr mc ms)).room, s, m, (vs.map (cv g)).toArray, below, meth, c, MQ below (Qc0 g r S') (vs.map (cv g)).toArray s mc ms (AO g)) rfl
    ⟨hx, hb, hml, hown, fun w hw => hts w (List.mem_cons_of_mem _ hw), hst, hbs, Nat.le_refl _, Nat.le_refl _, Nat.le_refl _, Nat.le_refl _⟩ ?_ ?_ ?_ ?_
  · have hl := lv_entry (vs.map (cv g)) (n := nL) (by rw [sl_len]; exact hlen)
    rw [lg_entry_eq]
    rw [← argL_map] at hl
    exact hG s.heap [] _ hwh va_S.rf (fun v hv => absurd hv List.not_mem_nil) (argL_ok vs hok 0) hl
  · intro v pc L e1 e2 hd H locs ls h1 h2 h3 _ _
    have hq := key H locs h1 h2 (fun v' hv' => by cases e1.symm.trans hv'; exact h3 _ List.mem_cons_self)
    subst e1
    exact W.iret hx hb (by rw [hr]; exact e2) hq h2.2.2 hd
  · intro v pc L e1 e2 hz hd H locs ls h1 h2 h3 _ _
    have hq := key H locs h1 h2 (fun v' hv' => by cases e1.symm.trans hv'; exact h3 _ List.mem_cons_self)
    subst e1
    exact W.zret hx hb (by rw [hr]; exact e2) (nar_z hz).1 hq h2.2.2 hd
  · intro v pc L e1 e2 hd H locs ls h1 h2 h3 _ _
    have hq := key H locs h1 h2 (fun v' hv' => by cases e1.symm.trans hv'; exact h3 _ List.mem_cons_self)
    subst e1
    exact W.lret hx hb (by rw [hr]; exact e2) hq h2.2.2 hd
  · intro pc L e1 e2 hd H locs ls h1 h2 h3 _ _
    have hq := key H locs h1 h2 (fun v' hv' => by rw [e1] at hv'; cases hv')
    subst e1
    exact W.vret hx hb (by rw [hr]; exact e2) hq h2.2.2 hd
theorem Cn.ofI {l : Launch} {g : GT} {y : MethodName} {b : ByteArray} {nL : Nat} {fr : Nat} {vs : List Vl} {S : S2} {r : Int} {S' : S2} (hy : plainName y.cls = true) (hlen : wsum vs ≤ nL) (body : ∀ K : KT, Kl K = l → Ctx K g y.cls b nL fr 0 0 → RetI K g b nL (0, 0) r S' → G K g nL (0, 0) 0 (argL 0 vs) [] S) : Cn l g y b nL (some .int) fr 0 0 vs S (some (vi r)) S' :=
  Cn.of hy hlen (fun K e hC h1 _ _ _ => body K e hC (fun pc L hd => h1 r pc L rfl rfl hd))
theorem Cn.ofZ {l : Launch} {g : GT} {y : MethodName} {b : ByteArray} {nL : Nat} {fr : Nat} {vs : List Vl} {S : S2} {r : Int} {S' : S2} (hy : plainName y.cls = true) (hlen : wsum vs ≤ nL) (body : ∀ K : KT, Kl K = l → Ctx K g y.cls b nL fr 0 0 → RetZ K g b nL (0, 0) r S' → G K g nL (0, 0) 0 (argL 0 vs) [] S) : Cn l g y b nL (some .boolean) fr 0 0 vs S (some (vi r)) S' :=
  Cn.of hy hlen (fun K e hC _ h1 _ _ => body K e hC (fun pc L hz hd => h1 r pc L rfl rfl hz hd))
theorem Cn.ofL {l : Launch} {g : GT} {y : MethodName} {b : ByteArray} {nL : Nat} {fr : Nat} {vs : List Vl} {S : S2} {r : Int} {S' : S2} (hy : plainName y.cls = true) (hlen : wsum vs ≤ nL) (body : ∀ K : KT, Kl K = l → Ctx K g y.cls b nL fr 0 0 → RetL K g b nL (0, 0) r S' → G K g nL (0, 0) 0 (argL 0 vs) [] S) : Cn l g y b nL (some .long) fr 0 0 vs S (some (vl r)) S' :=
  Cn.of hy hlen (fun K e hC _ _ h1 _ => body K e hC (fun pc L hd => h1 r pc L rfl rfl hd))
theorem Cn.ofV {l : Launch} {g : GT} {y : MethodName} {b : ByteArray} {nL : Nat} {fr : Nat} {vs : List Vl} {S : S2} {S' : S2} (hy : plainName y.cls = true) (hlen : wsum vs ≤ nL) (body : ∀ K : KT, Kl K = l → Ctx K g y.cls b nL fr 0 0 → RetV K g b nL (0, 0) S' → G K g nL (0, 0) 0 (argL 0 vs) [] S) : Cn l g y b nL none fr 0 0 vs S none S' :=
  Cn.of hy hlen (fun K e hC _ _ _ h1 => body K e hC (fun pc L hd => h1 pc L rfl rfl hd))
end
section
/-! Math, System.arraycopy, static arrays of longs. -/
section JdkRows
variable {K : KT} {g : GT} {own : String} {cc : ByteArray} {nL fr cm sm : Nat} {cs : Nat × Nat} {pc : Nat} {L : List (Nat × Vl)} {st : List Vl} {S : S2}
def m_min (x y : Int) : Int := if y < x then y else x
def m_max (x y : Int) : Int := if x < y then y else x
def m_maxl (x y : Int) : Int := if y < x then x else y
theorem g_min {ix : Nat} {x y : Int} (hC : Ctx K g own cc nL fr cm sm) (hd : decode cc pc = .ok (.invokestatic ix, 3)) (hl : Cond.methodLink own ix Lib.Math.min.name ∈ lw_w) (hst : Cond.static Lib.Math.min.name ∈ lw_w) (hi : Cond.initialized "java/lang/Math" ∈ lw_w) (hcd : Cond.code Lib.Math.min.name Lib.Math.min.code 2 (some .int) ∈ lw_w) (hw : wsum st ≤ 8) (hfr : 1 ≤ fr) (hcs : cs.1 ≤ cm ∧ cs.2 ≤ sm) (k : G K g nL cs (pc + 3) L (vi (m_min x y) :: st) S) : G K g nL cs pc L (vi y :: vi x :: st) S := by
  obtain ⟨p, l, e, R, s, m, args, below, meth, c, Q⟩ := K
  intro H locs ls h1 h2 h3 h4 h5
  have hx : ok32 x := okv_head (okv_tail h3)
  have hy : ok32 y := okv_head h3
  obtain ⟨a1, a2, a3, a4, a5, a6, a7, a8, a9, a10, a11⟩ := hC
  have k' := k H locs ls h1 h2 (okv_cons (v := vi (m_min x y)) (by show ok32 _; unfold m_min; split <;> assumption) (okv_tail (okv_tail h3))) h4 h5
  refine va_mmin a1 a2 (by rw [a3]; exact h5.1.symm) a4 (a5 _ hl) (a5 _ hst) (a5 _ hi) (a5 _ hcd) (by omega) (by rw [wsum_cv]; omega) (by omega) (by omega) hd ?_
  have e9 : (if Int32.ofInt y < Int32.ofInt x then Int32.ofInt y else Int32.ofInt x) = Int32.ofInt (m_min x y) := by
    unfold m_min
    by_cases h : y < x
    · rw [if_pos h, if_pos ((lt_of32 hy hx).mpr h)]
    · rw [if_neg h, if_neg (fun z => h ((lt_of32 hy hx).mp z))]
  rw [e9]
  exact k'
theorem g_max {ix : Nat} {x y : Int} (hC : Ctx K g own cc nL fr cm sm) (hd : decode cc pc = .ok (.invokestatic ix, 3)) (hl : Cond.methodLink own ix Lib.Math.max.name ∈ lw_w) (hst : Cond.static Lib.Math.max.name ∈ lw_w) (hi : Cond.initialized "java/lang/Math" ∈ lw_w) (hcd : Cond.code Lib.Math.max.name Lib.Math.max.code 2 (some .int) ∈ lw_w) (hw : wsum st ≤ 8) (hfr : 1 ≤ fr) (hcs : cs.1 ≤ cm ∧ cs.2 ≤ sm) (k : G K g nL cs (pc + 3) L (vi (m_max x y) :: st) S) : G K g nL cs pc L (vi y :: vi x :: st) S := by
  obtain ⟨p, l, e, R, s, m, args, below, meth, c, Q⟩ := K
  intro H locs ls h1 h2 h3 h4 h5
  have hx : ok32 x := okv_head (okv_tail h3)
  have hy : ok32 y := okv_head h3
  obtain ⟨a1, a2, a3, a4, a5, a6, a7, a8, a9, a10, a11⟩ := hC
  have k' := k H locs ls h1 h2 (okv_cons (v := vi (m_max x y)) (by show ok32 _; unfold m_max; split <;> assumption) (okv_tail (okv_tail h3))) h4 h5
  refine va_mmax a1 a2 (by rw [a3]; exact h5.1.symm) a4 (a5 _ hl) (a5 _ hst) (a5 _ hi) (a5 _ hcd) (by omega) (by rw [wsum_cv]; omega) (by omega) (by omega) hd ?_
  have e9 : (if Int32.ofInt x < Int32.ofInt y then Int32.ofInt y else Int32.ofInt x) = Int32.ofInt (m_max x y) := by
    unfold m_max
    by_cases h : x < y
    · rw [if_pos h, if_pos ((lt_of32 hx hy).mpr h)]
    · rw [if_neg h, if_neg (fun z => h ((lt_of32 hx hy).mp z))]
  rw [e9]
  exact k'
theorem g_maxl {ix : Nat} {x y : Int} (hC : Ctx K g own cc nL fr cm sm) (hd : decode cc pc = .ok (.invokestatic ix, 3)) (hl : Cond.methodLink own ix Lib.MathLoose.max_long.x ∈ lw_w) (hst : Cond.static Lib.MathLoose.max_long.x ∈ lw_w) (hi : Cond.initialized "java/lang/Math" ∈ lw_w) (hcd : Cond.code Lib.MathLoose.max_long.x Lib.MathLoose.max_long.code 4 (some .long) ∈ lw_w) (hw : wsum st ≤ 8) (hfr : 1 ≤ fr) (hcs : cs.1 ≤ cm ∧ cs.2 ≤ sm) (k : G K g nL cs (pc + 3) L (vl (m_maxl x y) :: st) S) : G K g nL cs pc L (vl y :: vl x :: st) S := by
  obtain ⟨p, l, e, R, s, m, args, below, meth, c, Q⟩ := K
  intro H locs ls h1 h2 h3 h4 h5
  have hx : ok64 x := okv_head (okv_tail h3)
  have hy : ok64 y := okv_head h3
  obtain ⟨a1, a2, a3, a4, a5, a6, a7, a8, a9, a10, a11⟩ := hC
  have k' := k H locs ls h1 h2 (okv_cons (v := vl (m_maxl x y)) (by show ok64 _; unfold m_maxl; split <;> assumption) (okv_tail (okv_tail h3))) h4 h5
  refine va_mmax_long a1 a2 (by rw [a3]; exact h5.1.symm) a4 (a5 _ hl) (a5 _ hst) (a5 _ hi) (a5 _ hcd) (by omega) (by rw [wsum_cv]; omega) (by omega) (by omega) hd ?_
  have hh : Int64.ofInt y < Int64.ofInt x ↔ y < x := by rw [Int64.lt_iff_toInt_lt, toInt_of64 hx, toInt_of64 hy]
  have e9 : (if Int64.ofInt y < Int64.ofInt x then Int64.ofInt x else Int64.ofInt y) = Int64.ofInt (m_maxl x y) := by
    unfold m_maxl
    by_cases h : y < x
    · rw [if_pos h, if_pos (hh.mpr h)]
    · rw [if_neg h, if_neg (fun z => h (hh.mp z))]
  rw [e9]
  exact k'
theorem g_oaldl {k : Nat} {C n d : String} {xs : List Int} {i x : Int} (hC : Ctx K g own cc nL fr cm sm) (hd : decode cc pc = .ok (.laload, 1)) (hk : sts[k]? = some (C, n, d, .long, xs)) (hi : inb i xs.length) (hx : ok64 (xs.getD i.toNat 0)) (kk : G K g nL cs (pc + 1) L (vl (xs.getD i.toNat 0) :: st) S) : G K g nL cs pc L (vi i :: vo k :: st) S := by
  obtain ⟨p, l, e, R, s, m, args, below, meth, c0, Q⟩ := K
  intro H locs ls h1 h2 h3 h4 h5
  have hi' : ok32 i := okv_head h3
  exact va_tl hC.1 hC.2.1 (hC.2.2.2.2.2.1.2.1.1 k C n d .long xs hk).2 h2 (in_of32 hi' hi.1 hi.2) (v := .long (Int64.ofInt (xs.getD i.toNat 0))) (by rw [clamp_of32 hi']; rfl) hd (kk H locs ls h1 h2 (okv_cons (v := vl _) hx (okv_tail (okv_tail h3))) h4 h5)
/-- one cell's contents changed as a whole -/
def upc (σ : St) (c : Nat) (τ : Nat → Int) : St := fun a => if a = c then τ else σ a
theorem wsO_upc {k : Nat} {h : Sh} {τ : Nat → Int} (hk : S.1[k]? = some h) : (wsO g S).set k (g.1 + k, ce g τ h) = wsO g (S.1, upc S.2 k τ) := by
  apply List.ext_getElem?
  intro i
  rw [List.getElem?_set]
  by_cases hi : k = i
  · subst hi
    have hlt : k < S.1.length := (List.getElem?_eq_some_iff.mp hk).1
    have e := (List.getElem?_eq_some_iff.mp hk).2
    simp [hlt, wsO, List.getElem?_mapIdx, upc, e]
  · simp [hi, wsO, List.getElem?_mapIdx, upc, Ne.symm hi]
theorem Wh_upc {k : Nat} {h : Sh} {τ : Nat → Int} {H H1 : Heap} (h1 : Wh g S H) (hk : S.1[k]? = some h) (hx : okc τ h) (hP : va_P g.2.1 vwCl ((wsO g S).set k (g.1 + k, ce g τ h)) H1) : Wh g (S.1, upc S.2 k τ) H1 := by
  refine ⟨by rw [← wsO_upc hk]; exact hP, fun q h' hq => ?_⟩
  by_cases e : q = k
  · subst e
    cases hk.symm.trans hq
    show okc (upc S.2 q τ q) h
    rw [upc, if_pos rfl]
    exact hx
  · show okc (upc S.2 k τ q) h'
    rw [upc, if_neg e]
    exact h1.2 q h' hq
/-- System.arraycopy's deed -/
def cpy (σ : St) (c sp d dp n : Nat) : St := upc σ d (fun b => if dp ≤ b ∧ b < dp + n then σ c (sp + (b - dp)) else σ d b)
def inc (sp dp n : Int) (n0 n1 : Nat) : Prop := 0 ≤ sp ∧ 0 ≤ dp ∧ 0 ≤ n ∧ sp + n ≤ n0 ∧ dp + n ≤ n1
theorem g_copyi {ix c d n0 n1 : Nat} {z0 z1 : List (Nat × Option Nat)} {sp dp n : Int} (hC : Ctx K g own cc nL fr cm sm) (hd : decode cc pc = .ok (.invokestatic ix, 3)) (hl : Cond.methodLink own ix arraycopyName ∈ lw_w) (hnat : Cond.native arraycopyName ∈ lw_w) (hst : Cond.static arraycopyName ∈ lw_w) (hi : Cond.initialized "java/lang/System" ∈ lw_w) (hw : wsum st + (nativeFrameWords "java/lang/System" "arraycopy" 5 + 11) ≤ 40) (hfr : 1 ≤ fr) (hs0 : S.1[c]? = some (1, n0, z0)) (hs1 : S.1[d]? = some (1, n1, z1)) (hin : inc sp dp n n0 n1) (k : G K g nL cs (pc + 3) L st (S.1, cpy S.2 c sp.toNat d dp.toNat n.toNat)) : G K g nL cs pc L (vi n :: vi dp :: vr d :: vi sp :: vr c :: st) S := by
  obtain ⟨p, l, e, R, s, m, args, below, meth, c0, Q⟩ := K
  intro H locs ls h1 h2 h3 h4 h5
  have hn : ok32 n := okv_head h3
  have hdp : ok32 dp := okv_head (okv_tail h3)
  have hsp : ok32 sp := okv_head (okv_tail (okv_tail (okv_tail h3)))
  obtain ⟨i1, i2, i3, i4, i5⟩ := hin
  obtain ⟨a1, a2, a3, a4, a5, a6, a7, a8, a9, a10, a11⟩ := hC
  refine va_copyi a1 a2 (by rw [a3]; exact h5.1.symm) a4 (a5 _ hl) (a5 _ hnat) (a5 _ hst) (a5 _ hi) a6.1 h1.1 (wsO_D g S) h2 c d 0 0 (ints_get hs0) (ints_get hs1) rfl rfl rfl (fun z => by have := (lt_of32 hsp ok32_0).mp z; omega) (fun z => by have := (lt_of32 hdp ok32_0).mp z; omega) (fun z => by have := (lt_of32 hn ok32_0).mp z; omega) (by rw [clamp_of32 hsp, clamp_of32 hn]; omega) (by rw [clamp_of32 hdp, clamp_of32 hn]; omega) (fun _ _ => rfl) (by omega) (by rw [wsum_cv]; omega) hd (fun H1 locs1 hP _ hS => ?_)
  refine k H1 locs1 ls (Wh_upc h1 hs1 ?_ ?_) hS (okv_tail (okv_tail (okv_tail (okv_tail (okv_tail h3))))) h4 h5
  · intro j
    have q0 := h1.2 c _ hs0
    have q1 := h1.2 d _ hs1
    show ok32 (if _ then _ else _)
    split
    · exact q0 _
    · exact q1 _
  · rw [clamp_of32 hsp, clamp_of32 hdp, clamp_of32 hn] at hP
    have e9 : (va_cpy (fun j => Int32.ofInt (S.2 c j)) (fun j => Int32.ofInt (S.2 d j)) sp.toNat dp.toNat n.toNat) = (fun j => Int32.ofInt (if dp.toNat ≤ j ∧ j < dp.toNat + n.toNat then S.2 c (sp.toNat + (j - dp.toNat)) else S.2 d j)) := by
      funext j
      unfold va_cpy
      split <;> rfl
    rw [e9] at hP
    exact hP
theorem g_copyl {ix c d n0 n1 : Nat} {z0 z1 : List (Nat × Option Nat)} {sp dp n : Int} (hC : Ctx K g own cc nL fr cm sm) (hd : decode cc pc = .ok (.invokestatic ix, 3)) (hl : Cond.methodLink own ix arraycopyName ∈ lw_w) (hnat : Cond.native arraycopyName ∈ lw_w) (hst : Cond.static arraycopyName ∈ lw_w) (hi : Cond.initialized "java/lang/System" ∈ lw_w) (hw : wsum st + (nativeFrameWords "java/lang/System" "arraycopy" 5 + 11) ≤ 40) (hfr : 1 ≤ fr) (hs0 : S.1[c]? = some (2, n0, z0)) (hs1 : S.1[d]? = some (2, n1, z1)) (hin : inc sp dp n n0 n1) (k : G K g nL cs (pc + 3) L st (S.1, cpy S.2 c sp.toNat d dp.toNat n.toNat)) : G K g nL cs pc L (vi n :: vi dp :: vr d :: vi sp :: vr c :: st) S := by
  obtain ⟨p, l, e, R, s, m, args, below, meth, c0, Q⟩ := K
  intro H locs ls h1 h2 h3 h4 h5
  have hn : ok32 n := okv_head h3
  have hdp : ok32 dp := okv_head (okv_tail h3)
  have hsp : ok32 sp := okv_head (okv_tail (okv_tail (okv_tail h3)))
  obtain ⟨i1, i2, i3, i4, i5⟩ := hin
  obtain ⟨a1, a2, a3, a4, a5, a6, a7, a8, a9, a10, a11⟩ := hC
  refine va_copyl a1 a2 (by rw [a3]; exact h5.1.symm) a4 (a5 _ hl) (a5 _ hnat) (a5 _ hst) (a5 _ hi) a6.1 h1.1 (wsO_D g S) h2 c d 1 1 (longs_get hs0) (longs_get hs1) rfl rfl rfl (fun z => by have := (lt_of32 hsp ok32_0).mp z; omega) (fun z => by have := (lt_of32 hdp ok32_0).mp z; omega) (fun z => by have := (lt_of32 hn ok32_0).mp z; omega) (by rw [clamp_of32 hsp, clamp_of32 hn]; omega) (by rw [clamp_of32 hdp, clamp_of32 hn]; omega) (fun _ _ => rfl) (by omega) (by rw [wsum_cv]; omega) hd (fun H1 locs1 hP _ hS => ?_)
  refine k H1 locs1 ls (Wh_upc h1 hs1 ?_ ?_) hS (okv_tail (okv_tail (okv_tail (okv_tail (okv_tail h3))))) h4 h5
  · intro j
    have q0 := h1.2 c _ hs0
    have q1 := h1.2 d _ hs1
    show ok64 (if _ then _ else _)
    split
    · exact q0 _
    · exact q1 _
  · rw [clamp_of32 hsp, clamp_of32 hdp, clamp_of32 hn] at hP
    have e9 : (va_cpy (fun j => Int64.ofInt (S.2 c j)) (fun j => Int64.ofInt (S.2 d j)) sp.toNat dp.toNat n.toNat) = (fun j => Int64.ofInt (if dp.toNat ≤ j ∧ j < dp.toNat + n.toNat then S.2 c (sp.toNat + (j - dp.toNat)) else S.2 d j)) := by
      funext j
      unfold va_cpy
      split <;> rfl
    rw [e9] at hP
    exact hP
end JdkRows
end
