section
-- ===== PART A: goes FIRST, ahead of the names: the tables' words, and 'selects' of the private methods out of them =====
/-- a private method of a class that the tables say can be made, by its rows of tables_1 -/
def lw_okq (q : MethodName × Nat) : Prop := (q.1.cls ≠ "java/lang/invoke/MethodHandle" ∧ q.1.cls ≠ "java/lang/invoke/VarHandle") ∧ Cond.instantiable q.1.cls q.2 ∈ tables_1 ∧ Cond.privateMethod q.1 ∈ tables_1 ∧ Cond.instanceMethod q.1 ∈ tables_1
theorem lw_p0 : lw_okq (⟨"MissedSale", "comesFrom", "(LMissedSale$Shelf;I)Z"⟩, 10) := ⟨⟨by decide +kernel, by decide +kernel⟩, List.mem_of_getElem? (i := 22) (by decide +kernel), List.mem_of_getElem? (i := 361) (by decide +kernel), List.mem_of_getElem? (i := 362) (by decide +kernel)⟩
theorem lw_p1 : lw_okq (⟨"MissedSale", "mayBe", "(II)Z"⟩, 10) := ⟨⟨by decide +kernel, by decide +kernel⟩, List.mem_of_getElem? (i := 22) (by decide +kernel), List.mem_of_getElem? (i := 386) (by decide +kernel), List.mem_of_getElem? (i := 387) (by decide +kernel)⟩
theorem lw_p2 : lw_okq (⟨"MissedSale$Law", "readLines", "()Z"⟩, 10) := ⟨⟨by decide +kernel, by decide +kernel⟩, List.mem_of_getElem? (i := 59) (by decide +kernel), List.mem_of_getElem? (i := 428) (by decide +kernel), List.mem_of_getElem? (i := 429) (by decide +kernel)⟩
theorem lw_p3 : lw_okq (⟨"MissedSale$Law", "readLine", "()Z"⟩, 10) := ⟨⟨by decide +kernel, by decide +kernel⟩, List.mem_of_getElem? (i := 59) (by decide +kernel), List.mem_of_getElem? (i := 432) (by decide +kernel), List.mem_of_getElem? (i := 433) (by decide +kernel)⟩
theorem lw_p4 : lw_okq (⟨"MissedSale$Law", "readRank", "(II)Z"⟩, 10) := ⟨⟨by decide +kernel, by decide +kernel⟩, List.mem_of_getElem? (i := 59) (by decide +kernel), List.mem_of_getElem? (i := 436) (by decide +kernel), List.mem_of_getElem? (i := 437) (by decide +kernel)⟩
theorem lw_p5 : lw_okq (⟨"MissedSale$Law", "readOperand", "(I)Z"⟩, 10) := ⟨⟨by decide +kernel, by decide +kernel⟩, List.mem_of_getElem? (i := 59) (by decide +kernel), List.mem_of_getElem? (i := 440) (by decide +kernel), List.mem_of_getElem? (i := 441) (by decide +kernel)⟩
theorem lw_p6 : lw_okq (⟨"MissedSale$Law", "next", "()I"⟩, 10) := ⟨⟨by decide +kernel, by decide +kernel⟩, List.mem_of_getElem? (i := 59) (by decide +kernel), List.mem_of_getElem? (i := 444) (by decide +kernel), List.mem_of_getElem? (i := 445) (by decide +kernel)⟩
theorem lw_p7 : lw_okq (⟨"MissedSale$Law", "readNumber", "()Z"⟩, 10) := ⟨⟨by decide +kernel, by decide +kernel⟩, List.mem_of_getElem? (i := 59) (by decide +kernel), List.mem_of_getElem? (i := 451) (by decide +kernel), List.mem_of_getElem? (i := 452) (by decide +kernel)⟩
theorem lw_p8 : lw_okq (⟨"MissedSale$Law", "emit", "(I)V"⟩, 10) := ⟨⟨by decide +kernel, by decide +kernel⟩, List.mem_of_getElem? (i := 59) (by decide +kernel), List.mem_of_getElem? (i := 455) (by decide +kernel), List.mem_of_getElem? (i := 456) (by decide +kernel)⟩
theorem lw_p9 : lw_okq (⟨"MissedSale$Law", "takes", "(I)Z"⟩, 10) := ⟨⟨by decide +kernel, by decide +kernel⟩, List.mem_of_getElem? (i := 59) (by decide +kernel), List.mem_of_getElem? (i := 546) (by decide +kernel), List.mem_of_getElem? (i := 547) (by decide +kernel)⟩
theorem lw_p10 : lw_okq (⟨"MissedSale", "isPair", "(I)Z"⟩, 10) := ⟨⟨by decide +kernel, by decide +kernel⟩, List.mem_of_getElem? (i := 22) (by decide +kernel), List.mem_of_getElem? (i := 558) (by decide +kernel), List.mem_of_getElem? (i := 559) (by decide +kernel)⟩
theorem lw_p11 : lw_okq (⟨"MissedSale$Thought", "lengthOf", "(LMissedSale$Shelf;)I"⟩, 12) := ⟨⟨by decide +kernel, by decide +kernel⟩, List.mem_of_getElem? (i := 97) (by decide +kernel), List.mem_of_getElem? (i := 626) (by decide +kernel), List.mem_of_getElem? (i := 627) (by decide +kernel)⟩
theorem lw_p12 : lw_okq (⟨"MissedSale$Ways", "tryOrder", "(III)V"⟩, 6) := ⟨⟨by decide +kernel, by decide +kernel⟩, List.mem_of_getElem? (i := 157) (by decide +kernel), List.mem_of_getElem? (i := 657) (by decide +kernel), List.mem_of_getElem? (i := 658) (by decide +kernel)⟩
theorem lw_p13 : lw_okq (⟨"MissedSale$Dealing", "weigh", "(LMissedSale$Thought;I)V"⟩, 3) := ⟨⟨by decide +kernel, by decide +kernel⟩, List.mem_of_getElem? (i := 184) (by decide +kernel), List.mem_of_getElem? (i := 692) (by decide +kernel), List.mem_of_getElem? (i := 693) (by decide +kernel)⟩
theorem lw_p14 : lw_okq (⟨"MissedSale$Dealing", "bestOf", "(I)J"⟩, 3) := ⟨⟨by decide +kernel, by decide +kernel⟩, List.mem_of_getElem? (i := 184) (by decide +kernel), List.mem_of_getElem? (i := 701) (by decide +kernel), List.mem_of_getElem? (i := 702) (by decide +kernel)⟩
theorem lw_p15 : lw_okq (⟨"MissedSale", "refusesBoth", "(I)I"⟩, 10) := ⟨⟨by decide +kernel, by decide +kernel⟩, List.mem_of_getElem? (i := 22) (by decide +kernel), List.mem_of_getElem? (i := 754) (by decide +kernel), List.mem_of_getElem? (i := 755) (by decide +kernel)⟩
def lw_privs_1 : List (MethodName × Nat) := [(⟨"MissedSale", "comesFrom", "(LMissedSale$Shelf;I)Z"⟩, 10), (⟨"MissedSale", "mayBe", "(II)Z"⟩, 10), (⟨"MissedSale$Law", "readLines", "()Z"⟩, 10), (⟨"MissedSale$Law", "readLine", "()Z"⟩, 10), (⟨"MissedSale$Law", "readRank", "(II)Z"⟩, 10), (⟨"MissedSale$Law", "readOperand", "(I)Z"⟩, 10), (⟨"MissedSale$Law", "next", "()I"⟩, 10), (⟨"MissedSale$Law", "readNumber", "()Z"⟩, 10), (⟨"MissedSale$Law", "emit", "(I)V"⟩, 10), (⟨"MissedSale$Law", "takes", "(I)Z"⟩, 10), (⟨"MissedSale", "isPair", "(I)Z"⟩, 10), (⟨"MissedSale$Thought", "lengthOf", "(LMissedSale$Shelf;)I"⟩, 12), (⟨"MissedSale$Ways", "tryOrder", "(III)V"⟩, 6), (⟨"MissedSale$Dealing", "weigh", "(LMissedSale$Thought;I)V"⟩, 3), (⟨"MissedSale$Dealing", "bestOf", "(I)J"⟩, 3), (⟨"MissedSale", "refusesBoth", "(I)I"⟩, 10)]
theorem lw_r1 : ∀ q ∈ lw_privs_1, lw_okq q := List.forall_mem_cons.mpr ⟨lw_p0, List.forall_mem_cons.mpr ⟨lw_p1, List.forall_mem_cons.mpr ⟨lw_p2, List.forall_mem_cons.mpr ⟨lw_p3, List.forall_mem_cons.mpr ⟨lw_p4, List.forall_mem_cons.mpr ⟨lw_p5, List.forall_mem_cons.mpr ⟨lw_p6, List.forall_mem_cons.mpr ⟨lw_p7, List.forall_mem_cons.mpr ⟨lw_p8, List.forall_mem_cons.mpr ⟨lw_p9, List.forall_mem_cons.mpr ⟨lw_p10, List.forall_mem_cons.mpr ⟨lw_p11, List.forall_mem_cons.mpr ⟨lw_p12, List.forall_mem_cons.mpr ⟨lw_p13, List.forall_mem_cons.mpr ⟨lw_p14, List.forall_mem_cons.mpr ⟨lw_p15, fun _ h => absurd h List.not_mem_nil⟩⟩⟩⟩⟩⟩⟩⟩⟩⟩⟩⟩⟩⟩⟩⟩
theorem lw_p16 : lw_okq (⟨"MissedSale$Ways", "moved", "(IIII)I"⟩, 6) := ⟨⟨by decide +kernel, by decide +kernel⟩, List.mem_of_getElem? (i := 157) (by decide +kernel), List.mem_of_getElem? (i := 782) (by decide +kernel), List.mem_of_getElem? (i := 783) (by decide +kernel)⟩
theorem lw_p17 : lw_okq (⟨"MissedSale$Ways", "outcome", "(III)I"⟩, 6) := ⟨⟨by decide +kernel, by decide +kernel⟩, List.mem_of_getElem? (i := 157) (by decide +kernel), List.mem_of_getElem? (i := 789) (by decide +kernel), List.mem_of_getElem? (i := 790) (by decide +kernel)⟩
theorem lw_p18 : lw_okq (⟨"MissedSale$Lots", "runs", "(IIII)I"⟩, 5) := ⟨⟨by decide +kernel, by decide +kernel⟩, List.mem_of_getElem? (i := 238) (by decide +kernel), List.mem_of_getElem? (i := 887) (by decide +kernel), List.mem_of_getElem? (i := 888) (by decide +kernel)⟩
theorem lw_p19 : lw_okq (⟨"MissedSale$Lots", "runBody", "(IIII)I"⟩, 5) := ⟨⟨by decide +kernel, by decide +kernel⟩, List.mem_of_getElem? (i := 238) (by decide +kernel), List.mem_of_getElem? (i := 895) (by decide +kernel), List.mem_of_getElem? (i := 896) (by decide +kernel)⟩
theorem lw_p20 : lw_okq (⟨"MissedSale$Lots", "own", "(III)I"⟩, 5) := ⟨⟨by decide +kernel, by decide +kernel⟩, List.mem_of_getElem? (i := 238) (by decide +kernel), List.mem_of_getElem? (i := 899) (by decide +kernel), List.mem_of_getElem? (i := 900) (by decide +kernel)⟩
theorem lw_p21 : lw_okq (⟨"MissedSale", "refusesElement", "(II)I"⟩, 10) := ⟨⟨by decide +kernel, by decide +kernel⟩, List.mem_of_getElem? (i := 22) (by decide +kernel), List.mem_of_getElem? (i := 940) (by decide +kernel), List.mem_of_getElem? (i := 941) (by decide +kernel)⟩
theorem lw_p22 : lw_okq (⟨"MissedSale$Shelf", "kept", "(J)J"⟩, 5) := ⟨⟨by decide +kernel, by decide +kernel⟩, List.mem_of_getElem? (i := 263) (by decide +kernel), List.mem_of_getElem? (i := 948) (by decide +kernel), List.mem_of_getElem? (i := 949) (by decide +kernel)⟩
theorem lw_p23 : lw_okq (⟨"MissedSaleModel", "newOne", "(III)I"⟩, 45) := ⟨⟨by decide +kernel, by decide +kernel⟩, List.mem_of_getElem? (i := 977) (by decide +kernel), List.mem_of_getElem? (i := 1130) (by decide +kernel), List.mem_of_getElem? (i := 1131) (by decide +kernel)⟩
theorem lw_p24 : lw_okq (⟨"MissedSaleModel", "toldAt", "(II)I"⟩, 45) := ⟨⟨by decide +kernel, by decide +kernel⟩, List.mem_of_getElem? (i := 977) (by decide +kernel), List.mem_of_getElem? (i := 1142) (by decide +kernel), List.mem_of_getElem? (i := 1143) (by decide +kernel)⟩
theorem lw_p25 : lw_okq (⟨"MissedSaleModel", "isOf", "(II)Z"⟩, 45) := ⟨⟨by decide +kernel, by decide +kernel⟩, List.mem_of_getElem? (i := 977) (by decide +kernel), List.mem_of_getElem? (i := 1150) (by decide +kernel), List.mem_of_getElem? (i := 1151) (by decide +kernel)⟩
theorem lw_p26 : lw_okq (⟨"MissedSaleModel", "isThing", "(I)Z"⟩, 45) := ⟨⟨by decide +kernel, by decide +kernel⟩, List.mem_of_getElem? (i := 977) (by decide +kernel), List.mem_of_getElem? (i := 1154) (by decide +kernel), List.mem_of_getElem? (i := 1155) (by decide +kernel)⟩
theorem lw_p27 : lw_okq (⟨"MissedSaleModel", "isOne", "(I)Z"⟩, 45) := ⟨⟨by decide +kernel, by decide +kernel⟩, List.mem_of_getElem? (i := 977) (by decide +kernel), List.mem_of_getElem? (i := 1158) (by decide +kernel), List.mem_of_getElem? (i := 1159) (by decide +kernel)⟩
theorem lw_p28 : lw_okq (⟨"MissedSaleModel", "isFit", "(II)Z"⟩, 45) := ⟨⟨by decide +kernel, by decide +kernel⟩, List.mem_of_getElem? (i := 977) (by decide +kernel), List.mem_of_getElem? (i := 1162) (by decide +kernel), List.mem_of_getElem? (i := 1163) (by decide +kernel)⟩
theorem lw_p29 : lw_okq (⟨"MissedSaleModel", "get", "(II)I"⟩, 45) := ⟨⟨by decide +kernel, by decide +kernel⟩, List.mem_of_getElem? (i := 977) (by decide +kernel), List.mem_of_getElem? (i := 1167) (by decide +kernel), List.mem_of_getElem? (i := 1168) (by decide +kernel)⟩
theorem lw_p30 : lw_okq (⟨"MissedSaleModel", "becomes", "(III)V"⟩, 45) := ⟨⟨by decide +kernel, by decide +kernel⟩, List.mem_of_getElem? (i := 977) (by decide +kernel), List.mem_of_getElem? (i := 1171) (by decide +kernel), List.mem_of_getElem? (i := 1172) (by decide +kernel)⟩
theorem lw_p31 : lw_okq (⟨"MissedSaleModel", "isLine", "()Z"⟩, 45) := ⟨⟨by decide +kernel, by decide +kernel⟩, List.mem_of_getElem? (i := 977) (by decide +kernel), List.mem_of_getElem? (i := 1195) (by decide +kernel), List.mem_of_getElem? (i := 1196) (by decide +kernel)⟩
def lw_privs_2 : List (MethodName × Nat) := [(⟨"MissedSale$Ways", "moved", "(IIII)I"⟩, 6), (⟨"MissedSale$Ways", "outcome", "(III)I"⟩, 6), (⟨"MissedSale$Lots", "runs", "(IIII)I"⟩, 5), (⟨"MissedSale$Lots", "runBody", "(IIII)I"⟩, 5), (⟨"MissedSale$Lots", "own", "(III)I"⟩, 5), (⟨"MissedSale", "refusesElement", "(II)I"⟩, 10), (⟨"MissedSale$Shelf", "kept", "(J)J"⟩, 5), (⟨"MissedSaleModel", "newOne", "(III)I"⟩, 45), (⟨"MissedSaleModel", "toldAt", "(II)I"⟩, 45), (⟨"MissedSaleModel", "isOf", "(II)Z"⟩, 45), (⟨"MissedSaleModel", "isThing", "(I)Z"⟩, 45), (⟨"MissedSaleModel", "isOne", "(I)Z"⟩, 45), (⟨"MissedSaleModel", "isFit", "(II)Z"⟩, 45), (⟨"MissedSaleModel", "get", "(II)I"⟩, 45), (⟨"MissedSaleModel", "becomes", "(III)V"⟩, 45), (⟨"MissedSaleModel", "isLine", "()Z"⟩, 45)]
theorem lw_r2 : ∀ q ∈ lw_privs_2, lw_okq q := List.forall_mem_cons.mpr ⟨lw_p16, List.forall_mem_cons.mpr ⟨lw_p17, List.forall_mem_cons.mpr ⟨lw_p18, List.forall_mem_cons.mpr ⟨lw_p19, List.forall_mem_cons.mpr ⟨lw_p20, List.forall_mem_cons.mpr ⟨lw_p21, List.forall_mem_cons.mpr ⟨lw_p22, List.forall_mem_cons.mpr ⟨lw_p23, List.forall_mem_cons.mpr ⟨lw_p24, List.forall_mem_cons.mpr ⟨lw_p25, List.forall_mem_cons.mpr ⟨lw_p26, List.forall_mem_cons.mpr ⟨lw_p27, List.forall_mem_cons.mpr ⟨lw_p28, List.forall_mem_cons.mpr ⟨lw_p29, List.forall_mem_cons.mpr ⟨lw_p30, List.forall_mem_cons.mpr ⟨lw_p31, fun _ h => absurd h List.not_mem_nil⟩⟩⟩⟩⟩⟩⟩⟩⟩⟩⟩⟩⟩⟩⟩⟩
theorem lw_p32 : lw_okq (⟨"MissedSaleModel", "isE", "()Z"⟩, 45) := ⟨⟨by decide +kernel, by decide +kernel⟩, List.mem_of_getElem? (i := 977) (by decide +kernel), List.mem_of_getElem? (i := 1199) (by decide +kernel), List.mem_of_getElem? (i := 1200) (by decide +kernel)⟩
theorem lw_p33 : lw_okq (⟨"MissedSaleModel", "isA", "()Z"⟩, 45) := ⟨⟨by decide +kernel, by decide +kernel⟩, List.mem_of_getElem? (i := 977) (by decide +kernel), List.mem_of_getElem? (i := 1203) (by decide +kernel), List.mem_of_getElem? (i := 1204) (by decide +kernel)⟩
theorem lw_p34 : lw_okq (⟨"MissedSaleModel", "isB", "()Z"⟩, 45) := ⟨⟨by decide +kernel, by decide +kernel⟩, List.mem_of_getElem? (i := 977) (by decide +kernel), List.mem_of_getElem? (i := 1207) (by decide +kernel), List.mem_of_getElem? (i := 1208) (by decide +kernel)⟩
theorem lw_p35 : lw_okq (⟨"MissedSaleModel", "isS", "()Z"⟩, 45) := ⟨⟨by decide +kernel, by decide +kernel⟩, List.mem_of_getElem? (i := 977) (by decide +kernel), List.mem_of_getElem? (i := 1211) (by decide +kernel), List.mem_of_getElem? (i := 1212) (by decide +kernel)⟩
theorem lw_p36 : lw_okq (⟨"MissedSaleModel", "isP", "()Z"⟩, 45) := ⟨⟨by decide +kernel, by decide +kernel⟩, List.mem_of_getElem? (i := 977) (by decide +kernel), List.mem_of_getElem? (i := 1215) (by decide +kernel), List.mem_of_getElem? (i := 1216) (by decide +kernel)⟩
theorem lw_p37 : lw_okq (⟨"MissedSaleModel", "isO", "()Z"⟩, 45) := ⟨⟨by decide +kernel, by decide +kernel⟩, List.mem_of_getElem? (i := 977) (by decide +kernel), List.mem_of_getElem? (i := 1219) (by decide +kernel), List.mem_of_getElem? (i := 1220) (by decide +kernel)⟩
theorem lw_p38 : lw_okq (⟨"MissedSaleModel", "isDigit", "()Z"⟩, 45) := ⟨⟨by decide +kernel, by decide +kernel⟩, List.mem_of_getElem? (i := 977) (by decide +kernel), List.mem_of_getElem? (i := 1223) (by decide +kernel), List.mem_of_getElem? (i := 1224) (by decide +kernel)⟩
theorem lw_p39 : lw_okq (⟨"MissedSaleModel", "sign", "()I"⟩, 45) := ⟨⟨by decide +kernel, by decide +kernel⟩, List.mem_of_getElem? (i := 977) (by decide +kernel), List.mem_of_getElem? (i := 1227) (by decide +kernel), List.mem_of_getElem? (i := 1228) (by decide +kernel)⟩
theorem lw_p40 : lw_okq (⟨"MissedSaleModel", "codes", "(I)Z"⟩, 45) := ⟨⟨by decide +kernel, by decide +kernel⟩, List.mem_of_getElem? (i := 977) (by decide +kernel), List.mem_of_getElem? (i := 1231) (by decide +kernel), List.mem_of_getElem? (i := 1232) (by decide +kernel)⟩
theorem lw_p41 : lw_okq (⟨"MissedSaleModel", "is", "(I)Z"⟩, 45) := ⟨⟨by decide +kernel, by decide +kernel⟩, List.mem_of_getElem? (i := 977) (by decide +kernel), List.mem_of_getElem? (i := 1238) (by decide +kernel), List.mem_of_getElem? (i := 1239) (by decide +kernel)⟩
theorem lw_p42 : lw_okq (⟨"MissedSaleModel", "wouldMiss", "(II)I"⟩, 45) := ⟨⟨by decide +kernel, by decide +kernel⟩, List.mem_of_getElem? (i := 977) (by decide +kernel), List.mem_of_getElem? (i := 1246) (by decide +kernel), List.mem_of_getElem? (i := 1247) (by decide +kernel)⟩
theorem lw_p43 : lw_okq (⟨"MissedSaleModel", "countOf", "(I)I"⟩, 45) := ⟨⟨by decide +kernel, by decide +kernel⟩, List.mem_of_getElem? (i := 977) (by decide +kernel), List.mem_of_getElem? (i := 1250) (by decide +kernel), List.mem_of_getElem? (i := 1251) (by decide +kernel)⟩
theorem lw_p44 : lw_okq (⟨"MissedSaleModel", "yearsOf", "(III)I"⟩, 45) := ⟨⟨by decide +kernel, by decide +kernel⟩, List.mem_of_getElem? (i := 977) (by decide +kernel), List.mem_of_getElem? (i := 1254) (by decide +kernel), List.mem_of_getElem? (i := 1255) (by decide +kernel)⟩
theorem lw_p45 : lw_okq (⟨"MissedSaleModel", "missing", "(I)I"⟩, 45) := ⟨⟨by decide +kernel, by decide +kernel⟩, List.mem_of_getElem? (i := 977) (by decide +kernel), List.mem_of_getElem? (i := 1258) (by decide +kernel), List.mem_of_getElem? (i := 1259) (by decide +kernel)⟩
theorem lw_p46 : lw_okq (⟨"MissedSaleModel", "byLaw", "()I"⟩, 45) := ⟨⟨by decide +kernel, by decide +kernel⟩, List.mem_of_getElem? (i := 977) (by decide +kernel), List.mem_of_getElem? (i := 1262) (by decide +kernel), List.mem_of_getElem? (i := 1263) (by decide +kernel)⟩
theorem lw_p47 : lw_okq (⟨"MissedSaleModel", "worked", "(II)I"⟩, 45) := ⟨⟨by decide +kernel, by decide +kernel⟩, List.mem_of_getElem? (i := 977) (by decide +kernel), List.mem_of_getElem? (i := 1266) (by decide +kernel), List.mem_of_getElem? (i := 1267) (by decide +kernel)⟩
def lw_privs_3 : List (MethodName × Nat) := [(⟨"MissedSaleModel", "isE", "()Z"⟩, 45), (⟨"MissedSaleModel", "isA", "()Z"⟩, 45), (⟨"MissedSaleModel", "isB", "()Z"⟩, 45), (⟨"MissedSaleModel", "isS", "()Z"⟩, 45), (⟨"MissedSaleModel", "isP", "()Z"⟩, 45), (⟨"MissedSaleModel", "isO", "()Z"⟩, 45), (⟨"MissedSaleModel", "isDigit", "()Z"⟩, 45), (⟨"MissedSaleModel", "sign", "()I"⟩, 45), (⟨"MissedSaleModel", "codes", "(I)Z"⟩, 45), (⟨"MissedSaleModel", "is", "(I)Z"⟩, 45), (⟨"MissedSaleModel", "wouldMiss", "(II)I"⟩, 45), (⟨"MissedSaleModel", "countOf", "(I)I"⟩, 45), (⟨"MissedSaleModel", "yearsOf", "(III)I"⟩, 45), (⟨"MissedSaleModel", "missing", "(I)I"⟩, 45), (⟨"MissedSaleModel", "byLaw", "()I"⟩, 45), (⟨"MissedSaleModel", "worked", "(II)I"⟩, 45)]
theorem lw_r3 : ∀ q ∈ lw_privs_3, lw_okq q := List.forall_mem_cons.mpr ⟨lw_p32, List.forall_mem_cons.mpr ⟨lw_p33, List.forall_mem_cons.mpr ⟨lw_p34, List.forall_mem_cons.mpr ⟨lw_p35, List.forall_mem_cons.mpr ⟨lw_p36, List.forall_mem_cons.mpr ⟨lw_p37, List.forall_mem_cons.mpr ⟨lw_p38, List.forall_mem_cons.mpr ⟨lw_p39, List.forall_mem_cons.mpr ⟨lw_p40, List.forall_mem_cons.mpr ⟨lw_p41, List.forall_mem_cons.mpr ⟨lw_p42, List.forall_mem_cons.mpr ⟨lw_p43, List.forall_mem_cons.mpr ⟨lw_p44, List.forall_mem_cons.mpr ⟨lw_p45, List.forall_mem_cons.mpr ⟨lw_p46, List.forall_mem_cons.mpr ⟨lw_p47, fun _ h => absurd h List.not_mem_nil⟩⟩⟩⟩⟩⟩⟩⟩⟩⟩⟩⟩⟩⟩⟩⟩
theorem lw_p48 : lw_okq (⟨"MissedSaleModel", "bidOf", "(II)I"⟩, 45) := ⟨⟨by decide +kernel, by decide +kernel⟩, List.mem_of_getElem? (i := 977) (by decide +kernel), List.mem_of_getElem? (i := 1275) (by decide +kernel), List.mem_of_getElem? (i := 1276) (by decide +kernel)⟩
theorem lw_p49 : lw_okq (⟨"MissedSaleModel", "winner", "(I)I"⟩, 45) := ⟨⟨by decide +kernel, by decide +kernel⟩, List.mem_of_getElem? (i := 977) (by decide +kernel), List.mem_of_getElem? (i := 1283) (by decide +kernel), List.mem_of_getElem? (i := 1284) (by decide +kernel)⟩
theorem lw_p50 : lw_okq (⟨"MissedSaleModel", "noBytes", "(I)I"⟩, 45) := ⟨⟨by decide +kernel, by decide +kernel⟩, List.mem_of_getElem? (i := 977) (by decide +kernel), List.mem_of_getElem? (i := 1291) (by decide +kernel), List.mem_of_getElem? (i := 1292) (by decide +kernel)⟩
theorem lw_p51 : lw_okq (⟨"MissedSaleModel", "listed", "(I)I"⟩, 45) := ⟨⟨by decide +kernel, by decide +kernel⟩, List.mem_of_getElem? (i := 977) (by decide +kernel), List.mem_of_getElem? (i := 1295) (by decide +kernel), List.mem_of_getElem? (i := 1296) (by decide +kernel)⟩
theorem lw_p52 : lw_okq (⟨"MissedSaleModel", "keeps", "([I)V"⟩, 45) := ⟨⟨by decide +kernel, by decide +kernel⟩, List.mem_of_getElem? (i := 977) (by decide +kernel), List.mem_of_getElem? (i := 1299) (by decide +kernel), List.mem_of_getElem? (i := 1300) (by decide +kernel)⟩
theorem lw_p53 : lw_okq (⟨"MissedSaleModel", "goes", "(I)I"⟩, 45) := ⟨⟨by decide +kernel, by decide +kernel⟩, List.mem_of_getElem? (i := 977) (by decide +kernel), List.mem_of_getElem? (i := 1303) (by decide +kernel), List.mem_of_getElem? (i := 1304) (by decide +kernel)⟩
theorem lw_p54 : lw_okq (⟨"MissedSaleModel", "isForSale", "(I)Z"⟩, 45) := ⟨⟨by decide +kernel, by decide +kernel⟩, List.mem_of_getElem? (i := 977) (by decide +kernel), List.mem_of_getElem? (i := 1307) (by decide +kernel), List.mem_of_getElem? (i := 1308) (by decide +kernel)⟩
theorem lw_p55 : lw_okq (⟨"MissedSaleModel", "laysBack", "()V"⟩, 45) := ⟨⟨by decide +kernel, by decide +kernel⟩, List.mem_of_getElem? (i := 977) (by decide +kernel), List.mem_of_getElem? (i := 1311) (by decide +kernel), List.mem_of_getElem? (i := 1312) (by decide +kernel)⟩
theorem lw_p56 : lw_okq (⟨"MissedSaleModel", "laysBack", "([III)V"⟩, 45) := ⟨⟨by decide +kernel, by decide +kernel⟩, List.mem_of_getElem? (i := 977) (by decide +kernel), List.mem_of_getElem? (i := 1315) (by decide +kernel), List.mem_of_getElem? (i := 1316) (by decide +kernel)⟩
theorem lw_p57 : lw_okq (⟨"MissedSaleModel", "forSale", "()I"⟩, 45) := ⟨⟨by decide +kernel, by decide +kernel⟩, List.mem_of_getElem? (i := 977) (by decide +kernel), List.mem_of_getElem? (i := 1327) (by decide +kernel), List.mem_of_getElem? (i := 1328) (by decide +kernel)⟩
theorem lw_p58 : lw_okq (⟨"MissedSaleModel", "orders", "(III)V"⟩, 45) := ⟨⟨by decide +kernel, by decide +kernel⟩, List.mem_of_getElem? (i := 977) (by decide +kernel), List.mem_of_getElem? (i := 1332) (by decide +kernel), List.mem_of_getElem? (i := 1333) (by decide +kernel)⟩
theorem lw_p59 : lw_okq (⟨"MissedSaleModel", "deals", "(III)V"⟩, 45) := ⟨⟨by decide +kernel, by decide +kernel⟩, List.mem_of_getElem? (i := 977) (by decide +kernel), List.mem_of_getElem? (i := 1348) (by decide +kernel), List.mem_of_getElem? (i := 1349) (by decide +kernel)⟩
theorem lw_p60 : lw_okq (⟨"MissedSaleModel", "wouldChange", "(III)Z"⟩, 45) := ⟨⟨by decide +kernel, by decide +kernel⟩, List.mem_of_getElem? (i := 977) (by decide +kernel), List.mem_of_getElem? (i := 1356) (by decide +kernel), List.mem_of_getElem? (i := 1357) (by decide +kernel)⟩
theorem lw_p61 : lw_okq (⟨"MissedSaleModel", "passes", "()V"⟩, 45) := ⟨⟨by decide +kernel, by decide +kernel⟩, List.mem_of_getElem? (i := 977) (by decide +kernel), List.mem_of_getElem? (i := 1364) (by decide +kernel), List.mem_of_getElem? (i := 1365) (by decide +kernel)⟩
theorem lw_p62 : lw_okq (⟨"MissedSaleModel", "missedNow", "()I"⟩, 45) := ⟨⟨by decide +kernel, by decide +kernel⟩, List.mem_of_getElem? (i := 977) (by decide +kernel), List.mem_of_getElem? (i := 1371) (by decide +kernel), List.mem_of_getElem? (i := 1372) (by decide +kernel)⟩
theorem lw_p63 : lw_okq (⟨"MissedSaleModel", "quiet", "()I"⟩, 45) := ⟨⟨by decide +kernel, by decide +kernel⟩, List.mem_of_getElem? (i := 977) (by decide +kernel), List.mem_of_getElem? (i := 1379) (by decide +kernel), List.mem_of_getElem? (i := 1380) (by decide +kernel)⟩
def lw_privs_4 : List (MethodName × Nat) := [(⟨"MissedSaleModel", "bidOf", "(II)I"⟩, 45), (⟨"MissedSaleModel", "winner", "(I)I"⟩, 45), (⟨"MissedSaleModel", "noBytes", "(I)I"⟩, 45), (⟨"MissedSaleModel", "listed", "(I)I"⟩, 45), (⟨"MissedSaleModel", "keeps", "([I)V"⟩, 45), (⟨"MissedSaleModel", "goes", "(I)I"⟩, 45), (⟨"MissedSaleModel", "isForSale", "(I)Z"⟩, 45), (⟨"MissedSaleModel", "laysBack", "()V"⟩, 45), (⟨"MissedSaleModel", "laysBack", "([III)V"⟩, 45), (⟨"MissedSaleModel", "forSale", "()I"⟩, 45), (⟨"MissedSaleModel", "orders", "(III)V"⟩, 45), (⟨"MissedSaleModel", "deals", "(III)V"⟩, 45), (⟨"MissedSaleModel", "wouldChange", "(III)Z"⟩, 45), (⟨"MissedSaleModel", "passes", "()V"⟩, 45), (⟨"MissedSaleModel", "missedNow", "()I"⟩, 45), (⟨"MissedSaleModel", "quiet", "()I"⟩, 45)]
theorem lw_r4 : ∀ q ∈ lw_privs_4, lw_okq q := List.forall_mem_cons.mpr ⟨lw_p48, List.forall_mem_cons.mpr ⟨lw_p49, List.forall_mem_cons.mpr ⟨lw_p50, List.forall_mem_cons.mpr ⟨lw_p51, List.forall_mem_cons.mpr ⟨lw_p52, List.forall_mem_cons.mpr ⟨lw_p53, List.forall_mem_cons.mpr ⟨lw_p54, List.forall_mem_cons.mpr ⟨lw_p55, List.forall_mem_cons.mpr ⟨lw_p56, List.forall_mem_cons.mpr ⟨lw_p57, List.forall_mem_cons.mpr ⟨lw_p58, List.forall_mem_cons.mpr ⟨lw_p59, List.forall_mem_cons.mpr ⟨lw_p60, List.forall_mem_cons.mpr ⟨lw_p61, List.forall_mem_cons.mpr ⟨lw_p62, List.forall_mem_cons.mpr ⟨lw_p63, fun _ h => absurd h List.not_mem_nil⟩⟩⟩⟩⟩⟩⟩⟩⟩⟩⟩⟩⟩⟩⟩⟩
theorem lw_p64 : lw_okq (⟨"MissedSaleModel", "longest", "()I"⟩, 45) := ⟨⟨by decide +kernel, by decide +kernel⟩, List.mem_of_getElem? (i := 977) (by decide +kernel), List.mem_of_getElem? (i := 1383) (by decide +kernel), List.mem_of_getElem? (i := 1384) (by decide +kernel)⟩
theorem lw_p65 : lw_okq (⟨"MissedSaleModel", "noBook", "(I)I"⟩, 45) := ⟨⟨by decide +kernel, by decide +kernel⟩, List.mem_of_getElem? (i := 977) (by decide +kernel), List.mem_of_getElem? (i := 1391) (by decide +kernel), List.mem_of_getElem? (i := 1392) (by decide +kernel)⟩
theorem lw_p66 : lw_okq (⟨"MissedSaleModel", "unlike", "(I)I"⟩, 45) := ⟨⟨by decide +kernel, by decide +kernel⟩, List.mem_of_getElem? (i := 977) (by decide +kernel), List.mem_of_getElem? (i := 1395) (by decide +kernel), List.mem_of_getElem? (i := 1396) (by decide +kernel)⟩
theorem lw_p67 : lw_okq (⟨"MissedSaleModel", "turnBy", "(IIIII)I"⟩, 45) := ⟨⟨by decide +kernel, by decide +kernel⟩, List.mem_of_getElem? (i := 977) (by decide +kernel), List.mem_of_getElem? (i := 1407) (by decide +kernel), List.mem_of_getElem? (i := 1408) (by decide +kernel)⟩
theorem lw_p68 : lw_okq (⟨"MissedSaleModel", "turnFrom", "(IIII)I"⟩, 45) := ⟨⟨by decide +kernel, by decide +kernel⟩, List.mem_of_getElem? (i := 977) (by decide +kernel), List.mem_of_getElem? (i := 1411) (by decide +kernel), List.mem_of_getElem? (i := 1412) (by decide +kernel)⟩
theorem lw_p69 : lw_okq (⟨"MissedSaleModel", "bidsBy", "(III)I"⟩, 45) := ⟨⟨by decide +kernel, by decide +kernel⟩, List.mem_of_getElem? (i := 977) (by decide +kernel), List.mem_of_getElem? (i := 1456) (by decide +kernel), List.mem_of_getElem? (i := 1457) (by decide +kernel)⟩
theorem lw_p70 : lw_okq (⟨"MissedSaleModel", "ran", "(I)V"⟩, 45) := ⟨⟨by decide +kernel, by decide +kernel⟩, List.mem_of_getElem? (i := 977) (by decide +kernel), List.mem_of_getElem? (i := 1460) (by decide +kernel), List.mem_of_getElem? (i := 1461) (by decide +kernel)⟩
theorem lw_p71 : lw_okq (⟨"MissedSaleModel", "missesBy", "(III)I"⟩, 45) := ⟨⟨by decide +kernel, by decide +kernel⟩, List.mem_of_getElem? (i := 977) (by decide +kernel), List.mem_of_getElem? (i := 1467) (by decide +kernel), List.mem_of_getElem? (i := 1468) (by decide +kernel)⟩
theorem lw_p72 : lw_okq (⟨"MissedSaleModel", "losesBy", "(III)I"⟩, 45) := ⟨⟨by decide +kernel, by decide +kernel⟩, List.mem_of_getElem? (i := 977) (by decide +kernel), List.mem_of_getElem? (i := 1471) (by decide +kernel), List.mem_of_getElem? (i := 1472) (by decide +kernel)⟩
theorem lw_p73 : lw_okq (⟨"MissedSaleModel", "tells", "(III)I"⟩, 45) := ⟨⟨by decide +kernel, by decide +kernel⟩, List.mem_of_getElem? (i := 977) (by decide +kernel), List.mem_of_getElem? (i := 1475) (by decide +kernel), List.mem_of_getElem? (i := 1476) (by decide +kernel)⟩
theorem lw_p74 : lw_okq (⟨"MissedSaleModel", "isRow", "(I)Z"⟩, 45) := ⟨⟨by decide +kernel, by decide +kernel⟩, List.mem_of_getElem? (i := 977) (by decide +kernel), List.mem_of_getElem? (i := 1495) (by decide +kernel), List.mem_of_getElem? (i := 1496) (by decide +kernel)⟩
def lw_privs_5 : List (MethodName × Nat) := [(⟨"MissedSaleModel", "longest", "()I"⟩, 45), (⟨"MissedSaleModel", "noBook", "(I)I"⟩, 45), (⟨"MissedSaleModel", "unlike", "(I)I"⟩, 45), (⟨"MissedSaleModel", "turnBy", "(IIIII)I"⟩, 45), (⟨"MissedSaleModel", "turnFrom", "(IIII)I"⟩, 45), (⟨"MissedSaleModel", "bidsBy", "(III)I"⟩, 45), (⟨"MissedSaleModel", "ran", "(I)V"⟩, 45), (⟨"MissedSaleModel", "missesBy", "(III)I"⟩, 45), (⟨"MissedSaleModel", "losesBy", "(III)I"⟩, 45), (⟨"MissedSaleModel", "tells", "(III)I"⟩, 45), (⟨"MissedSaleModel", "isRow", "(I)Z"⟩, 45)]
theorem lw_r5 : ∀ q ∈ lw_privs_5, lw_okq q := List.forall_mem_cons.mpr ⟨lw_p64, List.forall_mem_cons.mpr ⟨lw_p65, List.forall_mem_cons.mpr ⟨lw_p66, List.forall_mem_cons.mpr ⟨lw_p67, List.forall_mem_cons.mpr ⟨lw_p68, List.forall_mem_cons.mpr ⟨lw_p69, List.forall_mem_cons.mpr ⟨lw_p70, List.forall_mem_cons.mpr ⟨lw_p71, List.forall_mem_cons.mpr ⟨lw_p72, List.forall_mem_cons.mpr ⟨lw_p73, List.forall_mem_cons.mpr ⟨lw_p74, fun _ h => absurd h List.not_mem_nil⟩⟩⟩⟩⟩⟩⟩⟩⟩⟩⟩
def lw_privs : List (MethodName × Nat) := lw_privs_1 ++ (lw_privs_2 ++ (lw_privs_3 ++ (lw_privs_4 ++ (lw_privs_5))))
def lw_tbl : List Cond := k2_sels lw_privs ++ tables_1
theorem lw_privs_ok : ∀ q ∈ lw_privs, lw_okq q := by
  show ∀ q ∈ lw_privs_1 ++ (lw_privs_2 ++ (lw_privs_3 ++ (lw_privs_4 ++ (lw_privs_5)))), lw_okq q
  exact List.forall_mem_append.mpr ⟨lw_r1, List.forall_mem_append.mpr ⟨lw_r2, List.forall_mem_append.mpr ⟨lw_r3, List.forall_mem_append.mpr ⟨lw_r4, lw_r5⟩⟩⟩⟩
end
section
def RX0 : String := "MissedSale$Changes"
def TX0 : u_T := fun k => match k with
  | 0 => ("MissedSale$Changes", "row", "[I", true)
  | 1 => ("MissedSale$Changes", "behind", "I", false)
  | _ => ("MissedSale$Changes", "ahead", "I", false)
def tyX0 : Nat → FieldType := fun k => match k with
  | 0 => .array .int
  | 1 => .int
  | _ => .int
abbrev wsX00 : List Cond := u_ws RX0 TX0 3
theorem nmX0 : ∀ a, a < 3 → ∀ b, b < 3 → a ≠ b → (TX0 a).2.1 ≠ (TX0 b).2.1 := by decide +kernel
theorem tyX0_ok : ∀ k, k < 3 → parseFieldDescriptor (TX0 k).2.2.1 = some (tyX0 k) := by decide +kernel
abbrev cX0_init : ByteArray := prog_2_method_1_code
def yX0_init : MethodName := ⟨RX0, "<init>", "()V"⟩
abbrev cX0_came : ByteArray := prog_2_method_2_code
def yX0_came : MethodName := ⟨RX0, "came", "(IIII)V"⟩
abbrev cX0_unmake : ByteArray := prog_2_method_3_code
def yX0_unmake : MethodName := ⟨RX0, "unmake", "(LMissedSale$House;)I"⟩
abbrev cX0_remake : ByteArray := prog_2_method_4_code
def yX0_remake : MethodName := ⟨RX0, "remake", "(LMissedSale$House;)I"⟩
def RX1 : String := "MissedSale$Dealing"
def TX1 : u_T := fun k => match k with
  | 0 => ("MissedSale$Dealing", "best", "[J", true)
  | 1 => ("MissedSale$Dealing", "worth", "[J", true)
  | _ => ("MissedSale$Dealing", "answer", "J", false)
def tyX1 : Nat → FieldType := fun k => match k with
  | 0 => .array .long
  | 1 => .array .long
  | _ => .long
abbrev wsX10 : List Cond := u_ws RX1 TX1 3
theorem nmX1 : ∀ a, a < 3 → ∀ b, b < 3 → a ≠ b → (TX1 a).2.1 ≠ (TX1 b).2.1 := by decide +kernel
theorem tyX1_ok : ∀ k, k < 3 → parseFieldDescriptor (TX1 k).2.2.1 = some (tyX1 k) := by decide +kernel
abbrev cX1_init : ByteArray := prog_3_method_1_code
def yX1_init : MethodName := ⟨RX1, "<init>", "()V"⟩
abbrev cX1_deals : ByteArray := prog_3_method_2_code
def yX1_deals : MethodName := ⟨RX1, "deals", "(LMissedSale$Thought;)V"⟩
abbrev cX1_weigh : ByteArray := prog_3_method_3_code
def yX1_weigh : MethodName := ⟨RX1, "weigh", "(LMissedSale$Thought;I)V"⟩
abbrev cX1_bestOf : ByteArray := prog_3_method_4_code
def yX1_bestOf : MethodName := ⟨RX1, "bestOf", "(I)J"⟩
abbrev cX1_total : ByteArray := prog_3_method_5_code
def yX1_total : MethodName := ⟨RX1, "total", "()I"⟩
abbrev cX1_share : ByteArray := prog_3_method_6_code
def yX1_share : MethodName := ⟨RX1, "share", "(I)I"⟩
def RX2 : String := "MissedSale$House"
def TX2 : u_T := fun k => match k with
  | 0 => ("MissedSale$House", "thingRow", "[I", true)
  | 1 => ("MissedSale$House", "bidderRow", "[I", true)
  | 2 => ("MissedSale$House", "things", "I", false)
  | _ => ("MissedSale$House", "bidders", "I", false)
def tyX2 : Nat → FieldType := fun k => match k with
  | 0 => .array .int
  | 1 => .array .int
  | 2 => .int
  | _ => .int
abbrev wsX20 : List Cond := u_ws RX2 TX2 4
theorem nmX2 : ∀ a, a < 4 → ∀ b, b < 4 → a ≠ b → (TX2 a).2.1 ≠ (TX2 b).2.1 := by decide +kernel
theorem tyX2_ok : ∀ k, k < 4 → parseFieldDescriptor (TX2 k).2.2.1 = some (tyX2 k) := by decide +kernel
abbrev cX2_init : ByteArray := prog_4_method_1_code
def yX2_init : MethodName := ⟨RX2, "<init>", "()V"⟩
abbrev cX2_hasThing : ByteArray := prog_4_method_2_code
def yX2_hasThing : MethodName := ⟨RX2, "hasThing", "(I)Z"⟩
abbrev cX2_hasBidder : ByteArray := prog_4_method_3_code
def yX2_hasBidder : MethodName := ⟨RX2, "hasBidder", "(I)Z"⟩
abbrev cX2_has : ByteArray := prog_4_method_4_code
def yX2_has : MethodName := ⟨RX2, "has", "(II)Z"⟩
abbrev cX2_number : ByteArray := prog_4_method_5_code
def yX2_number : MethodName := ⟨RX2, "number", "(II)I"⟩
abbrev cX2_become : ByteArray := prog_4_method_6_code
def yX2_become : MethodName := ⟨RX2, "become", "(III)V"⟩
abbrev cX2_addThing : ByteArray := prog_4_method_7_code
def yX2_addThing : MethodName := ⟨RX2, "addThing", "(I)I"⟩
abbrev cX2_addBidder : ByteArray := prog_4_method_8_code
def yX2_addBidder : MethodName := ⟨RX2, "addBidder", "(III)I"⟩
abbrev cX2_copies : ByteArray := prog_4_method_9_code
def yX2_copies : MethodName := ⟨RX2, "copies", "(LMissedSale$House;)V"⟩
abbrev cX2_yearPasses : ByteArray := prog_4_method_10_code
def yX2_yearPasses : MethodName := ⟨RX2, "yearPasses", "()V"⟩
abbrev cX2_missedBits : ByteArray := prog_4_method_11_code
def yX2_missedBits : MethodName := ⟨RX2, "missedBits", "()I"⟩
abbrev cX2_missedLongest : ByteArray := prog_4_method_12_code
def yX2_missedLongest : MethodName := ⟨RX2, "missedLongest", "()I"⟩
def RX3 : String := "MissedSale$Image"
def TX3 : u_T := fun k => match k with
  | 0 => ("MissedSale$Image", "was", "LMissedSale$House;", true)
  | 1 => ("MissedSale$Image", "led", "[I", true)
  | _ => ("MissedSale$Image", "isThere", "Z", false)
def tyX3 : Nat → FieldType := fun k => match k with
  | 0 => .object "MissedSale$House"
  | 1 => .array .int
  | _ => .boolean
abbrev wsX30 : List Cond := u_ws RX3 TX3 3
theorem nmX3 : ∀ a, a < 3 → ∀ b, b < 3 → a ≠ b → (TX3 a).2.1 ≠ (TX3 b).2.1 := by decide +kernel
theorem tyX3_ok : ∀ k, k < 3 → parseFieldDescriptor (TX3 k).2.2.1 = some (tyX3 k) := by decide +kernel
abbrev cX3_init : ByteArray := prog_5_method_1_code
def yX3_init : MethodName := ⟨RX3, "<init>", "()V"⟩
abbrev cX3_takes : ByteArray := prog_5_method_2_code
def yX3_takes : MethodName := ⟨RX3, "takes", "(LMissedSale$House;[I)V"⟩
abbrev cX3_laysBack : ByteArray := prog_5_method_3_code
def yX3_laysBack : MethodName := ⟨RX3, "laysBack", "(LMissedSale$House;[I)V"⟩
def RX4 : String := "MissedSale$Law"
def TX4 : u_T := fun k => match k with
  | 0 => ("MissedSale$Law", "tape", "[I", true)
  | 1 => ("MissedSale$Law", "names", "[I", true)
  | 2 => ("MissedSale$Law", "stack", "[I", true)
  | 3 => ("MissedSale$Law", "steps", "[I", false)
  | 4 => ("MissedSale$Law", "draft", "[I", false)
  | 5 => ("MissedSale$Law", "fed", "I", false)
  | 6 => ("MissedSale$Law", "place", "I", false)
  | 7 => ("MissedSale$Law", "drafted", "I", false)
  | 8 => ("MissedSale$Law", "length", "I", false)
  | _ => ("MissedSale$Law", "isTold", "Z", false)
def tyX4 : Nat → FieldType := fun k => match k with
  | 0 => .array .int
  | 1 => .array .int
  | 2 => .array .int
  | 3 => .array .int
  | 4 => .array .int
  | 5 => .int
  | 6 => .int
  | 7 => .int
  | 8 => .int
  | _ => .boolean
abbrev wsX40 : List Cond := u_ws RX4 TX4 10
theorem nmX4 : ∀ a, a < 10 → ∀ b, b < 10 → a ≠ b → (TX4 a).2.1 ≠ (TX4 b).2.1 := by decide +kernel
theorem tyX4_ok : ∀ k, k < 10 → parseFieldDescriptor (TX4 k).2.2.1 = some (tyX4 k) := by decide +kernel
abbrev cX4_init : ByteArray := prog_6_method_1_code
def yX4_init : MethodName := ⟨RX4, "<init>", "()V"⟩
abbrev cX4_isTapeFull : ByteArray := prog_6_method_2_code
def yX4_isTapeFull : MethodName := ⟨RX4, "isTapeFull", "()Z"⟩
abbrev cX4_comes : ByteArray := prog_6_method_3_code
def yX4_comes : MethodName := ⟨RX4, "comes", "(I)I"⟩
abbrev cX4_fromTape : ByteArray := prog_6_method_4_code
def yX4_fromTape : MethodName := ⟨RX4, "fromTape", "()I"⟩
abbrev cX4_readLines : ByteArray := prog_6_method_5_code
def yX4_readLines : MethodName := ⟨RX4, "readLines", "()Z"⟩
abbrev cX4_readLine : ByteArray := prog_6_method_6_code
def yX4_readLine : MethodName := ⟨RX4, "readLine", "()Z"⟩
abbrev cX4_readRank : ByteArray := prog_6_method_7_code
def yX4_readRank : MethodName := ⟨RX4, "readRank", "(II)Z"⟩
abbrev cX4_readOperand : ByteArray := prog_6_method_8_code
def yX4_readOperand : MethodName := ⟨RX4, "readOperand", "(I)Z"⟩
abbrev cX4_readNumber : ByteArray := prog_6_method_9_code
def yX4_readNumber : MethodName := ⟨RX4, "readNumber", "()Z"⟩
abbrev cX4_isDigit : ByteArray := prog_6_method_10_code
def yX4_isDigit : MethodName := ⟨RX4, "isDigit", "(I)Z"⟩
abbrev cX4_rankOf : ByteArray := prog_6_method_11_code
def yX4_rankOf : MethodName := ⟨RX4, "rankOf", "(I)I"⟩
abbrev cX4_next : ByteArray := prog_6_method_12_code
def yX4_next : MethodName := ⟨RX4, "next", "()I"⟩
abbrev cX4_takes : ByteArray := prog_6_method_13_code
def yX4_takes : MethodName := ⟨RX4, "takes", "(I)Z"⟩
abbrev cX4_emit : ByteArray := prog_6_method_14_code
def yX4_emit : MethodName := ⟨RX4, "emit", "(I)V"⟩
abbrev cX4_gives : ByteArray := prog_6_method_15_code
def yX4_gives : MethodName := ⟨RX4, "gives", "(IIIIII)I"⟩
abbrev cX4_worked : ByteArray := prog_6_method_16_code
def yX4_worked : MethodName := ⟨RX4, "worked", "(III)I"⟩
def RX5 : String := "MissedSale$Lots"
def TX5 : u_T := fun k => match k with
  | 0 => ("MissedSale$Lots", "kinds", "[I", true)
  | 1 => ("MissedSale$Lots", "trace", "[I", true)
  | 2 => ("MissedSale$Lots", "kept", "I", false)
  | 3 => ("MissedSale$Lots", "ran", "I", false)
  | _ => ("MissedSale$Lots", "self", "I", false)
def tyX5 : Nat → FieldType := fun k => match k with
  | 0 => .array .int
  | 1 => .array .int
  | 2 => .int
  | 3 => .int
  | _ => .int
abbrev wsX50 : List Cond := u_ws RX5 TX5 5
theorem nmX5 : ∀ a, a < 5 → ∀ b, b < 5 → a ≠ b → (TX5 a).2.1 ≠ (TX5 b).2.1 := by decide +kernel
theorem tyX5_ok : ∀ k, k < 5 → parseFieldDescriptor (TX5 k).2.2.1 = some (tyX5 k) := by decide +kernel
abbrev cX5_init : ByteArray := prog_7_method_1_code
def yX5_init : MethodName := ⟨RX5, "<init>", "()V"⟩
abbrev cX5_isFull : ByteArray := prog_7_method_2_code
def yX5_isFull : MethodName := ⟨RX5, "isFull", "()Z"⟩
abbrev cX5_has : ByteArray := prog_7_method_3_code
def yX5_has : MethodName := ⟨RX5, "has", "(I)Z"⟩
abbrev cX5_add : ByteArray := prog_7_method_4_code
def yX5_add : MethodName := ⟨RX5, "add", "(I)I"⟩
abbrev cX5_kindOf : ByteArray := prog_7_method_5_code
def yX5_kindOf : MethodName := ⟨RX5, "kindOf", "(I)I"⟩
abbrev cX5_isUnder : ByteArray := prog_7_method_6_code
def yX5_isUnder : MethodName := ⟨RX5, "isUnder", "(II)Z"⟩
abbrev cX5_traced : ByteArray := prog_7_method_7_code
def yX5_traced : MethodName := ⟨RX5, "traced", "(I)I"⟩
abbrev cX5_acts : ByteArray := prog_7_method_8_code
def yX5_acts : MethodName := ⟨RX5, "acts", "(III)I"⟩
abbrev cX5_runs : ByteArray := prog_7_method_9_code
def yX5_runs : MethodName := ⟨RX5, "runs", "(IIII)I"⟩
abbrev cX5_own : ByteArray := prog_7_method_10_code
def yX5_own : MethodName := ⟨RX5, "own", "(III)I"⟩
abbrev cX5_runBody : ByteArray := prog_7_method_11_code
def yX5_runBody : MethodName := ⟨RX5, "runBody", "(IIII)I"⟩
def RX6 : String := "MissedSale$Shelf"
def TX6 : u_T := fun k => match k with
  | 0 => ("MissedSale$Shelf", "row", "[J", true)
  | 1 => ("MissedSale$Shelf", "holds", "I", false)
  | 2 => ("MissedSale$Shelf", "lot", "I", false)
  | 3 => ("MissedSale$Shelf", "sort", "I", false)
  | _ => ("MissedSale$Shelf", "length", "I", false)
def tyX6 : Nat → FieldType := fun k => match k with
  | 0 => .array .long
  | 1 => .int
  | 2 => .int
  | 3 => .int
  | _ => .int
abbrev wsX60 : List Cond := u_ws RX6 TX6 5
theorem nmX6 : ∀ a, a < 5 → ∀ b, b < 5 → a ≠ b → (TX6 a).2.1 ≠ (TX6 b).2.1 := by decide +kernel
theorem tyX6_ok : ∀ k, k < 5 → parseFieldDescriptor (TX6 k).2.2.1 = some (tyX6 k) := by decide +kernel
abbrev cX6_init : ByteArray := prog_8_method_1_code
def yX6_init : MethodName := ⟨RX6, "<init>", "()V"⟩
abbrev cX6_holdNothing : ByteArray := prog_8_method_2_code
def yX6_holdNothing : MethodName := ⟨RX6, "holdNothing", "()V"⟩
abbrev cX6_holdLot : ByteArray := prog_8_method_3_code
def yX6_holdLot : MethodName := ⟨RX6, "holdLot", "(I)V"⟩
abbrev cX6_holdRow : ByteArray := prog_8_method_4_code
def yX6_holdRow : MethodName := ⟨RX6, "holdRow", "(II)V"⟩
abbrev cX6_holdsBytes : ByteArray := prog_8_method_5_code
def yX6_holdsBytes : MethodName := ⟨RX6, "holdsBytes", "()Z"⟩
abbrev cX6_refusesBytes : ByteArray := prog_8_method_6_code
def yX6_refusesBytes : MethodName := ⟨RX6, "refusesBytes", "()I"⟩
abbrev cX6_hasRun : ByteArray := prog_8_method_7_code
def yX6_hasRun : MethodName := ⟨RX6, "hasRun", "(II)Z"⟩
abbrev cX6_at : ByteArray := prog_8_method_8_code
def yX6_at : MethodName := ⟨RX6, "at", "(I)J"⟩
abbrev cX6_lay : ByteArray := prog_8_method_9_code
def yX6_lay : MethodName := ⟨RX6, "lay", "(IJ)V"⟩
abbrev cX6_kept : ByteArray := prog_8_method_10_code
def yX6_kept : MethodName := ⟨RX6, "kept", "(J)J"⟩
def RX7 : String := "MissedSale$Thought"
def TX7 : u_T := fun k => match k with
  | 0 => ("MissedSale$Thought", "house", "LMissedSale$House;", true)
  | 1 => ("MissedSale$Thought", "law", "LMissedSale$Law;", true)
  | 2 => ("MissedSale$Thought", "had", "[I", true)
  | 3 => ("MissedSale$Thought", "mourned", "[I", true)
  | 4 => ("MissedSale$Thought", "known", "[I", true)
  | 5 => ("MissedSale$Thought", "would", "[I", true)
  | 6 => ("MissedSale$Thought", "won", "[I", true)
  | 7 => ("MissedSale$Thought", "listed", "I", false)
  | 8 => ("MissedSale$Thought", "open", "I", false)
  | 9 => ("MissedSale$Thought", "slipped", "I", false)
  | 10 => ("MissedSale$Thought", "sold", "I", false)
  | _ => ("MissedSale$Thought", "pieces", "I", false)
def tyX7 : Nat → FieldType := fun k => match k with
  | 0 => .object "MissedSale$House"
  | 1 => .object "MissedSale$Law"
  | 2 => .array .int
  | 3 => .array .int
  | 4 => .array .int
  | 5 => .array .int
  | 6 => .array .int
  | 7 => .int
  | 8 => .int
  | 9 => .int
  | 10 => .int
  | _ => .int
abbrev wsX70 : List Cond := u_ws RX7 TX7 12
theorem nmX7 : ∀ a, a < 12 → ∀ b, b < 12 → a ≠ b → (TX7 a).2.1 ≠ (TX7 b).2.1 := by decide +kernel
theorem tyX7_ok : ∀ k, k < 12 → parseFieldDescriptor (TX7 k).2.2.1 = some (tyX7 k) := by decide +kernel
abbrev cX7_init : ByteArray := prog_9_method_1_code
def yX7_init : MethodName := ⟨RX7, "<init>", "(LMissedSale$Law;)V"⟩
abbrev cX7_begin : ByteArray := prog_9_method_2_code
def yX7_begin : MethodName := ⟨RX7, "begin", "(LMissedSale$House;)V"⟩
abbrev cX7_restarts : ByteArray := prog_9_method_3_code
def yX7_restarts : MethodName := ⟨RX7, "restarts", "()V"⟩
abbrev cX7_varies : ByteArray := prog_9_method_4_code
def yX7_varies : MethodName := ⟨RX7, "varies", "(III)V"⟩
abbrev cX7_misses : ByteArray := prog_9_method_5_code
def yX7_misses : MethodName := ⟨RX7, "misses", "(III)I"⟩
abbrev cX7_considers : ByteArray := prog_9_method_6_code
def yX7_considers : MethodName := ⟨RX7, "considers", "(I)V"⟩
abbrev cX7_bid : ByteArray := prog_9_method_7_code
def yX7_bid : MethodName := ⟨RX7, "bid", "(I)I"⟩
abbrev cX7_winner : ByteArray := prog_9_method_8_code
def yX7_winner : MethodName := ⟨RX7, "winner", "()I"⟩
abbrev cX7_sellsOne : ByteArray := prog_9_method_9_code
def yX7_sellsOne : MethodName := ⟨RX7, "sellsOne", "(I)I"⟩
abbrev cX7_unsellsOne : ByteArray := prog_9_method_10_code
def yX7_unsellsOne : MethodName := ⟨RX7, "unsellsOne", "(II)V"⟩
abbrev cX7_sellsAll : ByteArray := prog_9_method_11_code
def yX7_sellsAll : MethodName := ⟨RX7, "sellsAll", "(LMissedSale$Shelf;)V"⟩
abbrev cX7_sellsByDraws : ByteArray := prog_9_method_12_code
def yX7_sellsByDraws : MethodName := ⟨RX7, "sellsByDraws", "(LMissedSale$Shelf;II)I"⟩
abbrev cX7_lengthOf : ByteArray := prog_9_method_13_code
def yX7_lengthOf : MethodName := ⟨RX7, "lengthOf", "(LMissedSale$Shelf;)I"⟩
abbrev cX7_firstWrong : ByteArray := prog_9_method_14_code
def yX7_firstWrong : MethodName := ⟨RX7, "firstWrong", "(LMissedSale$Shelf;LMissedSale$Shelf;)I"⟩
abbrev cX7_wouldChange : ByteArray := prog_9_method_15_code
def yX7_wouldChange : MethodName := ⟨RX7, "wouldChange", "(II)Z"⟩
def RX8 : String := "MissedSale$Ways"
def TX8 : u_T := fun k => match k with
  | 0 => ("MissedSale$Ways", "thought", "LMissedSale$Thought;", true)
  | 1 => ("MissedSale$Ways", "order", "[I", true)
  | 2 => ("MissedSale$Ways", "best", "[I", true)
  | 3 => ("MissedSale$Ways", "most", "I", false)
  | 4 => ("MissedSale$Ways", "ordered", "I", false)
  | _ => ("MissedSale$Ways", "firstMove", "I", false)
def tyX8 : Nat → FieldType := fun k => match k with
  | 0 => .object "MissedSale$Thought"
  | 1 => .array .int
  | 2 => .array .int
  | 3 => .int
  | 4 => .int
  | _ => .int
abbrev wsX80 : List Cond := u_ws RX8 TX8 6
theorem nmX8 : ∀ a, a < 6 → ∀ b, b < 6 → a ≠ b → (TX8 a).2.1 ≠ (TX8 b).2.1 := by decide +kernel
theorem tyX8_ok : ∀ k, k < 6 → parseFieldDescriptor (TX8 k).2.2.1 = some (tyX8 k) := by decide +kernel
abbrev cX8_init : ByteArray := prog_10_method_1_code
def yX8_init : MethodName := ⟨RX8, "<init>", "(LMissedSale$Thought;)V"⟩
abbrev cX8_orders : ByteArray := prog_10_method_2_code
def yX8_orders : MethodName := ⟨RX8, "orders", "(II)I"⟩
abbrev cX8_tryOrder : ByteArray := prog_10_method_3_code
def yX8_tryOrder : MethodName := ⟨RX8, "tryOrder", "(III)V"⟩
abbrev cX8_fewestExamined : ByteArray := prog_10_method_4_code
def yX8_fewestExamined : MethodName := ⟨RX8, "fewestExamined", "(I)I"⟩
abbrev cX8_turns : ByteArray := prog_10_method_5_code
def yX8_turns : MethodName := ⟨RX8, "turns", "(III)I"⟩
abbrev cX8_outcome : ByteArray := prog_10_method_6_code
def yX8_outcome : MethodName := ⟨RX8, "outcome", "(III)I"⟩
abbrev cX8_moved : ByteArray := prog_10_method_7_code
def yX8_moved : MethodName := ⟨RX8, "moved", "(IIII)I"⟩
def RX9 : String := "MissedSale"
def TX9 : u_T := fun k => match k with
  | 0 => ("MissedSale", "house", "LMissedSale$House;", true)
  | 1 => ("MissedSale", "law", "LMissedSale$Law;", true)
  | 2 => ("MissedSale", "thought", "LMissedSale$Thought;", true)
  | 3 => ("MissedSale", "ways", "LMissedSale$Ways;", true)
  | 4 => ("MissedSale", "dealing", "LMissedSale$Dealing;", true)
  | 5 => ("MissedSale", "changes", "LMissedSale$Changes;", true)
  | 6 => ("MissedSale", "image", "LMissedSale$Image;", true)
  | 7 => ("MissedSale", "lots", "LMissedSale$Lots;", true)
  | 8 => ("MissedSale", "shelves", "[LMissedSale$Shelf;", true)
  | _ => ("MissedSale", "led", "[I", true)
def tyX9 : Nat → FieldType := fun k => match k with
  | 0 => .object "MissedSale$House"
  | 1 => .object "MissedSale$Law"
  | 2 => .object "MissedSale$Thought"
  | 3 => .object "MissedSale$Ways"
  | 4 => .object "MissedSale$Dealing"
  | 5 => .object "MissedSale$Changes"
  | 6 => .object "MissedSale$Image"
  | 7 => .object "MissedSale$Lots"
  | 8 => .array (.object "MissedSale$Shelf")
  | _ => .array .int
abbrev wsX90 : List Cond := u_ws RX9 TX9 10
theorem nmX9 : ∀ a, a < 10 → ∀ b, b < 10 → a ≠ b → (TX9 a).2.1 ≠ (TX9 b).2.1 := by decide +kernel
theorem tyX9_ok : ∀ k, k < 10 → parseFieldDescriptor (TX9 k).2.2.1 = some (tyX9 k) := by decide +kernel
abbrev cX9_init : ByteArray := prog_1_method_1_code
def yX9_init : MethodName := ⟨RX9, "<init>", "()V"⟩
abbrev cX9_thing : ByteArray := prog_1_method_2_code
def yX9_thing : MethodName := ⟨RX9, "thing", "(I)I"⟩
abbrev cX9_bidder : ByteArray := prog_1_method_3_code
def yX9_bidder : MethodName := ⟨RX9, "bidder", "(II)I"⟩
abbrev cX9_bidders : ByteArray := prog_1_method_4_code
def yX9_bidders : MethodName := ⟨RX9, "bidders", "(III)I"⟩
abbrev cX9_comesFrom : ByteArray := prog_1_method_5_code
def yX9_comesFrom : MethodName := ⟨RX9, "comesFrom", "(LMissedSale$Shelf;I)Z"⟩
abbrev cX9_mend : ByteArray := prog_1_method_6_code
def yX9_mend : MethodName := ⟨RX9, "mend", "(III)I"⟩
abbrev cX9_of : ByteArray := prog_1_method_7_code
def yX9_of : MethodName := ⟨RX9, "of", "(II)I"⟩
abbrev cX9_feed : ByteArray := prog_1_method_8_code
def yX9_feed : MethodName := ⟨RX9, "feed", "(I)I"⟩
abbrev cX9_law : ByteArray := prog_1_method_9_code
def yX9_law : MethodName := ⟨RX9, "law", "()I"⟩
abbrev cX9_years : ByteArray := prog_1_method_10_code
def yX9_years : MethodName := ⟨RX9, "years", "(II)I"⟩
abbrev cX9_wins : ByteArray := prog_1_method_11_code
def yX9_wins : MethodName := ⟨RX9, "wins", "(I)I"⟩
abbrev cX9_sale : ByteArray := prog_1_method_12_code
def yX9_sale : MethodName := ⟨RX9, "sale", "(II)I"⟩
abbrev cX9_after : ByteArray := prog_1_method_13_code
def yX9_after : MethodName := ⟨RX9, "after", "(III)I"⟩
abbrev cX9_bestOrder : ByteArray := prog_1_method_14_code
def yX9_bestOrder : MethodName := ⟨RX9, "bestOrder", "(II)I"⟩
abbrev cX9_feign : ByteArray := prog_1_method_15_code
def yX9_feign : MethodName := ⟨RX9, "feign", "(I)I"⟩
abbrev cX9_examined : ByteArray := prog_1_method_16_code
def yX9_examined : MethodName := ⟨RX9, "examined", "(II)I"⟩
abbrev cX9_dealt : ByteArray := prog_1_method_17_code
def yX9_dealt : MethodName := ⟨RX9, "dealt", "(I)I"⟩
abbrev cX9_hands : ByteArray := prog_1_method_18_code
def yX9_hands : MethodName := ⟨RX9, "hands", "()I"⟩
abbrev cX9_later : ByteArray := prog_1_method_19_code
def yX9_later : MethodName := ⟨RX9, "later", "(III)I"⟩
abbrev cX9_missed : ByteArray := prog_1_method_20_code
def yX9_missed : MethodName := ⟨RX9, "missed", "(I)I"⟩
abbrev cX9_judge : ByteArray := prog_1_method_21_code
def yX9_judge : MethodName := ⟨RX9, "judge", "(I)I"⟩
abbrev cX9_fits : ByteArray := prog_1_method_22_code
def yX9_fits : MethodName := ⟨RX9, "fits", "(III)I"⟩
abbrev cX9_byTurns : ByteArray := prog_1_method_23_code
def yX9_byTurns : MethodName := ⟨RX9, "byTurns", "(IIII)I"⟩
abbrev cX9_drawn : ByteArray := prog_1_method_24_code
def yX9_drawn : MethodName := ⟨RX9, "drawn", "(IIII)I"⟩
abbrev cX9_putUp : ByteArray := prog_1_method_25_code
def yX9_putUp : MethodName := ⟨RX9, "putUp", "(I)I"⟩
abbrev cX9_loses : ByteArray := prog_1_method_26_code
def yX9_loses : MethodName := ⟨RX9, "loses", "(I)I"⟩
abbrev cX9_slip : ByteArray := prog_1_method_27_code
def yX9_slip : MethodName := ⟨RX9, "slip", "(II)I"⟩
abbrev cX9_year : ByteArray := prog_1_method_28_code
def yX9_year : MethodName := ⟨RX9, "year", "()I"⟩
abbrev cX9_led : ByteArray := prog_1_method_29_code
def yX9_led : MethodName := ⟨RX9, "led", "(I)I"⟩
abbrev cX9_image : ByteArray := prog_1_method_30_code
def yX9_image : MethodName := ⟨RX9, "image", "()I"⟩
abbrev cX9_back : ByteArray := prog_1_method_31_code
def yX9_back : MethodName := ⟨RX9, "back", "()I"⟩
abbrev cX9_undo : ByteArray := prog_1_method_32_code
def yX9_undo : MethodName := ⟨RX9, "undo", "()I"⟩
abbrev cX9_redo : ByteArray := prog_1_method_33_code
def yX9_redo : MethodName := ⟨RX9, "redo", "()I"⟩
abbrev cX9_body : ByteArray := prog_1_method_34_code
def yX9_body : MethodName := ⟨RX9, "body", "(I)I"⟩
abbrev cX9_act : ByteArray := prog_1_method_35_code
def yX9_act : MethodName := ⟨RX9, "act", "(III)I"⟩
abbrev cX9_trace : ByteArray := prog_1_method_36_code
def yX9_trace : MethodName := ⟨RX9, "trace", "(I)I"⟩
abbrev cX9_keep : ByteArray := prog_1_method_37_code
def yX9_keep : MethodName := ⟨RX9, "keep", "(II)I"⟩
abbrev cX9_row : ByteArray := prog_1_method_38_code
def yX9_row : MethodName := ⟨RX9, "row", "(III)I"⟩
abbrev cX9_put : ByteArray := prog_1_method_39_code
def yX9_put : MethodName := ⟨RX9, "put", "(IIJ)I"⟩
abbrev cX9_element : ByteArray := prog_1_method_40_code
def yX9_element : MethodName := ⟨RX9, "element", "(II)J"⟩
abbrev cX9_shift : ByteArray := prog_1_method_41_code
def yX9_shift : MethodName := ⟨RX9, "shift", "(IIIII)I"⟩
abbrev cX9_taken : ByteArray := prog_1_method_42_code
def yX9_taken : MethodName := ⟨RX9, "taken", "(II)I"⟩
abbrev cX9_count : ByteArray := prog_1_method_43_code
def yX9_count : MethodName := ⟨RX9, "count", "(I)I"⟩
abbrev cX9_isWithin : ByteArray := prog_1_method_44_code
def yX9_isWithin : MethodName := ⟨RX9, "isWithin", "(II)Z"⟩
abbrev cX9_mayBe : ByteArray := prog_1_method_45_code
def yX9_mayBe : MethodName := ⟨RX9, "mayBe", "(II)Z"⟩
abbrev cX9_isShelf : ByteArray := prog_1_method_46_code
def yX9_isShelf : MethodName := ⟨RX9, "isShelf", "(I)Z"⟩
abbrev cX9_areShelves : ByteArray := prog_1_method_47_code
def yX9_areShelves : MethodName := ⟨RX9, "areShelves", "(I)Z"⟩
abbrev cX9_isPair : ByteArray := prog_1_method_48_code
def yX9_isPair : MethodName := ⟨RX9, "isPair", "(I)Z"⟩
abbrev cX9_refusesBoth : ByteArray := prog_1_method_49_code
def yX9_refusesBoth : MethodName := ⟨RX9, "refusesBoth", "(I)I"⟩
abbrev cX9_refusesElement : ByteArray := prog_1_method_50_code
def yX9_refusesElement : MethodName := ⟨RX9, "refusesElement", "(II)I"⟩
def RX10 : String := "MissedSaleModel"
def TX10 : u_T := fun k => match k with
  | 0 => ("MissedSaleModel", "things", "I", false)
  | 1 => ("MissedSaleModel", "kind", "[I", true)
  | 2 => ("MissedSaleModel", "owner", "[I", true)
  | 3 => ("MissedSaleModel", "lost", "[I", true)
  | 4 => ("MissedSaleModel", "missed", "[I", true)
  | 5 => ("MissedSaleModel", "bidders", "I", false)
  | 6 => ("MissedSaleModel", "ways", "[I", true)
  | 7 => ("MissedSaleModel", "taped", "I", false)
  | 8 => ("MissedSaleModel", "tape", "[I", true)
  | 9 => ("MissedSaleModel", "isTold", "Z", false)
  | 10 => ("MissedSaleModel", "lines", "I", false)
  | 11 => ("MissedSaleModel", "asks", "[I", true)
  | 12 => ("MissedSaleModel", "says", "[I", true)
  | 13 => ("MissedSaleModel", "ends", "[I", true)
  | 14 => ("MissedSaleModel", "code", "[I", true)
  | 15 => ("MissedSaleModel", "at", "I", false)
  | 16 => ("MissedSaleModel", "open", "I", false)
  | 17 => ("MissedSaleModel", "coded", "I", false)
  | 18 => ("MissedSaleModel", "newLines", "I", false)
  | 19 => ("MissedSaleModel", "newAsks", "[I", true)
  | 20 => ("MissedSaleModel", "newSays", "[I", true)
  | 21 => ("MissedSaleModel", "newEnds", "[I", true)
  | 22 => ("MissedSaleModel", "newCode", "[I", true)
  | 23 => ("MissedSaleModel", "stack", "[I", true)
  | 24 => ("MissedSaleModel", "names", "[I", true)
  | 25 => ("MissedSaleModel", "led", "[I", true)
  | 26 => ("MissedSaleModel", "imaged", "Z", false)
  | 27 => ("MissedSaleModel", "oldThings", "I", false)
  | 28 => ("MissedSaleModel", "oldBidders", "I", false)
  | 29 => ("MissedSaleModel", "old", "[I", true)
  | 30 => ("MissedSaleModel", "oldLed", "[I", true)
  | 31 => ("MissedSaleModel", "changes", "I", false)
  | 32 => ("MissedSaleModel", "done", "I", false)
  | 33 => ("MissedSaleModel", "changed", "[I", true)
  | 34 => ("MissedSaleModel", "bodies", "I", false)
  | 35 => ("MissedSaleModel", "bodyKind", "[I", true)
  | 36 => ("MissedSaleModel", "traced", "I", false)
  | 37 => ("MissedSaleModel", "traces", "[I", true)
  | 38 => ("MissedSaleModel", "holding", "[I", true)
  | 39 => ("MissedSaleModel", "rowLength", "[I", true)
  | 40 => ("MissedSaleModel", "rowOf", "[J", true)
  | 41 => ("MissedSaleModel", "was", "[I", true)
  | 42 => ("MissedSaleModel", "tried", "[I", true)
  | 43 => ("MissedSaleModel", "best", "[I", true)
  | _ => ("MissedSaleModel", "most", "I", false)
def tyX10 : Nat → FieldType := fun k => match k with
  | 0 => .int
  | 1 => .array .int
  | 2 => .array .int
  | 3 => .array .int
  | 4 => .array .int
  | 5 => .int
  | 6 => .array .int
  | 7 => .int
  | 8 => .array .int
  | 9 => .boolean
  | 10 => .int
  | 11 => .array .int
  | 12 => .array .int
  | 13 => .array .int
  | 14 => .array .int
  | 15 => .int
  | 16 => .int
  | 17 => .int
  | 18 => .int
  | 19 => .array .int
  | 20 => .array .int
  | 21 => .array .int
  | 22 => .array .int
  | 23 => .array .int
  | 24 => .array .int
  | 25 => .array .int
  | 26 => .boolean
  | 27 => .int
  | 28 => .int
  | 29 => .array .int
  | 30 => .array .int
  | 31 => .int
  | 32 => .int
  | 33 => .array .int
  | 34 => .int
  | 35 => .array .int
  | 36 => .int
  | 37 => .array .int
  | 38 => .array .int
  | 39 => .array .int
  | 40 => .array .long
  | 41 => .array .int
  | 42 => .array .int
  | 43 => .array .int
  | _ => .int
abbrev wsX100 : List Cond := u_ws RX10 TX10 45
theorem nmX10 : ∀ a, a < 45 → ∀ b, b < 45 → a ≠ b → (TX10 a).2.1 ≠ (TX10 b).2.1 := by decide +kernel
theorem tyX10_ok : ∀ k, k < 45 → parseFieldDescriptor (TX10 k).2.2.1 = some (tyX10 k) := by decide +kernel
abbrev cX10_init : ByteArray := prog_12_method_1_code
def yX10_init : MethodName := ⟨RX10, "<init>", "()V"⟩
abbrev cX10_within : ByteArray := prog_12_method_2_code
def yX10_within : MethodName := ⟨RX10, "within", "(III)Z"⟩
abbrev cX10_isThing : ByteArray := prog_12_method_3_code
def yX10_isThing : MethodName := ⟨RX10, "isThing", "(I)Z"⟩
abbrev cX10_isOne : ByteArray := prog_12_method_4_code
def yX10_isOne : MethodName := ⟨RX10, "isOne", "(I)Z"⟩
abbrev cX10_isShelf : ByteArray := prog_12_method_5_code
def yX10_isShelf : MethodName := ⟨RX10, "isShelf", "(I)Z"⟩
abbrev cX10_thing : ByteArray := prog_12_method_6_code
def yX10_thing : MethodName := ⟨RX10, "thing", "(I)I"⟩
abbrev cX10_newOne : ByteArray := prog_12_method_7_code
def yX10_newOne : MethodName := ⟨RX10, "newOne", "(III)I"⟩
abbrev cX10_bidder : ByteArray := prog_12_method_8_code
def yX10_bidder : MethodName := ⟨RX10, "bidder", "(II)I"⟩
abbrev cX10_bidders : ByteArray := prog_12_method_9_code
def yX10_bidders : MethodName := ⟨RX10, "bidders", "(III)I"⟩
abbrev cX10_toldAt : ByteArray := prog_12_method_10_code
def yX10_toldAt : MethodName := ⟨RX10, "toldAt", "(II)I"⟩
abbrev cX10_isOf : ByteArray := prog_12_method_11_code
def yX10_isOf : MethodName := ⟨RX10, "isOf", "(II)Z"⟩
abbrev cX10_isFit : ByteArray := prog_12_method_12_code
def yX10_isFit : MethodName := ⟨RX10, "isFit", "(II)Z"⟩
abbrev cX10_get : ByteArray := prog_12_method_13_code
def yX10_get : MethodName := ⟨RX10, "get", "(II)I"⟩
abbrev cX10_becomes : ByteArray := prog_12_method_14_code
def yX10_becomes : MethodName := ⟨RX10, "becomes", "(III)V"⟩
abbrev cX10_mend : ByteArray := prog_12_method_15_code
def yX10_mend : MethodName := ⟨RX10, "mend", "(III)I"⟩
abbrev cX10_of : ByteArray := prog_12_method_16_code
def yX10_of : MethodName := ⟨RX10, "of", "(II)I"⟩
abbrev cX10_undo : ByteArray := prog_12_method_17_code
def yX10_undo : MethodName := ⟨RX10, "undo", "()I"⟩
abbrev cX10_redo : ByteArray := prog_12_method_18_code
def yX10_redo : MethodName := ⟨RX10, "redo", "()I"⟩
abbrev cX10_feed : ByteArray := prog_12_method_19_code
def yX10_feed : MethodName := ⟨RX10, "feed", "(I)I"⟩
abbrev cX10_sign : ByteArray := prog_12_method_20_code
def yX10_sign : MethodName := ⟨RX10, "sign", "()I"⟩
abbrev cX10_is : ByteArray := prog_12_method_21_code
def yX10_is : MethodName := ⟨RX10, "is", "(I)Z"⟩
abbrev cX10_codes : ByteArray := prog_12_method_22_code
def yX10_codes : MethodName := ⟨RX10, "codes", "(I)Z"⟩
abbrev cX10_isDigit : ByteArray := prog_12_method_23_code
def yX10_isDigit : MethodName := ⟨RX10, "isDigit", "()Z"⟩
abbrev cX10_nameOf : ByteArray := prog_12_method_24_code
def yX10_nameOf : MethodName := ⟨RX10, "nameOf", "(I)I"⟩
abbrev cX10_isO : ByteArray := prog_12_method_25_code
def yX10_isO : MethodName := ⟨RX10, "isO", "()Z"⟩
abbrev cX10_isP : ByteArray := prog_12_method_26_code
def yX10_isP : MethodName := ⟨RX10, "isP", "()Z"⟩
abbrev cX10_isS : ByteArray := prog_12_method_27_code
def yX10_isS : MethodName := ⟨RX10, "isS", "()Z"⟩
abbrev cX10_isB : ByteArray := prog_12_method_28_code
def yX10_isB : MethodName := ⟨RX10, "isB", "()Z"⟩
abbrev cX10_isA : ByteArray := prog_12_method_29_code
def yX10_isA : MethodName := ⟨RX10, "isA", "()Z"⟩
abbrev cX10_isE : ByteArray := prog_12_method_30_code
def yX10_isE : MethodName := ⟨RX10, "isE", "()Z"⟩
abbrev cX10_isLine : ByteArray := prog_12_method_31_code
def yX10_isLine : MethodName := ⟨RX10, "isLine", "()Z"⟩
abbrev cX10_law : ByteArray := prog_12_method_32_code
def yX10_law : MethodName := ⟨RX10, "law", "()I"⟩
abbrev cX10_both : ByteArray := prog_12_method_33_code
def yX10_both : MethodName := ⟨RX10, "both", "(III)I"⟩
abbrev cX10_worked : ByteArray := prog_12_method_34_code
def yX10_worked : MethodName := ⟨RX10, "worked", "(II)I"⟩
abbrev cX10_countOf : ByteArray := prog_12_method_35_code
def yX10_countOf : MethodName := ⟨RX10, "countOf", "(I)I"⟩
abbrev cX10_missing : ByteArray := prog_12_method_36_code
def yX10_missing : MethodName := ⟨RX10, "missing", "(I)I"⟩
abbrev cX10_byLaw : ByteArray := prog_12_method_37_code
def yX10_byLaw : MethodName := ⟨RX10, "byLaw", "()I"⟩
abbrev cX10_yearsOf : ByteArray := prog_12_method_38_code
def yX10_yearsOf : MethodName := ⟨RX10, "yearsOf", "(III)I"⟩
abbrev cX10_wouldMiss : ByteArray := prog_12_method_39_code
def yX10_wouldMiss : MethodName := ⟨RX10, "wouldMiss", "(II)I"⟩
abbrev cX10_bidOf : ByteArray := prog_12_method_40_code
def yX10_bidOf : MethodName := ⟨RX10, "bidOf", "(II)I"⟩
abbrev cX10_years : ByteArray := prog_12_method_41_code
def yX10_years : MethodName := ⟨RX10, "years", "(II)I"⟩
abbrev cX10_winner : ByteArray := prog_12_method_42_code
def yX10_winner : MethodName := ⟨RX10, "winner", "(I)I"⟩
abbrev cX10_wins : ByteArray := prog_12_method_43_code
def yX10_wins : MethodName := ⟨RX10, "wins", "(I)I"⟩
abbrev cX10_isForSale : ByteArray := prog_12_method_44_code
def yX10_isForSale : MethodName := ⟨RX10, "isForSale", "(I)Z"⟩
abbrev cX10_goes : ByteArray := prog_12_method_45_code
def yX10_goes : MethodName := ⟨RX10, "goes", "(I)I"⟩
abbrev cX10_keeps : ByteArray := prog_12_method_46_code
def yX10_keeps : MethodName := ⟨RX10, "keeps", "([I)V"⟩
abbrev cX10_laysBack : ByteArray := prog_12_method_47_code
def yX10_laysBack : MethodName := ⟨RX10, "laysBack", "([III)V"⟩
abbrev cX10_laysBack_ : ByteArray := prog_12_method_48_code
def yX10_laysBack_ : MethodName := ⟨RX10, "laysBack", "()V"⟩
abbrev cX10_noBytes : ByteArray := prog_12_method_49_code
def yX10_noBytes : MethodName := ⟨RX10, "noBytes", "(I)I"⟩
abbrev cX10_listed : ByteArray := prog_12_method_50_code
def yX10_listed : MethodName := ⟨RX10, "listed", "(I)I"⟩
abbrev cX10_sale : ByteArray := prog_12_method_51_code
def yX10_sale : MethodName := ⟨RX10, "sale", "(II)I"⟩
abbrev cX10_after : ByteArray := prog_12_method_52_code
def yX10_after : MethodName := ⟨RX10, "after", "(III)I"⟩
abbrev cX10_orders : ByteArray := prog_12_method_53_code
def yX10_orders : MethodName := ⟨RX10, "orders", "(III)V"⟩
abbrev cX10_forSale : ByteArray := prog_12_method_54_code
def yX10_forSale : MethodName := ⟨RX10, "forSale", "()I"⟩
abbrev cX10_bestOrder : ByteArray := prog_12_method_55_code
def yX10_bestOrder : MethodName := ⟨RX10, "bestOrder", "(II)I"⟩
abbrev cX10_feign : ByteArray := prog_12_method_56_code
def yX10_feign : MethodName := ⟨RX10, "feign", "(I)I"⟩
abbrev cX10_examined : ByteArray := prog_12_method_57_code
def yX10_examined : MethodName := ⟨RX10, "examined", "(II)I"⟩
abbrev cX10_deals : ByteArray := prog_12_method_58_code
def yX10_deals : MethodName := ⟨RX10, "deals", "(III)V"⟩
abbrev cX10_dealt : ByteArray := prog_12_method_59_code
def yX10_dealt : MethodName := ⟨RX10, "dealt", "(I)I"⟩
abbrev cX10_wouldChange : ByteArray := prog_12_method_60_code
def yX10_wouldChange : MethodName := ⟨RX10, "wouldChange", "(III)Z"⟩
abbrev cX10_hands : ByteArray := prog_12_method_61_code
def yX10_hands : MethodName := ⟨RX10, "hands", "()I"⟩
abbrev cX10_less : ByteArray := prog_12_method_62_code
def yX10_less : MethodName := ⟨RX10, "less", "(I)I"⟩
abbrev cX10_passes : ByteArray := prog_12_method_63_code
def yX10_passes : MethodName := ⟨RX10, "passes", "()V"⟩
abbrev cX10_missedNow : ByteArray := prog_12_method_64_code
def yX10_missedNow : MethodName := ⟨RX10, "missedNow", "()I"⟩
abbrev cX10_later : ByteArray := prog_12_method_65_code
def yX10_later : MethodName := ⟨RX10, "later", "(III)I"⟩
abbrev cX10_quiet : ByteArray := prog_12_method_66_code
def yX10_quiet : MethodName := ⟨RX10, "quiet", "()I"⟩
abbrev cX10_longest : ByteArray := prog_12_method_67_code
def yX10_longest : MethodName := ⟨RX10, "longest", "()I"⟩
abbrev cX10_missed : ByteArray := prog_12_method_68_code
def yX10_missed : MethodName := ⟨RX10, "missed", "(I)I"⟩
abbrev cX10_noBook : ByteArray := prog_12_method_69_code
def yX10_noBook : MethodName := ⟨RX10, "noBook", "(I)I"⟩
abbrev cX10_unlike : ByteArray := prog_12_method_70_code
def yX10_unlike : MethodName := ⟨RX10, "unlike", "(I)I"⟩
abbrev cX10_judge : ByteArray := prog_12_method_71_code
def yX10_judge : MethodName := ⟨RX10, "judge", "(I)I"⟩
abbrev cX10_fits : ByteArray := prog_12_method_72_code
def yX10_fits : MethodName := ⟨RX10, "fits", "(III)I"⟩
abbrev cX10_turnFrom : ByteArray := prog_12_method_73_code
def yX10_turnFrom : MethodName := ⟨RX10, "turnFrom", "(IIII)I"⟩
abbrev cX10_turnBy : ByteArray := prog_12_method_74_code
def yX10_turnBy : MethodName := ⟨RX10, "turnBy", "(IIIII)I"⟩
abbrev cX10_byTurns : ByteArray := prog_12_method_75_code
def yX10_byTurns : MethodName := ⟨RX10, "byTurns", "(IIII)I"⟩
abbrev cX10_drawn : ByteArray := prog_12_method_76_code
def yX10_drawn : MethodName := ⟨RX10, "drawn", "(IIII)I"⟩
abbrev cX10_putUp : ByteArray := prog_12_method_77_code
def yX10_putUp : MethodName := ⟨RX10, "putUp", "(I)I"⟩
abbrev cX10_loses : ByteArray := prog_12_method_78_code
def yX10_loses : MethodName := ⟨RX10, "loses", "(I)I"⟩
abbrev cX10_slip : ByteArray := prog_12_method_79_code
def yX10_slip : MethodName := ⟨RX10, "slip", "(II)I"⟩
abbrev cX10_year : ByteArray := prog_12_method_80_code
def yX10_year : MethodName := ⟨RX10, "year", "()I"⟩
abbrev cX10_led : ByteArray := prog_12_method_81_code
def yX10_led : MethodName := ⟨RX10, "led", "(I)I"⟩
abbrev cX10_image : ByteArray := prog_12_method_82_code
def yX10_image : MethodName := ⟨RX10, "image", "()I"⟩
abbrev cX10_back : ByteArray := prog_12_method_83_code
def yX10_back : MethodName := ⟨RX10, "back", "()I"⟩
abbrev cX10_above : ByteArray := prog_12_method_84_code
def yX10_above : MethodName := ⟨RX10, "above", "(I)I"⟩
abbrev cX10_ran : ByteArray := prog_12_method_85_code
def yX10_ran : MethodName := ⟨RX10, "ran", "(I)V"⟩
abbrev cX10_bidsBy : ByteArray := prog_12_method_86_code
def yX10_bidsBy : MethodName := ⟨RX10, "bidsBy", "(III)I"⟩
abbrev cX10_missesBy : ByteArray := prog_12_method_87_code
def yX10_missesBy : MethodName := ⟨RX10, "missesBy", "(III)I"⟩
abbrev cX10_losesBy : ByteArray := prog_12_method_88_code
def yX10_losesBy : MethodName := ⟨RX10, "losesBy", "(III)I"⟩
abbrev cX10_tells : ByteArray := prog_12_method_89_code
def yX10_tells : MethodName := ⟨RX10, "tells", "(III)I"⟩
abbrev cX10_body : ByteArray := prog_12_method_90_code
def yX10_body : MethodName := ⟨RX10, "body", "(I)I"⟩
abbrev cX10_act : ByteArray := prog_12_method_91_code
def yX10_act : MethodName := ⟨RX10, "act", "(III)I"⟩
abbrev cX10_trace : ByteArray := prog_12_method_92_code
def yX10_trace : MethodName := ⟨RX10, "trace", "(I)I"⟩
abbrev cX10_keep : ByteArray := prog_12_method_93_code
def yX10_keep : MethodName := ⟨RX10, "keep", "(II)I"⟩
abbrev cX10_row : ByteArray := prog_12_method_94_code
def yX10_row : MethodName := ⟨RX10, "row", "(III)I"⟩
abbrev cX10_isRow : ByteArray := prog_12_method_95_code
def yX10_isRow : MethodName := ⟨RX10, "isRow", "(I)Z"⟩
abbrev cX10_kept : ByteArray := prog_12_method_96_code
def yX10_kept : MethodName := ⟨RX10, "kept", "(IJ)J"⟩
abbrev cX10_put : ByteArray := prog_12_method_97_code
def yX10_put : MethodName := ⟨RX10, "put", "(IIJ)I"⟩
abbrev cX10_element : ByteArray := prog_12_method_98_code
def yX10_element : MethodName := ⟨RX10, "element", "(II)J"⟩
abbrev cX10_shift : ByteArray := prog_12_method_99_code
def yX10_shift : MethodName := ⟨RX10, "shift", "(IIIII)I"⟩
abbrev cX10_taken : ByteArray := prog_12_method_100_code
def yX10_taken : MethodName := ⟨RX10, "taken", "(II)I"⟩
abbrev cX10_count : ByteArray := prog_12_method_101_code
def yX10_count : MethodName := ⟨RX10, "count", "(I)I"⟩
def RJx145de : String := "java/io/Serializable"
def TJx145de : u_T := fun k => match k with
  | _ => ("", "", "", false)
def tyJx145de : Nat → FieldType := fun k => match k with
  | _ => .int
abbrev wsJx145de0 : List Cond := u_ws RJx145de TJx145de 0
theorem nmJx145de : ∀ a, a < 0 → ∀ b, b < 0 → a ≠ b → (TJx145de a).2.1 ≠ (TJx145de b).2.1 := by decide +kernel
theorem tyJx145de_ok : ∀ k, k < 0 → parseFieldDescriptor (TJx145de k).2.2.1 = some (tyJx145de k) := by decide +kernel
def RJx9f9b0 : String := "java/lang/CharSequence"
def TJx9f9b0 : u_T := fun k => match k with
  | _ => ("", "", "", false)
def tyJx9f9b0 : Nat → FieldType := fun k => match k with
  | _ => .int
abbrev wsJx9f9b00 : List Cond := u_ws RJx9f9b0 TJx9f9b0 0
theorem nmJx9f9b0 : ∀ a, a < 0 → ∀ b, b < 0 → a ≠ b → (TJx9f9b0 a).2.1 ≠ (TJx9f9b0 b).2.1 := by decide +kernel
theorem tyJx9f9b0_ok : ∀ k, k < 0 → parseFieldDescriptor (TJx9f9b0 k).2.2.1 = some (tyJx9f9b0 k) := by decide +kernel
def RJ11 : String := "java/lang/Character"
def TJ11 : u_T := fun k => match k with
  | _ => ("", "", "", false)
def tyJ11 : Nat → FieldType := fun k => match k with
  | _ => .int
abbrev wsJ110 : List Cond := u_ws RJ11 TJ11 0
theorem nmJ11 : ∀ a, a < 0 → ∀ b, b < 0 → a ≠ b → (TJ11 a).2.1 ≠ (TJ11 b).2.1 := by decide +kernel
theorem tyJ11_ok : ∀ k, k < 0 → parseFieldDescriptor (TJ11 k).2.2.1 = some (tyJ11 k) := by decide +kernel
abbrev cJ11_isValidCodePoint_9a6ad : ByteArray := prog_13_method_11_code
def yJ11_isValidCodePoint_9a6ad : MethodName := ⟨RJ11, "isValidCodePoint", "(I)Z"⟩
abbrev cJ11_highSurrogate_5068e : ByteArray := prog_13_method_28_code
def yJ11_highSurrogate_5068e : MethodName := ⟨RJ11, "highSurrogate", "(I)C"⟩
abbrev cJ11_lowSurrogate_5068e : ByteArray := prog_13_method_29_code
def yJ11_lowSurrogate_5068e : MethodName := ⟨RJ11, "lowSurrogate", "(I)C"⟩
def RJxb160c : String := "java/lang/Comparable"
def TJxb160c : u_T := fun k => match k with
  | _ => ("", "", "", false)
def tyJxb160c : Nat → FieldType := fun k => match k with
  | _ => .int
abbrev wsJxb160c0 : List Cond := u_ws RJxb160c TJxb160c 0
theorem nmJxb160c : ∀ a, a < 0 → ∀ b, b < 0 → a ≠ b → (TJxb160c a).2.1 ≠ (TJxb160c b).2.1 := by decide +kernel
theorem tyJxb160c_ok : ∀ k, k < 0 → parseFieldDescriptor (TJxb160c k).2.2.1 = some (tyJxb160c k) := by decide +kernel
def RJ6 : String := "java/lang/Integer"
def TJ6 : u_T := fun k => match k with
  | _ => ("", "", "", false)
def tyJ6 : Nat → FieldType := fun k => match k with
  | _ => .int
abbrev wsJ60 : List Cond := u_ws RJ6 TJ6 0
theorem nmJ6 : ∀ a, a < 0 → ∀ b, b < 0 → a ≠ b → (TJ6 a).2.1 ≠ (TJ6 b).2.1 := by decide +kernel
theorem tyJ6_ok : ∀ k, k < 0 → parseFieldDescriptor (TJ6 k).2.2.1 = some (tyJ6 k) := by decide +kernel
abbrev cJ6_bitCount_0f7a4 : ByteArray := prog_14_method_49_code
def yJ6_bitCount_0f7a4 : MethodName := ⟨RJ6, "bitCount", "(I)I"⟩
def RJ9 : String := "java/lang/Math"
def TJ9 : u_T := fun k => match k with
  | _ => ("", "", "", false)
def tyJ9 : Nat → FieldType := fun k => match k with
  | _ => .int
abbrev wsJ90 : List Cond := u_ws RJ9 TJ9 0
theorem nmJ9 : ∀ a, a < 0 → ∀ b, b < 0 → a ≠ b → (TJ9 a).2.1 ≠ (TJ9 b).2.1 := by decide +kernel
theorem tyJ9_ok : ∀ k, k < 0 → parseFieldDescriptor (TJ9 k).2.2.1 = some (tyJ9 k) := by decide +kernel
abbrev cJ9_max_7cf53 : ByteArray := prog_15_method_65_code
def yJ9_max_7cf53 : MethodName := ⟨RJ9, "max", "(II)I"⟩
abbrev cJ9_max_f86c9 : ByteArray := prog_15_method_66_code
def yJ9_max_f86c9 : MethodName := ⟨RJ9, "max", "(JJ)J"⟩
abbrev cJ9_min_7cf53 : ByteArray := prog_15_method_69_code
def yJ9_min_7cf53 : MethodName := ⟨RJ9, "min", "(II)I"⟩
def RJ0 : String := "java/lang/String"
def TJ0 : u_T := fun k => match k with
  | _ => ("", "", "", false)
def tyJ0 : Nat → FieldType := fun k => match k with
  | _ => .int
abbrev wsJ00 : List Cond := u_ws RJ0 TJ0 0
theorem nmJ0 : ∀ a, a < 0 → ∀ b, b < 0 → a ≠ b → (TJ0 a).2.1 ≠ (TJ0 b).2.1 := by decide +kernel
theorem tyJ0_ok : ∀ k, k < 0 → parseFieldDescriptor (TJ0 k).2.2.1 = some (tyJ0 k) := by decide +kernel
abbrev cJ0_length_8abf5 : ByteArray := prog_16_method_54_code
def yJ0_length_8abf5 : MethodName := ⟨RJ0, "length", "()I"⟩
abbrev cJ0_indexOf_0f7a4 : ByteArray := prog_16_method_79_code
def yJ0_indexOf_0f7a4 : MethodName := ⟨RJ0, "indexOf", "(I)I"⟩
abbrev cJ0_indexOf_7cf53 : ByteArray := prog_16_method_80_code
def yJ0_indexOf_7cf53 : MethodName := ⟨RJ0, "indexOf", "(II)I"⟩
abbrev cJ0_coder_7d493 : ByteArray := prog_16_method_152_code
def yJ0_coder_7d493 : MethodName := ⟨RJ0, "coder", "()B"⟩
abbrev cJ0_isLatin1_aae02 : ByteArray := prog_16_method_154_code
def yJ0_isLatin1_aae02 : MethodName := ⟨RJ0, "isLatin1", "()Z"⟩
abbrev cJ0_checkBoundsBeginEnd_23922 : ByteArray := prog_16_method_158_code
def yJ0_checkBoundsBeginEnd_23922 : MethodName := ⟨RJ0, "checkBoundsBeginEnd", "(III)V"⟩
def RJ1 : String := "java/lang/StringLatin1"
def TJ1 : u_T := fun k => match k with
  | _ => ("", "", "", false)
def tyJ1 : Nat → FieldType := fun k => match k with
  | _ => .int
abbrev wsJ10 : List Cond := u_ws RJ1 TJ1 0
theorem nmJ1 : ∀ a, a < 0 → ∀ b, b < 0 → a ≠ b → (TJ1 a).2.1 ≠ (TJ1 b).2.1 := by decide +kernel
theorem tyJ1_ok : ∀ k, k < 0 → parseFieldDescriptor (TJ1 k).2.2.1 = some (tyJ1 k) := by decide +kernel
abbrev cJ1_canEncode_9a6ad : ByteArray := prog_17_method_4_code
def yJ1_canEncode_9a6ad : MethodName := ⟨RJ1, "canEncode", "(I)Z"⟩
abbrev cJ1_indexOf_4cfef : ByteArray := prog_17_method_22_code
def yJ1_indexOf_4cfef : MethodName := ⟨RJ1, "indexOf", "([BIII)I"⟩
abbrev cJ1_indexOfChar_4cfef : ByteArray := prog_17_method_23_code
def yJ1_indexOfChar_4cfef : MethodName := ⟨RJ1, "indexOfChar", "([BIII)I"⟩
def RJ2 : String := "java/lang/StringUTF16"
def TJ2 : u_T := fun k => match k with
  | _ => ("", "", "", false)
def tyJ2 : Nat → FieldType := fun k => match k with
  | _ => .int
abbrev wsJ20 : List Cond := u_ws RJ2 TJ2 0
theorem nmJ2 : ∀ a, a < 0 → ∀ b, b < 0 → a ≠ b → (TJ2 a).2.1 ≠ (TJ2 b).2.1 := by decide +kernel
theorem tyJ2_ok : ∀ k, k < 0 → parseFieldDescriptor (TJ2 k).2.2.1 = some (tyJ2 k) := by decide +kernel
abbrev cJ2_getChar_3b067 : ByteArray := prog_18_method_5_code
def yJ2_getChar_3b067 : MethodName := ⟨RJ2, "getChar", "([BI)C"⟩
abbrev cJ2_length_9d52b : ByteArray := prog_18_method_6_code
def yJ2_length_9d52b : MethodName := ⟨RJ2, "length", "([B)I"⟩
abbrev cJ2_indexOf_4cfef : ByteArray := prog_18_method_40_code
def yJ2_indexOf_4cfef : MethodName := ⟨RJ2, "indexOf", "([BIII)I"⟩
abbrev cJ2_indexOfChar_4cfef : ByteArray := prog_18_method_47_code
def yJ2_indexOfChar_4cfef : MethodName := ⟨RJ2, "indexOfChar", "([BIII)I"⟩
abbrev cJ2_indexOfCharUnsafe_4cfef : ByteArray := prog_18_method_48_code
def yJ2_indexOfCharUnsafe_4cfef : MethodName := ⟨RJ2, "indexOfCharUnsafe", "([BIII)I"⟩
abbrev cJ2_indexOfSupplementary_4cfef : ByteArray := prog_18_method_49_code
def yJ2_indexOfSupplementary_4cfef : MethodName := ⟨RJ2, "indexOfSupplementary", "([BIII)I"⟩
abbrev cJ2_checkBoundsBeginEnd_d044e : ByteArray := prog_18_method_93_code
def yJ2_checkBoundsBeginEnd_d044e : MethodName := ⟨RJ2, "checkBoundsBeginEnd", "(II[B)V"⟩
def RJ10 : String := "java/lang/System"
def TJ10 : u_T := fun k => match k with
  | _ => ("", "", "", false)
def tyJ10 : Nat → FieldType := fun k => match k with
  | _ => .int
abbrev wsJ100 : List Cond := u_ws RJ10 TJ10 0
theorem nmJ10 : ∀ a, a < 0 → ∀ b, b < 0 → a ≠ b → (TJ10 a).2.1 ≠ (TJ10 b).2.1 := by decide +kernel
theorem tyJ10_ok : ∀ k, k < 0 → parseFieldDescriptor (TJ10 k).2.2.1 = some (tyJ10 k) := by decide +kernel
def RJxfd54e : String := "java/lang/constant/Constable"
def TJxfd54e : u_T := fun k => match k with
  | _ => ("", "", "", false)
def tyJxfd54e : Nat → FieldType := fun k => match k with
  | _ => .int
abbrev wsJxfd54e0 : List Cond := u_ws RJxfd54e TJxfd54e 0
theorem nmJxfd54e : ∀ a, a < 0 → ∀ b, b < 0 → a ≠ b → (TJxfd54e a).2.1 ≠ (TJxfd54e b).2.1 := by decide +kernel
theorem tyJxfd54e_ok : ∀ k, k < 0 → parseFieldDescriptor (TJxfd54e k).2.2.1 = some (tyJxfd54e k) := by decide +kernel
def RJx3cf43 : String := "java/lang/constant/ConstantDesc"
def TJx3cf43 : u_T := fun k => match k with
  | _ => ("", "", "", false)
def tyJx3cf43 : Nat → FieldType := fun k => match k with
  | _ => .int
abbrev wsJx3cf430 : List Cond := u_ws RJx3cf43 TJx3cf43 0
theorem nmJx3cf43 : ∀ a, a < 0 → ∀ b, b < 0 → a ≠ b → (TJx3cf43 a).2.1 ≠ (TJx3cf43 b).2.1 := by decide +kernel
theorem tyJx3cf43_ok : ∀ k, k < 0 → parseFieldDescriptor (TJx3cf43 k).2.2.1 = some (tyJx3cf43 k) := by decide +kernel
def RJ7 : String := "java/util/Arrays"
def TJ7 : u_T := fun k => match k with
  | _ => ("", "", "", false)
def tyJ7 : Nat → FieldType := fun k => match k with
  | _ => .int
abbrev wsJ70 : List Cond := u_ws RJ7 TJ7 0
theorem nmJ7 : ∀ a, a < 0 → ∀ b, b < 0 → a ≠ b → (TJ7 a).2.1 ≠ (TJ7 b).2.1 := by decide +kernel
theorem tyJ7_ok : ∀ k, k < 0 → parseFieldDescriptor (TJ7 k).2.2.1 = some (tyJ7 k) := by decide +kernel
abbrev cJ7_fill_d0a16 : ByteArray := prog_20_method_101_code
def yJ7_fill_d0a16 : MethodName := ⟨RJ7, "fill", "([JJ)V"⟩
abbrev cJ7_fill_53178 : ByteArray := prog_20_method_103_code
def yJ7_fill_53178 : MethodName := ⟨RJ7, "fill", "([II)V"⟩
def RJ3 : String := "jdk/internal/util/Preconditions"
def TJ3 : u_T := fun k => match k with
  | _ => ("", "", "", false)
def tyJ3 : Nat → FieldType := fun k => match k with
  | _ => .int
abbrev wsJ30 : List Cond := u_ws RJ3 TJ3 0
theorem nmJ3 : ∀ a, a < 0 → ∀ b, b < 0 → a ≠ b → (TJ3 a).2.1 ≠ (TJ3 b).2.1 := by decide +kernel
theorem tyJ3_ok : ∀ k, k < 0 → parseFieldDescriptor (TJ3 k).2.2.1 = some (tyJ3 k) := by decide +kernel
abbrev cJ3_checkFromToIndex_8c36e : ByteArray := prog_21_method_12_code
def yJ3_checkFromToIndex_8c36e : MethodName := ⟨RJ3, "checkFromToIndex", "(IIILjava/util/function/BiFunction;)I"⟩
def RL : String := "MissedSaleLaw"
abbrev cL_law : ByteArray := code
def yL_law : MethodName := ⟨RL, "law", "([I)Z"⟩
theorem inX0 : ∀ w ∈ wsX00, w ∈ lw_tbl := by decide +kernel
theorem inX1 : ∀ w ∈ wsX10, w ∈ lw_tbl := by decide +kernel
theorem inX2 : ∀ w ∈ wsX20, w ∈ lw_tbl := by decide +kernel
theorem inX3 : ∀ w ∈ wsX30, w ∈ lw_tbl := by decide +kernel
theorem inX4 : ∀ w ∈ wsX40, w ∈ lw_tbl := by decide +kernel
theorem inX5 : ∀ w ∈ wsX50, w ∈ lw_tbl := by decide +kernel
theorem inX6 : ∀ w ∈ wsX60, w ∈ lw_tbl := by decide +kernel
theorem inX7 : ∀ w ∈ wsX70, w ∈ lw_tbl := by decide +kernel
theorem inX8 : ∀ w ∈ wsX80, w ∈ lw_tbl := by decide +kernel
theorem inX9 : ∀ w ∈ wsX90, w ∈ lw_tbl := by decide +kernel
theorem inX10 : ∀ w ∈ wsX100, w ∈ lw_tbl := by decide +kernel
abbrev vwCl : List vw_C := [(RX0, TX0, 3), (RX1, TX1, 3), (RX2, TX2, 4), (RX3, TX3, 3), (RX4, TX4, 10), (RX5, TX5, 5), (RX6, TX6, 5), (RX7, TX7, 12), (RX8, TX8, 6), (RX9, TX9, 10), (RX10, TX10, 45)]
end
section
/-! My own abstract store: cells by number, values as whole numbers; G is the walk's goal in its terms. -/
def lw_w : List Cond := lw_tbl.filter goodWord
theorem lw_w_good : ∀ w ∈ lw_w, (w.onTables && w.keeps) = true ∨ ∃ ty, w = .arrayClass ty := fun _ h => good_of_word (List.mem_filter.mp h).2
theorem lw_w_in {w : Cond} {l : List Cond} (i : Nat) (hl : l = lw_tbl) (h : l[i]? = some w) (hg : goodWord w = true) : w ∈ lw_w := List.mem_filter.mpr ⟨hl ▸ List.mem_of_getElem? h, hg⟩
abbrev Vl : Type := Int ⊕ Int ⊕ Nat ⊕ Nat
abbrev vi (x : Int) : Vl := Sum.inl x
abbrev vl (x : Int) : Vl := Sum.inr (Sum.inl x)
abbrev vr (c : Nat) : Vl := Sum.inr (Sum.inr (Sum.inl c))
abbrev vo (c : Nat) : Vl := Sum.inr (Sum.inr (Sum.inr c))
def ok32 (x : Int) : Prop := -2147483648 ≤ x ∧ x < 2147483648
def ok64 (x : Int) : Prop := -9223372036854775808 ≤ x ∧ x < 9223372036854775808
def okv (v : Vl) : Prop := match v with
  | .inl x => ok32 x
  | .inr (.inl x) => ok64 x
  | _ => True
theorem ok32_toInt (w : Int32) : ok32 w.toInt := ⟨by have := Int32.le_toInt w; omega, by have := Int32.toInt_lt w; omega⟩
theorem ok64_toInt (w : Int64) : ok64 w.toInt := ⟨by have := Int64.le_toInt w; omega, by have := Int64.toInt_lt w; omega⟩
theorem toInt_of32 {x : Int} (h : ok32 x) : (Int32.ofInt x).toInt = x := Int32.toInt_ofInt_of_le (by have := h.1; omega) (by have := h.2; omega)
theorem toInt_of64 {x : Int} (h : ok64 x) : (Int64.ofInt x).toInt = x := Int64.toInt_ofInt_of_le (by have := h.1; omega) (by have := h.2; omega)
theorem clamp_of32 {x : Int} (h : ok32 x) : (Int32.ofInt x).toNatClampNeg = x.toNat := Int32.toNatClampNeg_ofInt_of_le (by have := h.1; omega) (by have := h.2; omega)
theorem le_of32 {x y : Int} (hx : ok32 x) (hy : ok32 y) : Int32.ofInt x ≤ Int32.ofInt y ↔ x ≤ y := by rw [Int32.le_iff_toInt_le, toInt_of32 hx, toInt_of32 hy]
theorem lt_of32 {x y : Int} (hx : ok32 x) (hy : ok32 y) : Int32.ofInt x < Int32.ofInt y ↔ x < y := by rw [Int32.lt_iff_toInt_lt, toInt_of32 hx, toInt_of32 hy]
theorem eq_of32 {x y : Int} (hx : ok32 x) (hy : ok32 y) : Int32.ofInt x = Int32.ofInt y ↔ x = y := by rw [← Int32.toInt_inj, toInt_of32 hx, toInt_of32 hy]
theorem eq_of64 {x y : Int} (hx : ok64 x) (hy : ok64 y) : Int64.ofInt x = Int64.ofInt y ↔ x = y := by rw [← Int64.toInt_inj, toInt_of64 hx, toInt_of64 hy]
theorem ok32_0 : ok32 0 := by unfold ok32; omega
theorem in_of32 {x : Int} {n : Nat} (h : ok32 x) (h0 : 0 ≤ x) (h1 : x < n) : vp_in (Int32.ofInt x) n := by
  intro hh
  rcases hh with hh | hh
  · have := (lt_of32 h ok32_0).mp hh
    omega
  · rw [clamp_of32 h] at hh
    omega
abbrev St : Type := Nat → Nat → Int
abbrev Sh : Type := Nat × Nat × List (Nat × Option Nat)
abbrev S2 : Type := List Sh × St
abbrev GT : Type := Nat × va_G × (ClassId × ClassId × ClassId) × (Nat → Nat)
def up (σ : St) (c j : Nat) (x : Int) : St := fun a b => if a = c ∧ b = j then x else σ a b
def cv (g : GT) (v : Vl) : Value := match v with
  | .inl x => .int (Int32.ofInt x)
  | .inr (.inl x) => .long (Int64.ofInt x)
  | .inr (.inr (.inl c)) => .ref (g.1 + c)
  | .inr (.inr (.inr k)) => .ref (g.2.2.2 k)
def fv (g : GT) (f : Nat × Option Nat) (x : Int) : Value := if f.1 = 1 then .long (Int64.ofInt x) else if f.1 = 2 then (match f.2 with
  | none => .null
  | some c => .ref (g.1 + c)) else if f.1 = 4 then .ref (g.1 + x.toNat) else .int (Int32.ofInt x)
def ce (g : GT) (τ : Nat → Int) (h : Sh) : va_E :=
  if h.1 = 0 then .inr (h.2.1, h.2.2.mapIdx (fun j f => fv g f (τ j)))
  else if h.1 = 1 then .inl (g.2.2.1.1, h.2.1, .inl (fun j => Int32.ofInt (τ j)))
  else if h.1 = 2 then .inl (g.2.2.1.2.1, h.2.1, .inr (.inl (fun j => Int64.ofInt (τ j))))
  else .inl (g.2.2.1.2.2, h.2.1, .inr (.inr (.inr (.inr (fun j => ((h.2.2[j]?).bind (fun q => q.2)).map (fun c => g.1 + c))))))
def okf (f : Nat × Option Nat) (x : Int) : Prop := if f.1 = 1 then ok64 x else if f.1 = 2 then True else if f.1 = 4 then True else ok32 x
def okc (τ : Nat → Int) (h : Sh) : Prop := if h.1 = 0 then ∀ (j : Nat) (f : Nat × Option Nat), h.2.2[j]? = some f → okf f (τ j) else if h.1 = 1 then ∀ j, ok32 (τ j) else if h.1 = 2 then ∀ j, ok64 (τ j) else True
def wsO (g : GT) (S : S2) : va_W := S.1.mapIdx (fun k h => (g.1 + k, ce g (S.2 k) h))
def AO (g : GT) : Nat → Prop := fun q => g.1 ≤ q
def Wh (g : GT) (S : S2) (H : Heap) : Prop := va_P g.2.1 vwCl (wsO g S) H ∧ ∀ (k : Nat) (h : Sh), S.1[k]? = some h → okc (S.2 k) h
def tyO (g : GT) : List (ClassId × FieldType) := [(g.2.2.1.1, .int), (g.2.2.1.2.1, .long), (g.2.2.1.2.2, .object RX6)]
theorem wsO_get {g : GT} {S : S2} {k : Nat} {h : Sh} (hk : S.1[k]? = some h) : (wsO g S)[k]? = some (g.1 + k, ce g (S.2 k) h) := by
  simp [wsO, List.getElem?_mapIdx, hk]
theorem wsO_D (g : GT) (S : S2) : va_D (AO g) (wsO g S) := by
  constructor
  · intro i j p q hi hj hpq
    simp only [wsO, List.getElem?_mapIdx, Option.map_eq_some_iff] at hi hj
    obtain ⟨a, -, rfl⟩ := hi
    obtain ⟨b, -, rfl⟩ := hj
    simp only at hpq
    omega
  · intro k q hk
    simp only [wsO, List.getElem?_mapIdx, Option.map_eq_some_iff] at hk
    obtain ⟨a, -, rfl⟩ := hk
    exact Nat.le_add_right _ _
theorem up_ne {σ : St} {c j a : Nat} {x : Int} (h : a ≠ c) : up σ c j x a = σ a := by
  funext b
  simp [up, h]
theorem up_at {σ : St} {c j : Nat} {x : Int} : up σ c j x c = vf_upd (σ c) j x := by
  funext b
  simp [up, vf_upd]
/-- the world behind a write of one place of one cell -/
theorem wsO_up {g : GT} {S : S2} {k j : Nat} {h : Sh} {x : Int} (hk : S.1[k]? = some h) : (wsO g S).set k (g.1 + k, ce g (vf_upd (S.2 k) j x) h) = wsO g (S.1, up S.2 k j x) := by
  apply List.ext_getElem?
  intro i
  rw [List.getElem?_set]
  by_cases hi : k = i
  · subst hi
    have hlt : k < S.1.length := (List.getElem?_eq_some_iff.mp hk).1
    have e := (List.getElem?_eq_some_iff.mp hk).2
    simp [hlt, wsO, List.getElem?_mapIdx, up_at, e]
  · simp [hi, wsO, List.getElem?_mapIdx, up_ne (Ne.symm hi)]
/-- the static arrays: class, name, descriptor, kind of element, what they hold -/
def sts : List (String × String × String × FieldType × List Int) := [("MissedSale", "MOST", "[I", .int, [3, 6, 1, 99, 9, 99, 9, 9, 1, 9, 9, 9, 9]), ("MissedSale$Dealing", "WEIGHT", "[J", .long, [531441, 59049, 6561, 729, 81, 9, 1]), ("MissedSale$Lots", "ABOVE", "[I", .int, [-1, 0, 0, 2, 1, 3, 0, 4]), ("MissedSale$Lots", "OWN", "[I", .int, [1, 10, 11, 2, 20, 0, 0, 0, 0, 30, 0, 0, 0, 41, 40, 0, 0, 0, 50, 0, 0, 0, 0, 60, 70, 0, 0, 0, 0, 80, 0, 81]), ("MissedSale$Ways", "MOVE_ORDER", "[I", .int, [2, 0, 1])]
def tv (ty : FieldType) (x : Int) : Value := match ty with
  | .long => .long (Int64.ofInt x)
  | _ => .int (Int32.ofInt x)
def Old (g : GT) (U : State) (H : Heap) : Prop := (∀ (k : Nat) (C n d : String) (ty : FieldType) (xs : List Int), sts[k]? = some (C, n, d, ty, xs) → va_Z C n d (.ref (g.2.2.2 k)) (AO g) U H ∧ va_T ty (g.2.2.2 k) xs.length (fun j => tv ty (xs.getD j 0)) (AO g) U H) ∧ vk_S 1 [6] [[99, 108, 104, 118, 110, 109]] (fun _ => g.2.2.2 5) (fun _ => g.2.2.2 6) (AO g) U H ∧ va_Z "java/lang/String" "COMPACT_STRINGS" "Z" (.int 1) (AO g) U H
theorem Old.moved {g : GT} {u U : State} {H : Heap} (hvm : u.vm.Alike U.vm) (h : Old g u H) : Old g U H := ⟨fun k C n d ty xs hk => ⟨va_Z.moved hvm (h.1 k C n d ty xs hk).1, va_T.moved hvm (h.1 k C n d ty xs hk).2⟩, vk_S.moved hvm h.2.1, va_Z.moved hvm h.2.2⟩
theorem Old.kept {g : GT} {U : State} {H H1 : Heap} (h : Old g U H) (hq : ∀ a : Nat, a < H.size → ¬ AO g a → H1[a]? = H[a]?) : Old g U H1 := ⟨fun k C n d ty xs hk => ⟨(h.1 k C n d ty xs hk).1.kept hq, (h.1 k C n d ty xs hk).2.kept hq⟩, h.2.1.kept hq, h.2.2.kept hq⟩
def nestWord (w : Cond) : Bool := match w with
  | .fieldLinkNest .. => true
  | .methodLinkNest .. => true
  | _ => false
/-- what a state says of the tables and of what was there before us -/
def Wst (g : GT) (U : State) (H : Heap) : Prop := va_K g.2.1 vwCl (tyO g) U ∧ Old g U H ∧ (∀ w ∈ lw_tbl, nestWord w = true → va_Nw w U) ∧ vk_R RX4 78 "clhvnm" (g.2.2.2 5) U ∧ va_AO RX6 U
theorem Wst.warm {g : GT} {s U : State} {H H1 : Heap} (hW : s.WarmedH U.vm) (h : Wst g s H) (hq : ∀ a : Nat, a < H.size → ¬ AO g a → H1[a]? = H[a]?) : Wst g U H1 := by
  refine ⟨va_K.moved hW.alike h.1, (h.2.1.moved hW.alike).kept hq, fun w hw hn => ?_, vk_R.warm hW h.2.2.2.1, ?_⟩
  · have := h.2.2.1 w hw hn
    cases w <;> first | exact va_Nw.warmF hW this | exact va_Nw.warmM hW this | (simp [nestWord] at hn)
  · exact va_AO.moved hW.alike h.2.2.2.2
theorem Wst.same {g : GT} {s U : State} {H : Heap} (hv : U.vm = s.vm) (h : Wst g s H) : Wst g U H := by
  have ha : s.vm.Alike U.vm := by rw [hv]; exact Vm.Alike.refl _
  refine ⟨va_K.moved ha h.1, h.2.1.moved ha, fun w hw hn => ?_, vk_R.same hv h.2.2.2.1, ?_⟩
  · have := h.2.2.1 w hw hn
    cases w <;> first | exact va_Nw.same rfl hv.symm this | (simp [nestWord] at hn)
  · exact va_AO.moved ha h.2.2.2.2
abbrev KT : Type := Program × Launch × Env × Room × State × MethodId × Array Value × List Frame × Method × Code × (State → Prop)
def WK (K : KT) (H : Heap) (locs : List Loc) (cs : Nat × Nat) (pc : Nat) (ls : Array Slot) (st : List Value) : Prop := match K with
  | (p, l, e, R, s, m, args, below, meth, c, Q) => W p l e R s m args below meth c H locs cs.1 cs.2 Q (F0 m pc ls st)
def Kheap (K : KT) : Heap := match K with
  | (_, _, _, _, s, _, _, _, _, _, _) => s.heap
/-- the walk's surroundings: the machine, the code, its class, the words, the world before us, the room: fr frames, cells up to cm, slots up to sm -/
def Ctx (K : KT) (g : GT) (own : String) (cc : ByteArray) (nL fr cm sm : Nat) : Prop := match K with
  | (p, _, _, R, s, m, args, _, _, c, _) => p.tables.exec = Jvm.exec ∧ c.code = cc ∧ c.maxLocals = nL ∧ s.vm.findClass own = some m.cls ∧ (∀ w ∈ lw_w, w.before args s = true) ∧ Wst g s s.heap ∧ g.1 ≤ s.heap.size ∧ fr ≤ R.frames ∧ 40 * fr ≤ R.locals ∧ cm ≤ R.cells ∧ sm ≤ R.slots
def G (K : KT) (g : GT) (nL : Nat) (cs : Nat × Nat) (pc : Nat) (L : List (Nat × Vl)) (st : List Vl) (S : S2) : Prop :=
  ∀ (H : Heap) (locs : List Loc) (ls : Array Slot), Wh g S H → va_S (AO g) (Kheap K) H locs → (∀ v ∈ st, okv v) → (∀ q ∈ L, okv q.2) → lv_has ls nL (L.map (fun q => (q.1, cv g q.2))) → WK K H locs cs pc ls (st.map (cv g))
theorem g_sub {K : KT} {g : GT} {nL : Nat} {cs : Nat × Nat} {pc : Nat} {L L' : List (Nat × Vl)} {st : List Vl} {S : S2} (h : ∀ q ∈ L', q ∈ L) (k : G K g nL cs pc L' st S) : G K g nL cs pc L st S :=
  fun H locs ls h1 h2 h3 h4 h5 => k H locs ls h1 h2 h3 (fun q hq => h4 q (h q hq)) ⟨h5.1, h5.2.1, fun q hq => by
    obtain ⟨a, ha, rfl⟩ := List.mem_map.mp hq
    exact h5.2.2 _ (List.mem_map.mpr ⟨a, h a ha, rfl⟩)⟩
/-- fewer locals, by their places -/
theorem g_pick {K : KT} {g : GT} {nL : Nat} {cs : Nat × Nat} {pc : Nat} {L L' : List (Nat × Vl)} {st : List Vl} {S : S2} (ks : List Nat) (h : L' = ks.filterMap (fun i => L[i]?)) (k : G K g nL cs pc L' st S) : G K g nL cs pc L st S :=
  g_sub (fun q hq => by
    rw [h] at hq
    obtain ⟨i, -, hi⟩ := List.mem_filterMap.mp hq
    exact List.mem_of_getElem? hi) k
end
section
/-! Rows: an instruction each, over G. -/
section Rows
variable {K : KT} {g : GT} {own : String} {cc : ByteArray} {nL fr cm sm : Nat} {cs : Nat × Nat} {pc : Nat} {L : List (Nat × Vl)} {st : List Vl} {S : S2}
theorem okv_i (w : Int32) : okv (vi w.toInt) := ok32_toInt w
theorem okv_l (w : Int64) : okv (vl w.toInt) := ok64_toInt w
theorem cv_i (g : GT) (w : Int32) : cv g (vi w.toInt) = .int w := by simp [cv]
theorem cv_l (g : GT) (w : Int64) : cv g (vl w.toInt) = .long w := by simp [cv]
theorem okv_cons {v : Vl} {st : List Vl} (h : okv v) (hs : ∀ v ∈ st, okv v) : ∀ u ∈ v :: st, okv u := fun u hu => (List.mem_cons.mp hu).elim (fun e => e ▸ h) (hs u)
theorem okv_tail {v : Vl} {st : List Vl} (hs : ∀ u ∈ v :: st, okv u) : ∀ v ∈ st, okv v := fun u hu => hs u (List.mem_cons_of_mem _ hu)
theorem okv_head {v : Vl} {st : List Vl} (hs : ∀ u ∈ v :: st, okv u) : okv v := hs v List.mem_cons_self
theorem lv_of {ls : Array Slot} {i : Nat} {v : Vl} (hl : lv_has ls nL (L.map (fun q => (q.1, cv g q.2)))) (k : Nat) (h : L[k]? = some (i, v)) : ls[i]? = some (.val (cv g v)) := hl.2.2 (i, cv g v) (List.mem_map.mpr ⟨(i, v), List.mem_of_getElem? h, rfl⟩)
theorem okL_of {i : Nat} {v : Vl} (hL : ∀ q ∈ L, okv q.2) (k : Nat) (h : L[k]? = some (i, v)) : okv v := hL (i, v) (List.mem_of_getElem? h)

def i_add (x y : Int) : Int := (Int32.ofInt x + Int32.ofInt y).toInt
theorem g_iadd {x y : Int} (hC : Ctx K g own cc nL fr cm sm) (hd : decode cc pc = .ok (.iadd, 1)) (k : G K g nL cs (pc + 1) L (vi (i_add x y) :: st) S) : G K g nL cs pc L (vi y :: vi x :: st) S := by
  obtain ⟨p, l, e, R, s, m, args, below, meth, c, Q⟩ := K
  intro H locs ls h1 h2 h3 h4 h5
  have k' := k H locs ls h1 h2 (okv_cons (okv_i _) (okv_tail (okv_tail h3))) h4 h5
  rw [List.map_cons, i_add, cv_i] at k'
  exact lv_iadd hC.1 hC.2.1 hd k'
def i_sub (x y : Int) : Int := (Int32.ofInt x - Int32.ofInt y).toInt
theorem g_isub {x y : Int} (hC : Ctx K g own cc nL fr cm sm) (hd : decode cc pc = .ok (.isub, 1)) (k : G K g nL cs (pc + 1) L (vi (i_sub x y) :: st) S) : G K g nL cs pc L (vi y :: vi x :: st) S := by
  obtain ⟨p, l, e, R, s, m, args, below, meth, c, Q⟩ := K
  intro H locs ls h1 h2 h3 h4 h5
  have k' := k H locs ls h1 h2 (okv_cons (okv_i _) (okv_tail (okv_tail h3))) h4 h5
  rw [List.map_cons, i_sub, cv_i] at k'
  exact lv_isub hC.1 hC.2.1 hd k'
def i_mul (x y : Int) : Int := (Int32.ofInt x * Int32.ofInt y).toInt
theorem g_imul {x y : Int} (hC : Ctx K g own cc nL fr cm sm) (hd : decode cc pc = .ok (.imul, 1)) (k : G K g nL cs (pc + 1) L (vi (i_mul x y) :: st) S) : G K g nL cs pc L (vi y :: vi x :: st) S := by
  obtain ⟨p, l, e, R, s, m, args, below, meth, c, Q⟩ := K
  intro H locs ls h1 h2 h3 h4 h5
  have k' := k H locs ls h1 h2 (okv_cons (okv_i _) (okv_tail (okv_tail h3))) h4 h5
  rw [List.map_cons, i_mul, cv_i] at k'
  exact lv_imul hC.1 hC.2.1 hd k'
def i_and (x y : Int) : Int := (Int32.ofInt x &&& Int32.ofInt y).toInt
theorem g_iand {x y : Int} (hC : Ctx K g own cc nL fr cm sm) (hd : decode cc pc = .ok (.iand, 1)) (k : G K g nL cs (pc + 1) L (vi (i_and x y) :: st) S) : G K g nL cs pc L (vi y :: vi x :: st) S := by
  obtain ⟨p, l, e, R, s, m, args, below, meth, c, Q⟩ := K
  intro H locs ls h1 h2 h3 h4 h5
  have k' := k H locs ls h1 h2 (okv_cons (okv_i _) (okv_tail (okv_tail h3))) h4 h5
  rw [List.map_cons, i_and, cv_i] at k'
  exact lv_iand hC.1 hC.2.1 hd k'
def i_or (x y : Int) : Int := (Int32.ofInt x ||| Int32.ofInt y).toInt
theorem g_ior {x y : Int} (hC : Ctx K g own cc nL fr cm sm) (hd : decode cc pc = .ok (.ior, 1)) (k : G K g nL cs (pc + 1) L (vi (i_or x y) :: st) S) : G K g nL cs pc L (vi y :: vi x :: st) S := by
  obtain ⟨p, l, e, R, s, m, args, below, meth, c, Q⟩ := K
  intro H locs ls h1 h2 h3 h4 h5
  have k' := k H locs ls h1 h2 (okv_cons (okv_i _) (okv_tail (okv_tail h3))) h4 h5
  rw [List.map_cons, i_or, cv_i] at k'
  exact lv_ior hC.1 hC.2.1 hd k'
def i_xor (x y : Int) : Int := (Int32.ofInt x ^^^ Int32.ofInt y).toInt
theorem g_ixor {x y : Int} (hC : Ctx K g own cc nL fr cm sm) (hd : decode cc pc = .ok (.ixor, 1)) (k : G K g nL cs (pc + 1) L (vi (i_xor x y) :: st) S) : G K g nL cs pc L (vi y :: vi x :: st) S := by
  obtain ⟨p, l, e, R, s, m, args, below, meth, c, Q⟩ := K
  intro H locs ls h1 h2 h3 h4 h5
  have k' := k H locs ls h1 h2 (okv_cons (okv_i _) (okv_tail (okv_tail h3))) h4 h5
  rw [List.map_cons, i_xor, cv_i] at k'
  exact lv_ixor hC.1 hC.2.1 hd k'
def i_shl (x y : Int) : Int := (Int32.ofInt x <<< (Int32.ofInt y &&& 31)).toInt
theorem g_ishl {x y : Int} (hC : Ctx K g own cc nL fr cm sm) (hd : decode cc pc = .ok (.ishl, 1)) (k : G K g nL cs (pc + 1) L (vi (i_shl x y) :: st) S) : G K g nL cs pc L (vi y :: vi x :: st) S := by
  obtain ⟨p, l, e, R, s, m, args, below, meth, c, Q⟩ := K
  intro H locs ls h1 h2 h3 h4 h5
  have k' := k H locs ls h1 h2 (okv_cons (okv_i _) (okv_tail (okv_tail h3))) h4 h5
  rw [List.map_cons, i_shl, cv_i] at k'
  exact lv_ishl hC.1 hC.2.1 hd k'
def i_shr (x y : Int) : Int := (Int32.ofInt x >>> (Int32.ofInt y &&& 31)).toInt
theorem g_ishr {x y : Int} (hC : Ctx K g own cc nL fr cm sm) (hd : decode cc pc = .ok (.ishr, 1)) (k : G K g nL cs (pc + 1) L (vi (i_shr x y) :: st) S) : G K g nL cs pc L (vi y :: vi x :: st) S := by
  obtain ⟨p, l, e, R, s, m, args, below, meth, c, Q⟩ := K
  intro H locs ls h1 h2 h3 h4 h5
  have k' := k H locs ls h1 h2 (okv_cons (okv_i _) (okv_tail (okv_tail h3))) h4 h5
  rw [List.map_cons, i_shr, cv_i] at k'
  exact lv_ishr hC.1 hC.2.1 hd k'
def i_ushr (x y : Int) : Int := (((Int32.ofInt x).toUInt32 >>> ((Int32.ofInt y).toUInt32 &&& Int32.toUInt32 31)).toInt32).toInt
theorem g_iushr {x y : Int} (hC : Ctx K g own cc nL fr cm sm) (hd : decode cc pc = .ok (.iushr, 1)) (k : G K g nL cs (pc + 1) L (vi (i_ushr x y) :: st) S) : G K g nL cs pc L (vi y :: vi x :: st) S := by
  obtain ⟨p, l, e, R, s, m, args, below, meth, c, Q⟩ := K
  intro H locs ls h1 h2 h3 h4 h5
  have k' := k H locs ls h1 h2 (okv_cons (okv_i _) (okv_tail (okv_tail h3))) h4 h5
  rw [List.map_cons, i_ushr, cv_i] at k'
  exact lv_iushr hC.1 hC.2.1 hd rfl k'

def i_div (x y : Int) : Int := (Int32.ofInt x / Int32.ofInt y).toInt
theorem g_idiv {x y : Int} (hC : Ctx K g own cc nL fr cm sm) (hd : decode cc pc = .ok (.idiv, 1)) (hne : ¬ y = 0) (k : G K g nL cs (pc + 1) L (vi (i_div x y) :: st) S) : G K g nL cs pc L (vi y :: vi x :: st) S := by
  obtain ⟨p, l, e, R, s, m, args, below, meth, c, Q⟩ := K
  intro H locs ls h1 h2 h3 h4 h5
  have k' := k H locs ls h1 h2 (okv_cons (okv_i _) (okv_tail (okv_tail h3))) h4 h5
  rw [List.map_cons, i_div, cv_i] at k'
  exact lv_idiv hC.1 hC.2.1 hd (fun h => hne ((eq_of32 (okv_head h3) ok32_0).mp h)) k'
def i_rem (x y : Int) : Int := (Int32.ofInt x - Int32.ofInt x / Int32.ofInt y * Int32.ofInt y).toInt
theorem g_irem {x y : Int} (hC : Ctx K g own cc nL fr cm sm) (hd : decode cc pc = .ok (.irem, 1)) (hne : ¬ y = 0) (k : G K g nL cs (pc + 1) L (vi (i_rem x y) :: st) S) : G K g nL cs pc L (vi y :: vi x :: st) S := by
  obtain ⟨p, l, e, R, s, m, args, below, meth, c, Q⟩ := K
  intro H locs ls h1 h2 h3 h4 h5
  have k' := k H locs ls h1 h2 (okv_cons (okv_i _) (okv_tail (okv_tail h3))) h4 h5
  rw [List.map_cons, i_rem, cv_i] at k'
  exact lv_irem hC.1 hC.2.1 hd (fun h => hne ((eq_of32 (okv_head h3) ok32_0).mp h)) k'
def i_neg (x : Int) : Int := (-Int32.ofInt x).toInt
theorem g_ineg {x : Int} (hC : Ctx K g own cc nL fr cm sm) (hd : decode cc pc = .ok (.ineg, 1)) (k : G K g nL cs (pc + 1) L (vi (i_neg x) :: st) S) : G K g nL cs pc L (vi x :: st) S := by
  obtain ⟨p, l, e, R, s, m, args, below, meth, c, Q⟩ := K
  intro H locs ls h1 h2 h3 h4 h5
  have k' := k H locs ls h1 h2 (okv_cons (okv_i _) (okv_tail h3)) h4 h5
  rw [List.map_cons, i_neg, cv_i] at k'
  exact lv_ineg hC.1 hC.2.1 hd k'
def c_i2b (x : Int) : Int := ((Int32.ofInt x).toInt8.toInt32).toInt
theorem g_i2b {x : Int} (hC : Ctx K g own cc nL fr cm sm) (hd : decode cc pc = .ok (.i2b, 1)) (k : G K g nL cs (pc + 1) L (vi (c_i2b x) :: st) S) : G K g nL cs pc L (vi x :: st) S := by
  obtain ⟨p, l, e, R, s, m, args, below, meth, c, Q⟩ := K
  intro H locs ls h1 h2 h3 h4 h5
  have k' := k H locs ls h1 h2 (okv_cons (okv_i _) (okv_tail h3)) h4 h5
  rw [List.map_cons, c_i2b, cv_i] at k'
  exact lv_i2b hC.1 hC.2.1 hd rfl k'
def c_i2s (x : Int) : Int := ((Int32.ofInt x).toInt16.toInt32).toInt
theorem g_i2s {x : Int} (hC : Ctx K g own cc nL fr cm sm) (hd : decode cc pc = .ok (.i2s, 1)) (k : G K g nL cs (pc + 1) L (vi (c_i2s x) :: st) S) : G K g nL cs pc L (vi x :: st) S := by
  obtain ⟨p, l, e, R, s, m, args, below, meth, c, Q⟩ := K
  intro H locs ls h1 h2 h3 h4 h5
  have k' := k H locs ls h1 h2 (okv_cons (okv_i _) (okv_tail h3)) h4 h5
  rw [List.map_cons, c_i2s, cv_i] at k'
  exact lv_i2s hC.1 hC.2.1 hd rfl k'
def c_i2c (x : Int) : Int := (((Int32.ofInt x).toUInt32 % 65536).toInt32).toInt
theorem g_i2c {x : Int} (hC : Ctx K g own cc nL fr cm sm) (hd : decode cc pc = .ok (.i2c, 1)) (k : G K g nL cs (pc + 1) L (vi (c_i2c x) :: st) S) : G K g nL cs pc L (vi x :: st) S := by
  obtain ⟨p, l, e, R, s, m, args, below, meth, c, Q⟩ := K
  intro H locs ls h1 h2 h3 h4 h5
  have k' := k H locs ls h1 h2 (okv_cons (okv_i _) (okv_tail h3)) h4 h5
  rw [List.map_cons, c_i2c, cv_i] at k'
  exact lv_i2c hC.1 hC.2.1 hd rfl k'
def c_i2l (x : Int) : Int := ((Int32.ofInt x).toInt64).toInt
theorem g_i2l {x : Int} (hC : Ctx K g own cc nL fr cm sm) (hd : decode cc pc = .ok (.i2l, 1)) (k : G K g nL cs (pc + 1) L (vl (c_i2l x) :: st) S) : G K g nL cs pc L (vi x :: st) S := by
  obtain ⟨p, l, e, R, s, m, args, below, meth, c, Q⟩ := K
  intro H locs ls h1 h2 h3 h4 h5
  have k' := k H locs ls h1 h2 (okv_cons (okv_l _) (okv_tail h3)) h4 h5
  rw [List.map_cons, c_i2l, cv_l] at k'
  exact lv_i2l hC.1 hC.2.1 hd rfl k'
def c_l2i (x : Int) : Int := ((Int64.ofInt x).toInt32).toInt
theorem g_l2i {x : Int} (hC : Ctx K g own cc nL fr cm sm) (hd : decode cc pc = .ok (.l2i, 1)) (k : G K g nL cs (pc + 1) L (vi (c_l2i x) :: st) S) : G K g nL cs pc L (vl x :: st) S := by
  obtain ⟨p, l, e, R, s, m, args, below, meth, c, Q⟩ := K
  intro H locs ls h1 h2 h3 h4 h5
  have k' := k H locs ls h1 h2 (okv_cons (okv_i _) (okv_tail h3)) h4 h5
  rw [List.map_cons, c_l2i, cv_i] at k'
  exact lv_l2i hC.1 hC.2.1 hd rfl k'

def l_add (x y : Int) : Int := (Int64.ofInt x + Int64.ofInt y).toInt
theorem g_ladd {x y : Int} (hC : Ctx K g own cc nL fr cm sm) (hd : decode cc pc = .ok (.ladd, 1)) (k : G K g nL cs (pc + 1) L (vl (l_add x y) :: st) S) : G K g nL cs pc L (vl y :: vl x :: st) S := by
  obtain ⟨p, l, e, R, s, m, args, below, meth, c, Q⟩ := K
  intro H locs ls h1 h2 h3 h4 h5
  have k' := k H locs ls h1 h2 (okv_cons (okv_l _) (okv_tail (okv_tail h3))) h4 h5
  rw [List.map_cons, l_add, cv_l] at k'
  exact lv_ladd hC.1 hC.2.1 hd k'
def l_sub (x y : Int) : Int := (Int64.ofInt x - Int64.ofInt y).toInt
theorem g_lsub {x y : Int} (hC : Ctx K g own cc nL fr cm sm) (hd : decode cc pc = .ok (.lsub, 1)) (k : G K g nL cs (pc + 1) L (vl (l_sub x y) :: st) S) : G K g nL cs pc L (vl y :: vl x :: st) S := by
  obtain ⟨p, l, e, R, s, m, args, below, meth, c, Q⟩ := K
  intro H locs ls h1 h2 h3 h4 h5
  have k' := k H locs ls h1 h2 (okv_cons (okv_l _) (okv_tail (okv_tail h3))) h4 h5
  rw [List.map_cons, l_sub, cv_l] at k'
  exact lv_lsub hC.1 hC.2.1 hd k'
def l_mul (x y : Int) : Int := (Int64.ofInt x * Int64.ofInt y).toInt
theorem g_lmul {x y : Int} (hC : Ctx K g own cc nL fr cm sm) (hd : decode cc pc = .ok (.lmul, 1)) (k : G K g nL cs (pc + 1) L (vl (l_mul x y) :: st) S) : G K g nL cs pc L (vl y :: vl x :: st) S := by
  obtain ⟨p, l, e, R, s, m, args, below, meth, c, Q⟩ := K
  intro H locs ls h1 h2 h3 h4 h5
  have k' := k H locs ls h1 h2 (okv_cons (okv_l _) (okv_tail (okv_tail h3))) h4 h5
  rw [List.map_cons, l_mul, cv_l] at k'
  exact lv_lmul hC.1 hC.2.1 hd k'
def l_and (x y : Int) : Int := (Int64.ofInt x &&& Int64.ofInt y).toInt
theorem g_land {x y : Int} (hC : Ctx K g own cc nL fr cm sm) (hd : decode cc pc = .ok (.land, 1)) (k : G K g nL cs (pc + 1) L (vl (l_and x y) :: st) S) : G K g nL cs pc L (vl y :: vl x :: st) S := by
  obtain ⟨p, l, e, R, s, m, args, below, meth, c, Q⟩ := K
  intro H locs ls h1 h2 h3 h4 h5
  have k' := k H locs ls h1 h2 (okv_cons (okv_l _) (okv_tail (okv_tail h3))) h4 h5
  rw [List.map_cons, l_and, cv_l] at k'
  exact lv_land hC.1 hC.2.1 hd k'
def l_or (x y : Int) : Int := (Int64.ofInt x ||| Int64.ofInt y).toInt
theorem g_lor {x y : Int} (hC : Ctx K g own cc nL fr cm sm) (hd : decode cc pc = .ok (.lor, 1)) (k : G K g nL cs (pc + 1) L (vl (l_or x y) :: st) S) : G K g nL cs pc L (vl y :: vl x :: st) S := by
  obtain ⟨p, l, e, R, s, m, args, below, meth, c, Q⟩ := K
  intro H locs ls h1 h2 h3 h4 h5
  have k' := k H locs ls h1 h2 (okv_cons (okv_l _) (okv_tail (okv_tail h3))) h4 h5
  rw [List.map_cons, l_or, cv_l] at k'
  exact lv_lor hC.1 hC.2.1 hd k'
def ok64_0 : ok64 0 := by unfold ok64; omega
def l_div (x y : Int) : Int := (Int64.ofInt x / Int64.ofInt y).toInt
theorem g_ldiv {x y : Int} (hC : Ctx K g own cc nL fr cm sm) (hd : decode cc pc = .ok (.ldiv, 1)) (hne : ¬ y = 0) (k : G K g nL cs (pc + 1) L (vl (l_div x y) :: st) S) : G K g nL cs pc L (vl y :: vl x :: st) S := by
  obtain ⟨p, l, e, R, s, m, args, below, meth, c, Q⟩ := K
  intro H locs ls h1 h2 h3 h4 h5
  have k' := k H locs ls h1 h2 (okv_cons (okv_l _) (okv_tail (okv_tail h3))) h4 h5
  rw [List.map_cons, l_div, cv_l] at k'
  exact lv_ldiv hC.1 hC.2.1 hd (fun h => hne ((eq_of64 (okv_head h3) ok64_0).mp h)) k'
def l_rem (x y : Int) : Int := (Int64.ofInt x - Int64.ofInt x / Int64.ofInt y * Int64.ofInt y).toInt
theorem g_lrem {x y : Int} (hC : Ctx K g own cc nL fr cm sm) (hd : decode cc pc = .ok (.lrem, 1)) (hne : ¬ y = 0) (k : G K g nL cs (pc + 1) L (vl (l_rem x y) :: st) S) : G K g nL cs pc L (vl y :: vl x :: st) S := by
  obtain ⟨p, l, e, R, s, m, args, below, meth, c, Q⟩ := K
  intro H locs ls h1 h2 h3 h4 h5
  have k' := k H locs ls h1 h2 (okv_cons (okv_l _) (okv_tail (okv_tail h3))) h4 h5
  rw [List.map_cons, l_rem, cv_l] at k'
  exact lv_lrem hC.1 hC.2.1 hd (fun h => hne ((eq_of64 (okv_head h3) ok64_0).mp h)) k'
def l_shl (x y : Int) : Int := (Int64.ofInt x <<< ((Int32.ofInt y).toInt64 &&& 63)).toInt
theorem g_lshl {x y : Int} (hC : Ctx K g own cc nL fr cm sm) (hd : decode cc pc = .ok (.lshl, 1)) (k : G K g nL cs (pc + 1) L (vl (l_shl x y) :: st) S) : G K g nL cs pc L (vi y :: vl x :: st) S := by
  obtain ⟨p, l, e, R, s, m, args, below, meth, c, Q⟩ := K
  intro H locs ls h1 h2 h3 h4 h5
  have k' := k H locs ls h1 h2 (okv_cons (okv_l _) (okv_tail (okv_tail h3))) h4 h5
  rw [List.map_cons, l_shl, cv_l] at k'
  exact lv_lshl hC.1 hC.2.1 hd rfl k'
def l_cmp (x y : Int) : Int := if y < x then 1 else if x = y then 0 else -1
theorem cmp_eq {x y : Int} (hx : ok64 x) (hy : ok64 y) : (lg_cmp (Int64.ofInt x) (Int64.ofInt y)) = Int32.ofInt (l_cmp x y) := by
  unfold lg_cmp l_cmp
  have e1 : Int64.ofInt x > Int64.ofInt y ↔ y < x := by
    show Int64.ofInt y < Int64.ofInt x ↔ _
    rw [Int64.lt_iff_toInt_lt, toInt_of64 hx, toInt_of64 hy]
  have e2 := eq_of64 hx hy
  by_cases h1 : y < x
  · rw [if_pos (e1.mpr h1), if_pos h1]; rfl
  · rw [if_neg (fun h => h1 (e1.mp h)), if_neg h1]
    by_cases h2 : x = y
    · rw [if_pos (e2.mpr h2), if_pos h2]; rfl
    · rw [if_neg (fun h => h2 (e2.mp h)), if_neg h2]; rfl
theorem ok_cmp (x y : Int) : ok32 (l_cmp x y) := by unfold l_cmp ok32; split <;> (try split) <;> omega
theorem g_lcmp {x y : Int} (hC : Ctx K g own cc nL fr cm sm) (hd : decode cc pc = .ok (.lcmp, 1)) (k : G K g nL cs (pc + 1) L (vi (l_cmp x y) :: st) S) : G K g nL cs pc L (vl y :: vl x :: st) S := by
  obtain ⟨p, l, e, R, s, m, args, below, meth, c, Q⟩ := K
  intro H locs ls h1 h2 h3 h4 h5
  have k' := k H locs ls h1 h2 (okv_cons (ok_cmp x y) (okv_tail (okv_tail h3))) h4 h5
  refine W.lcmp hC.1 hC.2.1 hd ?_
  rw [cmp_eq (okv_head (okv_tail h3)) (okv_head h3)]
  exact k'

theorem g_iconst {n : Int} (hC : Ctx K g own cc nL fr cm sm) (hd : decode cc pc = .ok (.iconst n, 1)) (hn : ok32 n) (k : G K g nL cs (pc + 1) L (vi n :: st) S) : G K g nL cs pc L st S := by
  obtain ⟨p, l, e, R, s, m, args, below, meth, c, Q⟩ := K
  intro H locs ls h1 h2 h3 h4 h5
  exact lv_iconst hC.1 hC.2.1 hd rfl (k H locs ls h1 h2 (okv_cons hn h3) h4 h5)
theorem g_bipush {n : Int} (hC : Ctx K g own cc nL fr cm sm) (hd : decode cc pc = .ok (.bipush n, 2)) (hn : ok32 n ∧ (Int8.ofInt n).toInt32 = Int32.ofInt n) (k : G K g nL cs (pc + 2) L (vi n :: st) S) : G K g nL cs pc L st S := by
  obtain ⟨p, l, e, R, s, m, args, below, meth, c, Q⟩ := K
  intro H locs ls h1 h2 h3 h4 h5
  exact lv_bipush hC.1 hC.2.1 hd hn.2 (k H locs ls h1 h2 (okv_cons hn.1 h3) h4 h5)
theorem g_sipush {n : Int} (hC : Ctx K g own cc nL fr cm sm) (hd : decode cc pc = .ok (.sipush n, 3)) (hn : ok32 n ∧ (Int16.ofInt n).toInt32 = Int32.ofInt n) (k : G K g nL cs (pc + 3) L (vi n :: st) S) : G K g nL cs pc L st S := by
  obtain ⟨p, l, e, R, s, m, args, below, meth, c, Q⟩ := K
  intro H locs ls h1 h2 h3 h4 h5
  exact lv_sipush hC.1 hC.2.1 hd hn.2 (k H locs ls h1 h2 (okv_cons hn.1 h3) h4 h5)
theorem g_ldc {ix : Nat} {n : Int} (hC : Ctx K g own cc nL fr cm sm) (hd : decode cc pc = .ok (.ldc ix, 2)) (hn : ok32 n ∧ Cond.constant own ix (Int32.ofInt n) ∈ lw_w) (k : G K g nL cs (pc + 2) L (vi n :: st) S) : G K g nL cs pc L st S := by
  obtain ⟨p, l, e, R, s, m, args, below, meth, c, Q⟩ := K
  intro H locs ls h1 h2 h3 h4 h5
  exact lv_ldc hC.1 hC.2.1 hC.2.2.2.1 (hC.2.2.2.2.1 _ hn.2) hd (k H locs ls h1 h2 (okv_cons hn.1 h3) h4 h5)
theorem g_ldcw {ix : Nat} {n : Int} (hC : Ctx K g own cc nL fr cm sm) (hd : decode cc pc = .ok (.ldc_w ix, 3)) (hn : ok32 n ∧ Cond.constant own ix (Int32.ofInt n) ∈ lw_w) (k : G K g nL cs (pc + 3) L (vi n :: st) S) : G K g nL cs pc L st S := by
  obtain ⟨p, l, e, R, s, m, args, below, meth, c, Q⟩ := K
  intro H locs ls h1 h2 h3 h4 h5
  exact lv_ldcw hC.1 hC.2.1 hC.2.2.2.1 (hC.2.2.2.2.1 _ hn.2) hd (k H locs ls h1 h2 (okv_cons hn.1 h3) h4 h5)
theorem g_ldc2 {ix : Nat} {n : Int} (hC : Ctx K g own cc nL fr cm sm) (hd : decode cc pc = .ok (.ldc2_w ix, 3)) (hn : ok64 n ∧ Cond.constantLong own ix (Int64.ofInt n) ∈ lw_w) (k : G K g nL cs (pc + 3) L (vl n :: st) S) : G K g nL cs pc L st S := by
  obtain ⟨p, l, e, R, s, m, args, below, meth, c, Q⟩ := K
  intro H locs ls h1 h2 h3 h4 h5
  exact lv_ldc2 hC.1 hC.2.1 hC.2.2.2.1 (hC.2.2.2.2.1 _ hn.2) hd (k H locs ls h1 h2 (okv_cons hn.1 h3) h4 h5)
theorem g_lconst {n : Fin 2} {z : Int} (hC : Ctx K g own cc nL fr cm sm) (hd : decode cc pc = .ok (.lconst n, 1)) (hn : ok64 z ∧ Int64.ofNat (n : Nat) = Int64.ofInt z) (k : G K g nL cs (pc + 1) L (vl z :: st) S) : G K g nL cs pc L st S := by
  obtain ⟨p, l, e, R, s, m, args, below, meth, c, Q⟩ := K
  intro H locs ls h1 h2 h3 h4 h5
  exact lv_lconst hC.1 hC.2.1 hd hn.2 (k H locs ls h1 h2 (okv_cons hn.1 h3) h4 h5)

theorem g_iload {i : Nat} {x : Int} (hC : Ctx K g own cc nL fr cm sm) (hd : decode cc pc = .ok (.iload i, 2)) (q : Nat) (hq : L[q]? = some (i, vi x)) (k : G K g nL cs (pc + 2) L (vi x :: st) S) : G K g nL cs pc L st S := by
  obtain ⟨p, l, e, R, s, m, args, below, meth, c, Q⟩ := K
  intro H locs ls h1 h2 h3 h4 h5
  exact lv_iload hC.1 hC.2.1 hd (lv_of h5 q hq) (k H locs ls h1 h2 (okv_cons (okL_of h4 q hq) h3) h4 h5)
theorem g_iload_n {n : Fin 4} {i : Nat} {x : Int} (hC : Ctx K g own cc nL fr cm sm) (hd : decode cc pc = .ok (.iload_n n, 1)) (q : Nat) (hq : L[q]? = some (i, vi x)) (hi : (n : Nat) = i) (k : G K g nL cs (pc + 1) L (vi x :: st) S) : G K g nL cs pc L st S := by
  obtain ⟨p, l, e, R, s, m, args, below, meth, c, Q⟩ := K
  intro H locs ls h1 h2 h3 h4 h5
  exact lv_iload_n hC.1 hC.2.1 hd hi (lv_of h5 q hq) (k H locs ls h1 h2 (okv_cons (okL_of h4 q hq) h3) h4 h5)

theorem g_lload {i : Nat} {x : Int} (hC : Ctx K g own cc nL fr cm sm) (hd : decode cc pc = .ok (.lload i, 2)) (q : Nat) (hq : L[q]? = some (i, vl x)) (k : G K g nL cs (pc + 2) L (vl x :: st) S) : G K g nL cs pc L st S := by
  obtain ⟨p, l, e, R, s, m, args, below, meth, c, Q⟩ := K
  intro H locs ls h1 h2 h3 h4 h5
  exact lv_lload hC.1 hC.2.1 hd (lv_of h5 q hq) (k H locs ls h1 h2 (okv_cons (okL_of h4 q hq) h3) h4 h5)
theorem g_lload_n {n : Fin 4} {i : Nat} {x : Int} (hC : Ctx K g own cc nL fr cm sm) (hd : decode cc pc = .ok (.lload_n n, 1)) (q : Nat) (hq : L[q]? = some (i, vl x)) (hi : (n : Nat) = i) (k : G K g nL cs (pc + 1) L (vl x :: st) S) : G K g nL cs pc L st S := by
  obtain ⟨p, l, e, R, s, m, args, below, meth, c, Q⟩ := K
  intro H locs ls h1 h2 h3 h4 h5
  exact lv_lload_n hC.1 hC.2.1 hd hi (lv_of h5 q hq) (k H locs ls h1 h2 (okv_cons (okL_of h4 q hq) h3) h4 h5)

theorem g_aload {i : Nat} {x : Nat} (hC : Ctx K g own cc nL fr cm sm) (hd : decode cc pc = .ok (.aload i, 2)) (q : Nat) (hq : L[q]? = some (i, vr x)) (k : G K g nL cs (pc + 2) L (vr x :: st) S) : G K g nL cs pc L st S := by
  obtain ⟨p, l, e, R, s, m, args, below, meth, c, Q⟩ := K
  intro H locs ls h1 h2 h3 h4 h5
  exact lv_aload hC.1 hC.2.1 hd (lv_of h5 q hq) (k H locs ls h1 h2 (okv_cons (okL_of h4 q hq) h3) h4 h5)
theorem g_aload_n {n : Fin 4} {i : Nat} {x : Nat} (hC : Ctx K g own cc nL fr cm sm) (hd : decode cc pc = .ok (.aload_n n, 1)) (q : Nat) (hq : L[q]? = some (i, vr x)) (hi : (n : Nat) = i) (k : G K g nL cs (pc + 1) L (vr x :: st) S) : G K g nL cs pc L st S := by
  obtain ⟨p, l, e, R, s, m, args, below, meth, c, Q⟩ := K
  intro H locs ls h1 h2 h3 h4 h5
  exact lv_aload_n hC.1 hC.2.1 hd hi (lv_of h5 q hq) (k H locs ls h1 h2 (okv_cons (okL_of h4 q hq) h3) h4 h5)

theorem g_aloado_n {n : Fin 4} {i x : Nat} (hC : Ctx K g own cc nL fr cm sm) (hd : decode cc pc = .ok (.aload_n n, 1)) (q : Nat) (hq : L[q]? = some (i, vo x)) (hi : (n : Nat) = i) (k : G K g nL cs (pc + 1) L (vo x :: st) S) : G K g nL cs pc L st S := by
  obtain ⟨p, l, e, R, s, m, args, below, meth, c, Q⟩ := K
  intro H locs ls h1 h2 h3 h4 h5
  exact lv_aload_n hC.1 hC.2.1 hd hi (lv_of h5 q hq) (k H locs ls h1 h2 (okv_cons trivial h3) h4 h5)
def isL (v : Vl) : Bool := match v with
  | .inr (.inl _) => true
  | _ => false
theorem cat_isL (g : GT) (v : Vl) : ((cv g v).category == 2) = isL v := by
  rcases v with x | x | x | x <;> rfl
def st1 (L : List (Nat × Vl)) (i : Nat) : List (Nat × Vl) := L.filter (fun q => !(q.1 == i) && !(q.1 + 1 == i && isL q.2))
def st2 (L : List (Nat × Vl)) (i : Nat) : List (Nat × Vl) := L.filter (fun q => !(q.1 == i) && (!(q.1 == i + 1) && !(q.1 + 1 == i && isL q.2)))
theorem st1_map (g : GT) (L : List (Nat × Vl)) (i : Nat) : (L.map (fun q => (q.1, cv g q.2))).filter (fun q => !(q.1 == i) && !(q.1 + 1 == i && q.2.category == 2)) = (st1 L i).map (fun q => (q.1, cv g q.2)) := by
  unfold st1
  rw [List.filter_map]
  congr 1
  apply List.filter_congr
  intro q _
  simp only [Function.comp, cat_isL]
theorem st2_map (g : GT) (L : List (Nat × Vl)) (i : Nat) : (L.map (fun q => (q.1, cv g q.2))).filter (fun q => !(q.1 == i) && (!(q.1 == i + 1) && !(q.1 + 1 == i && q.2.category == 2))) = (st2 L i).map (fun q => (q.1, cv g q.2)) := by
  unfold st2
  rw [List.filter_map]
  congr 1
  apply List.filter_congr
  intro q _
  simp only [Function.comp, cat_isL]
theorem okL_st1 {i : Nat} {v : Vl} (h : ∀ q ∈ L, okv q.2) (hv : okv v) : ∀ q ∈ (i, v) :: st1 L i, okv q.2 := fun q hq => (List.mem_cons.mp hq).elim (fun e => e ▸ hv) (fun z => h q (List.mem_filter.mp z).1)
theorem okL_st2 {i : Nat} {v : Vl} (h : ∀ q ∈ L, okv q.2) (hv : okv v) : ∀ q ∈ (i, v) :: st2 L i, okv q.2 := fun q hq => (List.mem_cons.mp hq).elim (fun e => e ▸ hv) (fun z => h q (List.mem_filter.mp z).1)

theorem g_istore {i : Nat} {x : Int} {L' : List (Nat × Vl)} (hC : Ctx K g own cc nL fr cm sm) (hd : decode cc pc = .ok (.istore i, 2)) (hn : i < nL) (hl : (i, vi x) :: st1 L i = L') (k : G K g nL cs (pc + 2) L' st S) : G K g nL cs pc L (vi x :: st) S := by
  obtain ⟨p, l, e, R, s, m, args, below, meth, c, Q⟩ := K
  intro H locs ls h1 h2 h3 h4 h5
  subst hl
  exact lv_istore hC.1 hC.2.1 hd h5 hn rfl (fun ls' h6 => k H locs ls' h1 h2 (okv_tail h3) (okL_st1 h4 (okv_head h3)) (by rw [st1_map] at h6; exact h6))

theorem g_istore_n {n : Fin 4} {i : Nat} {x : Int} {L' : List (Nat × Vl)} (hC : Ctx K g own cc nL fr cm sm) (hd : decode cc pc = .ok (.istore_n n, 1)) (hi : (n : Nat) = i) (hn : i < nL) (hl : (i, vi x) :: st1 L i = L') (k : G K g nL cs (pc + 1) L' st S) : G K g nL cs pc L (vi x :: st) S := by
  obtain ⟨p, l, e, R, s, m, args, below, meth, c, Q⟩ := K
  intro H locs ls h1 h2 h3 h4 h5
  subst hl
  exact lv_istore_n hC.1 hC.2.1 hd hi h5 hn rfl (fun ls' h6 => k H locs ls' h1 h2 (okv_tail h3) (okL_st1 h4 (okv_head h3)) (by rw [st1_map] at h6; exact h6))

theorem g_lstore {i : Nat} {x : Int} {L' : List (Nat × Vl)} (hC : Ctx K g own cc nL fr cm sm) (hd : decode cc pc = .ok (.lstore i, 2)) (hn : i + 1 < nL) (hl : (i, vl x) :: st2 L i = L') (k : G K g nL cs (pc + 2) L' st S) : G K g nL cs pc L (vl x :: st) S := by
  obtain ⟨p, l, e, R, s, m, args, below, meth, c, Q⟩ := K
  intro H locs ls h1 h2 h3 h4 h5
  subst hl
  exact lv_lstore hC.1 hC.2.1 hd h5 hn rfl (fun ls' h6 => k H locs ls' h1 h2 (okv_tail h3) (okL_st2 h4 (okv_head h3)) (by rw [st2_map] at h6; exact h6))

theorem g_lstore_n {n : Fin 4} {i : Nat} {x : Int} {L' : List (Nat × Vl)} (hC : Ctx K g own cc nL fr cm sm) (hd : decode cc pc = .ok (.lstore_n n, 1)) (hi : (n : Nat) = i) (hn : i + 1 < nL) (hl : (i, vl x) :: st2 L i = L') (k : G K g nL cs (pc + 1) L' st S) : G K g nL cs pc L (vl x :: st) S := by
  obtain ⟨p, l, e, R, s, m, args, below, meth, c, Q⟩ := K
  intro H locs ls h1 h2 h3 h4 h5
  subst hl
  exact lv_lstore_n hC.1 hC.2.1 hd hi h5 hn rfl (fun ls' h6 => k H locs ls' h1 h2 (okv_tail h3) (okL_st2 h4 (okv_head h3)) (by rw [st2_map] at h6; exact h6))

theorem g_astore {i : Nat} {x : Nat} {L' : List (Nat × Vl)} (hC : Ctx K g own cc nL fr cm sm) (hd : decode cc pc = .ok (.astore i, 2)) (hn : i < nL) (hl : (i, vr x) :: st1 L i = L') (k : G K g nL cs (pc + 2) L' st S) : G K g nL cs pc L (vr x :: st) S := by
  obtain ⟨p, l, e, R, s, m, args, below, meth, c, Q⟩ := K
  intro H locs ls h1 h2 h3 h4 h5
  subst hl
  exact lv_astore hC.1 hC.2.1 hd h5 hn rfl (fun ls' h6 => k H locs ls' h1 h2 (okv_tail h3) (okL_st1 h4 (okv_head h3)) (by rw [st1_map] at h6; exact h6))

theorem g_astore_n {n : Fin 4} {i : Nat} {x : Nat} {L' : List (Nat × Vl)} (hC : Ctx K g own cc nL fr cm sm) (hd : decode cc pc = .ok (.astore_n n, 1)) (hi : (n : Nat) = i) (hn : i < nL) (hl : (i, vr x) :: st1 L i = L') (k : G K g nL cs (pc + 1) L' st S) : G K g nL cs pc L (vr x :: st) S := by
  obtain ⟨p, l, e, R, s, m, args, below, meth, c, Q⟩ := K
  intro H locs ls h1 h2 h3 h4 h5
  subst hl
  exact lv_astore_n hC.1 hC.2.1 hd hi h5 hn rfl (fun ls' h6 => k H locs ls' h1 h2 (okv_tail h3) (okL_st1 h4 (okv_head h3)) (by rw [st1_map] at h6; exact h6))

theorem g_iinc {i : Nat} {n x : Int} {L' : List (Nat × Vl)} (hC : Ctx K g own cc nL fr cm sm) (hd : decode cc pc = .ok (.iinc i n, 3)) (q : Nat) (hq : L[q]? = some (i, vi x)) (hn : i < nL) (hl : (i, vi (i_add x n)) :: st1 L i = L') (k : G K g nL cs (pc + 3) L' st S) : G K g nL cs pc L st S := by
  obtain ⟨p, l, e, R, s, m, args, below, meth, c, Q⟩ := K
  intro H locs ls h1 h2 h3 h4 h5
  subst hl
  refine lv_iinc hC.1 hC.2.1 hd h5 (k := q) (x := Int32.ofInt x) (v := Int32.ofInt x + Int32.ofInt n) (by rw [List.getElem?_map, hq]; rfl) rfl hn rfl (fun ls' h6 => k H locs ls' h1 h2 h3 (okL_st1 h4 (okv_i _)) ?_)
  rw [st1_map] at h6
  rw [List.map_cons, i_add, cv_i]
  exact h6
theorem cat_ne (g : GT) {v : Vl} (h : isL v = false) : (cv g v).category = 1 := by
  rcases v with x | x | x | x
  · rfl
  · cases h
  · rfl
  · rfl
theorem g_dup {v : Vl} (hC : Ctx K g own cc nL fr cm sm) (hd : decode cc pc = .ok (.dup, 1)) (hv : isL v = false) (k : G K g nL cs (pc + 1) L (v :: v :: st) S) : G K g nL cs pc L (v :: st) S := by
  obtain ⟨p, l, e, R, s, m, args, below, meth, c, Q⟩ := K
  intro H locs ls h1 h2 h3 h4 h5
  exact lv_dup hC.1 hC.2.1 hd (cat_ne g hv) (k H locs ls h1 h2 (okv_cons (okv_head h3) h3) h4 h5)
theorem g_dup2 {v u : Vl} (hC : Ctx K g own cc nL fr cm sm) (hd : decode cc pc = .ok (.dup2, 1)) (hv : isL v = false) (hu : isL u = false) (k : G K g nL cs (pc + 1) L (v :: u :: v :: u :: st) S) : G K g nL cs pc L (v :: u :: st) S := by
  obtain ⟨p, l, e, R, s, m, args, below, meth, c, Q⟩ := K
  intro H locs ls h1 h2 h3 h4 h5
  exact lv_dup2_11 hC.1 hC.2.1 hd (cat_ne g hv) (cat_ne g hu) (k H locs ls h1 h2 (okv_cons (okv_head h3) (okv_cons (okv_head (okv_tail h3)) h3)) h4 h5)
theorem g_dup_x1 {v u : Vl} (hC : Ctx K g own cc nL fr cm sm) (hd : decode cc pc = .ok (.dup_x1, 1)) (hv : isL v = false) (hu : isL u = false) (k : G K g nL cs (pc + 1) L (v :: u :: v :: st) S) : G K g nL cs pc L (v :: u :: st) S := by
  obtain ⟨p, l, e, R, s, m, args, below, meth, c, Q⟩ := K
  intro H locs ls h1 h2 h3 h4 h5
  exact lv_dup_x1 hC.1 hC.2.1 hd (cat_ne g hv) (cat_ne g hu) (k H locs ls h1 h2 (okv_cons (okv_head h3) (okv_cons (okv_head (okv_tail h3)) (okv_cons (okv_head h3) (okv_tail (okv_tail h3))))) h4 h5)
theorem g_pop {v : Vl} (hC : Ctx K g own cc nL fr cm sm) (hd : decode cc pc = .ok (.pop, 1)) (hv : isL v = false) (k : G K g nL cs (pc + 1) L st S) : G K g nL cs pc L (v :: st) S := by
  obtain ⟨p, l, e, R, s, m, args, below, meth, c, Q⟩ := K
  intro H locs ls h1 h2 h3 h4 h5
  exact lv_pop hC.1 hC.2.1 hd (cat_ne g hv) (k H locs ls h1 h2 (okv_tail h3) h4 h5)
theorem g_goto {off : Int} {tgt : Nat} (hC : Ctx K g own cc nL fr cm sm) (hd : decode cc pc = .ok (.goto off, 3)) (ht : (pc : Int) + off = (tgt : Int)) (k : G K g nL cs tgt L st S) : G K g nL cs pc L st S := by
  obtain ⟨p, l, e, R, s, m, args, below, meth, c, Q⟩ := K
  intro H locs ls h1 h2 h3 h4 h5
  exact lv_goto hC.1 hC.2.1 hd ht (k H locs ls h1 h2 h3 h4 h5)

theorem g_icmp_eq {x y off : Int} {tgt : Nat} (hC : Ctx K g own cc nL fr cm sm) (hd : decode cc pc = .ok (.if_icmp .eq off, 3)) (ht : (pc : Int) + off = (tgt : Int)) (kt : x = y → G K g nL cs tgt L st S) (kf : ¬ x = y → G K g nL cs (pc + 3) L st S) : G K g nL cs pc L (vi y :: vi x :: st) S := by
  obtain ⟨p, l, e, R, s, m, args, below, meth, c, Q⟩ := K
  intro H locs ls h1 h2 h3 h4 h5
  have hx : ok32 x := okv_head (okv_tail h3)
  have hy : ok32 y := okv_head h3
  have hh := eq_of32 hx hy
  exact lv_icmp_eq hC.1 hC.2.1 hd ht (fun z => kt (hh.mp z) H locs ls h1 h2 (okv_tail (okv_tail h3)) h4 h5) (fun z => kf (fun w => z (hh.mpr w)) H locs ls h1 h2 (okv_tail (okv_tail h3)) h4 h5)

theorem g_if_eq {x off : Int} {tgt : Nat} (hC : Ctx K g own cc nL fr cm sm) (hd : decode cc pc = .ok (.ifCond .eq off, 3)) (ht : (pc : Int) + off = (tgt : Int)) (kt : x = 0 → G K g nL cs tgt L st S) (kf : ¬ x = 0 → G K g nL cs (pc + 3) L st S) : G K g nL cs pc L (vi x :: st) S := by
  obtain ⟨p, l, e, R, s, m, args, below, meth, c, Q⟩ := K
  intro H locs ls h1 h2 h3 h4 h5
  have hx : ok32 x := okv_head h3
  have hh := eq_of32 hx ok32_0
  exact lv_if_eq hC.1 hC.2.1 hd ht (fun z => kt (hh.mp z) H locs ls h1 h2 (okv_tail h3) h4 h5) (fun z => kf (fun w => z (hh.mpr w)) H locs ls h1 h2 (okv_tail h3) h4 h5)

theorem g_icmp_lt {x y off : Int} {tgt : Nat} (hC : Ctx K g own cc nL fr cm sm) (hd : decode cc pc = .ok (.if_icmp .lt off, 3)) (ht : (pc : Int) + off = (tgt : Int)) (kt : x < y → G K g nL cs tgt L st S) (kf : ¬ x < y → G K g nL cs (pc + 3) L st S) : G K g nL cs pc L (vi y :: vi x :: st) S := by
  obtain ⟨p, l, e, R, s, m, args, below, meth, c, Q⟩ := K
  intro H locs ls h1 h2 h3 h4 h5
  have hx : ok32 x := okv_head (okv_tail h3)
  have hy : ok32 y := okv_head h3
  have hh := lt_of32 hx hy
  exact lv_icmp_lt hC.1 hC.2.1 hd ht (fun z => kt (hh.mp z) H locs ls h1 h2 (okv_tail (okv_tail h3)) h4 h5) (fun z => kf (fun w => z (hh.mpr w)) H locs ls h1 h2 (okv_tail (okv_tail h3)) h4 h5)

theorem g_if_lt {x off : Int} {tgt : Nat} (hC : Ctx K g own cc nL fr cm sm) (hd : decode cc pc = .ok (.ifCond .lt off, 3)) (ht : (pc : Int) + off = (tgt : Int)) (kt : x < 0 → G K g nL cs tgt L st S) (kf : ¬ x < 0 → G K g nL cs (pc + 3) L st S) : G K g nL cs pc L (vi x :: st) S := by
  obtain ⟨p, l, e, R, s, m, args, below, meth, c, Q⟩ := K
  intro H locs ls h1 h2 h3 h4 h5
  have hx : ok32 x := okv_head h3
  have hh := lt_of32 hx ok32_0
  exact lv_if_lt hC.1 hC.2.1 hd ht (fun z => kt (hh.mp z) H locs ls h1 h2 (okv_tail h3) h4 h5) (fun z => kf (fun w => z (hh.mpr w)) H locs ls h1 h2 (okv_tail h3) h4 h5)

theorem g_icmp_ge {x y off : Int} {tgt : Nat} (hC : Ctx K g own cc nL fr cm sm) (hd : decode cc pc = .ok (.if_icmp .ge off, 3)) (ht : (pc : Int) + off = (tgt : Int)) (kt : y ≤ x → G K g nL cs tgt L st S) (kf : ¬ y ≤ x → G K g nL cs (pc + 3) L st S) : G K g nL cs pc L (vi y :: vi x :: st) S := by
  obtain ⟨p, l, e, R, s, m, args, below, meth, c, Q⟩ := K
  intro H locs ls h1 h2 h3 h4 h5
  have hx : ok32 x := okv_head (okv_tail h3)
  have hy : ok32 y := okv_head h3
  have hh := le_of32 hy hx
  exact lv_icmp_ge hC.1 hC.2.1 hd ht (fun z => kt (hh.mp z) H locs ls h1 h2 (okv_tail (okv_tail h3)) h4 h5) (fun z => kf (fun w => z (hh.mpr w)) H locs ls h1 h2 (okv_tail (okv_tail h3)) h4 h5)

theorem g_if_ge {x off : Int} {tgt : Nat} (hC : Ctx K g own cc nL fr cm sm) (hd : decode cc pc = .ok (.ifCond .ge off, 3)) (ht : (pc : Int) + off = (tgt : Int)) (kt : 0 ≤ x → G K g nL cs tgt L st S) (kf : ¬ 0 ≤ x → G K g nL cs (pc + 3) L st S) : G K g nL cs pc L (vi x :: st) S := by
  obtain ⟨p, l, e, R, s, m, args, below, meth, c, Q⟩ := K
  intro H locs ls h1 h2 h3 h4 h5
  have hx : ok32 x := okv_head h3
  have hh := le_of32 ok32_0 hx
  exact lv_if_ge hC.1 hC.2.1 hd ht (fun z => kt (hh.mp z) H locs ls h1 h2 (okv_tail h3) h4 h5) (fun z => kf (fun w => z (hh.mpr w)) H locs ls h1 h2 (okv_tail h3) h4 h5)

theorem g_icmp_gt {x y off : Int} {tgt : Nat} (hC : Ctx K g own cc nL fr cm sm) (hd : decode cc pc = .ok (.if_icmp .gt off, 3)) (ht : (pc : Int) + off = (tgt : Int)) (kt : y < x → G K g nL cs tgt L st S) (kf : ¬ y < x → G K g nL cs (pc + 3) L st S) : G K g nL cs pc L (vi y :: vi x :: st) S := by
  obtain ⟨p, l, e, R, s, m, args, below, meth, c, Q⟩ := K
  intro H locs ls h1 h2 h3 h4 h5
  have hx : ok32 x := okv_head (okv_tail h3)
  have hy : ok32 y := okv_head h3
  have hh := lt_of32 hy hx
  exact lv_icmp_gt hC.1 hC.2.1 hd ht (fun z => kt (hh.mp z) H locs ls h1 h2 (okv_tail (okv_tail h3)) h4 h5) (fun z => kf (fun w => z (hh.mpr w)) H locs ls h1 h2 (okv_tail (okv_tail h3)) h4 h5)

theorem g_if_gt {x off : Int} {tgt : Nat} (hC : Ctx K g own cc nL fr cm sm) (hd : decode cc pc = .ok (.ifCond .gt off, 3)) (ht : (pc : Int) + off = (tgt : Int)) (kt : 0 < x → G K g nL cs tgt L st S) (kf : ¬ 0 < x → G K g nL cs (pc + 3) L st S) : G K g nL cs pc L (vi x :: st) S := by
  obtain ⟨p, l, e, R, s, m, args, below, meth, c, Q⟩ := K
  intro H locs ls h1 h2 h3 h4 h5
  have hx : ok32 x := okv_head h3
  have hh := lt_of32 ok32_0 hx
  exact lv_if_gt hC.1 hC.2.1 hd ht (fun z => kt (hh.mp z) H locs ls h1 h2 (okv_tail h3) h4 h5) (fun z => kf (fun w => z (hh.mpr w)) H locs ls h1 h2 (okv_tail h3) h4 h5)

theorem g_icmp_le {x y off : Int} {tgt : Nat} (hC : Ctx K g own cc nL fr cm sm) (hd : decode cc pc = .ok (.if_icmp .le off, 3)) (ht : (pc : Int) + off = (tgt : Int)) (kt : x ≤ y → G K g nL cs tgt L st S) (kf : ¬ x ≤ y → G K g nL cs (pc + 3) L st S) : G K g nL cs pc L (vi y :: vi x :: st) S := by
  obtain ⟨p, l, e, R, s, m, args, below, meth, c, Q⟩ := K
  intro H locs ls h1 h2 h3 h4 h5
  have hx : ok32 x := okv_head (okv_tail h3)
  have hy : ok32 y := okv_head h3
  have hh := le_of32 hx hy
  exact lv_icmp_le hC.1 hC.2.1 hd ht (fun z => kt (hh.mp z) H locs ls h1 h2 (okv_tail (okv_tail h3)) h4 h5) (fun z => kf (fun w => z (hh.mpr w)) H locs ls h1 h2 (okv_tail (okv_tail h3)) h4 h5)

theorem g_if_le {x off : Int} {tgt : Nat} (hC : Ctx K g own cc nL fr cm sm) (hd : decode cc pc = .ok (.ifCond .le off, 3)) (ht : (pc : Int) + off = (tgt : Int)) (kt : x ≤ 0 → G K g nL cs tgt L st S) (kf : ¬ x ≤ 0 → G K g nL cs (pc + 3) L st S) : G K g nL cs pc L (vi x :: st) S := by
  obtain ⟨p, l, e, R, s, m, args, below, meth, c, Q⟩ := K
  intro H locs ls h1 h2 h3 h4 h5
  have hx : ok32 x := okv_head h3
  have hh := le_of32 hx ok32_0
  exact lv_if_le hC.1 hC.2.1 hd ht (fun z => kt (hh.mp z) H locs ls h1 h2 (okv_tail h3) h4 h5) (fun z => kf (fun w => z (hh.mpr w)) H locs ls h1 h2 (okv_tail h3) h4 h5)

theorem g_icmp_ne {x y off : Int} {tgt : Nat} (hC : Ctx K g own cc nL fr cm sm) (hd : decode cc pc = .ok (.if_icmp .ne off, 3)) (ht : (pc : Int) + off = (tgt : Int)) (kt : ¬ x = y → G K g nL cs tgt L st S) (kf : x = y → G K g nL cs (pc + 3) L st S) : G K g nL cs pc L (vi y :: vi x :: st) S := by
  obtain ⟨p, l, e, R, s, m, args, below, meth, c, Q⟩ := K
  intro H locs ls h1 h2 h3 h4 h5
  have hx : ok32 x := okv_head (okv_tail h3)
  have hy : ok32 y := okv_head h3
  have hh := eq_of32 hx hy
  exact lv_icmp_ne hC.1 hC.2.1 hd ht (fun z => kt (fun w => z (hh.mpr w)) H locs ls h1 h2 (okv_tail (okv_tail h3)) h4 h5) (fun z => kf (hh.mp z) H locs ls h1 h2 (okv_tail (okv_tail h3)) h4 h5)
theorem g_if_ne {x off : Int} {tgt : Nat} (hC : Ctx K g own cc nL fr cm sm) (hd : decode cc pc = .ok (.ifCond .ne off, 3)) (ht : (pc : Int) + off = (tgt : Int)) (kt : ¬ x = 0 → G K g nL cs tgt L st S) (kf : x = 0 → G K g nL cs (pc + 3) L st S) : G K g nL cs pc L (vi x :: st) S := by
  obtain ⟨p, l, e, R, s, m, args, below, meth, c, Q⟩ := K
  intro H locs ls h1 h2 h3 h4 h5
  have hx : ok32 x := okv_head h3
  have hh := eq_of32 hx ok32_0
  exact lv_if_ne hC.1 hC.2.1 hd ht (fun z => kt (fun w => z (hh.mpr w)) H locs ls h1 h2 (okv_tail h3) h4 h5) (fun z => kf (hh.mp z) H locs ls h1 h2 (okv_tail h3) h4 h5)
theorem g_table {x dflt lo hi : Int} {offs : Array Int} {len : Nat} (hC : Ctx K g own cc nL fr cm sm) (hd : decode cc pc = .ok (.tableswitch dflt lo hi offs, len)) (tgt : Nat) (h : ((x < lo ∨ hi < x) ∧ (pc : Int) + dflt = (tgt : Int)) ∨ (¬ x < lo ∧ ¬ hi < x ∧ ∃ off, offs[(x - lo).toNat]? = some off ∧ (pc : Int) + off = (tgt : Int))) (k : G K g nL cs tgt L st S) : G K g nL cs pc L (vi x :: st) S := by
  obtain ⟨p, l, e, R, s, m, args, below, meth, c, Q⟩ := K
  intro H locs ls h1 h2 h3 h4 h5
  have hx : (Int32.ofInt x).toInt = x := toInt_of32 (okv_head h3)
  rcases h with ⟨a, b⟩ | ⟨a, b, off, d, f⟩
  · exact lv_tableOut hC.1 hC.2.1 hd (by rw [hx]; exact a) b (k H locs ls h1 h2 (okv_tail h3) h4 h5)
  · exact lv_tableIn hC.1 hC.2.1 hd (by rw [hx]; exact a) (by rw [hx]; exact b) (by rw [hx]; exact d) f (k H locs ls h1 h2 (okv_tail h3) h4 h5)
theorem g_lookup {x dflt : Int} {ps : Array (Int × Int)} {len : Nat} (hC : Ctx K g own cc nL fr cm sm) (hd : decode cc pc = .ok (.lookupswitch dflt ps, len)) (hp : (ps.toList.zip (ps.toList.drop 1)).all (fun (a, next) => a.1 < next.1) = true) (off : Int) (tgt : Nat) (ho : Op.lookupswitch.offset ps.toList dflt x = off) (ht : (pc : Int) + off = (tgt : Int)) (k : G K g nL cs tgt L st S) : G K g nL cs pc L (vi x :: st) S := by
  obtain ⟨p, l, e, R, s, m, args, below, meth, c, Q⟩ := K
  intro H locs ls h1 h2 h3 h4 h5
  have hx : (Int32.ofInt x).toInt = x := toInt_of32 (okv_head h3)
  exact lv_lookup hC.1 hC.2.1 hd hp (by rw [hx]; exact ho) ht (k H locs ls h1 h2 (okv_tail h3) h4 h5)
end Rows
end
section
/-! Rows over the store: fields, arrays, statics. -/
section HeapRows
variable {K : KT} {g : GT} {own : String} {cc : ByteArray} {nL fr cm sm : Nat} {cs : Nat × Nat} {pc : Nat} {L : List (Nat × Vl)} {st : List Vl} {S : S2}
/-- a field of class ci, place k, as own's pool entry ix names it -/
def FL (own : String) (ix ci k : Nat) : Prop := ∃ (C : String) (T : u_T) (N : Nat), vwCl[ci]? = some (C, T, N) ∧ k < N ∧ (∀ w ∈ u_ws C T N, w ∈ lw_w) ∧ (Cond.fieldLink own ix (T k).1 (T k).2.1 (T k).2.2.1 ∈ lw_w ∨ ∃ host : String, Cond.fieldLinkNest own ix (T k).1 (T k).2.1 (T k).2.2.1 host ∈ lw_tbl)
/-- what a write of it needs besides -/
def FP (ci k : Nat) (ty : FieldType) : Prop := ∃ (C : String) (T : u_T) (N : Nat) (ty0 : Nat → FieldType), vwCl[ci]? = some (C, T, N) ∧ (∀ k, k < N → parseFieldDescriptor (T k).2.2.1 = some (ty0 k)) ∧ (∀ a, a < N → ∀ b, b < N → a ≠ b → (T a).2.1 ≠ (T b).2.1) ∧ (T k).2.2.2 = false ∧ parseFieldDescriptor (T k).2.2.1 = some ty
theorem obj_get {c ci : Nat} {fs : List (Nat × Option Nat)} (hs : S.1[c]? = some (0, ci, fs)) : (wsO g S)[c]? = some (g.1 + c, .inr (ci, fs.mapIdx (fun j f => fv g f (S.2 c j)))) := by
  rw [wsO_get hs]
  rfl
theorem g_get {c ix ci k : Nat} {fs : List (Nat × Option Nat)} {f : Nat × Option Nat} {v : Vl} (hC : Ctx K g own cc nL fr cm sm) (hd : decode cc pc = .ok (.getfield ix, 3)) (hF : FL own ix ci k) (hs : S.1[c]? = some (0, ci, fs)) (hf : fs[k]? = some f) (hv : fv g f (S.2 c k) = cv g v) (hok : okf f (S.2 c k) → okv v) (kk : G K g nL cs (pc + 3) L (v :: st) S) : G K g nL cs pc L (vr c :: st) S := by
  obtain ⟨p, l, e, R, s, m, args, below, meth, c0, Q⟩ := K
  obtain ⟨C, T, N, e1, e2, e3, e4⟩ := hF
  intro H locs ls h1 h2 h3 h4 h5
  have hk := kk H locs ls h1 h2 (okv_cons (hok (by have := h1.2 c _ hs; exact this k f hf)) (okv_tail h3)) h4 h5
  have hv' : (fs.mapIdx (fun j f => fv g f (S.2 c j)))[k]? = some (cv g v) := by rw [List.getElem?_mapIdx, hf, ← hv]; rfl
  rcases e4 with e4 | ⟨host, e4⟩
  · exact va_get hC.1 hC.2.1 hC.2.2.2.2.1 e3 hC.2.2.2.1 hC.2.2.2.2.2.1.1 h1.1 c (obj_get hs) e1 k e2 (hC.2.2.2.2.1 _ e4) (fun _ h => h) hv' hd hk
  · exact va_getN hC.1 hC.2.1 hC.2.2.2.2.1 e3 hC.2.2.2.1 hC.2.2.2.2.2.1.1 h1.1 c (obj_get hs) e1 k e2 (va_Nw.use rfl (hC.2.2.2.2.2.1.2.2.1 _ e4 rfl)) (fun _ h => h) hv' hd hk
theorem g_geti {c ix ci k : Nat} {fs : List (Nat × Option Nat)} (hC : Ctx K g own cc nL fr cm sm) (hd : decode cc pc = .ok (.getfield ix, 3)) (hF : FL own ix ci k) (hs : S.1[c]? = some (0, ci, fs)) (hf : fs[k]? = some (0, none)) (kk : G K g nL cs (pc + 3) L (vi (S.2 c k) :: st) S) : G K g nL cs pc L (vr c :: st) S := g_get (v := vi (S.2 c k)) hC hd hF hs hf rfl (fun h => h) kk
theorem g_getz {c ix ci k : Nat} {fs : List (Nat × Option Nat)} (hC : Ctx K g own cc nL fr cm sm) (hd : decode cc pc = .ok (.getfield ix, 3)) (hF : FL own ix ci k) (hs : S.1[c]? = some (0, ci, fs)) (hf : fs[k]? = some (3, none)) (kk : G K g nL cs (pc + 3) L (vi (S.2 c k) :: st) S) : G K g nL cs pc L (vr c :: st) S := g_get (v := vi (S.2 c k)) hC hd hF hs hf rfl (fun h => h) kk
theorem g_getl {c ix ci k : Nat} {fs : List (Nat × Option Nat)} (hC : Ctx K g own cc nL fr cm sm) (hd : decode cc pc = .ok (.getfield ix, 3)) (hF : FL own ix ci k) (hs : S.1[c]? = some (0, ci, fs)) (hf : fs[k]? = some (1, none)) (kk : G K g nL cs (pc + 3) L (vl (S.2 c k) :: st) S) : G K g nL cs pc L (vr c :: st) S := g_get (v := vl (S.2 c k)) hC hd hF hs hf rfl (fun h => h) kk
theorem g_getr {c ix ci k d : Nat} {fs : List (Nat × Option Nat)} (hC : Ctx K g own cc nL fr cm sm) (hd : decode cc pc = .ok (.getfield ix, 3)) (hF : FL own ix ci k) (hs : S.1[c]? = some (0, ci, fs)) (hf : fs[k]? = some (2, some d)) (kk : G K g nL cs (pc + 3) L (vr d :: st) S) : G K g nL cs pc L (vr c :: st) S := g_get (v := vr d) hC hd hF hs hf rfl (fun _ => trivial) kk
theorem Wh_up {k j : Nat} {x : Int} {h : Sh} {H H1 : Heap} (h1 : Wh g S H) (hk : S.1[k]? = some h) (hx : okc (vf_upd (S.2 k) j x) h) (hP : va_P g.2.1 vwCl ((wsO g S).set k (g.1 + k, ce g (vf_upd (S.2 k) j x) h)) H1) : Wh g (S.1, up S.2 k j x) H1 := by
  refine ⟨by rw [← wsO_up hk]; exact hP, fun q h' hq => ?_⟩
  by_cases e : q = k
  · subst e
    cases hk.symm.trans hq
    show okc (up S.2 q j x q) h
    rw [up_at]
    exact hx
  · show okc (up S.2 k j x q) h'
    rw [up_ne e]
    exact h1.2 q h' hq
theorem g_put {c ix ci k : Nat} {fs : List (Nat × Option Nat)} {f : Nat × Option Nat} {v : Vl} {x : Int} {ty : FieldType} (hC : Ctx K g own cc nL fr cm sm) (hd : decode cc pc = .ok (.putfield ix, 3)) (hF : FL own ix ci k) (hp : FP ci k ty) (hs : S.1[c]? = some (0, ci, fs)) (hf : fs[k]? = some f) (hv : cv g v = fv g f x) (hok : okv v → okf f x) (hn : narrow ty (cv g v) = cv g v) (hfit : fits ty (cv g v) = true) (kk : G K g nL cs (pc + 3) L st (S.1, up S.2 c k x)) : G K g nL cs pc L (v :: vr c :: st) S := by
  obtain ⟨p, l, e, R, s, m, args, below, meth, c0, Q⟩ := K
  obtain ⟨C, T, N, e1, e2, e3, e4⟩ := hF
  obtain ⟨C', T', N', ty0, p1, p2, p3, p4, p5⟩ := hp
  cases e1.symm.trans p1
  intro H locs ls h1 h2 h3 h4 h5
  have hl : k < (fs.mapIdx (fun j f => fv g f (S.2 c j))).length := by rw [List.length_mapIdx]; exact (List.getElem?_eq_some_iff.mp hf).1
  have hset : (fs.mapIdx (fun j f => fv g f (S.2 c j))).set k (cv g v) = fs.mapIdx (fun j f => fv g f (vf_upd (S.2 c) k x j)) := by
    apply List.ext_getElem?
    intro i
    rw [List.getElem?_set, List.getElem?_mapIdx, List.getElem?_mapIdx]
    by_cases hi : k = i
    · subst hi
      rw [hf, hv]
      simp [vf_upd, (List.getElem?_eq_some_iff.mp hf).1]
    · simp [hi, vf_upd, Ne.symm hi]
  have hokc : okc (vf_upd (S.2 c) k x) (0, ci, fs) := by
    intro j f' hj
    by_cases hi : j = k
    · subst hi
      cases hf.symm.trans hj
      simp only [vf_upd, if_pos]
      exact hok (okv_head h3)
    · have := h1.2 c _ hs
      simp only [vf_upd, if_neg hi]
      exact this j f' hj
  have go : ∀ (H1 : Heap) (locs1 : List Loc), va_P g.2.1 vwCl ((wsO g S).set c (g.1 + c, .inr (ci, (fs.mapIdx (fun j f => fv g f (S.2 c j))).set k (cv g v)))) H1 → va_S (AO g) s.heap H1 locs1 → W p l e R s m args below meth c0 H1 locs1 cs.1 cs.2 Q (F0 m (pc + 3) ls (st.map (cv g))) := by
    intro H1 locs1 hP hS
    rw [hset] at hP
    exact kk H1 locs1 ls (Wh_up h1 hs hokc hP) hS (okv_tail (okv_tail h3)) h4 h5
  rcases e4 with e4 | ⟨host, e4⟩
  · exact va_put hC.1 hC.2.1 hC.2.2.2.2.1 e3 ty0 p2 p3 hC.2.2.2.1 hC.2.2.2.2.2.1.1 h1.1 (wsO_D g S) h2 c (obj_get hs) e1 k e2 (hC.2.2.2.2.1 _ e4) (fun _ h => h) p4 p5 hn hfit hl hd (fun H1 locs1 a _ b => go H1 locs1 a b)
  · exact va_putN hC.1 hC.2.1 hC.2.2.2.2.1 e3 ty0 p2 p3 hC.2.2.2.1 hC.2.2.2.2.2.1.1 h1.1 (wsO_D g S) h2 c (obj_get hs) e1 k e2 (va_Nw.use rfl (hC.2.2.2.2.2.1.2.2.1 _ e4 rfl)) (fun _ h => h) p4 p5 hn hfit hl hd (fun H1 locs1 a _ b => go H1 locs1 a b)
theorem g_puti {c ix ci k : Nat} {fs : List (Nat × Option Nat)} {x : Int} (hC : Ctx K g own cc nL fr cm sm) (hd : decode cc pc = .ok (.putfield ix, 3)) (hF : FL own ix ci k) (hp : FP ci k .int) (hs : S.1[c]? = some (0, ci, fs)) (hf : fs[k]? = some (0, none)) (kk : G K g nL cs (pc + 3) L st (S.1, up S.2 c k x)) : G K g nL cs pc L (vi x :: vr c :: st) S := g_put (v := vi x) hC hd hF hp hs hf rfl (fun h => h) rfl rfl kk
theorem g_putl {c ix ci k : Nat} {fs : List (Nat × Option Nat)} {x : Int} (hC : Ctx K g own cc nL fr cm sm) (hd : decode cc pc = .ok (.putfield ix, 3)) (hF : FL own ix ci k) (hp : FP ci k .long) (hs : S.1[c]? = some (0, ci, fs)) (hf : fs[k]? = some (1, none)) (kk : G K g nL cs (pc + 3) L st (S.1, up S.2 c k x)) : G K g nL cs pc L (vl x :: vr c :: st) S := g_put (v := vl x) hC hd hF hp hs hf rfl (fun h => h) rfl rfl kk
theorem nar_z {x : Int} (h : x = 0 ∨ x = 1) : narrow .boolean (.int (Int32.ofInt x)) = .int (Int32.ofInt x) ∧ fits .boolean (.int (Int32.ofInt x)) = true := by
  rcases h with rfl | rfl <;> exact ⟨rfl, by decide +kernel⟩
theorem g_putz {c ix ci k : Nat} {fs : List (Nat × Option Nat)} {x : Int} (hC : Ctx K g own cc nL fr cm sm) (hd : decode cc pc = .ok (.putfield ix, 3)) (hF : FL own ix ci k) (hp : FP ci k .boolean) (hs : S.1[c]? = some (0, ci, fs)) (hf : fs[k]? = some (3, none)) (hx : x = 0 ∨ x = 1) (kk : G K g nL cs (pc + 3) L st (S.1, up S.2 c k x)) : G K g nL cs pc L (vi x :: vr c :: st) S := g_put (v := vi x) hC hd hF hp hs hf rfl (fun h => h) (nar_z hx).1 (nar_z hx).2 kk
theorem g_getd {c ix ci k : Nat} {fs : List (Nat × Option Nat)} (hC : Ctx K g own cc nL fr cm sm) (hd : decode cc pc = .ok (.getfield ix, 3)) (hF : FL own ix ci k) (hs : S.1[c]? = some (0, ci, fs)) (hf : fs[k]? = some (4, none)) (kk : G K g nL cs (pc + 3) L (vr (S.2 c k).toNat :: st) S) : G K g nL cs pc L (vr c :: st) S := g_get (v := vr (S.2 c k).toNat) hC hd hF hs hf rfl (fun _ => trivial) kk
theorem g_putd {c ix ci k d : Nat} {fs : List (Nat × Option Nat)} (hC : Ctx K g own cc nL fr cm sm) (hd : decode cc pc = .ok (.putfield ix, 3)) (hF : FL own ix ci k) (hp : FP ci k (.array .int)) (hs : S.1[c]? = some (0, ci, fs)) (hf : fs[k]? = some (4, none)) (kk : G K g nL cs (pc + 3) L st (S.1, up S.2 c k (Int.ofNat d))) : G K g nL cs pc L (vr d :: vr c :: st) S := g_put (v := vr d) hC hd hF hp hs hf rfl (fun _ => trivial) rfl rfl kk
/-- an index in its row -/
abbrev inb (i : Int) (n : Nat) : Prop := 0 ≤ i ∧ i < (n : Int)
theorem ints_get {c n : Nat} {z : List (Nat × Option Nat)} (hs : S.1[c]? = some (1, n, z)) : (wsO g S)[c]? = some (g.1 + c, .inl (g.2.2.1.1, n, .inl (fun j => Int32.ofInt (S.2 c j)))) := by
  rw [wsO_get hs]
  rfl
theorem longs_get {c n : Nat} {z : List (Nat × Option Nat)} (hs : S.1[c]? = some (2, n, z)) : (wsO g S)[c]? = some (g.1 + c, .inl (g.2.2.1.2.1, n, .inr (.inl (fun j => Int64.ofInt (S.2 c j))))) := by
  rw [wsO_get hs]
  rfl
theorem refs_get {c n : Nat} {z : List (Nat × Option Nat)} (hs : S.1[c]? = some (3, n, z)) : (wsO g S)[c]? = some (g.1 + c, .inl (g.2.2.1.2.2, n, .inr (.inr (.inr (.inr (fun j => ((z[j]?).bind (fun q => q.2)).map (fun c => g.1 + c))))))) := by
  rw [wsO_get hs]
  rfl
theorem g_iald {c n : Nat} {z : List (Nat × Option Nat)} {i : Int} (hC : Ctx K g own cc nL fr cm sm) (hd : decode cc pc = .ok (.iaload, 1)) (hs : S.1[c]? = some (1, n, z)) (hi : inb i n) (kk : G K g nL cs (pc + 1) L (vi (S.2 c i.toNat) :: st) S) : G K g nL cs pc L (vi i :: vr c :: st) S := by
  obtain ⟨p, l, e, R, s, m, args, below, meth, c0, Q⟩ := K
  intro H locs ls h1 h2 h3 h4 h5
  have hi' : ok32 i := okv_head h3
  refine va_iald hC.1 hC.2.1 hC.2.2.2.2.2.1.1 h1.1 c 0 (ints_get hs) rfl (in_of32 hi' hi.1 hi.2) hd ?_
  have hk := kk H locs ls h1 h2 (okv_cons (by have := h1.2 c _ hs; exact this i.toNat) (okv_tail (okv_tail h3))) h4 h5
  rw [clamp_of32 hi']
  exact hk
theorem g_lald {c n : Nat} {z : List (Nat × Option Nat)} {i : Int} (hC : Ctx K g own cc nL fr cm sm) (hd : decode cc pc = .ok (.laload, 1)) (hs : S.1[c]? = some (2, n, z)) (hi : inb i n) (kk : G K g nL cs (pc + 1) L (vl (S.2 c i.toNat) :: st) S) : G K g nL cs pc L (vi i :: vr c :: st) S := by
  obtain ⟨p, l, e, R, s, m, args, below, meth, c0, Q⟩ := K
  intro H locs ls h1 h2 h3 h4 h5
  have hi' : ok32 i := okv_head h3
  refine va_lald hC.1 hC.2.1 hC.2.2.2.2.2.1.1 h1.1 c 1 (longs_get hs) rfl (in_of32 hi' hi.1 hi.2) hd ?_
  have hk := kk H locs ls h1 h2 (okv_cons (by have := h1.2 c _ hs; exact this i.toNat) (okv_tail (okv_tail h3))) h4 h5
  rw [clamp_of32 hi']
  exact hk
theorem g_aald {c n d : Nat} {z : List (Nat × Option Nat)} {i : Int} (hC : Ctx K g own cc nL fr cm sm) (hd : decode cc pc = .ok (.aaload, 1)) (hs : S.1[c]? = some (3, n, z)) (hi : inb i n) (hz : z[i.toNat]? = some (2, some d)) (kk : G K g nL cs (pc + 1) L (vr d :: st) S) : G K g nL cs pc L (vi i :: vr c :: st) S := by
  obtain ⟨p, l, e, R, s, m, args, below, meth, c0, Q⟩ := K
  intro H locs ls h1 h2 h3 h4 h5
  have hi' : ok32 i := okv_head h3
  refine va_aldq hC.1 hC.2.1 hC.2.2.2.2.2.1.1 h1.1 c 2 (refs_get hs) rfl (in_of32 hi' hi.1 hi.2) hd ?_
  have hk := kk H locs ls h1 h2 (okv_cons (v := vr d) trivial (okv_tail (okv_tail h3))) h4 h5
  rw [clamp_of32 hi', hz]
  exact hk
theorem g_iast {c n : Nat} {z : List (Nat × Option Nat)} {i x : Int} (hC : Ctx K g own cc nL fr cm sm) (hd : decode cc pc = .ok (.iastore, 1)) (hs : S.1[c]? = some (1, n, z)) (hi : inb i n) (kk : G K g nL cs (pc + 1) L st (S.1, up S.2 c i.toNat x)) : G K g nL cs pc L (vi x :: vi i :: vr c :: st) S := by
  obtain ⟨p, l, e, R, s, m, args, below, meth, c0, Q⟩ := K
  intro H locs ls h1 h2 h3 h4 h5
  have hi' : ok32 i := okv_head (okv_tail h3)
  refine va_iast hC.1 hC.2.1 hC.2.2.2.2.2.1.1 h1.1 (wsO_D g S) h2 c 0 (ints_get hs) rfl (in_of32 hi' hi.1 hi.2) hd (fun H1 locs1 hP _ hS => ?_)
  refine kk H1 locs1 ls (Wh_up (j := i.toNat) (x := x) h1 hs ?_ ?_) hS (okv_tail (okv_tail (okv_tail h3))) h4 h5
  · intro j
    have := h1.2 c _ hs
    by_cases hj : j = i.toNat
    · simp only [vf_upd, if_pos hj]; exact okv_head h3
    · simp only [vf_upd, if_neg hj]; exact this j
  · rw [clamp_of32 hi'] at hP
    have e9 : (upd (fun j => Int32.ofInt (S.2 c j)) i.toNat (Int32.ofInt x)) = (fun j => Int32.ofInt (vf_upd (S.2 c) i.toNat x j)) := by
      funext j
      by_cases hj : j = i.toNat <;> simp [upd, vf_upd, hj]
    rw [e9] at hP
    exact hP
theorem g_last {c n : Nat} {z : List (Nat × Option Nat)} {i x : Int} (hC : Ctx K g own cc nL fr cm sm) (hd : decode cc pc = .ok (.lastore, 1)) (hs : S.1[c]? = some (2, n, z)) (hi : inb i n) (kk : G K g nL cs (pc + 1) L st (S.1, up S.2 c i.toNat x)) : G K g nL cs pc L (vl x :: vi i :: vr c :: st) S := by
  obtain ⟨p, l, e, R, s, m, args, below, meth, c0, Q⟩ := K
  intro H locs ls h1 h2 h3 h4 h5
  have hi' : ok32 i := okv_head (okv_tail h3)
  refine va_last hC.1 hC.2.1 hC.2.2.2.2.2.1.1 h1.1 (wsO_D g S) h2 c 1 (longs_get hs) rfl (in_of32 hi' hi.1 hi.2) hd (fun H1 locs1 hP _ hS => ?_)
  refine kk H1 locs1 ls (Wh_up (j := i.toNat) (x := x) h1 hs ?_ ?_) hS (okv_tail (okv_tail (okv_tail h3))) h4 h5
  · intro j
    have := h1.2 c _ hs
    by_cases hj : j = i.toNat
    · simp only [vf_upd, if_pos hj]; exact okv_head h3
    · simp only [vf_upd, if_neg hj]; exact this j
  · rw [clamp_of32 hi'] at hP
    have e9 : (vp_updL (fun j => Int64.ofInt (S.2 c j)) i.toNat (Int64.ofInt x)) = (fun j => Int64.ofInt (vf_upd (S.2 c) i.toNat x j)) := by
      funext j
      by_cases hj : j = i.toNat <;> simp [vp_updL, vf_upd, hj]
    rw [e9] at hP
    exact hP
theorem g_alen {c n : Nat} {z : List (Nat × Option Nat)} (hC : Ctx K g own cc nL fr cm sm) (hd : decode cc pc = .ok (.arraylength, 1)) (hs : S.1[c]? = some (1, n, z) ∨ S.1[c]? = some (2, n, z)) (hn : ok32 n) (kk : G K g nL cs (pc + 1) L (vi n :: st) S) : G K g nL cs pc L (vr c :: st) S := by
  obtain ⟨p, l, e, R, s, m, args, below, meth, c0, Q⟩ := K
  intro H locs ls h1 h2 h3 h4 h5
  have hk := kk H locs ls h1 h2 (okv_cons (v := vi n) hn (okv_tail h3)) h4 h5
  rcases hs with hs | hs
  · exact va_alen hC.1 hC.2.1 hC.2.2.2.2.2.1.1 h1.1 c 0 (ints_get hs) rfl (v := Int32.ofInt n) (by rw [Int32.ofInt_eq_ofNat]) hd hk
  · exact va_alen hC.1 hC.2.1 hC.2.2.2.2.2.1.1 h1.1 c 1 (longs_get hs) rfl (v := Int32.ofInt n) (by rw [Int32.ofInt_eq_ofNat]) hd hk
/-- a static array, read -/
theorem g_gets {ix k : Nat} {C n d : String} {ty : FieldType} {xs : List Int} (hC : Ctx K g own cc nL fr cm sm) (hd : decode cc pc = .ok (.getstatic ix, 3)) (hk : sts[k]? = some (C, n, d, ty, xs)) (hl : Cond.fieldLink own ix C n d ∈ lw_w) (kk : G K g nL cs (pc + 3) L (vo k :: st) S) : G K g nL cs pc L st S := by
  obtain ⟨p, l, e, R, s, m, args, below, meth, c0, Q⟩ := K
  intro H locs ls h1 h2 h3 h4 h5
  exact va_gets hC.1 hC.2.1 (hC.2.2.2.2.2.1.2.1.1 k C n d ty xs hk).1 h2 hC.2.2.2.1 (hC.2.2.2.2.1 _ hl) (fun _ h => h) hd (kk H locs ls h1 h2 (okv_cons (v := vo k) trivial h3) h4 h5)
theorem g_oald {k : Nat} {C n d : String} {xs : List Int} {i x : Int} (hC : Ctx K g own cc nL fr cm sm) (hd : decode cc pc = .ok (.iaload, 1)) (hk : sts[k]? = some (C, n, d, .int, xs)) (hi : inb i xs.length) (hx : ok32 (xs.getD i.toNat 0)) (kk : G K g nL cs (pc + 1) L (vi (xs.getD i.toNat 0) :: st) S) : G K g nL cs pc L (vi i :: vo k :: st) S := by
  obtain ⟨p, l, e, R, s, m, args, below, meth, c0, Q⟩ := K
  intro H locs ls h1 h2 h3 h4 h5
  have hi' : ok32 i := okv_head h3
  exact va_ti hC.1 hC.2.1 (hC.2.2.2.2.2.1.2.1.1 k C n d .int xs hk).2 h2 (in_of32 hi' hi.1 hi.2) (v := .int (Int32.ofInt (xs.getD i.toNat 0))) (by rw [clamp_of32 hi']; rfl) hd (kk H locs ls h1 h2 (okv_cons (v := vi _) hx (okv_tail (okv_tail h3))) h4 h5)
end HeapRows
end
section
/-! Contracts over the abstract store, calls, returns. -/
def Pc0 (g : GT) (vs : List Vl) (S : S2) : Array Value → State → Prop := fun v U => v = (vs.map (cv g)).toArray ∧ (∀ v ∈ vs, okv v) ∧ Wst g U U.heap ∧ Wh g S U.heap ∧ g.1 ≤ U.heap.size
def Qc0 (g : GT) (r : Option Vl) (S' : S2) : Array Value → State → Outcome → State → Prop := fun _ st oc t => oc = .returned (r.map (cv g)) ∧ (∀ v, r = some v → okv v) ∧ Wh g S' t.heap ∧ va_F (AO g) st t
def rmk (fr mc ms : Nat) : Room := { frames := fr, cells := mc, slots := ms, locals := 40 * fr }
/-- the contract of a method: fr frames of room, mc cells of ms slots made, from the arguments vs and the store S to the answer r and the store S' -/
def Cn (l : Launch) (g : GT) (y : MethodName) (b : ByteArray) (nL : Nat) (ret : Option FieldType) (fr mc ms : Nat) (vs : List Vl) (S : S2) (r : Option Vl) (S' : S2) : Prop := Met l y (Cond.code y b nL ret :: lw_w) (rmk fr mc ms) (Pc0 g vs S) (Qc0 g r S') mc ms (AO g)
def Kl (K : KT) : Launch := match K with
  | (_, l, _, _, _, _, _, _, _, _, _) => l
/-- what the tables say of a method: its code, its class is initialised, n arguments -/
def MI (y : MethodName) (b : ByteArray) (nL : Nat) (ret : Option FieldType) (n : Nat) : Prop := Cond.code y b nL ret ∈ lw_w ∧ Cond.initialized y.cls ∈ lw_w ∧ y.cls ≠ "java/lang/invoke/MethodHandle" ∧ y.cls ≠ "java/lang/invoke/VarHandle" ∧ (parseMethodDescriptor y.desc).map (fun d => d.parameters.length) = some n
def ML (own : String) (ix : Nat) (y : MethodName) : Prop := Cond.methodLink own ix y ∈ lw_w ∨ ∃ host : String, Cond.methodLinkNest own ix y host ∈ lw_tbl
def MV (y : MethodName) : Prop := Cond.instanceMethod y ∈ lw_w ∧ Cond.selects y.cls y y ∈ lw_w
def wsum (st : List Vl) : Nat := (st.map (fun v => if isL v then 2 else 1)).sum
theorem wsum_cv (g : GT) (st : List Vl) : ((st.map (cv g)).map fun v => v.category).sum = wsum st := by
  unfold wsum
  rw [List.map_map]
  congr 1
  apply List.map_congr_left
  intro v _
  rcases v with x | x | x | x <;> rfl
theorem goodCode {y : MethodName} {b : ByteArray} {nL n : Nat} {ret : Option FieldType} (h : MI y b nL ret n) : GoodIn lw_w (Cond.code y b nL ret :: lw_w) := fun w hw => (List.mem_cons.mp hw).elim (fun e => ⟨e ▸ h.1, e ▸ lw_w_good _ h.1⟩) (fun z => ⟨z, lw_w_good _ z⟩)
theorem Pc0_blind (g : GT) (vs : List Vl) (S : S2) : FrameBlind (Pc0 g vs S) := fun _ U _ _ q => ⟨q.1, q.2.1, Wst.same (s := U) rfl q.2.2.1, q.2.2.2.1, q.2.2.2.2⟩
section Calls
variable {K : KT} {g : GT} {own : String} {cc : ByteArray} {nL fr cm sm : Nat} {cs : Nat × Nat} {pc : Nat} {L : List (Nat × Vl)} {st : List Vl} {S : S2}
theorem run_goes {p : Program} {l : Launch} {e : Env} {R : Room} {s : State} {m : MethodId} {args : Array Value} {below : List Frame} {meth : Method} {c : Code} {H : Heap} {locs : List Loc} {cells slots mc ms : Nat} {Q : State → Prop} {ls : Array Slot} {st0 rest : List Value} {r : Option Vl} {S' : S2} {a : Array Value}
    (hr : va_Run p l e R s m args below meth c H locs cells slots mc ms (F0 m pc ls st0) rest (Qc0 g r S' a) (AO g)) (hS : va_S (AO g) s.heap H locs)
    (kk : ∀ (H1 : Heap) (locs1 : List Loc), (∀ v, r = some v → okv v) → Wh g S' H1 → va_S (AO g) s.heap H1 locs1 → W p l e R s m args below meth c H1 locs1 (cells + mc) (slots + ms) Q (F0 m (pc + 3) ls ((r.map (cv g)).toList ++ rest))) : W p l e R s m args below meth c H locs cells slots Q (F0 m pc ls st0) := by
  intro T hT X
  obtain ⟨v, st₀, t, T', L, h0, X', hL, e1, e2, ⟨hv, hok, hw, hz, hk⟩, st⟩ := hr T hT X
  cases hv
  rw [h0] at hz hk
  obtain ⟨t2, a1, b1⟩ := kk T'.heap (locs ++ L) hok (by rw [e1]; exact hw)
    ⟨Nat.le_trans hS.1 (by rw [e1]; exact hz), fun q h1 h2 => by rw [e1, hk q (Nat.lt_of_lt_of_le h1 hS.1) h2]; exact hS.2.1 q h1 h2, fun q hq => by
      rcases List.mem_append.mp hq with h | h
      · exact hS.2.2 q h
      · exact hL q h⟩ T' rfl X'
  exact ⟨t2, st t2 a1, b1⟩
theorem pre_in {p : Program} {l : Launch} {e : Env} {R : Room} {s : State} {m : MethodId} {args : Array Value} {below : List Frame} {meth : Method} {c : Code} {Q : State → Prop} {H : Heap} {locs : List Loc} {vs : List Vl} (hC : Ctx (p, l, e, R, s, m, args, below, meth, c, Q) g own cc nL fr cm sm) (hS : va_S (AO g) s.heap H locs) (h1 : Wh g S H) (hv : ∀ v ∈ vs, okv v) : ∀ U : State, U.heap = H → s.WarmedH U.vm → Pc0 g vs S (vs.map (cv g)).toArray U := by
  intro U hU hW
  refine ⟨rfl, hv, ?_, by rw [hU]; exact h1, by rw [hU]; exact Nat.le_trans hC.2.2.2.2.2.2.1 hS.1⟩
  rw [hU]
  exact Wst.warm hW hC.2.2.2.2.2.1 hS.2.1
theorem room_in {p : Program} {l : Launch} {e : Env} {R : Room} {s : State} {m : MethodId} {args : Array Value} {below : List Frame} {meth : Method} {c : Code} {Q : State → Prop} {fr' mc ms nL' : Nat} (hC : Ctx (p, l, e, R, s, m, args, below, meth, c, Q) g own cc nL fr cm sm) (hfr : fr' + 1 ≤ fr) (hnl : nL' ≤ 21) : (rmk fr' mc ms).frames + 1 ≤ R.frames ∧ 8 + (nL' + 11) + (rmk fr' mc ms).locals ≤ R.locals := by
  obtain ⟨-, -, -, -, -, -, -, h1, h2, -, -⟩ := hC
  simp only [rmk]
  omega
theorem g_callV {y : MethodName} {b : ByteArray} {nL' : Nat} {ret : Option FieldType} {fr' mc ms n ix c ci : Nat} {fs : List (Nat × Option Nat)} {T : u_T} {N : Nat} {As stk : List Vl} {r : Option Vl} {S' : S2}
    (hC : Ctx K g own cc nL fr cm sm) (hd : decode cc pc = .ok (.invokevirtual ix, 3)) (hm : MI y b nL' ret n) (hv : MV y) (hl : ML own ix y) (hs : S.1[c]? = some (0, ci, fs)) (hcl : vwCl[ci]? = some (y.cls, T, N)) (hstk : stk = As.reverse ++ vr c :: st) (hn : As.length = n) (hw : wsum st ≤ 8) (hfr : fr' + 1 ≤ fr) (hnl : nL' ≤ 21) (hcs : cs.1 + mc ≤ cm ∧ cs.2 + ms ≤ sm)
    (hM : Cn (Kl K) g y b nL' ret fr' mc ms (vr c :: As) S r S') (kk : G K g nL (cs.1 + mc, cs.2 + ms) (pc + 3) L (r.toList ++ st) S') : G K g nL cs pc L stk S := by
  obtain ⟨p, l, e, R, s, m, args, below, meth, c0, Q⟩ := K
  intro H locs ls h1 h2 h3 h4 h5
  subst hstk
  have hcr := hC.2.2.2.2.2.2.2.2.2
  have hvs : ∀ v ∈ vr c :: As, okv v := fun v hv => (List.mem_cons.mp hv).elim (fun e => e ▸ trivial) (fun z => h3 v (List.mem_append_left _ (List.mem_reverse.mpr z)))
  have hst : ∀ v ∈ st, okv v := fun v hv => h3 v (List.mem_append_right _ (List.mem_cons_of_mem _ hv))
  have hrun : va_Run p l e R s m args below meth c0 H locs cs.1 cs.2 mc ms (F0 m pc ls ((As.reverse ++ vr c :: st).map (cv g))) (st.map (cv g)) (Qc0 g r S' (((vr c :: As).map (cv g)).toArray)) (AO g) := by
    have hp : PreV s H y.cls (g.1 + c) (Pc0 g (vr c :: As) S) (As.map (cv g)) := ⟨Pc0_blind g _ _, va_recv hC.2.2.2.2.2.1.1 h1.1 hcl (obj_get hs), pre_in hC h2 h1 hvs⟩
    have hstack : (F0 m pc ls ((As.reverse ++ vr c :: st).map (cv g))).stack = (As.map (cv g)).reverse ++ .ref (g.1 + c) :: st.map (cv g) := by
      show (As.reverse ++ vr c :: st).map (cv g) = _
      rw [List.map_append, List.map_reverse]
      rfl
    have hW : 2 * (F0 m pc ls ((As.reverse ++ vr c :: st).map (cv g))).monitorRoom + ((st.map (cv g)).map fun v => v.category).sum ≤ 8 := lv_room (by rw [wsum_cv]; exact hw)
    rcases hl with hl | ⟨host, hl⟩
    · exact va_runV ⟨hC.1, hC.2.1, hC.2.2.1, hC.2.2.2.1, hC.2.2.2.2.1⟩ hM ⟨callB_of n hC.2.2.2.2.1 (goodCode hm) rfl rfl rfl (hC.2.2.2.2.1 _ hm.2.1) (hC.2.2.2.2.1 _ hl) ⟨hm.2.2.1, hm.2.2.2.1, hm.2.2.2.2⟩ (room_in hC hfr hnl), hC.2.2.2.2.1 _ hv.1, hC.2.2.2.2.1 _ hv.2⟩ hp rfl (by rw [List.length_map]; exact hn) h5.1 hstack hW hd (by omega)
    · exact va_runVN ⟨hC.1, hC.2.1, hC.2.2.1, hC.2.2.2.1, hC.2.2.2.2.1⟩ hM ⟨va_cnB n hC.2.2.2.2.1 (goodCode hm) rfl rfl rfl (hC.2.2.2.2.2.1.2.2.1 _ hl rfl) (hC.2.2.2.2.1 _ hm.2.1) ⟨hm.2.2.1, hm.2.2.2.1, hm.2.2.2.2⟩ (room_in hC hfr hnl), hC.2.2.2.2.1 _ hv.1, hC.2.2.2.2.1 _ hv.2⟩ hp rfl (by rw [List.length_map]; exact hn) h5.1 hstack hW hd (by omega)
  refine run_goes hrun h2 (fun H1 locs1 hok hw1 hS1 => ?_)
  have hk := kk H1 locs1 ls hw1 hS1 (fun v hv => (List.mem_append.mp hv).elim (fun z => hok v (Option.mem_toList.mp z)) (hst v)) h4 h5
  have e9 : (r.toList ++ st).map (cv g) = (r.map (cv g)).toList ++ st.map (cv g) := by
    rw [List.map_append]
    cases r <;> rfl
  rw [e9] at hk
  exact hk
theorem g_callS {y : MethodName} {b : ByteArray} {nL' : Nat} {ret : Option FieldType} {fr' mc ms n ix : Nat} {As stk : List Vl} {r : Option Vl} {S' : S2}
    (hC : Ctx K g own cc nL fr cm sm) (hd : decode cc pc = .ok (.invokestatic ix, 3)) (hm : MI y b nL' ret n) (hv : Cond.static y ∈ lw_w) (hl : ML own ix y) (hstk : stk = As.reverse ++ st) (hn : As.length = n) (hw : wsum st ≤ 8) (hfr : fr' + 1 ≤ fr) (hnl : nL' ≤ 21) (hcs : cs.1 + mc ≤ cm ∧ cs.2 + ms ≤ sm)
    (hM : Cn (Kl K) g y b nL' ret fr' mc ms As S r S') (kk : G K g nL (cs.1 + mc, cs.2 + ms) (pc + 3) L (r.toList ++ st) S') : G K g nL cs pc L stk S := by
  obtain ⟨p, l, e, R, s, m, args, below, meth, c0, Q⟩ := K
  intro H locs ls h1 h2 h3 h4 h5
  subst hstk
  have hcr := hC.2.2.2.2.2.2.2.2.2
  have hvs : ∀ v ∈ As, okv v := fun v hv => h3 v (List.mem_append_left _ (List.mem_reverse.mpr hv))
  have hst : ∀ v ∈ st, okv v := fun v hv => h3 v (List.mem_append_right _ hv)
  have hrun : va_Run p l e R s m args below meth c0 H locs cs.1 cs.2 mc ms (F0 m pc ls ((As.reverse ++ st).map (cv g))) (st.map (cv g)) (Qc0 g r S' ((As.map (cv g)).toArray)) (AO g) := by
    have hp : PreS s H (Pc0 g As S) (As.map (cv g)) := ⟨Pc0_blind g _ _, pre_in hC h2 h1 hvs⟩
    have hstack : (F0 m pc ls ((As.reverse ++ st).map (cv g))).stack = (As.map (cv g)).reverse ++ st.map (cv g) := by
      show (As.reverse ++ st).map (cv g) = _
      rw [List.map_append, List.map_reverse]
    have hW : 2 * (F0 m pc ls ((As.reverse ++ st).map (cv g))).monitorRoom + ((st.map (cv g)).map fun v => v.category).sum ≤ 8 := lv_room (by rw [wsum_cv]; exact hw)
    rcases hl with hl | ⟨host, hl⟩
    · exact va_runS ⟨hC.1, hC.2.1, hC.2.2.1, hC.2.2.2.1, hC.2.2.2.2.1⟩ hM ⟨callB_of n hC.2.2.2.2.1 (goodCode hm) rfl rfl rfl (hC.2.2.2.2.1 _ hm.2.1) (hC.2.2.2.2.1 _ hl) ⟨hm.2.2.1, hm.2.2.2.1, hm.2.2.2.2⟩ (room_in hC hfr hnl), hC.2.2.2.2.1 _ hv⟩ hp rfl (by rw [List.length_map]; exact hn) h5.1 hstack hW hd (by omega)
    · exact va_runSN ⟨hC.1, hC.2.1, hC.2.2.1, hC.2.2.2.1, hC.2.2.2.2.1⟩ hM ⟨va_cnB n hC.2.2.2.2.1 (goodCode hm) rfl rfl rfl (hC.2.2.2.2.2.1.2.2.1 _ hl rfl) (hC.2.2.2.2.1 _ hm.2.1) ⟨hm.2.2.1, hm.2.2.2.1, hm.2.2.2.2⟩ (room_in hC hfr hnl), hC.2.2.2.2.1 _ hv, trivial⟩ hp rfl (by rw [List.length_map]; exact hn) h5.1 hstack hW hd (by omega)
  refine run_goes hrun h2 (fun H1 locs1 hok hw1 hS1 => ?_)
  have hk := kk H1 locs1 ls hw1 hS1 (fun v hv => (List.mem_append.mp hv).elim (fun z => hok v (Option.mem_toList.mp z)) (hst v)) h4 h5
  have e9 : (r.toList ++ st).map (cv g) = (r.map (cv g)).toList ++ st.map (cv g) := by
    rw [List.map_append]
    cases r <;> rfl
  rw [e9] at hk
  exact hk
end Calls
/-- what a return hands on: the goal at a return instruction -/
def RetI (K : KT) (g : GT) (cc : ByteArray) (nL : Nat) (cs : Nat × Nat) (r : Int) (S : S2) : Prop := ∀ (pc : Nat) (L : List (Nat × Vl)), decode cc pc = .ok (.ireturn, 1) → G K g nL cs pc L [vi r] S
def RetZ (K : KT) (g : GT) (cc : ByteArray) (nL : Nat) (cs : Nat × Nat) (r : Int) (S : S2) : Prop := ∀ (pc : Nat) (L : List (Nat × Vl)), r = 0 ∨ r = 1 → decode cc pc = .ok (.ireturn, 1) → G K g nL cs pc L [vi r] S
def RetL (K : KT) (g : GT) (cc : ByteArray) (nL : Nat) (cs : Nat × Nat) (r : Int) (S : S2) : Prop := ∀ (pc : Nat) (L : List (Nat × Vl)), decode cc pc = .ok (.lreturn, 1) → G K g nL cs pc L [vl r] S
def RetV (K : KT) (g : GT) (cc : ByteArray) (nL : Nat) (cs : Nat × Nat) (S : S2) : Prop := ∀ (pc : Nat) (L : List (Nat × Vl)), decode cc pc = .ok (.return_, 1) → G K g nL cs pc L [] S
/-- the locals at the entry -/
def argL : Nat → List Vl → List (Nat × Vl)
  | _, [] => []
  | i, v :: vs => (i, v) :: argL (if isL v then i + 2 else i + 1) vs
theorem argL_map (g : GT) : ∀ (vs : List Vl) (i : Nat), (argL i vs).map (fun q => (q.1, cv g q.2)) = lv_args i (vs.map (cv g)) := by
  intro vs
  induction vs with
  | nil => intro i; rfl
  | cons v vs ih =>
    intro i
    simp only [argL, List.map_cons, lv_args, ih]
    rcases v with x | x | x | x <;> rfl
theorem sl_len (g : GT) : ∀ vs : List Vl, (lg_sl (vs.map (cv g))).length = wsum vs := by
  intro vs
  induction vs with
  | nil => rfl
  | cons v vs ih =>
    have e : lg_sl ((v :: vs).map (cv g)) = (if (cv g v).category = 2 then [Slot.val (cv g v), .second] else [.val (cv g v)]) ++ lg_sl (vs.map (cv g)) := rfl
    rw [e, List.length_append, ih]
    unfold wsum
    rw [List.map_cons, List.sum_cons]
    congr 1
    rcases v with x | x | x | x <;> rfl
theorem argL_ok (vs : List Vl) (h : ∀ v ∈ vs, okv v) : ∀ i, ∀ q ∈ argL i vs, okv q.2 := by
  induction vs with
  | nil => intro i q hq; cases hq
  | cons v vs ih =>
    intro i q hq
    rcases List.mem_cons.mp hq with e | e
    · subst e; exact h v List.mem_cons_self
    · exact ih (fun v hv => h v (List.mem_cons_of_mem _ hv)) _ q e
/-- a contract out of a walk of the body -/
theorem Cn.of {l : Launch} {g : GT} {y : MethodName} {b : ByteArray} {nL : Nat} {ret : Option FieldType} {fr mc ms : Nat} {vs : List Vl} {S : S2} {r : Option Vl} {S' : S2} (hy : plainName y.cls = true) (hlen : wsum vs ≤ nL)
    (body : ∀ K : KT, Kl K = l → Ctx K g y.cls b nL fr mc ms → (∀ (v : Int) (pc : Nat) (L : List (Nat × Vl)), r = some (vi v) → ret = some .int → decode b pc = .ok (.ireturn, 1) → G K g nL (mc, ms) pc L [vi v] S') → (∀ (v : Int) (pc : Nat) (L : List (Nat × Vl)), r = some (vi v) → ret = some .boolean → v = 0 ∨ v = 1 → decode b pc = .ok (.ireturn, 1) → G K g nL (mc, ms) pc L [vi v] S') → (∀ (v : Int) (pc : Nat) (L : List (Nat × Vl)), r = some (vl v) → ret = some .long → decode b pc = .ok (.lreturn, 1) → G K g nL (mc, ms) pc L [vl v] S') → (∀ (pc : Nat) (L : List (Nat × Vl)), r = none → ret = none → decode b pc = .ok (.return_, 1) → G K g nL (mc, ms) pc L [] S') → G K g nL (0, 0) 0 (argL 0 vs) [] S) : Cn l g y b nL ret fr mc ms vs S r S' := by
  refine Met.ofW (cc := b) (maxL := nL) (ret := ret) hy rfl ?_
  intro p e s m args below meth c s₁ B hml hv
  obtain ⟨rfl, hok, hst, hwh, hbs⟩ := hv
  have hx := B.exec
  have hb := B.bytes
  have hr := B.returns
  have hts := atoms_spec (ws := Cond.code y b nL ret :: lw_w) B.pre
  have hown : s.vm.findClass y.cls = some m.cls := findClass_of_methodNamed B.named
  have hlocks := B.notSynchronized
  have key : ∀ (H : Heap) (locs : List Loc), Wh g S' H → va_S (AO g) s.heap H locs → (∀ v, r = some v → okv v) → (∀ t : State, t.heap = H → s.WarmedH t.vm → Qc0 g r S' (vs.map (cv g)).toArray s (.returned (r.map (cv g))) t) := by
    intro H locs h1 h2 h3 t ht _
    exact ⟨rfl, h3, by rw [ht]; exact h1, h2.F ht⟩
  have hG := body (p, l, e, (headSpec (Cond.code y b nL ret :: lw_w) (rmk fr mc ms)).room, s, m, (vs.map (cv g)).toArray, below, meth, c, MQ below (Qc0 g r S') (vs.map (cv g)).toArray s mc ms (AO g)) rfl
    ⟨hx, hb, hml, hown, fun w hw => hts w (List.mem_cons_of_mem _ hw), hst, hbs, Nat.le_refl _, Nat.le_refl _, Nat.le_refl _, Nat.le_refl _⟩ ?_ ?_ ?_ ?_
  · have hl := lv_entry (vs.map (cv g)) (n := nL) (by rw [sl_len]; exact hlen)
    rw [lg_entry_eq]
    rw [← argL_map] at hl
    exact hG s.heap [] _ hwh va_S.rf (fun v hv => absurd hv List.not_mem_nil) (argL_ok vs hok 0) hl
  · intro v pc L e1 e2 hd H locs ls h1 h2 h3 _ _
    have hq := key H locs h1 h2 (fun v' hv' => by cases e1.symm.trans hv'; exact h3 _ List.mem_cons_self)
    subst e1
    exact W.iret hx hb (by rw [hr]; exact e2) hq h2.2.2 hd
  · intro v pc L e1 e2 hz hd H locs ls h1 h2 h3 _ _
    have hq := key H locs h1 h2 (fun v' hv' => by cases e1.symm.trans hv'; exact h3 _ List.mem_cons_self)
    subst e1
    exact W.zret hx hb (by rw [hr]; exact e2) (nar_z hz).1 hq h2.2.2 hd
  · intro v pc L e1 e2 hd H locs ls h1 h2 h3 _ _
    have hq := key H locs h1 h2 (fun v' hv' => by cases e1.symm.trans hv'; exact h3 _ List.mem_cons_self)
    subst e1
    exact W.lret hx hb (by rw [hr]; exact e2) hq h2.2.2 hd
  · intro pc L e1 e2 hd H locs ls h1 h2 h3 _ _
    have hq := key H locs h1 h2 (fun v' hv' => by rw [e1] at hv'; cases hv')
    subst e1
    exact W.vret hx hb (by rw [hr]; exact e2) hq h2.2.2 hd
theorem Cn.ofI {l : Launch} {g : GT} {y : MethodName} {b : ByteArray} {nL : Nat} {fr : Nat} {vs : List Vl} {S : S2} {r : Int} {S' : S2} (hy : plainName y.cls = true) (hlen : wsum vs ≤ nL) (body : ∀ K : KT, Kl K = l → Ctx K g y.cls b nL fr 0 0 → RetI K g b nL (0, 0) r S' → G K g nL (0, 0) 0 (argL 0 vs) [] S) : Cn l g y b nL (some .int) fr 0 0 vs S (some (vi r)) S' :=
  Cn.of hy hlen (fun K e hC h1 _ _ _ => body K e hC (fun pc L hd => h1 r pc L rfl rfl hd))
theorem Cn.ofZ {l : Launch} {g : GT} {y : MethodName} {b : ByteArray} {nL : Nat} {fr : Nat} {vs : List Vl} {S : S2} {r : Int} {S' : S2} (hy : plainName y.cls = true) (hlen : wsum vs ≤ nL) (body : ∀ K : KT, Kl K = l → Ctx K g y.cls b nL fr 0 0 → RetZ K g b nL (0, 0) r S' → G K g nL (0, 0) 0 (argL 0 vs) [] S) : Cn l g y b nL (some .boolean) fr 0 0 vs S (some (vi r)) S' :=
  Cn.of hy hlen (fun K e hC _ h1 _ _ => body K e hC (fun pc L hz hd => h1 r pc L rfl rfl hz hd))
theorem Cn.ofL {l : Launch} {g : GT} {y : MethodName} {b : ByteArray} {nL : Nat} {fr : Nat} {vs : List Vl} {S : S2} {r : Int} {S' : S2} (hy : plainName y.cls = true) (hlen : wsum vs ≤ nL) (body : ∀ K : KT, Kl K = l → Ctx K g y.cls b nL fr 0 0 → RetL K g b nL (0, 0) r S' → G K g nL (0, 0) 0 (argL 0 vs) [] S) : Cn l g y b nL (some .long) fr 0 0 vs S (some (vl r)) S' :=
  Cn.of hy hlen (fun K e hC _ _ h1 _ => body K e hC (fun pc L hd => h1 r pc L rfl rfl hd))
theorem Cn.ofV {l : Launch} {g : GT} {y : MethodName} {b : ByteArray} {nL : Nat} {fr : Nat} {vs : List Vl} {S : S2} {S' : S2} (hy : plainName y.cls = true) (hlen : wsum vs ≤ nL) (body : ∀ K : KT, Kl K = l → Ctx K g y.cls b nL fr 0 0 → RetV K g b nL (0, 0) S' → G K g nL (0, 0) 0 (argL 0 vs) [] S) : Cn l g y b nL none fr 0 0 vs S none S' :=
  Cn.of hy hlen (fun K e hC _ _ _ h1 => body K e hC (fun pc L hd => h1 pc L rfl rfl hd))
end
section
/-! Math, System.arraycopy, static arrays of longs. -/
section JdkRows
variable {K : KT} {g : GT} {own : String} {cc : ByteArray} {nL fr cm sm : Nat} {cs : Nat × Nat} {pc : Nat} {L : List (Nat × Vl)} {st : List Vl} {S : S2}
def m_min (x y : Int) : Int := if y < x then y else x
def m_max (x y : Int) : Int := if x < y then y else x
def m_maxl (x y : Int) : Int := if y < x then x else y
theorem g_min {ix : Nat} {x y : Int} (hC : Ctx K g own cc nL fr cm sm) (hd : decode cc pc = .ok (.invokestatic ix, 3)) (hl : Cond.methodLink own ix Lib.Math.min.name ∈ lw_w) (hst : Cond.static Lib.Math.min.name ∈ lw_w) (hi : Cond.initialized "java/lang/Math" ∈ lw_w) (hcd : Cond.code Lib.Math.min.name Lib.Math.min.code 2 (some .int) ∈ lw_w) (hw : wsum st ≤ 8) (hfr : 1 ≤ fr) (hcs : cs.1 ≤ cm ∧ cs.2 ≤ sm) (k : G K g nL cs (pc + 3) L (vi (m_min x y) :: st) S) : G K g nL cs pc L (vi y :: vi x :: st) S := by
  obtain ⟨p, l, e, R, s, m, args, below, meth, c, Q⟩ := K
  intro H locs ls h1 h2 h3 h4 h5
  have hx : ok32 x := okv_head (okv_tail h3)
  have hy : ok32 y := okv_head h3
  obtain ⟨a1, a2, a3, a4, a5, a6, a7, a8, a9, a10, a11⟩ := hC
  have k' := k H locs ls h1 h2 (okv_cons (v := vi (m_min x y)) (by show ok32 _; unfold m_min; split <;> assumption) (okv_tail (okv_tail h3))) h4 h5
  refine va_mmin a1 a2 (by rw [a3]; exact h5.1.symm) a4 (a5 _ hl) (a5 _ hst) (a5 _ hi) (a5 _ hcd) (by omega) (by rw [wsum_cv]; omega) (by omega) (by omega) hd ?_
  have e9 : (if Int32.ofInt y < Int32.ofInt x then Int32.ofInt y else Int32.ofInt x) = Int32.ofInt (m_min x y) := by
    unfold m_min
    by_cases h : y < x
    · rw [if_pos h, if_pos ((lt_of32 hy hx).mpr h)]
    · rw [if_neg h, if_neg (fun z => h ((lt_of32 hy hx).mp z))]
  rw [e9]
  exact k'
theorem g_max {ix : Nat} {x y : Int} (hC : Ctx K g own cc nL fr cm sm) (hd : decode cc pc = .ok (.invokestatic ix, 3)) (hl : Cond.methodLink own ix Lib.Math.max.name ∈ lw_w) (hst : Cond.static Lib.Math.max.name ∈ lw_w) (hi : Cond.initialized "java/lang/Math" ∈ lw_w) (hcd : Cond.code Lib.Math.max.name Lib.Math.max.code 2 (some .int) ∈ lw_w) (hw : wsum st ≤ 8) (hfr : 1 ≤ fr) (hcs : cs.1 ≤ cm ∧ cs.2 ≤ sm) (k : G K g nL cs (pc + 3) L (vi (m_max x y) :: st) S) : G K g nL cs pc L (vi y :: vi x :: st) S := by
  obtain ⟨p, l, e, R, s, m, args, below, meth, c, Q⟩ := K
  intro H locs ls h1 h2 h3 h4 h5
  have hx : ok32 x := okv_head (okv_tail h3)
  have hy : ok32 y := okv_head h3
  obtain ⟨a1, a2, a3, a4, a5, a6, a7, a8, a9, a10, a11⟩ := hC
  have k' := k H locs ls h1 h2 (okv_cons (v := vi (m_max x y)) (by show ok32 _; unfold m_max; split <;> assumption) (okv_tail (okv_tail h3))) h4 h5
  refine va_mmax a1 a2 (by rw [a3]; exact h5.1.symm) a4 (a5 _ hl) (a5 _ hst) (a5 _ hi) (a5 _ hcd) (by omega) (by rw [wsum_cv]; omega) (by omega) (by omega) hd ?_
  have e9 : (if Int32.ofInt x < Int32.ofInt y then Int32.ofInt y else Int32.ofInt x) = Int32.ofInt (m_max x y) := by
    unfold m_max
    by_cases h : x < y
    · rw [if_pos h, if_pos ((lt_of32 hx hy).mpr h)]
    · rw [if_neg h, if_neg (fun z => h ((lt_of32 hx hy).mp z))]
  rw [e9]
  exact k'
theorem g_maxl {ix : Nat} {x y : Int} (hC : Ctx K g own cc nL fr cm sm) (hd : decode cc pc = .ok (.invokestatic ix, 3)) (hl : Cond.methodLink own ix Lib.MathLoose.max_long.x ∈ lw_w) (hst : Cond.static Lib.MathLoose.max_long.x ∈ lw_w) (hi : Cond.initialized "java/lang/Math" ∈ lw_w) (hcd : Cond.code Lib.MathLoose.max_long.x Lib.MathLoose.max_long.code 4 (some .long) ∈ lw_w) (hw : wsum st ≤ 8) (hfr : 1 ≤ fr) (hcs : cs.1 ≤ cm ∧ cs.2 ≤ sm) (k : G K g nL cs (pc + 3) L (vl (m_maxl x y) :: st) S) : G K g nL cs pc L (vl y :: vl x :: st) S := by
  obtain ⟨p, l, e, R, s, m, args, below, meth, c, Q⟩ := K
  intro H locs ls h1 h2 h3 h4 h5
  have hx : ok64 x := okv_head (okv_tail h3)
  have hy : ok64 y := okv_head h3
  obtain ⟨a1, a2, a3, a4, a5, a6, a7, a8, a9, a10, a11⟩ := hC
  have k' := k H locs ls h1 h2 (okv_cons (v := vl (m_maxl x y)) (by show ok64 _; unfold m_maxl; split <;> assumption) (okv_tail (okv_tail h3))) h4 h5
  refine va_mmax_long a1 a2 (by rw [a3]; exact h5.1.symm) a4 (a5 _ hl) (a5 _ hst) (a5 _ hi) (a5 _ hcd) (by omega) (by rw [wsum_cv]; omega) (by omega) (by omega) hd ?_
  have hh : Int64.ofInt y < Int64.ofInt x ↔ y < x := by rw [Int64.lt_iff_toInt_lt, toInt_of64 hx, toInt_of64 hy]
  have e9 : (if Int64.ofInt y < Int64.ofInt x then Int64.ofInt x else Int64.ofInt y) = Int64.ofInt (m_maxl x y) := by
    unfold m_maxl
    by_cases h : y < x
    · rw [if_pos h, if_pos (hh.mpr h)]
    · rw [if_neg h, if_neg (fun z => h (hh.mp z))]
  rw [e9]
  exact k'
theorem g_oaldl {k : Nat} {C n d : String} {xs : List Int} {i x : Int} (hC : Ctx K g own cc nL fr cm sm) (hd : decode cc pc = .ok (.laload, 1)) (hk : sts[k]? = some (C, n, d, .long, xs)) (hi : inb i xs.length) (hx : ok64 (xs.getD i.toNat 0)) (kk : G K g nL cs (pc + 1) L (vl (xs.getD i.toNat 0) :: st) S) : G K g nL cs pc L (vi i :: vo k :: st) S := by
  obtain ⟨p, l, e, R, s, m, args, below, meth, c0, Q⟩ := K
  intro H locs ls h1 h2 h3 h4 h5
  have hi' : ok32 i := okv_head h3
  exact va_tl hC.1 hC.2.1 (hC.2.2.2.2.2.1.2.1.1 k C n d .long xs hk).2 h2 (in_of32 hi' hi.1 hi.2) (v := .long (Int64.ofInt (xs.getD i.toNat 0))) (by rw [clamp_of32 hi']; rfl) hd (kk H locs ls h1 h2 (okv_cons (v := vl _) hx (okv_tail (okv_tail h3))) h4 h5)
/-- one cell's contents changed as a whole -/
def upc (σ : St) (c : Nat) (τ : Nat → Int) : St := fun a => if a = c then τ else σ a
theorem wsO_upc {k : Nat} {h : Sh} {τ : Nat → Int} (hk : S.1[k]? = some h) : (wsO g S).set k (g.1 + k, ce g τ h) = wsO g (S.1, upc S.2 k τ) := by
  apply List.ext_getElem?
  intro i
  rw [List.getElem?_set]
  by_cases hi : k = i
  · subst hi
    have hlt : k < S.1.length := (List.getElem?_eq_some_iff.mp hk).1
    have e := (List.getElem?_eq_some_iff.mp hk).2
    simp [hlt, wsO, List.getElem?_mapIdx, upc, e]
  · simp [hi, wsO, List.getElem?_mapIdx, upc, Ne.symm hi]
theorem Wh_upc {k : Nat} {h : Sh} {τ : Nat → Int} {H H1 : Heap} (h1 : Wh g S H) (hk : S.1[k]? = some h) (hx : okc τ h) (hP : va_P g.2.1 vwCl ((wsO g S).set k (g.1 + k, ce g τ h)) H1) : Wh g (S.1, upc S.2 k τ) H1 := by
  refine ⟨by rw [← wsO_upc hk]; exact hP, fun q h' hq => ?_⟩
  by_cases e : q = k
  · subst e
    cases hk.symm.trans hq
    show okc (upc S.2 q τ q) h
    rw [upc, if_pos rfl]
    exact hx
  · show okc (upc S.2 k τ q) h'
    rw [upc, if_neg e]
    exact h1.2 q h' hq
/-- System.arraycopy's deed -/
def cpy (σ : St) (c sp d dp n : Nat) : St := upc σ d (fun b => if dp ≤ b ∧ b < dp + n then σ c (sp + (b - dp)) else σ d b)
abbrev inc (sp dp n : Int) (n0 n1 : Nat) : Prop := 0 ≤ sp ∧ 0 ≤ dp ∧ 0 ≤ n ∧ sp + n ≤ (n0 : Int) ∧ dp + n ≤ (n1 : Int)
theorem g_copyi {ix c d n0 n1 : Nat} {z0 z1 : List (Nat × Option Nat)} {sp dp n : Int} (hC : Ctx K g own cc nL fr cm sm) (hd : decode cc pc = .ok (.invokestatic ix, 3)) (hl : Cond.methodLink own ix arraycopyName ∈ lw_w) (hnat : Cond.native arraycopyName ∈ lw_w) (hst : Cond.static arraycopyName ∈ lw_w) (hi : Cond.initialized "java/lang/System" ∈ lw_w) (hw : wsum st + (nativeFrameWords "java/lang/System" "arraycopy" 5 + 11) ≤ 40) (hfr : 1 ≤ fr) (hs0 : S.1[c]? = some (1, n0, z0)) (hs1 : S.1[d]? = some (1, n1, z1)) (hin : inc sp dp n n0 n1) (k : G K g nL cs (pc + 3) L st (S.1, cpy S.2 c sp.toNat d dp.toNat n.toNat)) : G K g nL cs pc L (vi n :: vi dp :: vr d :: vi sp :: vr c :: st) S := by
  obtain ⟨p, l, e, R, s, m, args, below, meth, c0, Q⟩ := K
  intro H locs ls h1 h2 h3 h4 h5
  have hn : ok32 n := okv_head h3
  have hdp : ok32 dp := okv_head (okv_tail h3)
  have hsp : ok32 sp := okv_head (okv_tail (okv_tail (okv_tail h3)))
  obtain ⟨i1, i2, i3, i4, i5⟩ := hin
  obtain ⟨a1, a2, a3, a4, a5, a6, a7, a8, a9, a10, a11⟩ := hC
  refine va_copyi a1 a2 (by rw [a3]; exact h5.1.symm) a4 (a5 _ hl) (a5 _ hnat) (a5 _ hst) (a5 _ hi) a6.1 h1.1 (wsO_D g S) h2 c d 0 0 (ints_get hs0) (ints_get hs1) rfl rfl rfl (fun z => by have := (lt_of32 hsp ok32_0).mp z; omega) (fun z => by have := (lt_of32 hdp ok32_0).mp z; omega) (fun z => by have := (lt_of32 hn ok32_0).mp z; omega) (by rw [clamp_of32 hsp, clamp_of32 hn]; omega) (by rw [clamp_of32 hdp, clamp_of32 hn]; omega) (fun _ _ => rfl) (by omega) (by rw [wsum_cv]; omega) hd (fun H1 locs1 hP _ hS => ?_)
  refine k H1 locs1 ls (Wh_upc h1 hs1 ?_ ?_) hS (okv_tail (okv_tail (okv_tail (okv_tail (okv_tail h3))))) h4 h5
  · intro j
    have q0 := h1.2 c _ hs0
    have q1 := h1.2 d _ hs1
    show ok32 (if _ then _ else _)
    split
    · exact q0 _
    · exact q1 _
  · rw [clamp_of32 hsp, clamp_of32 hdp, clamp_of32 hn] at hP
    have e9 : (va_cpy (fun j => Int32.ofInt (S.2 c j)) (fun j => Int32.ofInt (S.2 d j)) sp.toNat dp.toNat n.toNat) = (fun j => Int32.ofInt (if dp.toNat ≤ j ∧ j < dp.toNat + n.toNat then S.2 c (sp.toNat + (j - dp.toNat)) else S.2 d j)) := by
      funext j
      unfold va_cpy
      split <;> rfl
    rw [e9] at hP
    exact hP
theorem g_copyl {ix c d n0 n1 : Nat} {z0 z1 : List (Nat × Option Nat)} {sp dp n : Int} (hC : Ctx K g own cc nL fr cm sm) (hd : decode cc pc = .ok (.invokestatic ix, 3)) (hl : Cond.methodLink own ix arraycopyName ∈ lw_w) (hnat : Cond.native arraycopyName ∈ lw_w) (hst : Cond.static arraycopyName ∈ lw_w) (hi : Cond.initialized "java/lang/System" ∈ lw_w) (hw : wsum st + (nativeFrameWords "java/lang/System" "arraycopy" 5 + 11) ≤ 40) (hfr : 1 ≤ fr) (hs0 : S.1[c]? = some (2, n0, z0)) (hs1 : S.1[d]? = some (2, n1, z1)) (hin : inc sp dp n n0 n1) (k : G K g nL cs (pc + 3) L st (S.1, cpy S.2 c sp.toNat d dp.toNat n.toNat)) : G K g nL cs pc L (vi n :: vi dp :: vr d :: vi sp :: vr c :: st) S := by
  obtain ⟨p, l, e, R, s, m, args, below, meth, c0, Q⟩ := K
  intro H locs ls h1 h2 h3 h4 h5
  have hn : ok32 n := okv_head h3
  have hdp : ok32 dp := okv_head (okv_tail h3)
  have hsp : ok32 sp := okv_head (okv_tail (okv_tail (okv_tail h3)))
  obtain ⟨i1, i2, i3, i4, i5⟩ := hin
  obtain ⟨a1, a2, a3, a4, a5, a6, a7, a8, a9, a10, a11⟩ := hC
  refine va_copyl a1 a2 (by rw [a3]; exact h5.1.symm) a4 (a5 _ hl) (a5 _ hnat) (a5 _ hst) (a5 _ hi) a6.1 h1.1 (wsO_D g S) h2 c d 1 1 (longs_get hs0) (longs_get hs1) rfl rfl rfl (fun z => by have := (lt_of32 hsp ok32_0).mp z; omega) (fun z => by have := (lt_of32 hdp ok32_0).mp z; omega) (fun z => by have := (lt_of32 hn ok32_0).mp z; omega) (by rw [clamp_of32 hsp, clamp_of32 hn]; omega) (by rw [clamp_of32 hdp, clamp_of32 hn]; omega) (fun _ _ => rfl) (by omega) (by rw [wsum_cv]; omega) hd (fun H1 locs1 hP _ hS => ?_)
  refine k H1 locs1 ls (Wh_upc h1 hs1 ?_ ?_) hS (okv_tail (okv_tail (okv_tail (okv_tail (okv_tail h3))))) h4 h5
  · intro j
    have q0 := h1.2 c _ hs0
    have q1 := h1.2 d _ hs1
    show ok64 (if _ then _ else _)
    split
    · exact q0 _
    · exact q1 _
  · rw [clamp_of32 hsp, clamp_of32 hdp, clamp_of32 hn] at hP
    have e9 : (va_cpy (fun j => Int64.ofInt (S.2 c j)) (fun j => Int64.ofInt (S.2 d j)) sp.toNat dp.toNat n.toNat) = (fun j => Int64.ofInt (if dp.toNat ≤ j ∧ j < dp.toNat + n.toNat then S.2 c (sp.toNat + (j - dp.toNat)) else S.2 d j)) := by
      funext j
      unfold va_cpy
      split <;> rfl
    rw [e9] at hP
    exact hP
end JdkRows
end
section
/-! The steady store: the cells as both constructors lay them; plain words for them; the rows that the printed walks use. -/
def SH0 : List Sh := [(0, 9, [(2, some 1), (2, some 4), (2, some 10), (2, some 19), (2, some 22), (2, some 25), (2, some 27), (2, some 32), (2, some 36), (2, some 35)]),
  (0, 2, [(2, some 2), (2, some 3), (0, none), (0, none)]),
  (1, 32, []),
  (1, 63, []),
  (0, 4, [(2, some 5), (2, some 6), (2, some 7), (4, none), (4, none), (0, none), (0, none), (0, none), (0, none), (3, none)]),
  (1, 120, []),
  (1, 6, []),
  (1, 64, []),
  (1, 128, []),
  (1, 128, []),
  (0, 7, [(2, some 11), (2, some 4), (2, some 14), (2, some 15), (2, some 16), (2, some 17), (2, some 18), (0, none), (0, none), (0, none), (0, none), (0, none)]),
  (0, 2, [(2, some 12), (2, some 13), (0, none), (0, none)]),
  (1, 32, []),
  (1, 63, []),
  (1, 7, []),
  (1, 7, []),
  (1, 252, []),
  (1, 7, []),
  (1, 16, []),
  (0, 8, [(2, some 10), (2, some 20), (2, some 21), (0, none), (0, none), (0, none)]),
  (1, 5, []),
  (1, 5, []),
  (0, 1, [(2, some 23), (2, some 24), (1, none)]),
  (2, 256, []),
  (2, 8, []),
  (0, 0, [(2, some 26), (0, none), (0, none)]),
  (1, 160, []),
  (0, 3, [(2, some 28), (2, some 31), (3, none)]),
  (0, 2, [(2, some 29), (2, some 30), (0, none), (0, none)]),
  (1, 32, []),
  (1, 63, []),
  (1, 5, []),
  (0, 5, [(2, some 33), (2, some 34), (0, none), (0, none), (0, none)]),
  (1, 50, []),
  (1, 24, []),
  (1, 5, []),
  (3, 6, [(2, some 37), (2, some 39), (2, some 41), (2, some 43), (2, some 45), (2, some 47)]),
  (0, 6, [(2, some 38), (0, none), (0, none), (0, none), (0, none)]),
  (2, 60, []),
  (0, 6, [(2, some 40), (0, none), (0, none), (0, none), (0, none)]),
  (2, 60, []),
  (0, 6, [(2, some 42), (0, none), (0, none), (0, none), (0, none)]),
  (2, 60, []),
  (0, 6, [(2, some 44), (0, none), (0, none), (0, none), (0, none)]),
  (2, 60, []),
  (0, 6, [(2, some 46), (0, none), (0, none), (0, none), (0, none)]),
  (2, 60, []),
  (0, 6, [(2, some 48), (0, none), (0, none), (0, none), (0, none)]),
  (2, 60, []),
  (0, 10, [(0, none), (2, some 50), (2, some 51), (2, some 52), (2, some 53), (0, none), (2, some 54), (0, none), (2, some 55), (3, none), (0, none), (2, some 56), (2, some 57), (2, some 58), (2, some 59), (0, none), (0, none), (0, none), (0, none), (2, some 60), (2, some 61), (2, some 62), (2, some 63), (2, some 64), (2, some 65), (2, some 66), (3, none), (0, none), (0, none), (2, some 67), (2, some 68), (0, none), (0, none), (2, some 69), (0, none), (2, some 70), (0, none), (2, some 71), (2, some 72), (2, some 73), (2, some 74), (2, some 75), (2, some 76), (2, some 77), (0, none)]),
  (1, 8, []),
  (1, 8, []),
  (1, 8, []),
  (1, 8, []),
  (1, 63, []),
  (1, 120, []),
  (1, 60, []),
  (1, 60, []),
  (1, 60, []),
  (1, 200, []),
  (1, 61, []),
  (1, 61, []),
  (1, 61, []),
  (1, 200, []),
  (1, 200, []),
  (1, 6, []),
  (1, 5, []),
  (1, 45, []),
  (1, 5, []),
  (1, 160, []),
  (1, 50, []),
  (1, 24, []),
  (1, 6, []),
  (1, 6, []),
  (2, 360, []),
  (1, 45, []),
  (1, 7, []),
  (1, 7, [])]
def fsO (c : Nat) : List (Nat × Option Nat) := match SH0[c]? with
  | some h => h.2.2
  | none => []
def kdO (c : Nat) : Nat := match SH0[c]? with
  | some h => h.1
  | none => 9
def LN (c : Nat) : Nat := match SH0[c]? with
  | some h => h.2.1
  | none => 0
def isO (ci c : Nat) : Bool := kdO c == 0 && LN c == ci
def isA (t c : Nat) : Bool := kdO c == t && !(t == 9)
def RF (c k : Nat) : Nat := match (fsO c)[k]? with
  | some q => q.2.getD 0
  | none => 0
theorem kd_lt {c k : Nat} (h : kdO c = k) (hk : k ≠ 9) : c < 78 := by
  rcases Nat.lt_or_ge c 78 with q | q
  · exact q
  · have : SH0[c]? = none := List.getElem?_eq_none (by show SH0.length ≤ c; exact q)
    unfold kdO at h
    rw [this] at h
    exact absurd h.symm hk
theorem isO_lt {ci c : Nat} (h : isO ci c = true) : c < 78 := by
  simp only [isO, Bool.and_eq_true, beq_iff_eq] at h
  exact kd_lt h.1 (by decide)
theorem isA_lt {t c : Nat} (h : isA t c = true) : c < 78 := by
  simp only [isA, Bool.and_eq_true, beq_iff_eq, Bool.not_eq_true', beq_eq_false_iff_ne] at h
  exact kd_lt h.1 h.2
theorem sh_eq {c : Nat} (h : c < 78) : SH0[c]? = some (kdO c, LN c, fsO c) := by
  have hl : c < SH0.length := h
  unfold kdO LN fsO
  rw [List.getElem?_eq_getElem hl]
theorem isO_spec {ci c : Nat} (h : isO ci c = true) : SH0[c]? = some (0, ci, fsO c) := by
  rw [sh_eq (isO_lt h)]
  simp only [isO, Bool.and_eq_true, beq_iff_eq] at h
  rw [h.1, h.2]
theorem isA_spec {t c : Nat} (h : isA t c = true) : SH0[c]? = some (t, LN c, fsO c) := by
  rw [sh_eq (isA_lt h)]
  simp only [isA, Bool.and_eq_true, beq_iff_eq] at h
  rw [h.1]
theorem LN_small : ∀ c, c < 78 → LN c < 1000 := by decide +kernel
theorem ok_LN (c : Nat) : ok32 (LN c : Int) := by
  rcases Nat.lt_or_ge c 78 with q | q
  · have := LN_small c q
    unfold ok32
    omega
  · have : SH0[c]? = none := List.getElem?_eq_none (by show SH0.length ≤ c; exact q)
    have e : LN c = 0 := by unfold LN; rw [this]
    rw [e]
    exact ok32_0
def sh_ck (c j : Nat) : Bool := !(isA 3 c) || !(Nat.blt j (LN c)) || ((match (fsO c)[j]? with
  | some (2, some d) => d == RF c j
  | _ => false) && isO 6 (RF c j))
theorem sh_ck0 : (List.range 78).all (fun c => (List.range 6).all (sh_ck c)) = true := by decide +kernel
theorem sh_at0 (c : Nat) (hc : c < 78) (j : Nat) (hj : j < 6) (h : isA 3 c = true) (hl : j < LN c) : (fsO c)[j]? = some (2, some (RF c j)) ∧ isO 6 (RF c j) = true := by
  have q := List.all_eq_true.mp (List.all_eq_true.mp sh_ck0 c (List.mem_range.mpr hc)) j (List.mem_range.mpr hj)
  have hl' : Nat.blt j (LN c) = true := by simpa [Nat.blt_eq] using hl
  simp only [sh_ck, h, hl', Bool.not_true, Bool.false_or, Bool.and_eq_true] at q
  obtain ⟨q1, q2⟩ := q
  refine ⟨?_, q2⟩
  revert q1
  split
  · rename_i d hd
    intro q1
    rw [hd, eq_of_beq q1]
  · intro q1
    cases q1
theorem sh_at1 : ∀ c, c < 78 → isA 3 c = true → LN c ≤ 6 := by decide +kernel
theorem sh_at {c : Nat} {i : Int} (h : isA 3 c = true) (hi : inb i (LN c)) : (fsO c)[i.toNat]? = some (2, some (RF c i.toNat)) ∧ isO 6 (RF c i.toNat) = true := by
  have h1 := sh_at1 c (isA_lt h) h
  exact sh_at0 c (isA_lt h) _ (by omega) h (by omega)
/-- how often a loop may go round -/
def FU : Nat := 1000000
theorem of_ite {α : Type} {c : Prop} [Decidable c] {A : Option α} {r : α} (h : (if c then A else none) = some r) : c ∧ A = some r := by
  by_cases hc : c
  · rw [if_pos hc] at h; exact ⟨hc, h⟩
  · rw [if_neg hc] at h; cases h
theorem of_bind {α β : Type} {o : Option α} {f : α → Option β} {r : β} (h : Option.bind o f = some r) : ∃ q, o = some q ∧ f q = some r := by
  cases o with
  | none => cases h
  | some q => exact ⟨q, rfl, h⟩
section Steady
variable {K : KT} {g : GT} {own : String} {cc : ByteArray} {nL fr cm sm : Nat} {cs : Nat × Nat} {pc : Nat} {L : List (Nat × Vl)} {st : List Vl} {S : S2}
theorem ret_i {x r : Int} {σ σ' : St} (h : some (x, σ) = some (r, σ')) (hR : RetI K g cc nL cs r (SH0, σ')) (hd : decode cc pc = .ok (.ireturn, 1)) : G K g nL cs pc L [vi x] (SH0, σ) := by
  cases h
  exact hR pc L hd
theorem ret_z {x r : Int} {σ σ' : St} (h : some (x, σ) = some (r, σ')) (hR : RetZ K g cc nL cs r (SH0, σ')) (hz : x = 0 ∨ x = 1) (hd : decode cc pc = .ok (.ireturn, 1)) : G K g nL cs pc L [vi x] (SH0, σ) := by
  cases h
  exact hR pc L hz hd
theorem ret_l {x r : Int} {σ σ' : St} (h : some (x, σ) = some (r, σ')) (hR : RetL K g cc nL cs r (SH0, σ')) (hd : decode cc pc = .ok (.lreturn, 1)) : G K g nL cs pc L [vl x] (SH0, σ) := by
  cases h
  exact hR pc L hd
theorem ret_v {σ σ' : St} (h : some σ = some σ') (hR : RetV K g cc nL cs (SH0, σ')) (hd : decode cc pc = .ok (.return_, 1)) : G K g nL cs pc L [] (SH0, σ) := by
  cases h
  exact hR pc L hd
theorem sw_out {x lo hi : Int} {pc tgt : Nat} {dflt : Int} {offs : Array Int} (lo' hi' : Int) (h : x < lo ∨ hi < x) (ht : (pc : Int) + dflt = (tgt : Int)) : ((x < lo ∨ hi < x) ∧ (pc : Int) + dflt = (tgt : Int)) ∨ (¬ x < lo ∧ ¬ hi < x ∧ ∃ off, offs[(x - lo).toNat]? = some off ∧ (pc : Int) + off = (tgt : Int)) := Or.inl ⟨h, ht⟩
theorem s_callVi {y : MethodName} {b : ByteArray} {nL' : Nat} {ret : Option FieldType} {fr' n ix c ci : Nat} {fs : List (Nat × Option Nat)} {T : u_T} {N : Nat} {As stk : List Vl} {r : Int} {S' : S2} (hC : Ctx K g own cc nL fr cm sm) (hd : decode cc pc = .ok (.invokevirtual ix, 3)) (hM : Cn (Kl K) g y b nL' ret fr' 0 0 (vr c :: As) S (some (vi r)) S') (hm : MI y b nL' ret n) (hv : MV y) (hl : ML own ix y) (hs : S.1[c]? = some (0, ci, fs)) (hcl : vwCl[ci]? = some (y.cls, T, N)) (hstk : stk = As.reverse ++ vr c :: st) (hn : As.length = n) (hw : wsum st ≤ 8) (hfr : fr' + 1 ≤ fr) (hnl : nL' ≤ 21) (hcs : cs.1 ≤ cm ∧ cs.2 ≤ sm) (kk : G K g nL cs (pc + 3) L (vi r :: st) S') : G K g nL cs pc L stk S := g_callV hC hd hm hv hl hs hcl hstk hn hw hfr hnl hcs hM kk
theorem s_callSi {y : MethodName} {b : ByteArray} {nL' : Nat} {ret : Option FieldType} {fr' n ix : Nat} {As stk : List Vl} {r : Int} {S' : S2} (hC : Ctx K g own cc nL fr cm sm) (hd : decode cc pc = .ok (.invokestatic ix, 3)) (hM : Cn (Kl K) g y b nL' ret fr' 0 0 As S (some (vi r)) S') (hm : MI y b nL' ret n) (hv : Cond.static y ∈ lw_w) (hl : ML own ix y) (hstk : stk = As.reverse ++ st) (hn : As.length = n) (hw : wsum st ≤ 8) (hfr : fr' + 1 ≤ fr) (hnl : nL' ≤ 21) (hcs : cs.1 ≤ cm ∧ cs.2 ≤ sm) (kk : G K g nL cs (pc + 3) L (vi r :: st) S') : G K g nL cs pc L stk S := g_callS hC hd hm hv hl hstk hn hw hfr hnl hcs hM kk
theorem s_callVl {y : MethodName} {b : ByteArray} {nL' : Nat} {ret : Option FieldType} {fr' n ix c ci : Nat} {fs : List (Nat × Option Nat)} {T : u_T} {N : Nat} {As stk : List Vl} {r : Int} {S' : S2} (hC : Ctx K g own cc nL fr cm sm) (hd : decode cc pc = .ok (.invokevirtual ix, 3)) (hM : Cn (Kl K) g y b nL' ret fr' 0 0 (vr c :: As) S (some (vl r)) S') (hm : MI y b nL' ret n) (hv : MV y) (hl : ML own ix y) (hs : S.1[c]? = some (0, ci, fs)) (hcl : vwCl[ci]? = some (y.cls, T, N)) (hstk : stk = As.reverse ++ vr c :: st) (hn : As.length = n) (hw : wsum st ≤ 8) (hfr : fr' + 1 ≤ fr) (hnl : nL' ≤ 21) (hcs : cs.1 ≤ cm ∧ cs.2 ≤ sm) (kk : G K g nL cs (pc + 3) L (vl r :: st) S') : G K g nL cs pc L stk S := g_callV hC hd hm hv hl hs hcl hstk hn hw hfr hnl hcs hM kk
theorem s_callSl {y : MethodName} {b : ByteArray} {nL' : Nat} {ret : Option FieldType} {fr' n ix : Nat} {As stk : List Vl} {r : Int} {S' : S2} (hC : Ctx K g own cc nL fr cm sm) (hd : decode cc pc = .ok (.invokestatic ix, 3)) (hM : Cn (Kl K) g y b nL' ret fr' 0 0 As S (some (vl r)) S') (hm : MI y b nL' ret n) (hv : Cond.static y ∈ lw_w) (hl : ML own ix y) (hstk : stk = As.reverse ++ st) (hn : As.length = n) (hw : wsum st ≤ 8) (hfr : fr' + 1 ≤ fr) (hnl : nL' ≤ 21) (hcs : cs.1 ≤ cm ∧ cs.2 ≤ sm) (kk : G K g nL cs (pc + 3) L (vl r :: st) S') : G K g nL cs pc L stk S := g_callS hC hd hm hv hl hstk hn hw hfr hnl hcs hM kk
theorem s_callVv {y : MethodName} {b : ByteArray} {nL' : Nat} {ret : Option FieldType} {fr' n ix c ci : Nat} {fs : List (Nat × Option Nat)} {T : u_T} {N : Nat} {As stk : List Vl} {S' : S2} (hC : Ctx K g own cc nL fr cm sm) (hd : decode cc pc = .ok (.invokevirtual ix, 3)) (hM : Cn (Kl K) g y b nL' ret fr' 0 0 (vr c :: As) S none S') (hm : MI y b nL' ret n) (hv : MV y) (hl : ML own ix y) (hs : S.1[c]? = some (0, ci, fs)) (hcl : vwCl[ci]? = some (y.cls, T, N)) (hstk : stk = As.reverse ++ vr c :: st) (hn : As.length = n) (hw : wsum st ≤ 8) (hfr : fr' + 1 ≤ fr) (hnl : nL' ≤ 21) (hcs : cs.1 ≤ cm ∧ cs.2 ≤ sm) (kk : G K g nL cs (pc + 3) L (st) S') : G K g nL cs pc L stk S := g_callV hC hd hm hv hl hs hcl hstk hn hw hfr hnl hcs hM kk
theorem s_callSv {y : MethodName} {b : ByteArray} {nL' : Nat} {ret : Option FieldType} {fr' n ix : Nat} {As stk : List Vl} {S' : S2} (hC : Ctx K g own cc nL fr cm sm) (hd : decode cc pc = .ok (.invokestatic ix, 3)) (hM : Cn (Kl K) g y b nL' ret fr' 0 0 As S none S') (hm : MI y b nL' ret n) (hv : Cond.static y ∈ lw_w) (hl : ML own ix y) (hstk : stk = As.reverse ++ st) (hn : As.length = n) (hw : wsum st ≤ 8) (hfr : fr' + 1 ≤ fr) (hnl : nL' ≤ 21) (hcs : cs.1 ≤ cm ∧ cs.2 ≤ sm) (kk : G K g nL cs (pc + 3) L (st) S') : G K g nL cs pc L stk S := g_callS hC hd hm hv hl hstk hn hw hfr hnl hcs hM kk
end Steady
end
section
/-! The words of the tables that the walks use, by their places (printed by my program). -/
theorem ok_m1 : ok32 (-1) := ⟨by decide, by decide⟩
theorem ok_0 : ok32 0 := ⟨by decide, by decide⟩
theorem ok_1 : ok32 1 := ⟨by decide, by decide⟩
theorem ok_2 : ok32 2 := ⟨by decide, by decide⟩
theorem ok_3 : ok32 3 := ⟨by decide, by decide⟩
theorem ok_4 : ok32 4 := ⟨by decide, by decide⟩
theorem ok_5 : ok32 5 := ⟨by decide, by decide⟩
theorem bp_m126 : ok32 (-126) ∧ (Int8.ofInt (-126)).toInt32 = Int32.ofInt (-126) := ⟨⟨by decide, by decide⟩, by decide +kernel⟩
theorem bp_m100 : ok32 (-100) ∧ (Int8.ofInt (-100)).toInt32 = Int32.ofInt (-100) := ⟨⟨by decide, by decide⟩, by decide +kernel⟩
theorem bp_m59 : ok32 (-59) ∧ (Int8.ofInt (-59)).toInt32 = Int32.ofInt (-59) := ⟨⟨by decide, by decide⟩, by decide +kernel⟩
theorem bp_m33 : ok32 (-33) ∧ (Int8.ofInt (-33)).toInt32 = Int32.ofInt (-33) := ⟨⟨by decide, by decide⟩, by decide +kernel⟩
theorem bp_m14 : ok32 (-14) ∧ (Int8.ofInt (-14)).toInt32 = Int32.ofInt (-14) := ⟨⟨by decide, by decide⟩, by decide +kernel⟩
theorem bp_m13 : ok32 (-13) ∧ (Int8.ofInt (-13)).toInt32 = Int32.ofInt (-13) := ⟨⟨by decide, by decide⟩, by decide +kernel⟩
theorem bp_m12 : ok32 (-12) ∧ (Int8.ofInt (-12)).toInt32 = Int32.ofInt (-12) := ⟨⟨by decide, by decide⟩, by decide +kernel⟩
theorem bp_m11 : ok32 (-11) ∧ (Int8.ofInt (-11)).toInt32 = Int32.ofInt (-11) := ⟨⟨by decide, by decide⟩, by decide +kernel⟩
theorem bp_m5 : ok32 (-5) ∧ (Int8.ofInt (-5)).toInt32 = Int32.ofInt (-5) := ⟨⟨by decide, by decide⟩, by decide +kernel⟩
theorem bp_m3 : ok32 (-3) ∧ (Int8.ofInt (-3)).toInt32 = Int32.ofInt (-3) := ⟨⟨by decide, by decide⟩, by decide +kernel⟩
theorem bp_m2 : ok32 (-2) ∧ (Int8.ofInt (-2)).toInt32 = Int32.ofInt (-2) := ⟨⟨by decide, by decide⟩, by decide +kernel⟩
theorem bp_6 : ok32 6 ∧ (Int8.ofInt 6).toInt32 = Int32.ofInt 6 := ⟨⟨by decide, by decide⟩, by decide +kernel⟩
theorem bp_7 : ok32 7 ∧ (Int8.ofInt 7).toInt32 = Int32.ofInt 7 := ⟨⟨by decide, by decide⟩, by decide +kernel⟩
theorem bp_8 : ok32 8 ∧ (Int8.ofInt 8).toInt32 = Int32.ofInt 8 := ⟨⟨by decide, by decide⟩, by decide +kernel⟩
theorem bp_9 : ok32 9 ∧ (Int8.ofInt 9).toInt32 = Int32.ofInt 9 := ⟨⟨by decide, by decide⟩, by decide +kernel⟩
theorem bp_10 : ok32 10 ∧ (Int8.ofInt 10).toInt32 = Int32.ofInt 10 := ⟨⟨by decide, by decide⟩, by decide +kernel⟩
theorem bp_11 : ok32 11 ∧ (Int8.ofInt 11).toInt32 = Int32.ofInt 11 := ⟨⟨by decide, by decide⟩, by decide +kernel⟩
theorem bp_12 : ok32 12 ∧ (Int8.ofInt 12).toInt32 = Int32.ofInt 12 := ⟨⟨by decide, by decide⟩, by decide +kernel⟩
theorem bp_13 : ok32 13 ∧ (Int8.ofInt 13).toInt32 = Int32.ofInt 13 := ⟨⟨by decide, by decide⟩, by decide +kernel⟩
theorem bp_14 : ok32 14 ∧ (Int8.ofInt 14).toInt32 = Int32.ofInt 14 := ⟨⟨by decide, by decide⟩, by decide +kernel⟩
theorem bp_15 : ok32 15 ∧ (Int8.ofInt 15).toInt32 = Int32.ofInt 15 := ⟨⟨by decide, by decide⟩, by decide +kernel⟩
theorem bp_16 : ok32 16 ∧ (Int8.ofInt 16).toInt32 = Int32.ofInt 16 := ⟨⟨by decide, by decide⟩, by decide +kernel⟩
theorem bp_17 : ok32 17 ∧ (Int8.ofInt 17).toInt32 = Int32.ofInt 17 := ⟨⟨by decide, by decide⟩, by decide +kernel⟩
theorem bp_18 : ok32 18 ∧ (Int8.ofInt 18).toInt32 = Int32.ofInt 18 := ⟨⟨by decide, by decide⟩, by decide +kernel⟩
theorem bp_20 : ok32 20 ∧ (Int8.ofInt 20).toInt32 = Int32.ofInt 20 := ⟨⟨by decide, by decide⟩, by decide +kernel⟩
theorem bp_21 : ok32 21 ∧ (Int8.ofInt 21).toInt32 = Int32.ofInt 21 := ⟨⟨by decide, by decide⟩, by decide +kernel⟩
theorem bp_24 : ok32 24 ∧ (Int8.ofInt 24).toInt32 = Int32.ofInt 24 := ⟨⟨by decide, by decide⟩, by decide +kernel⟩
theorem bp_28 : ok32 28 ∧ (Int8.ofInt 28).toInt32 = Int32.ofInt 28 := ⟨⟨by decide, by decide⟩, by decide +kernel⟩
theorem bp_30 : ok32 30 ∧ (Int8.ofInt 30).toInt32 = Int32.ofInt 30 := ⟨⟨by decide, by decide⟩, by decide +kernel⟩
theorem bp_31 : ok32 31 ∧ (Int8.ofInt 31).toInt32 = Int32.ofInt 31 := ⟨⟨by decide, by decide⟩, by decide +kernel⟩
theorem bp_33 : ok32 33 ∧ (Int8.ofInt 33).toInt32 = Int32.ofInt 33 := ⟨⟨by decide, by decide⟩, by decide +kernel⟩
theorem bp_36 : ok32 36 ∧ (Int8.ofInt 36).toInt32 = Int32.ofInt 36 := ⟨⟨by decide, by decide⟩, by decide +kernel⟩
theorem bp_37 : ok32 37 ∧ (Int8.ofInt 37).toInt32 = Int32.ofInt 37 := ⟨⟨by decide, by decide⟩, by decide +kernel⟩
theorem bp_38 : ok32 38 ∧ (Int8.ofInt 38).toInt32 = Int32.ofInt 38 := ⟨⟨by decide, by decide⟩, by decide +kernel⟩
theorem bp_39 : ok32 39 ∧ (Int8.ofInt 39).toInt32 = Int32.ofInt 39 := ⟨⟨by decide, by decide⟩, by decide +kernel⟩
theorem bp_40 : ok32 40 ∧ (Int8.ofInt 40).toInt32 = Int32.ofInt 40 := ⟨⟨by decide, by decide⟩, by decide +kernel⟩
theorem bp_41 : ok32 41 ∧ (Int8.ofInt 41).toInt32 = Int32.ofInt 41 := ⟨⟨by decide, by decide⟩, by decide +kernel⟩
theorem bp_42 : ok32 42 ∧ (Int8.ofInt 42).toInt32 = Int32.ofInt 42 := ⟨⟨by decide, by decide⟩, by decide +kernel⟩
theorem bp_43 : ok32 43 ∧ (Int8.ofInt 43).toInt32 = Int32.ofInt 43 := ⟨⟨by decide, by decide⟩, by decide +kernel⟩
theorem bp_45 : ok32 45 ∧ (Int8.ofInt 45).toInt32 = Int32.ofInt 45 := ⟨⟨by decide, by decide⟩, by decide +kernel⟩
theorem bp_47 : ok32 47 ∧ (Int8.ofInt 47).toInt32 = Int32.ofInt 47 := ⟨⟨by decide, by decide⟩, by decide +kernel⟩
theorem bp_48 : ok32 48 ∧ (Int8.ofInt 48).toInt32 = Int32.ofInt 48 := ⟨⟨by decide, by decide⟩, by decide +kernel⟩
theorem bp_50 : ok32 50 ∧ (Int8.ofInt 50).toInt32 = Int32.ofInt 50 := ⟨⟨by decide, by decide⟩, by decide +kernel⟩
theorem bp_57 : ok32 57 ∧ (Int8.ofInt 57).toInt32 = Int32.ofInt 57 := ⟨⟨by decide, by decide⟩, by decide +kernel⟩
theorem bp_59 : ok32 59 ∧ (Int8.ofInt 59).toInt32 = Int32.ofInt 59 := ⟨⟨by decide, by decide⟩, by decide +kernel⟩
theorem bp_60 : ok32 60 ∧ (Int8.ofInt 60).toInt32 = Int32.ofInt 60 := ⟨⟨by decide, by decide⟩, by decide +kernel⟩
theorem bp_61 : ok32 61 ∧ (Int8.ofInt 61).toInt32 = Int32.ofInt 61 := ⟨⟨by decide, by decide⟩, by decide +kernel⟩
theorem bp_62 : ok32 62 ∧ (Int8.ofInt 62).toInt32 = Int32.ofInt 62 := ⟨⟨by decide, by decide⟩, by decide +kernel⟩
theorem bp_63 : ok32 63 ∧ (Int8.ofInt 63).toInt32 = Int32.ofInt 63 := ⟨⟨by decide, by decide⟩, by decide +kernel⟩
theorem bp_64 : ok32 64 ∧ (Int8.ofInt 64).toInt32 = Int32.ofInt 64 := ⟨⟨by decide, by decide⟩, by decide +kernel⟩
theorem bp_70 : ok32 70 ∧ (Int8.ofInt 70).toInt32 = Int32.ofInt 70 := ⟨⟨by decide, by decide⟩, by decide +kernel⟩
theorem bp_80 : ok32 80 ∧ (Int8.ofInt 80).toInt32 = Int32.ofInt 80 := ⟨⟨by decide, by decide⟩, by decide +kernel⟩
theorem bp_81 : ok32 81 ∧ (Int8.ofInt 81).toInt32 = Int32.ofInt 81 := ⟨⟨by decide, by decide⟩, by decide +kernel⟩
theorem bp_99 : ok32 99 ∧ (Int8.ofInt 99).toInt32 = Int32.ofInt 99 := ⟨⟨by decide, by decide⟩, by decide +kernel⟩
theorem bp_100 : ok32 100 ∧ (Int8.ofInt 100).toInt32 = Int32.ofInt 100 := ⟨⟨by decide, by decide⟩, by decide +kernel⟩
theorem bp_120 : ok32 120 ∧ (Int8.ofInt 120).toInt32 = Int32.ofInt 120 := ⟨⟨by decide, by decide⟩, by decide +kernel⟩
theorem bp_124 : ok32 124 ∧ (Int8.ofInt 124).toInt32 = Int32.ofInt 124 := ⟨⟨by decide, by decide⟩, by decide +kernel⟩
theorem sp_m1000 : ok32 (-1000) ∧ (Int16.ofInt (-1000)).toInt32 = Int32.ofInt (-1000) := ⟨⟨by decide, by decide⟩, by decide +kernel⟩
theorem sp_156 : ok32 156 ∧ (Int16.ofInt 156).toInt32 = Int32.ofInt 156 := ⟨⟨by decide, by decide⟩, by decide +kernel⟩
theorem sp_255 : ok32 255 ∧ (Int16.ofInt 255).toInt32 = Int32.ofInt 255 := ⟨⟨by decide, by decide⟩, by decide +kernel⟩
theorem sp_12345 : ok32 12345 ∧ (Int16.ofInt 12345).toInt32 = Int32.ofInt 12345 := ⟨⟨by decide, by decide⟩, by decide +kernel⟩
theorem lc_0 : ok64 0 ∧ Int64.ofNat ((0 : Fin 2) : Nat) = Int64.ofInt 0 := ⟨⟨by decide, by decide⟩, by decide +kernel⟩
theorem lc_1 : ok64 1 ∧ Int64.ofNat ((1 : Fin 2) : Nat) = Int64.ofInt 1 := ⟨⟨by decide, by decide⟩, by decide +kernel⟩
theorem kRX1_66 : ok64 4782969 ∧ Cond.constantLong RX1 66 (Int64.ofInt 4782969) ∈ lw_w := ⟨⟨by decide, by decide⟩, lw_w_in (l := lw_tbl) 772 rfl (by decide +kernel) (by decide +kernel)⟩
theorem kRX1_77 : ok64 9 ∧ Cond.constantLong RX1 77 (Int64.ofInt 9) ∈ lw_w := ⟨⟨by decide, by decide⟩, lw_w_in (l := lw_tbl) 790 rfl (by decide +kernel) (by decide +kernel)⟩
theorem kRX7_128 : ok32 1103515245 ∧ Cond.constant RX7 128 (Int32.ofInt 1103515245) ∈ lw_w := ⟨⟨by decide, by decide⟩, lw_w_in (l := lw_tbl) 877 rfl (by decide +kernel) (by decide +kernel)⟩
theorem kRX7_135 : ok64 10 ∧ Cond.constantLong RX7 135 (Int64.ofInt 10) ∈ lw_w := ⟨⟨by decide, by decide⟩, lw_w_in (l := lw_tbl) 836 rfl (by decide +kernel) (by decide +kernel)⟩
theorem kRX9_121 : ok32 (-2000000000) ∧ Cond.constant RX9 121 (Int32.ofInt (-2000000000)) ∈ lw_w := ⟨⟨by decide, by decide⟩, lw_w_in (l := lw_tbl) 465 rfl (by decide +kernel) (by decide +kernel)⟩
theorem kRX9_328 : ok64 (-9223372036854775808) ∧ Cond.constantLong RX9 328 (Int64.ofInt (-9223372036854775808)) ∈ lw_w := ⟨⟨by decide, by decide⟩, lw_w_in (l := lw_tbl) 1030 rfl (by decide +kernel) (by decide +kernel)⟩
theorem kRX10_116 : ok64 3 ∧ Cond.constantLong RX10 116 (Int64.ofInt 3) ∈ lw_w := ⟨⟨by decide, by decide⟩, lw_w_in (l := lw_tbl) 1215 rfl (by decide +kernel) (by decide +kernel)⟩
theorem kRX10_135 : ok32 (-2000000000) ∧ Cond.constant RX10 135 (Int32.ofInt (-2000000000)) ∈ lw_w := ⟨⟨by decide, by decide⟩, lw_w_in (l := lw_tbl) 1240 rfl (by decide +kernel) (by decide +kernel)⟩
theorem kRX10_316 : ok32 1103515245 ∧ Cond.constant RX10 316 (Int32.ofInt 1103515245) ∈ lw_w := ⟨⟨by decide, by decide⟩, lw_w_in (l := lw_tbl) 1493 rfl (by decide +kernel) (by decide +kernel)⟩
theorem kRX10_358 : ok64 (-9223372036854775808) ∧ Cond.constantLong RX10 358 (Int64.ofInt (-9223372036854775808)) ∈ lw_w := ⟨⟨by decide, by decide⟩, lw_w_in (l := lw_tbl) 1580 rfl (by decide +kernel) (by decide +kernel)⟩
theorem gsRX1_68 : Cond.fieldLink RX1 68 "MissedSale$Dealing" "WEIGHT" "[J" ∈ lw_w := lw_w_in (l := lw_tbl) 773 rfl (by decide +kernel) (by decide +kernel)
theorem gsRX5_26 : Cond.fieldLink RX5 26 "MissedSale$Lots" "ABOVE" "[I" ∈ lw_w := lw_w_in (l := lw_tbl) 967 rfl (by decide +kernel) (by decide +kernel)
theorem gsRX5_45 : Cond.fieldLink RX5 45 "MissedSale$Lots" "OWN" "[I" ∈ lw_w := lw_w_in (l := lw_tbl) 965 rfl (by decide +kernel) (by decide +kernel)
theorem gsRX8_82 : Cond.fieldLink RX8 82 "MissedSale$Ways" "MOVE_ORDER" "[I" ∈ lw_w := lw_w_in (l := lw_tbl) 854 rfl (by decide +kernel) (by decide +kernel)
theorem gsRX8_98 : Cond.fieldLinkNest RX8 98 "MissedSale" "MOST" "[I" "MissedSale" ∈ lw_tbl := List.mem_of_getElem? (i := 861) (by decide +kernel)
theorem gsRX9_206 : Cond.fieldLink RX9 206 "MissedSale" "MOST" "[I" ∈ lw_w := lw_w_in (l := lw_tbl) 414 rfl (by decide +kernel) (by decide +kernel)
theorem kRJ6_265 : ok32 1431655765 ∧ Cond.constant RJ6 265 (Int32.ofInt 1431655765) ∈ lw_w := ⟨⟨by decide, by decide⟩, lw_w_in (l := lw_tbl) 723 rfl (by decide +kernel) (by decide +kernel)⟩
theorem kRJ6_266 : ok32 858993459 ∧ Cond.constant RJ6 266 (Int32.ofInt 858993459) ∈ lw_w := ⟨⟨by decide, by decide⟩, lw_w_in (l := lw_tbl) 724 rfl (by decide +kernel) (by decide +kernel)⟩
theorem kRJ6_267 : ok32 252645135 ∧ Cond.constant RJ6 267 (Int32.ofInt 252645135) ∈ lw_w := ⟨⟨by decide, by decide⟩, lw_w_in (l := lw_tbl) 725 rfl (by decide +kernel) (by decide +kernel)⟩
theorem gwX0 : wsX00.all goodWord = true := by decide +kernel
theorem iwX0 : ∀ w ∈ wsX00, w ∈ lw_w := fun w h => List.mem_filter.mpr ⟨inX0 w h, List.all_eq_true.mp gwX0 w h⟩
theorem vc_0 : vwCl[0]? = some (RX0, TX0, 3) := rfl
theorem gwX1 : wsX10.all goodWord = true := by decide +kernel
theorem iwX1 : ∀ w ∈ wsX10, w ∈ lw_w := fun w h => List.mem_filter.mpr ⟨inX1 w h, List.all_eq_true.mp gwX1 w h⟩
theorem vc_1 : vwCl[1]? = some (RX1, TX1, 3) := rfl
theorem gwX2 : wsX20.all goodWord = true := by decide +kernel
theorem iwX2 : ∀ w ∈ wsX20, w ∈ lw_w := fun w h => List.mem_filter.mpr ⟨inX2 w h, List.all_eq_true.mp gwX2 w h⟩
theorem vc_2 : vwCl[2]? = some (RX2, TX2, 4) := rfl
theorem gwX3 : wsX30.all goodWord = true := by decide +kernel
theorem iwX3 : ∀ w ∈ wsX30, w ∈ lw_w := fun w h => List.mem_filter.mpr ⟨inX3 w h, List.all_eq_true.mp gwX3 w h⟩
theorem vc_3 : vwCl[3]? = some (RX3, TX3, 3) := rfl
theorem gwX4 : wsX40.all goodWord = true := by decide +kernel
theorem iwX4 : ∀ w ∈ wsX40, w ∈ lw_w := fun w h => List.mem_filter.mpr ⟨inX4 w h, List.all_eq_true.mp gwX4 w h⟩
theorem vc_4 : vwCl[4]? = some (RX4, TX4, 10) := rfl
theorem gwX5 : wsX50.all goodWord = true := by decide +kernel
theorem iwX5 : ∀ w ∈ wsX50, w ∈ lw_w := fun w h => List.mem_filter.mpr ⟨inX5 w h, List.all_eq_true.mp gwX5 w h⟩
theorem vc_5 : vwCl[5]? = some (RX5, TX5, 5) := rfl
theorem gwX6 : wsX60.all goodWord = true := by decide +kernel
theorem iwX6 : ∀ w ∈ wsX60, w ∈ lw_w := fun w h => List.mem_filter.mpr ⟨inX6 w h, List.all_eq_true.mp gwX6 w h⟩
theorem vc_6 : vwCl[6]? = some (RX6, TX6, 5) := rfl
theorem gwX7 : wsX70.all goodWord = true := by decide +kernel
theorem iwX7 : ∀ w ∈ wsX70, w ∈ lw_w := fun w h => List.mem_filter.mpr ⟨inX7 w h, List.all_eq_true.mp gwX7 w h⟩
theorem vc_7 : vwCl[7]? = some (RX7, TX7, 12) := rfl
theorem gwX8 : wsX80.all goodWord = true := by decide +kernel
theorem iwX8 : ∀ w ∈ wsX80, w ∈ lw_w := fun w h => List.mem_filter.mpr ⟨inX8 w h, List.all_eq_true.mp gwX8 w h⟩
theorem vc_8 : vwCl[8]? = some (RX8, TX8, 6) := rfl
theorem gwX9 : wsX90.all goodWord = true := by decide +kernel
theorem iwX9 : ∀ w ∈ wsX90, w ∈ lw_w := fun w h => List.mem_filter.mpr ⟨inX9 w h, List.all_eq_true.mp gwX9 w h⟩
theorem vc_9 : vwCl[9]? = some (RX9, TX9, 10) := rfl
theorem gwX10 : wsX100.all goodWord = true := by decide +kernel
theorem iwX10 : ∀ w ∈ wsX100, w ∈ lw_w := fun w h => List.mem_filter.mpr ⟨inX10 w h, List.all_eq_true.mp gwX10 w h⟩
theorem vc_10 : vwCl[10]? = some (RX10, TX10, 45) := rfl
theorem lfRX9_10 : FL RX9 10 9 0 := ⟨RX9, TX9, 10, rfl, by decide, iwX9, Or.inl (lw_w_in (l := lw_tbl) 364 rfl (by decide +kernel) (by decide +kernel))⟩
theorem lfRX9_19 : FL RX9 19 9 1 := ⟨RX9, TX9, 10, rfl, by decide, iwX9, Or.inl (lw_w_in (l := lw_tbl) 365 rfl (by decide +kernel) (by decide +kernel))⟩
theorem lfRX9_28 : FL RX9 28 9 2 := ⟨RX9, TX9, 10, rfl, by decide, iwX9, Or.inl (lw_w_in (l := lw_tbl) 366 rfl (by decide +kernel) (by decide +kernel))⟩
theorem lfRX9_37 : FL RX9 37 9 3 := ⟨RX9, TX9, 10, rfl, by decide, iwX9, Or.inl (lw_w_in (l := lw_tbl) 367 rfl (by decide +kernel) (by decide +kernel))⟩
theorem lfRX9_44 : FL RX9 44 9 4 := ⟨RX9, TX9, 10, rfl, by decide, iwX9, Or.inl (lw_w_in (l := lw_tbl) 368 rfl (by decide +kernel) (by decide +kernel))⟩
theorem lfRX9_51 : FL RX9 51 9 5 := ⟨RX9, TX9, 10, rfl, by decide, iwX9, Or.inl (lw_w_in (l := lw_tbl) 369 rfl (by decide +kernel) (by decide +kernel))⟩
theorem lfRX9_58 : FL RX9 58 9 6 := ⟨RX9, TX9, 10, rfl, by decide, iwX9, Or.inl (lw_w_in (l := lw_tbl) 370 rfl (by decide +kernel) (by decide +kernel))⟩
theorem lfRX9_65 : FL RX9 65 9 7 := ⟨RX9, TX9, 10, rfl, by decide, iwX9, Or.inl (lw_w_in (l := lw_tbl) 371 rfl (by decide +kernel) (by decide +kernel))⟩
theorem lfRX9_69 : FL RX9 69 9 9 := ⟨RX9, TX9, 10, rfl, by decide, iwX9, Or.inl (lw_w_in (l := lw_tbl) 373 rfl (by decide +kernel) (by decide +kernel))⟩
theorem lfRX9_75 : FL RX9 75 9 8 := ⟨RX9, TX9, 10, rfl, by decide, iwX9, Or.inl (lw_w_in (l := lw_tbl) 372 rfl (by decide +kernel) (by decide +kernel))⟩
theorem lfRX9_96 : FL RX9 96 6 1 := ⟨RX6, TX6, 5, rfl, by decide, iwX6, Or.inr ⟨"MissedSale", List.mem_of_getElem? (i := 346) (by decide +kernel)⟩⟩
theorem lfRX9_155 : FL RX9 155 7 5 := ⟨RX7, TX7, 12, rfl, by decide, iwX7, Or.inr ⟨"MissedSale", List.mem_of_getElem? (i := 191) (by decide +kernel)⟩⟩
theorem lfRX9_174 : FL RX9 174 7 7 := ⟨RX7, TX7, 12, rfl, by decide, iwX7, Or.inr ⟨"MissedSale", List.mem_of_getElem? (i := 195) (by decide +kernel)⟩⟩
theorem lfRX9_177 : FL RX9 177 7 6 := ⟨RX7, TX7, 12, rfl, by decide, iwX7, Or.inr ⟨"MissedSale", List.mem_of_getElem? (i := 193) (by decide +kernel)⟩⟩
theorem lfRX9_183 : FL RX9 183 7 2 := ⟨RX7, TX7, 12, rfl, by decide, iwX7, Or.inr ⟨"MissedSale", List.mem_of_getElem? (i := 187) (by decide +kernel)⟩⟩
theorem lfRX9_186 : FL RX9 186 7 11 := ⟨RX7, TX7, 12, rfl, by decide, iwX7, Or.inr ⟨"MissedSale", List.mem_of_getElem? (i := 205) (by decide +kernel)⟩⟩
theorem lfRX9_189 : FL RX9 189 7 10 := ⟨RX7, TX7, 12, rfl, by decide, iwX7, Or.inr ⟨"MissedSale", List.mem_of_getElem? (i := 203) (by decide +kernel)⟩⟩
theorem lfRX9_192 : FL RX9 192 7 8 := ⟨RX7, TX7, 12, rfl, by decide, iwX7, Or.inr ⟨"MissedSale", List.mem_of_getElem? (i := 199) (by decide +kernel)⟩⟩
theorem lfRX9_203 : FL RX9 203 8 2 := ⟨RX8, TX8, 6, rfl, by decide, iwX8, Or.inr ⟨"MissedSale", List.mem_of_getElem? (i := 240) (by decide +kernel)⟩⟩
theorem lfRX9_209 : FL RX9 209 7 0 := ⟨RX7, TX7, 12, rfl, by decide, iwX7, Or.inr ⟨"MissedSale", List.mem_of_getElem? (i := 182) (by decide +kernel)⟩⟩
theorem lfRX9_222 : FL RX9 222 2 2 := ⟨RX2, TX2, 4, rfl, by decide, iwX2, Or.inr ⟨"MissedSale", List.mem_of_getElem? (i := 116) (by decide +kernel)⟩⟩
theorem lfRX9_253 : FL RX9 253 8 5 := ⟨RX8, TX8, 6, rfl, by decide, iwX8, Or.inr ⟨"MissedSale", List.mem_of_getElem? (i := 244) (by decide +kernel)⟩⟩
theorem lfRX9_275 : FL RX9 275 3 2 := ⟨RX3, TX3, 3, rfl, by decide, iwX3, Or.inr ⟨"MissedSale", List.mem_of_getElem? (i := 304) (by decide +kernel)⟩⟩
theorem lfRX9_282 : FL RX9 282 0 1 := ⟨RX0, TX0, 3, rfl, by decide, iwX0, Or.inr ⟨"MissedSale", List.mem_of_getElem? (i := 283) (by decide +kernel)⟩⟩
theorem lfRX9_289 : FL RX9 289 0 2 := ⟨RX0, TX0, 3, rfl, by decide, iwX0, Or.inr ⟨"MissedSale", List.mem_of_getElem? (i := 285) (by decide +kernel)⟩⟩
theorem lfRX9_330 : FL RX9 330 6 3 := ⟨RX6, TX6, 5, rfl, by decide, iwX6, Or.inr ⟨"MissedSale", List.mem_of_getElem? (i := 350) (by decide +kernel)⟩⟩
theorem lfRX9_333 : FL RX9 333 6 0 := ⟨RX6, TX6, 5, rfl, by decide, iwX6, Or.inr ⟨"MissedSale", List.mem_of_getElem? (i := 344) (by decide +kernel)⟩⟩
theorem lfRX9_343 : FL RX9 343 6 2 := ⟨RX6, TX6, 5, rfl, by decide, iwX6, Or.inr ⟨"MissedSale", List.mem_of_getElem? (i := 348) (by decide +kernel)⟩⟩
theorem lfRX9_352 : FL RX9 352 2 3 := ⟨RX2, TX2, 4, rfl, by decide, iwX2, Or.inr ⟨"MissedSale", List.mem_of_getElem? (i := 122) (by decide +kernel)⟩⟩
theorem lfRX9_355 : FL RX9 355 4 5 := ⟨RX4, TX4, 10, rfl, by decide, iwX4, Or.inr ⟨"MissedSale", List.mem_of_getElem? (i := 145) (by decide +kernel)⟩⟩
theorem lfRX9_358 : FL RX9 358 5 2 := ⟨RX5, TX5, 5, rfl, by decide, iwX5, Or.inr ⟨"MissedSale", List.mem_of_getElem? (i := 321) (by decide +kernel)⟩⟩
theorem lfRX9_361 : FL RX9 361 5 3 := ⟨RX5, TX5, 5, rfl, by decide, iwX5, Or.inr ⟨"MissedSale", List.mem_of_getElem? (i := 323) (by decide +kernel)⟩⟩
theorem lfRX0_9 : FL RX0 9 0 0 := ⟨RX0, TX0, 3, rfl, by decide, iwX0, Or.inl (lw_w_in (l := lw_tbl) 281 rfl (by decide +kernel) (by decide +kernel))⟩
theorem lfRX0_13 : FL RX0 13 0 2 := ⟨RX0, TX0, 3, rfl, by decide, iwX0, Or.inl (lw_w_in (l := lw_tbl) 284 rfl (by decide +kernel) (by decide +kernel))⟩
theorem lfRX0_17 : FL RX0 17 0 1 := ⟨RX0, TX0, 3, rfl, by decide, iwX0, Or.inl (lw_w_in (l := lw_tbl) 282 rfl (by decide +kernel) (by decide +kernel))⟩
theorem lfRX1_9 : FL RX1 9 1 0 := ⟨RX1, TX1, 3, rfl, by decide, iwX1, Or.inl (lw_w_in (l := lw_tbl) 264 rfl (by decide +kernel) (by decide +kernel))⟩
theorem lfRX1_15 : FL RX1 15 1 1 := ⟨RX1, TX1, 3, rfl, by decide, iwX1, Or.inl (lw_w_in (l := lw_tbl) 265 rfl (by decide +kernel) (by decide +kernel))⟩
theorem lfRX1_18 : FL RX1 18 7 8 := ⟨RX7, TX7, 12, rfl, by decide, iwX7, Or.inr ⟨"MissedSale", List.mem_of_getElem? (i := 196) (by decide +kernel)⟩⟩
theorem lfRX1_30 : FL RX1 30 7 0 := ⟨RX7, TX7, 12, rfl, by decide, iwX7, Or.inr ⟨"MissedSale", List.mem_of_getElem? (i := 180) (by decide +kernel)⟩⟩
theorem lfRX1_34 : FL RX1 34 2 3 := ⟨RX2, TX2, 4, rfl, by decide, iwX2, Or.inr ⟨"MissedSale", List.mem_of_getElem? (i := 117) (by decide +kernel)⟩⟩
theorem lfRX1_47 : FL RX1 47 1 2 := ⟨RX1, TX1, 3, rfl, by decide, iwX1, Or.inl (lw_w_in (l := lw_tbl) 266 rfl (by decide +kernel) (by decide +kernel))⟩
theorem lfRX1_51 : FL RX1 51 2 2 := ⟨RX2, TX2, 4, rfl, by decide, iwX2, Or.inr ⟨"MissedSale", List.mem_of_getElem? (i := 113) (by decide +kernel)⟩⟩
theorem lfRX1_58 : FL RX1 58 7 2 := ⟨RX7, TX7, 12, rfl, by decide, iwX7, Or.inr ⟨"MissedSale", List.mem_of_getElem? (i := 186) (by decide +kernel)⟩⟩
theorem lfRX2_11 : FL RX2 11 2 0 := ⟨RX2, TX2, 4, rfl, by decide, iwX2, Or.inl (lw_w_in (l := lw_tbl) 110 rfl (by decide +kernel) (by decide +kernel))⟩
theorem lfRX2_15 : FL RX2 15 2 1 := ⟨RX2, TX2, 4, rfl, by decide, iwX2, Or.inl (lw_w_in (l := lw_tbl) 111 rfl (by decide +kernel) (by decide +kernel))⟩
theorem lfRX2_18 : FL RX2 18 2 2 := ⟨RX2, TX2, 4, rfl, by decide, iwX2, Or.inl (lw_w_in (l := lw_tbl) 112 rfl (by decide +kernel) (by decide +kernel))⟩
theorem lfRX2_22 : FL RX2 22 2 3 := ⟨RX2, TX2, 4, rfl, by decide, iwX2, Or.inl (lw_w_in (l := lw_tbl) 118 rfl (by decide +kernel) (by decide +kernel))⟩
theorem lfRX3_12 : FL RX3 12 3 0 := ⟨RX3, TX3, 3, rfl, by decide, iwX3, Or.inl (lw_w_in (l := lw_tbl) 301 rfl (by decide +kernel) (by decide +kernel))⟩
theorem lfRX3_18 : FL RX3 18 3 1 := ⟨RX3, TX3, 3, rfl, by decide, iwX3, Or.inl (lw_w_in (l := lw_tbl) 302 rfl (by decide +kernel) (by decide +kernel))⟩
theorem lfRX3_32 : FL RX3 32 3 2 := ⟨RX3, TX3, 3, rfl, by decide, iwX3, Or.inl (lw_w_in (l := lw_tbl) 303 rfl (by decide +kernel) (by decide +kernel))⟩
theorem lfRX3_36 : FL RX3 36 2 2 := ⟨RX2, TX2, 4, rfl, by decide, iwX2, Or.inr ⟨"MissedSale", List.mem_of_getElem? (i := 114) (by decide +kernel)⟩⟩
theorem lfRX3_48 : FL RX3 48 2 3 := ⟨RX2, TX2, 4, rfl, by decide, iwX2, Or.inr ⟨"MissedSale", List.mem_of_getElem? (i := 119) (by decide +kernel)⟩⟩
theorem lfRX4_9 : FL RX4 9 4 0 := ⟨RX4, TX4, 10, rfl, by decide, iwX4, Or.inl (lw_w_in (l := lw_tbl) 139 rfl (by decide +kernel) (by decide +kernel))⟩
theorem lfRX4_13 : FL RX4 13 4 1 := ⟨RX4, TX4, 10, rfl, by decide, iwX4, Or.inl (lw_w_in (l := lw_tbl) 140 rfl (by decide +kernel) (by decide +kernel))⟩
theorem lfRX4_16 : FL RX4 16 4 2 := ⟨RX4, TX4, 10, rfl, by decide, iwX4, Or.inl (lw_w_in (l := lw_tbl) 141 rfl (by decide +kernel) (by decide +kernel))⟩
theorem lfRX4_19 : FL RX4 19 4 3 := ⟨RX4, TX4, 10, rfl, by decide, iwX4, Or.inl (lw_w_in (l := lw_tbl) 142 rfl (by decide +kernel) (by decide +kernel))⟩
theorem lfRX4_22 : FL RX4 22 4 4 := ⟨RX4, TX4, 10, rfl, by decide, iwX4, Or.inl (lw_w_in (l := lw_tbl) 143 rfl (by decide +kernel) (by decide +kernel))⟩
theorem lfRX4_25 : FL RX4 25 4 5 := ⟨RX4, TX4, 10, rfl, by decide, iwX4, Or.inl (lw_w_in (l := lw_tbl) 144 rfl (by decide +kernel) (by decide +kernel))⟩
theorem lfRX4_29 : FL RX4 29 4 6 := ⟨RX4, TX4, 10, rfl, by decide, iwX4, Or.inl (lw_w_in (l := lw_tbl) 146 rfl (by decide +kernel) (by decide +kernel))⟩
theorem lfRX4_32 : FL RX4 32 4 7 := ⟨RX4, TX4, 10, rfl, by decide, iwX4, Or.inl (lw_w_in (l := lw_tbl) 147 rfl (by decide +kernel) (by decide +kernel))⟩
theorem lfRX4_39 : FL RX4 39 4 8 := ⟨RX4, TX4, 10, rfl, by decide, iwX4, Or.inl (lw_w_in (l := lw_tbl) 148 rfl (by decide +kernel) (by decide +kernel))⟩
theorem lfRX4_42 : FL RX4 42 4 9 := ⟨RX4, TX4, 10, rfl, by decide, iwX4, Or.inl (lw_w_in (l := lw_tbl) 149 rfl (by decide +kernel) (by decide +kernel))⟩
theorem lfRX5_11 : FL RX5 11 5 0 := ⟨RX5, TX5, 5, rfl, by decide, iwX5, Or.inl (lw_w_in (l := lw_tbl) 318 rfl (by decide +kernel) (by decide +kernel))⟩
theorem lfRX5_15 : FL RX5 15 5 1 := ⟨RX5, TX5, 5, rfl, by decide, iwX5, Or.inl (lw_w_in (l := lw_tbl) 319 rfl (by decide +kernel) (by decide +kernel))⟩
theorem lfRX5_18 : FL RX5 18 5 2 := ⟨RX5, TX5, 5, rfl, by decide, iwX5, Or.inl (lw_w_in (l := lw_tbl) 320 rfl (by decide +kernel) (by decide +kernel))⟩
theorem lfRX5_29 : FL RX5 29 5 3 := ⟨RX5, TX5, 5, rfl, by decide, iwX5, Or.inl (lw_w_in (l := lw_tbl) 322 rfl (by decide +kernel) (by decide +kernel))⟩
theorem lfRX5_38 : FL RX5 38 5 4 := ⟨RX5, TX5, 5, rfl, by decide, iwX5, Or.inl (lw_w_in (l := lw_tbl) 324 rfl (by decide +kernel) (by decide +kernel))⟩
theorem lfRX6_9 : FL RX6 9 6 0 := ⟨RX6, TX6, 5, rfl, by decide, iwX6, Or.inl (lw_w_in (l := lw_tbl) 343 rfl (by decide +kernel) (by decide +kernel))⟩
theorem lfRX6_15 : FL RX6 15 6 1 := ⟨RX6, TX6, 5, rfl, by decide, iwX6, Or.inl (lw_w_in (l := lw_tbl) 345 rfl (by decide +kernel) (by decide +kernel))⟩
theorem lfRX6_19 : FL RX6 19 6 4 := ⟨RX6, TX6, 5, rfl, by decide, iwX6, Or.inl (lw_w_in (l := lw_tbl) 351 rfl (by decide +kernel) (by decide +kernel))⟩
theorem lfRX6_22 : FL RX6 22 6 2 := ⟨RX6, TX6, 5, rfl, by decide, iwX6, Or.inl (lw_w_in (l := lw_tbl) 347 rfl (by decide +kernel) (by decide +kernel))⟩
theorem lfRX6_25 : FL RX6 25 6 3 := ⟨RX6, TX6, 5, rfl, by decide, iwX6, Or.inl (lw_w_in (l := lw_tbl) 349 rfl (by decide +kernel) (by decide +kernel))⟩
theorem lfRX7_12 : FL RX7 12 7 0 := ⟨RX7, TX7, 12, rfl, by decide, iwX7, Or.inl (lw_w_in (l := lw_tbl) 179 rfl (by decide +kernel) (by decide +kernel))⟩
theorem lfRX7_18 : FL RX7 18 7 2 := ⟨RX7, TX7, 12, rfl, by decide, iwX7, Or.inl (lw_w_in (l := lw_tbl) 184 rfl (by decide +kernel) (by decide +kernel))⟩
theorem lfRX7_22 : FL RX7 22 7 3 := ⟨RX7, TX7, 12, rfl, by decide, iwX7, Or.inl (lw_w_in (l := lw_tbl) 188 rfl (by decide +kernel) (by decide +kernel))⟩
theorem lfRX7_25 : FL RX7 25 7 4 := ⟨RX7, TX7, 12, rfl, by decide, iwX7, Or.inl (lw_w_in (l := lw_tbl) 189 rfl (by decide +kernel) (by decide +kernel))⟩
theorem lfRX7_28 : FL RX7 28 7 5 := ⟨RX7, TX7, 12, rfl, by decide, iwX7, Or.inl (lw_w_in (l := lw_tbl) 190 rfl (by decide +kernel) (by decide +kernel))⟩
theorem lfRX7_31 : FL RX7 31 7 6 := ⟨RX7, TX7, 12, rfl, by decide, iwX7, Or.inl (lw_w_in (l := lw_tbl) 192 rfl (by decide +kernel) (by decide +kernel))⟩
theorem lfRX7_34 : FL RX7 34 7 1 := ⟨RX7, TX7, 12, rfl, by decide, iwX7, Or.inl (lw_w_in (l := lw_tbl) 183 rfl (by decide +kernel) (by decide +kernel))⟩
theorem lfRX7_51 : FL RX7 51 7 8 := ⟨RX7, TX7, 12, rfl, by decide, iwX7, Or.inl (lw_w_in (l := lw_tbl) 197 rfl (by decide +kernel) (by decide +kernel))⟩
theorem lfRX7_55 : FL RX7 55 7 9 := ⟨RX7, TX7, 12, rfl, by decide, iwX7, Or.inl (lw_w_in (l := lw_tbl) 200 rfl (by decide +kernel) (by decide +kernel))⟩
theorem lfRX7_58 : FL RX7 58 7 10 := ⟨RX7, TX7, 12, rfl, by decide, iwX7, Or.inl (lw_w_in (l := lw_tbl) 202 rfl (by decide +kernel) (by decide +kernel))⟩
theorem lfRX7_61 : FL RX7 61 7 11 := ⟨RX7, TX7, 12, rfl, by decide, iwX7, Or.inl (lw_w_in (l := lw_tbl) 204 rfl (by decide +kernel) (by decide +kernel))⟩
theorem lfRX7_64 : FL RX7 64 2 2 := ⟨RX2, TX2, 4, rfl, by decide, iwX2, Or.inr ⟨"MissedSale", List.mem_of_getElem? (i := 115) (by decide +kernel)⟩⟩
theorem lfRX7_93 : FL RX7 93 2 3 := ⟨RX2, TX2, 4, rfl, by decide, iwX2, Or.inr ⟨"MissedSale", List.mem_of_getElem? (i := 121) (by decide +kernel)⟩⟩
theorem lfRX7_116 : FL RX7 116 7 7 := ⟨RX7, TX7, 12, rfl, by decide, iwX7, Or.inl (lw_w_in (l := lw_tbl) 194 rfl (by decide +kernel) (by decide +kernel))⟩
theorem lfRX7_129 : FL RX7 129 6 4 := ⟨RX6, TX6, 5, rfl, by decide, iwX6, Or.inr ⟨"MissedSale", List.mem_of_getElem? (i := 352) (by decide +kernel)⟩⟩
theorem lfRX8_11 : FL RX8 11 8 1 := ⟨RX8, TX8, 6, rfl, by decide, iwX8, Or.inl (lw_w_in (l := lw_tbl) 238 rfl (by decide +kernel) (by decide +kernel))⟩
theorem lfRX8_15 : FL RX8 15 8 2 := ⟨RX8, TX8, 6, rfl, by decide, iwX8, Or.inl (lw_w_in (l := lw_tbl) 239 rfl (by decide +kernel) (by decide +kernel))⟩
theorem lfRX8_18 : FL RX8 18 8 0 := ⟨RX8, TX8, 6, rfl, by decide, iwX8, Or.inl (lw_w_in (l := lw_tbl) 237 rfl (by decide +kernel) (by decide +kernel))⟩
theorem lfRX8_22 : FL RX8 22 8 3 := ⟨RX8, TX8, 6, rfl, by decide, iwX8, Or.inl (lw_w_in (l := lw_tbl) 241 rfl (by decide +kernel) (by decide +kernel))⟩
theorem lfRX8_32 : FL RX8 32 8 4 := ⟨RX8, TX8, 6, rfl, by decide, iwX8, Or.inl (lw_w_in (l := lw_tbl) 242 rfl (by decide +kernel) (by decide +kernel))⟩
theorem lfRX8_39 : FL RX8 39 7 2 := ⟨RX7, TX7, 12, rfl, by decide, iwX7, Or.inr ⟨"MissedSale", List.mem_of_getElem? (i := 185) (by decide +kernel)⟩⟩
theorem lfRX8_50 : FL RX8 50 7 8 := ⟨RX7, TX7, 12, rfl, by decide, iwX7, Or.inr ⟨"MissedSale", List.mem_of_getElem? (i := 198) (by decide +kernel)⟩⟩
theorem lfRX8_61 : FL RX8 61 7 0 := ⟨RX7, TX7, 12, rfl, by decide, iwX7, Or.inr ⟨"MissedSale", List.mem_of_getElem? (i := 181) (by decide +kernel)⟩⟩
theorem lfRX8_65 : FL RX8 65 2 3 := ⟨RX2, TX2, 4, rfl, by decide, iwX2, Or.inr ⟨"MissedSale", List.mem_of_getElem? (i := 120) (by decide +kernel)⟩⟩
theorem lfRX8_70 : FL RX8 70 7 9 := ⟨RX7, TX7, 12, rfl, by decide, iwX7, Or.inr ⟨"MissedSale", List.mem_of_getElem? (i := 201) (by decide +kernel)⟩⟩
theorem lfRX8_89 : FL RX8 89 8 5 := ⟨RX8, TX8, 6, rfl, by decide, iwX8, Or.inl (lw_w_in (l := lw_tbl) 243 rfl (by decide +kernel) (by decide +kernel))⟩
theorem lfRX10_9 : FL RX10 9 10 1 := ⟨RX10, TX10, 45, rfl, by decide, iwX10, Or.inl (lw_w_in (l := lw_tbl) 1058 rfl (by decide +kernel) (by decide +kernel))⟩
theorem lfRX10_15 : FL RX10 15 10 2 := ⟨RX10, TX10, 45, rfl, by decide, iwX10, Or.inl (lw_w_in (l := lw_tbl) 1059 rfl (by decide +kernel) (by decide +kernel))⟩
theorem lfRX10_18 : FL RX10 18 10 3 := ⟨RX10, TX10, 45, rfl, by decide, iwX10, Or.inl (lw_w_in (l := lw_tbl) 1060 rfl (by decide +kernel) (by decide +kernel))⟩
theorem lfRX10_21 : FL RX10 21 10 4 := ⟨RX10, TX10, 45, rfl, by decide, iwX10, Or.inl (lw_w_in (l := lw_tbl) 1061 rfl (by decide +kernel) (by decide +kernel))⟩
theorem lfRX10_24 : FL RX10 24 10 6 := ⟨RX10, TX10, 45, rfl, by decide, iwX10, Or.inl (lw_w_in (l := lw_tbl) 1063 rfl (by decide +kernel) (by decide +kernel))⟩
theorem lfRX10_27 : FL RX10 27 10 8 := ⟨RX10, TX10, 45, rfl, by decide, iwX10, Or.inl (lw_w_in (l := lw_tbl) 1065 rfl (by decide +kernel) (by decide +kernel))⟩
theorem lfRX10_30 : FL RX10 30 10 11 := ⟨RX10, TX10, 45, rfl, by decide, iwX10, Or.inl (lw_w_in (l := lw_tbl) 1068 rfl (by decide +kernel) (by decide +kernel))⟩
theorem lfRX10_33 : FL RX10 33 10 12 := ⟨RX10, TX10, 45, rfl, by decide, iwX10, Or.inl (lw_w_in (l := lw_tbl) 1069 rfl (by decide +kernel) (by decide +kernel))⟩
theorem lfRX10_36 : FL RX10 36 10 13 := ⟨RX10, TX10, 45, rfl, by decide, iwX10, Or.inl (lw_w_in (l := lw_tbl) 1070 rfl (by decide +kernel) (by decide +kernel))⟩
theorem lfRX10_39 : FL RX10 39 10 14 := ⟨RX10, TX10, 45, rfl, by decide, iwX10, Or.inl (lw_w_in (l := lw_tbl) 1071 rfl (by decide +kernel) (by decide +kernel))⟩
theorem lfRX10_42 : FL RX10 42 10 19 := ⟨RX10, TX10, 45, rfl, by decide, iwX10, Or.inl (lw_w_in (l := lw_tbl) 1076 rfl (by decide +kernel) (by decide +kernel))⟩
theorem lfRX10_45 : FL RX10 45 10 20 := ⟨RX10, TX10, 45, rfl, by decide, iwX10, Or.inl (lw_w_in (l := lw_tbl) 1077 rfl (by decide +kernel) (by decide +kernel))⟩
theorem lfRX10_48 : FL RX10 48 10 21 := ⟨RX10, TX10, 45, rfl, by decide, iwX10, Or.inl (lw_w_in (l := lw_tbl) 1078 rfl (by decide +kernel) (by decide +kernel))⟩
theorem lfRX10_51 : FL RX10 51 10 22 := ⟨RX10, TX10, 45, rfl, by decide, iwX10, Or.inl (lw_w_in (l := lw_tbl) 1079 rfl (by decide +kernel) (by decide +kernel))⟩
theorem lfRX10_54 : FL RX10 54 10 23 := ⟨RX10, TX10, 45, rfl, by decide, iwX10, Or.inl (lw_w_in (l := lw_tbl) 1080 rfl (by decide +kernel) (by decide +kernel))⟩
theorem lfRX10_57 : FL RX10 57 10 24 := ⟨RX10, TX10, 45, rfl, by decide, iwX10, Or.inl (lw_w_in (l := lw_tbl) 1081 rfl (by decide +kernel) (by decide +kernel))⟩
theorem lfRX10_60 : FL RX10 60 10 25 := ⟨RX10, TX10, 45, rfl, by decide, iwX10, Or.inl (lw_w_in (l := lw_tbl) 1082 rfl (by decide +kernel) (by decide +kernel))⟩
theorem lfRX10_63 : FL RX10 63 10 29 := ⟨RX10, TX10, 45, rfl, by decide, iwX10, Or.inl (lw_w_in (l := lw_tbl) 1086 rfl (by decide +kernel) (by decide +kernel))⟩
theorem lfRX10_66 : FL RX10 66 10 30 := ⟨RX10, TX10, 45, rfl, by decide, iwX10, Or.inl (lw_w_in (l := lw_tbl) 1087 rfl (by decide +kernel) (by decide +kernel))⟩
theorem lfRX10_69 : FL RX10 69 10 33 := ⟨RX10, TX10, 45, rfl, by decide, iwX10, Or.inl (lw_w_in (l := lw_tbl) 1090 rfl (by decide +kernel) (by decide +kernel))⟩
theorem lfRX10_72 : FL RX10 72 10 35 := ⟨RX10, TX10, 45, rfl, by decide, iwX10, Or.inl (lw_w_in (l := lw_tbl) 1092 rfl (by decide +kernel) (by decide +kernel))⟩
theorem lfRX10_75 : FL RX10 75 10 37 := ⟨RX10, TX10, 45, rfl, by decide, iwX10, Or.inl (lw_w_in (l := lw_tbl) 1094 rfl (by decide +kernel) (by decide +kernel))⟩
theorem lfRX10_78 : FL RX10 78 10 38 := ⟨RX10, TX10, 45, rfl, by decide, iwX10, Or.inl (lw_w_in (l := lw_tbl) 1095 rfl (by decide +kernel) (by decide +kernel))⟩
theorem lfRX10_81 : FL RX10 81 10 39 := ⟨RX10, TX10, 45, rfl, by decide, iwX10, Or.inl (lw_w_in (l := lw_tbl) 1096 rfl (by decide +kernel) (by decide +kernel))⟩
theorem lfRX10_84 : FL RX10 84 10 40 := ⟨RX10, TX10, 45, rfl, by decide, iwX10, Or.inl (lw_w_in (l := lw_tbl) 1097 rfl (by decide +kernel) (by decide +kernel))⟩
theorem lfRX10_88 : FL RX10 88 10 41 := ⟨RX10, TX10, 45, rfl, by decide, iwX10, Or.inl (lw_w_in (l := lw_tbl) 1098 rfl (by decide +kernel) (by decide +kernel))⟩
theorem lfRX10_91 : FL RX10 91 10 42 := ⟨RX10, TX10, 45, rfl, by decide, iwX10, Or.inl (lw_w_in (l := lw_tbl) 1099 rfl (by decide +kernel) (by decide +kernel))⟩
theorem lfRX10_94 : FL RX10 94 10 43 := ⟨RX10, TX10, 45, rfl, by decide, iwX10, Or.inl (lw_w_in (l := lw_tbl) 1100 rfl (by decide +kernel) (by decide +kernel))⟩
theorem lfRX10_97 : FL RX10 97 10 0 := ⟨RX10, TX10, 45, rfl, by decide, iwX10, Or.inl (lw_w_in (l := lw_tbl) 1057 rfl (by decide +kernel) (by decide +kernel))⟩
theorem lfRX10_105 : FL RX10 105 10 5 := ⟨RX10, TX10, 45, rfl, by decide, iwX10, Or.inl (lw_w_in (l := lw_tbl) 1062 rfl (by decide +kernel) (by decide +kernel))⟩
theorem lfRX10_143 : FL RX10 143 10 32 := ⟨RX10, TX10, 45, rfl, by decide, iwX10, Or.inl (lw_w_in (l := lw_tbl) 1089 rfl (by decide +kernel) (by decide +kernel))⟩
theorem lfRX10_146 : FL RX10 146 10 31 := ⟨RX10, TX10, 45, rfl, by decide, iwX10, Or.inl (lw_w_in (l := lw_tbl) 1088 rfl (by decide +kernel) (by decide +kernel))⟩
theorem lfRX10_149 : FL RX10 149 10 7 := ⟨RX10, TX10, 45, rfl, by decide, iwX10, Or.inl (lw_w_in (l := lw_tbl) 1064 rfl (by decide +kernel) (by decide +kernel))⟩
theorem lfRX10_152 : FL RX10 152 10 15 := ⟨RX10, TX10, 45, rfl, by decide, iwX10, Or.inl (lw_w_in (l := lw_tbl) 1072 rfl (by decide +kernel) (by decide +kernel))⟩
theorem lfRX10_159 : FL RX10 159 10 17 := ⟨RX10, TX10, 45, rfl, by decide, iwX10, Or.inl (lw_w_in (l := lw_tbl) 1074 rfl (by decide +kernel) (by decide +kernel))⟩
theorem lfRX10_173 : FL RX10 173 10 16 := ⟨RX10, TX10, 45, rfl, by decide, iwX10, Or.inl (lw_w_in (l := lw_tbl) 1073 rfl (by decide +kernel) (by decide +kernel))⟩
theorem lfRX10_197 : FL RX10 197 10 18 := ⟨RX10, TX10, 45, rfl, by decide, iwX10, Or.inl (lw_w_in (l := lw_tbl) 1075 rfl (by decide +kernel) (by decide +kernel))⟩
theorem lfRX10_203 : FL RX10 203 10 9 := ⟨RX10, TX10, 45, rfl, by decide, iwX10, Or.inl (lw_w_in (l := lw_tbl) 1066 rfl (by decide +kernel) (by decide +kernel))⟩
theorem lfRX10_207 : FL RX10 207 10 10 := ⟨RX10, TX10, 45, rfl, by decide, iwX10, Or.inl (lw_w_in (l := lw_tbl) 1067 rfl (by decide +kernel) (by decide +kernel))⟩
theorem lfRX10_267 : FL RX10 267 10 44 := ⟨RX10, TX10, 45, rfl, by decide, iwX10, Or.inl (lw_w_in (l := lw_tbl) 1101 rfl (by decide +kernel) (by decide +kernel))⟩
theorem lfRX10_317 : FL RX10 317 10 26 := ⟨RX10, TX10, 45, rfl, by decide, iwX10, Or.inl (lw_w_in (l := lw_tbl) 1083 rfl (by decide +kernel) (by decide +kernel))⟩
theorem lfRX10_320 : FL RX10 320 10 27 := ⟨RX10, TX10, 45, rfl, by decide, iwX10, Or.inl (lw_w_in (l := lw_tbl) 1084 rfl (by decide +kernel) (by decide +kernel))⟩
theorem lfRX10_323 : FL RX10 323 10 28 := ⟨RX10, TX10, 45, rfl, by decide, iwX10, Or.inl (lw_w_in (l := lw_tbl) 1085 rfl (by decide +kernel) (by decide +kernel))⟩
theorem lfRX10_326 : FL RX10 326 10 36 := ⟨RX10, TX10, 45, rfl, by decide, iwX10, Or.inl (lw_w_in (l := lw_tbl) 1093 rfl (by decide +kernel) (by decide +kernel))⟩
theorem lfRX10_348 : FL RX10 348 10 34 := ⟨RX10, TX10, 45, rfl, by decide, iwX10, Or.inl (lw_w_in (l := lw_tbl) 1091 rfl (by decide +kernel) (by decide +kernel))⟩
theorem fp_0_1 : FP 0 1 .int := ⟨RX0, TX0, 3, tyX0, rfl, tyX0_ok, nmX0, by decide, by decide +kernel⟩
theorem fp_0_2 : FP 0 2 .int := ⟨RX0, TX0, 3, tyX0, rfl, tyX0_ok, nmX0, by decide, by decide +kernel⟩
theorem fp_1_2 : FP 1 2 .long := ⟨RX1, TX1, 3, tyX1, rfl, tyX1_ok, nmX1, by decide, by decide +kernel⟩
theorem fp_2_2 : FP 2 2 .int := ⟨RX2, TX2, 4, tyX2, rfl, tyX2_ok, nmX2, by decide, by decide +kernel⟩
theorem fp_2_3 : FP 2 3 .int := ⟨RX2, TX2, 4, tyX2, rfl, tyX2_ok, nmX2, by decide, by decide +kernel⟩
theorem fp_3_2 : FP 3 2 .boolean := ⟨RX3, TX3, 3, tyX3, rfl, tyX3_ok, nmX3, by decide, by decide +kernel⟩
theorem fp_4_3 : FP 4 3 (.array .int) := ⟨RX4, TX4, 10, tyX4, rfl, tyX4_ok, nmX4, by decide, by decide +kernel⟩
theorem fp_4_4 : FP 4 4 (.array .int) := ⟨RX4, TX4, 10, tyX4, rfl, tyX4_ok, nmX4, by decide, by decide +kernel⟩
theorem fp_4_5 : FP 4 5 .int := ⟨RX4, TX4, 10, tyX4, rfl, tyX4_ok, nmX4, by decide, by decide +kernel⟩
theorem fp_4_6 : FP 4 6 .int := ⟨RX4, TX4, 10, tyX4, rfl, tyX4_ok, nmX4, by decide, by decide +kernel⟩
theorem fp_4_7 : FP 4 7 .int := ⟨RX4, TX4, 10, tyX4, rfl, tyX4_ok, nmX4, by decide, by decide +kernel⟩
theorem fp_4_8 : FP 4 8 .int := ⟨RX4, TX4, 10, tyX4, rfl, tyX4_ok, nmX4, by decide, by decide +kernel⟩
theorem fp_4_9 : FP 4 9 .boolean := ⟨RX4, TX4, 10, tyX4, rfl, tyX4_ok, nmX4, by decide, by decide +kernel⟩
theorem fp_5_2 : FP 5 2 .int := ⟨RX5, TX5, 5, tyX5, rfl, tyX5_ok, nmX5, by decide, by decide +kernel⟩
theorem fp_5_3 : FP 5 3 .int := ⟨RX5, TX5, 5, tyX5, rfl, tyX5_ok, nmX5, by decide, by decide +kernel⟩
theorem fp_5_4 : FP 5 4 .int := ⟨RX5, TX5, 5, tyX5, rfl, tyX5_ok, nmX5, by decide, by decide +kernel⟩
theorem fp_6_1 : FP 6 1 .int := ⟨RX6, TX6, 5, tyX6, rfl, tyX6_ok, nmX6, by decide, by decide +kernel⟩
theorem fp_6_2 : FP 6 2 .int := ⟨RX6, TX6, 5, tyX6, rfl, tyX6_ok, nmX6, by decide, by decide +kernel⟩
theorem fp_6_3 : FP 6 3 .int := ⟨RX6, TX6, 5, tyX6, rfl, tyX6_ok, nmX6, by decide, by decide +kernel⟩
theorem fp_6_4 : FP 6 4 .int := ⟨RX6, TX6, 5, tyX6, rfl, tyX6_ok, nmX6, by decide, by decide +kernel⟩
theorem fp_7_7 : FP 7 7 .int := ⟨RX7, TX7, 12, tyX7, rfl, tyX7_ok, nmX7, by decide, by decide +kernel⟩
theorem fp_7_8 : FP 7 8 .int := ⟨RX7, TX7, 12, tyX7, rfl, tyX7_ok, nmX7, by decide, by decide +kernel⟩
theorem fp_7_9 : FP 7 9 .int := ⟨RX7, TX7, 12, tyX7, rfl, tyX7_ok, nmX7, by decide, by decide +kernel⟩
theorem fp_7_10 : FP 7 10 .int := ⟨RX7, TX7, 12, tyX7, rfl, tyX7_ok, nmX7, by decide, by decide +kernel⟩
theorem fp_7_11 : FP 7 11 .int := ⟨RX7, TX7, 12, tyX7, rfl, tyX7_ok, nmX7, by decide, by decide +kernel⟩
theorem fp_8_3 : FP 8 3 .int := ⟨RX8, TX8, 6, tyX8, rfl, tyX8_ok, nmX8, by decide, by decide +kernel⟩
theorem fp_8_4 : FP 8 4 .int := ⟨RX8, TX8, 6, tyX8, rfl, tyX8_ok, nmX8, by decide, by decide +kernel⟩
theorem fp_8_5 : FP 8 5 .int := ⟨RX8, TX8, 6, tyX8, rfl, tyX8_ok, nmX8, by decide, by decide +kernel⟩
theorem fp_10_0 : FP 10 0 .int := ⟨RX10, TX10, 45, tyX10, rfl, tyX10_ok, nmX10, by decide, by decide +kernel⟩
theorem fp_10_5 : FP 10 5 .int := ⟨RX10, TX10, 45, tyX10, rfl, tyX10_ok, nmX10, by decide, by decide +kernel⟩
theorem fp_10_7 : FP 10 7 .int := ⟨RX10, TX10, 45, tyX10, rfl, tyX10_ok, nmX10, by decide, by decide +kernel⟩
theorem fp_10_9 : FP 10 9 .boolean := ⟨RX10, TX10, 45, tyX10, rfl, tyX10_ok, nmX10, by decide, by decide +kernel⟩
theorem fp_10_10 : FP 10 10 .int := ⟨RX10, TX10, 45, tyX10, rfl, tyX10_ok, nmX10, by decide, by decide +kernel⟩
theorem fp_10_15 : FP 10 15 .int := ⟨RX10, TX10, 45, tyX10, rfl, tyX10_ok, nmX10, by decide, by decide +kernel⟩
theorem fp_10_16 : FP 10 16 .int := ⟨RX10, TX10, 45, tyX10, rfl, tyX10_ok, nmX10, by decide, by decide +kernel⟩
theorem fp_10_17 : FP 10 17 .int := ⟨RX10, TX10, 45, tyX10, rfl, tyX10_ok, nmX10, by decide, by decide +kernel⟩
theorem fp_10_18 : FP 10 18 .int := ⟨RX10, TX10, 45, tyX10, rfl, tyX10_ok, nmX10, by decide, by decide +kernel⟩
theorem fp_10_26 : FP 10 26 .boolean := ⟨RX10, TX10, 45, tyX10, rfl, tyX10_ok, nmX10, by decide, by decide +kernel⟩
theorem fp_10_27 : FP 10 27 .int := ⟨RX10, TX10, 45, tyX10, rfl, tyX10_ok, nmX10, by decide, by decide +kernel⟩
theorem fp_10_28 : FP 10 28 .int := ⟨RX10, TX10, 45, tyX10, rfl, tyX10_ok, nmX10, by decide, by decide +kernel⟩
theorem fp_10_31 : FP 10 31 .int := ⟨RX10, TX10, 45, tyX10, rfl, tyX10_ok, nmX10, by decide, by decide +kernel⟩
theorem fp_10_32 : FP 10 32 .int := ⟨RX10, TX10, 45, tyX10, rfl, tyX10_ok, nmX10, by decide, by decide +kernel⟩
theorem fp_10_34 : FP 10 34 .int := ⟨RX10, TX10, 45, tyX10, rfl, tyX10_ok, nmX10, by decide, by decide +kernel⟩
theorem fp_10_36 : FP 10 36 .int := ⟨RX10, TX10, 45, tyX10, rfl, tyX10_ok, nmX10, by decide, by decide +kernel⟩
theorem fp_10_44 : FP 10 44 .int := ⟨RX10, TX10, 45, tyX10, rfl, tyX10_ok, nmX10, by decide, by decide +kernel⟩
theorem ft_0_0 {c : Nat} (h : isO 0 c = true) : (fsO c)[0]? = some (2, some (RF c 0)) := (by decide +kernel : ∀ c, c < 78 → isO 0 c = true → (fsO c)[0]? = some (2, some (RF c 0))) c (isO_lt h) h
theorem ft_0_1 {c : Nat} (h : isO 0 c = true) : (fsO c)[1]? = some (0, none) := (by decide +kernel : ∀ c, c < 78 → isO 0 c = true → (fsO c)[1]? = some (0, none)) c (isO_lt h) h
theorem ft_0_2 {c : Nat} (h : isO 0 c = true) : (fsO c)[2]? = some (0, none) := (by decide +kernel : ∀ c, c < 78 → isO 0 c = true → (fsO c)[2]? = some (0, none)) c (isO_lt h) h
theorem ft_1_0 {c : Nat} (h : isO 1 c = true) : (fsO c)[0]? = some (2, some (RF c 0)) := (by decide +kernel : ∀ c, c < 78 → isO 1 c = true → (fsO c)[0]? = some (2, some (RF c 0))) c (isO_lt h) h
theorem ft_1_1 {c : Nat} (h : isO 1 c = true) : (fsO c)[1]? = some (2, some (RF c 1)) := (by decide +kernel : ∀ c, c < 78 → isO 1 c = true → (fsO c)[1]? = some (2, some (RF c 1))) c (isO_lt h) h
theorem ft_1_2 {c : Nat} (h : isO 1 c = true) : (fsO c)[2]? = some (1, none) := (by decide +kernel : ∀ c, c < 78 → isO 1 c = true → (fsO c)[2]? = some (1, none)) c (isO_lt h) h
theorem ft_2_0 {c : Nat} (h : isO 2 c = true) : (fsO c)[0]? = some (2, some (RF c 0)) := (by decide +kernel : ∀ c, c < 78 → isO 2 c = true → (fsO c)[0]? = some (2, some (RF c 0))) c (isO_lt h) h
theorem ft_2_1 {c : Nat} (h : isO 2 c = true) : (fsO c)[1]? = some (2, some (RF c 1)) := (by decide +kernel : ∀ c, c < 78 → isO 2 c = true → (fsO c)[1]? = some (2, some (RF c 1))) c (isO_lt h) h
theorem ft_2_2 {c : Nat} (h : isO 2 c = true) : (fsO c)[2]? = some (0, none) := (by decide +kernel : ∀ c, c < 78 → isO 2 c = true → (fsO c)[2]? = some (0, none)) c (isO_lt h) h
theorem ft_2_3 {c : Nat} (h : isO 2 c = true) : (fsO c)[3]? = some (0, none) := (by decide +kernel : ∀ c, c < 78 → isO 2 c = true → (fsO c)[3]? = some (0, none)) c (isO_lt h) h
theorem ft_3_0 {c : Nat} (h : isO 3 c = true) : (fsO c)[0]? = some (2, some (RF c 0)) := (by decide +kernel : ∀ c, c < 78 → isO 3 c = true → (fsO c)[0]? = some (2, some (RF c 0))) c (isO_lt h) h
theorem ft_3_1 {c : Nat} (h : isO 3 c = true) : (fsO c)[1]? = some (2, some (RF c 1)) := (by decide +kernel : ∀ c, c < 78 → isO 3 c = true → (fsO c)[1]? = some (2, some (RF c 1))) c (isO_lt h) h
theorem ft_3_2 {c : Nat} (h : isO 3 c = true) : (fsO c)[2]? = some (3, none) := (by decide +kernel : ∀ c, c < 78 → isO 3 c = true → (fsO c)[2]? = some (3, none)) c (isO_lt h) h
theorem ft_4_0 {c : Nat} (h : isO 4 c = true) : (fsO c)[0]? = some (2, some (RF c 0)) := (by decide +kernel : ∀ c, c < 78 → isO 4 c = true → (fsO c)[0]? = some (2, some (RF c 0))) c (isO_lt h) h
theorem ft_4_1 {c : Nat} (h : isO 4 c = true) : (fsO c)[1]? = some (2, some (RF c 1)) := (by decide +kernel : ∀ c, c < 78 → isO 4 c = true → (fsO c)[1]? = some (2, some (RF c 1))) c (isO_lt h) h
theorem ft_4_2 {c : Nat} (h : isO 4 c = true) : (fsO c)[2]? = some (2, some (RF c 2)) := (by decide +kernel : ∀ c, c < 78 → isO 4 c = true → (fsO c)[2]? = some (2, some (RF c 2))) c (isO_lt h) h
theorem ft_4_3 {c : Nat} (h : isO 4 c = true) : (fsO c)[3]? = some (4, none) := (by decide +kernel : ∀ c, c < 78 → isO 4 c = true → (fsO c)[3]? = some (4, none)) c (isO_lt h) h
theorem ft_4_4 {c : Nat} (h : isO 4 c = true) : (fsO c)[4]? = some (4, none) := (by decide +kernel : ∀ c, c < 78 → isO 4 c = true → (fsO c)[4]? = some (4, none)) c (isO_lt h) h
theorem ft_4_5 {c : Nat} (h : isO 4 c = true) : (fsO c)[5]? = some (0, none) := (by decide +kernel : ∀ c, c < 78 → isO 4 c = true → (fsO c)[5]? = some (0, none)) c (isO_lt h) h
theorem ft_4_6 {c : Nat} (h : isO 4 c = true) : (fsO c)[6]? = some (0, none) := (by decide +kernel : ∀ c, c < 78 → isO 4 c = true → (fsO c)[6]? = some (0, none)) c (isO_lt h) h
theorem ft_4_7 {c : Nat} (h : isO 4 c = true) : (fsO c)[7]? = some (0, none) := (by decide +kernel : ∀ c, c < 78 → isO 4 c = true → (fsO c)[7]? = some (0, none)) c (isO_lt h) h
theorem ft_4_8 {c : Nat} (h : isO 4 c = true) : (fsO c)[8]? = some (0, none) := (by decide +kernel : ∀ c, c < 78 → isO 4 c = true → (fsO c)[8]? = some (0, none)) c (isO_lt h) h
theorem ft_4_9 {c : Nat} (h : isO 4 c = true) : (fsO c)[9]? = some (3, none) := (by decide +kernel : ∀ c, c < 78 → isO 4 c = true → (fsO c)[9]? = some (3, none)) c (isO_lt h) h
theorem ft_5_0 {c : Nat} (h : isO 5 c = true) : (fsO c)[0]? = some (2, some (RF c 0)) := (by decide +kernel : ∀ c, c < 78 → isO 5 c = true → (fsO c)[0]? = some (2, some (RF c 0))) c (isO_lt h) h
theorem ft_5_1 {c : Nat} (h : isO 5 c = true) : (fsO c)[1]? = some (2, some (RF c 1)) := (by decide +kernel : ∀ c, c < 78 → isO 5 c = true → (fsO c)[1]? = some (2, some (RF c 1))) c (isO_lt h) h
theorem ft_5_2 {c : Nat} (h : isO 5 c = true) : (fsO c)[2]? = some (0, none) := (by decide +kernel : ∀ c, c < 78 → isO 5 c = true → (fsO c)[2]? = some (0, none)) c (isO_lt h) h
theorem ft_5_3 {c : Nat} (h : isO 5 c = true) : (fsO c)[3]? = some (0, none) := (by decide +kernel : ∀ c, c < 78 → isO 5 c = true → (fsO c)[3]? = some (0, none)) c (isO_lt h) h
theorem ft_5_4 {c : Nat} (h : isO 5 c = true) : (fsO c)[4]? = some (0, none) := (by decide +kernel : ∀ c, c < 78 → isO 5 c = true → (fsO c)[4]? = some (0, none)) c (isO_lt h) h
theorem ft_6_0 {c : Nat} (h : isO 6 c = true) : (fsO c)[0]? = some (2, some (RF c 0)) := (by decide +kernel : ∀ c, c < 78 → isO 6 c = true → (fsO c)[0]? = some (2, some (RF c 0))) c (isO_lt h) h
theorem ft_6_1 {c : Nat} (h : isO 6 c = true) : (fsO c)[1]? = some (0, none) := (by decide +kernel : ∀ c, c < 78 → isO 6 c = true → (fsO c)[1]? = some (0, none)) c (isO_lt h) h
theorem ft_6_2 {c : Nat} (h : isO 6 c = true) : (fsO c)[2]? = some (0, none) := (by decide +kernel : ∀ c, c < 78 → isO 6 c = true → (fsO c)[2]? = some (0, none)) c (isO_lt h) h
theorem ft_6_3 {c : Nat} (h : isO 6 c = true) : (fsO c)[3]? = some (0, none) := (by decide +kernel : ∀ c, c < 78 → isO 6 c = true → (fsO c)[3]? = some (0, none)) c (isO_lt h) h
theorem ft_6_4 {c : Nat} (h : isO 6 c = true) : (fsO c)[4]? = some (0, none) := (by decide +kernel : ∀ c, c < 78 → isO 6 c = true → (fsO c)[4]? = some (0, none)) c (isO_lt h) h
theorem ft_7_0 {c : Nat} (h : isO 7 c = true) : (fsO c)[0]? = some (2, some (RF c 0)) := (by decide +kernel : ∀ c, c < 78 → isO 7 c = true → (fsO c)[0]? = some (2, some (RF c 0))) c (isO_lt h) h
theorem ft_7_1 {c : Nat} (h : isO 7 c = true) : (fsO c)[1]? = some (2, some (RF c 1)) := (by decide +kernel : ∀ c, c < 78 → isO 7 c = true → (fsO c)[1]? = some (2, some (RF c 1))) c (isO_lt h) h
theorem ft_7_2 {c : Nat} (h : isO 7 c = true) : (fsO c)[2]? = some (2, some (RF c 2)) := (by decide +kernel : ∀ c, c < 78 → isO 7 c = true → (fsO c)[2]? = some (2, some (RF c 2))) c (isO_lt h) h
theorem ft_7_3 {c : Nat} (h : isO 7 c = true) : (fsO c)[3]? = some (2, some (RF c 3)) := (by decide +kernel : ∀ c, c < 78 → isO 7 c = true → (fsO c)[3]? = some (2, some (RF c 3))) c (isO_lt h) h
theorem ft_7_4 {c : Nat} (h : isO 7 c = true) : (fsO c)[4]? = some (2, some (RF c 4)) := (by decide +kernel : ∀ c, c < 78 → isO 7 c = true → (fsO c)[4]? = some (2, some (RF c 4))) c (isO_lt h) h
theorem ft_7_5 {c : Nat} (h : isO 7 c = true) : (fsO c)[5]? = some (2, some (RF c 5)) := (by decide +kernel : ∀ c, c < 78 → isO 7 c = true → (fsO c)[5]? = some (2, some (RF c 5))) c (isO_lt h) h
theorem ft_7_6 {c : Nat} (h : isO 7 c = true) : (fsO c)[6]? = some (2, some (RF c 6)) := (by decide +kernel : ∀ c, c < 78 → isO 7 c = true → (fsO c)[6]? = some (2, some (RF c 6))) c (isO_lt h) h
theorem ft_7_7 {c : Nat} (h : isO 7 c = true) : (fsO c)[7]? = some (0, none) := (by decide +kernel : ∀ c, c < 78 → isO 7 c = true → (fsO c)[7]? = some (0, none)) c (isO_lt h) h
theorem ft_7_8 {c : Nat} (h : isO 7 c = true) : (fsO c)[8]? = some (0, none) := (by decide +kernel : ∀ c, c < 78 → isO 7 c = true → (fsO c)[8]? = some (0, none)) c (isO_lt h) h
theorem ft_7_9 {c : Nat} (h : isO 7 c = true) : (fsO c)[9]? = some (0, none) := (by decide +kernel : ∀ c, c < 78 → isO 7 c = true → (fsO c)[9]? = some (0, none)) c (isO_lt h) h
theorem ft_7_10 {c : Nat} (h : isO 7 c = true) : (fsO c)[10]? = some (0, none) := (by decide +kernel : ∀ c, c < 78 → isO 7 c = true → (fsO c)[10]? = some (0, none)) c (isO_lt h) h
theorem ft_7_11 {c : Nat} (h : isO 7 c = true) : (fsO c)[11]? = some (0, none) := (by decide +kernel : ∀ c, c < 78 → isO 7 c = true → (fsO c)[11]? = some (0, none)) c (isO_lt h) h
theorem ft_8_0 {c : Nat} (h : isO 8 c = true) : (fsO c)[0]? = some (2, some (RF c 0)) := (by decide +kernel : ∀ c, c < 78 → isO 8 c = true → (fsO c)[0]? = some (2, some (RF c 0))) c (isO_lt h) h
theorem ft_8_1 {c : Nat} (h : isO 8 c = true) : (fsO c)[1]? = some (2, some (RF c 1)) := (by decide +kernel : ∀ c, c < 78 → isO 8 c = true → (fsO c)[1]? = some (2, some (RF c 1))) c (isO_lt h) h
theorem ft_8_2 {c : Nat} (h : isO 8 c = true) : (fsO c)[2]? = some (2, some (RF c 2)) := (by decide +kernel : ∀ c, c < 78 → isO 8 c = true → (fsO c)[2]? = some (2, some (RF c 2))) c (isO_lt h) h
theorem ft_8_3 {c : Nat} (h : isO 8 c = true) : (fsO c)[3]? = some (0, none) := (by decide +kernel : ∀ c, c < 78 → isO 8 c = true → (fsO c)[3]? = some (0, none)) c (isO_lt h) h
theorem ft_8_4 {c : Nat} (h : isO 8 c = true) : (fsO c)[4]? = some (0, none) := (by decide +kernel : ∀ c, c < 78 → isO 8 c = true → (fsO c)[4]? = some (0, none)) c (isO_lt h) h
theorem ft_8_5 {c : Nat} (h : isO 8 c = true) : (fsO c)[5]? = some (0, none) := (by decide +kernel : ∀ c, c < 78 → isO 8 c = true → (fsO c)[5]? = some (0, none)) c (isO_lt h) h
theorem ft_9_0 {c : Nat} (h : isO 9 c = true) : (fsO c)[0]? = some (2, some (RF c 0)) := (by decide +kernel : ∀ c, c < 78 → isO 9 c = true → (fsO c)[0]? = some (2, some (RF c 0))) c (isO_lt h) h
theorem ft_9_1 {c : Nat} (h : isO 9 c = true) : (fsO c)[1]? = some (2, some (RF c 1)) := (by decide +kernel : ∀ c, c < 78 → isO 9 c = true → (fsO c)[1]? = some (2, some (RF c 1))) c (isO_lt h) h
theorem ft_9_2 {c : Nat} (h : isO 9 c = true) : (fsO c)[2]? = some (2, some (RF c 2)) := (by decide +kernel : ∀ c, c < 78 → isO 9 c = true → (fsO c)[2]? = some (2, some (RF c 2))) c (isO_lt h) h
theorem ft_9_3 {c : Nat} (h : isO 9 c = true) : (fsO c)[3]? = some (2, some (RF c 3)) := (by decide +kernel : ∀ c, c < 78 → isO 9 c = true → (fsO c)[3]? = some (2, some (RF c 3))) c (isO_lt h) h
theorem ft_9_4 {c : Nat} (h : isO 9 c = true) : (fsO c)[4]? = some (2, some (RF c 4)) := (by decide +kernel : ∀ c, c < 78 → isO 9 c = true → (fsO c)[4]? = some (2, some (RF c 4))) c (isO_lt h) h
theorem ft_9_5 {c : Nat} (h : isO 9 c = true) : (fsO c)[5]? = some (2, some (RF c 5)) := (by decide +kernel : ∀ c, c < 78 → isO 9 c = true → (fsO c)[5]? = some (2, some (RF c 5))) c (isO_lt h) h
theorem ft_9_6 {c : Nat} (h : isO 9 c = true) : (fsO c)[6]? = some (2, some (RF c 6)) := (by decide +kernel : ∀ c, c < 78 → isO 9 c = true → (fsO c)[6]? = some (2, some (RF c 6))) c (isO_lt h) h
theorem ft_9_7 {c : Nat} (h : isO 9 c = true) : (fsO c)[7]? = some (2, some (RF c 7)) := (by decide +kernel : ∀ c, c < 78 → isO 9 c = true → (fsO c)[7]? = some (2, some (RF c 7))) c (isO_lt h) h
theorem ft_9_8 {c : Nat} (h : isO 9 c = true) : (fsO c)[8]? = some (2, some (RF c 8)) := (by decide +kernel : ∀ c, c < 78 → isO 9 c = true → (fsO c)[8]? = some (2, some (RF c 8))) c (isO_lt h) h
theorem ft_9_9 {c : Nat} (h : isO 9 c = true) : (fsO c)[9]? = some (2, some (RF c 9)) := (by decide +kernel : ∀ c, c < 78 → isO 9 c = true → (fsO c)[9]? = some (2, some (RF c 9))) c (isO_lt h) h
theorem ft_10_0 {c : Nat} (h : isO 10 c = true) : (fsO c)[0]? = some (0, none) := (by decide +kernel : ∀ c, c < 78 → isO 10 c = true → (fsO c)[0]? = some (0, none)) c (isO_lt h) h
theorem ft_10_1 {c : Nat} (h : isO 10 c = true) : (fsO c)[1]? = some (2, some (RF c 1)) := (by decide +kernel : ∀ c, c < 78 → isO 10 c = true → (fsO c)[1]? = some (2, some (RF c 1))) c (isO_lt h) h
theorem ft_10_2 {c : Nat} (h : isO 10 c = true) : (fsO c)[2]? = some (2, some (RF c 2)) := (by decide +kernel : ∀ c, c < 78 → isO 10 c = true → (fsO c)[2]? = some (2, some (RF c 2))) c (isO_lt h) h
theorem ft_10_3 {c : Nat} (h : isO 10 c = true) : (fsO c)[3]? = some (2, some (RF c 3)) := (by decide +kernel : ∀ c, c < 78 → isO 10 c = true → (fsO c)[3]? = some (2, some (RF c 3))) c (isO_lt h) h
theorem ft_10_4 {c : Nat} (h : isO 10 c = true) : (fsO c)[4]? = some (2, some (RF c 4)) := (by decide +kernel : ∀ c, c < 78 → isO 10 c = true → (fsO c)[4]? = some (2, some (RF c 4))) c (isO_lt h) h
theorem ft_10_5 {c : Nat} (h : isO 10 c = true) : (fsO c)[5]? = some (0, none) := (by decide +kernel : ∀ c, c < 78 → isO 10 c = true → (fsO c)[5]? = some (0, none)) c (isO_lt h) h
theorem ft_10_6 {c : Nat} (h : isO 10 c = true) : (fsO c)[6]? = some (2, some (RF c 6)) := (by decide +kernel : ∀ c, c < 78 → isO 10 c = true → (fsO c)[6]? = some (2, some (RF c 6))) c (isO_lt h) h
theorem ft_10_7 {c : Nat} (h : isO 10 c = true) : (fsO c)[7]? = some (0, none) := (by decide +kernel : ∀ c, c < 78 → isO 10 c = true → (fsO c)[7]? = some (0, none)) c (isO_lt h) h
theorem ft_10_8 {c : Nat} (h : isO 10 c = true) : (fsO c)[8]? = some (2, some (RF c 8)) := (by decide +kernel : ∀ c, c < 78 → isO 10 c = true → (fsO c)[8]? = some (2, some (RF c 8))) c (isO_lt h) h
theorem ft_10_9 {c : Nat} (h : isO 10 c = true) : (fsO c)[9]? = some (3, none) := (by decide +kernel : ∀ c, c < 78 → isO 10 c = true → (fsO c)[9]? = some (3, none)) c (isO_lt h) h
theorem ft_10_10 {c : Nat} (h : isO 10 c = true) : (fsO c)[10]? = some (0, none) := (by decide +kernel : ∀ c, c < 78 → isO 10 c = true → (fsO c)[10]? = some (0, none)) c (isO_lt h) h
theorem ft_10_11 {c : Nat} (h : isO 10 c = true) : (fsO c)[11]? = some (2, some (RF c 11)) := (by decide +kernel : ∀ c, c < 78 → isO 10 c = true → (fsO c)[11]? = some (2, some (RF c 11))) c (isO_lt h) h
theorem ft_10_12 {c : Nat} (h : isO 10 c = true) : (fsO c)[12]? = some (2, some (RF c 12)) := (by decide +kernel : ∀ c, c < 78 → isO 10 c = true → (fsO c)[12]? = some (2, some (RF c 12))) c (isO_lt h) h
theorem ft_10_13 {c : Nat} (h : isO 10 c = true) : (fsO c)[13]? = some (2, some (RF c 13)) := (by decide +kernel : ∀ c, c < 78 → isO 10 c = true → (fsO c)[13]? = some (2, some (RF c 13))) c (isO_lt h) h
theorem ft_10_14 {c : Nat} (h : isO 10 c = true) : (fsO c)[14]? = some (2, some (RF c 14)) := (by decide +kernel : ∀ c, c < 78 → isO 10 c = true → (fsO c)[14]? = some (2, some (RF c 14))) c (isO_lt h) h
theorem ft_10_15 {c : Nat} (h : isO 10 c = true) : (fsO c)[15]? = some (0, none) := (by decide +kernel : ∀ c, c < 78 → isO 10 c = true → (fsO c)[15]? = some (0, none)) c (isO_lt h) h
theorem ft_10_16 {c : Nat} (h : isO 10 c = true) : (fsO c)[16]? = some (0, none) := (by decide +kernel : ∀ c, c < 78 → isO 10 c = true → (fsO c)[16]? = some (0, none)) c (isO_lt h) h
theorem ft_10_17 {c : Nat} (h : isO 10 c = true) : (fsO c)[17]? = some (0, none) := (by decide +kernel : ∀ c, c < 78 → isO 10 c = true → (fsO c)[17]? = some (0, none)) c (isO_lt h) h
theorem ft_10_18 {c : Nat} (h : isO 10 c = true) : (fsO c)[18]? = some (0, none) := (by decide +kernel : ∀ c, c < 78 → isO 10 c = true → (fsO c)[18]? = some (0, none)) c (isO_lt h) h
theorem ft_10_19 {c : Nat} (h : isO 10 c = true) : (fsO c)[19]? = some (2, some (RF c 19)) := (by decide +kernel : ∀ c, c < 78 → isO 10 c = true → (fsO c)[19]? = some (2, some (RF c 19))) c (isO_lt h) h
theorem ft_10_20 {c : Nat} (h : isO 10 c = true) : (fsO c)[20]? = some (2, some (RF c 20)) := (by decide +kernel : ∀ c, c < 78 → isO 10 c = true → (fsO c)[20]? = some (2, some (RF c 20))) c (isO_lt h) h
theorem ft_10_21 {c : Nat} (h : isO 10 c = true) : (fsO c)[21]? = some (2, some (RF c 21)) := (by decide +kernel : ∀ c, c < 78 → isO 10 c = true → (fsO c)[21]? = some (2, some (RF c 21))) c (isO_lt h) h
theorem ft_10_22 {c : Nat} (h : isO 10 c = true) : (fsO c)[22]? = some (2, some (RF c 22)) := (by decide +kernel : ∀ c, c < 78 → isO 10 c = true → (fsO c)[22]? = some (2, some (RF c 22))) c (isO_lt h) h
theorem ft_10_23 {c : Nat} (h : isO 10 c = true) : (fsO c)[23]? = some (2, some (RF c 23)) := (by decide +kernel : ∀ c, c < 78 → isO 10 c = true → (fsO c)[23]? = some (2, some (RF c 23))) c (isO_lt h) h
theorem ft_10_24 {c : Nat} (h : isO 10 c = true) : (fsO c)[24]? = some (2, some (RF c 24)) := (by decide +kernel : ∀ c, c < 78 → isO 10 c = true → (fsO c)[24]? = some (2, some (RF c 24))) c (isO_lt h) h
theorem ft_10_25 {c : Nat} (h : isO 10 c = true) : (fsO c)[25]? = some (2, some (RF c 25)) := (by decide +kernel : ∀ c, c < 78 → isO 10 c = true → (fsO c)[25]? = some (2, some (RF c 25))) c (isO_lt h) h
theorem ft_10_26 {c : Nat} (h : isO 10 c = true) : (fsO c)[26]? = some (3, none) := (by decide +kernel : ∀ c, c < 78 → isO 10 c = true → (fsO c)[26]? = some (3, none)) c (isO_lt h) h
theorem ft_10_27 {c : Nat} (h : isO 10 c = true) : (fsO c)[27]? = some (0, none) := (by decide +kernel : ∀ c, c < 78 → isO 10 c = true → (fsO c)[27]? = some (0, none)) c (isO_lt h) h
theorem ft_10_28 {c : Nat} (h : isO 10 c = true) : (fsO c)[28]? = some (0, none) := (by decide +kernel : ∀ c, c < 78 → isO 10 c = true → (fsO c)[28]? = some (0, none)) c (isO_lt h) h
theorem ft_10_29 {c : Nat} (h : isO 10 c = true) : (fsO c)[29]? = some (2, some (RF c 29)) := (by decide +kernel : ∀ c, c < 78 → isO 10 c = true → (fsO c)[29]? = some (2, some (RF c 29))) c (isO_lt h) h
theorem ft_10_30 {c : Nat} (h : isO 10 c = true) : (fsO c)[30]? = some (2, some (RF c 30)) := (by decide +kernel : ∀ c, c < 78 → isO 10 c = true → (fsO c)[30]? = some (2, some (RF c 30))) c (isO_lt h) h
theorem ft_10_31 {c : Nat} (h : isO 10 c = true) : (fsO c)[31]? = some (0, none) := (by decide +kernel : ∀ c, c < 78 → isO 10 c = true → (fsO c)[31]? = some (0, none)) c (isO_lt h) h
theorem ft_10_32 {c : Nat} (h : isO 10 c = true) : (fsO c)[32]? = some (0, none) := (by decide +kernel : ∀ c, c < 78 → isO 10 c = true → (fsO c)[32]? = some (0, none)) c (isO_lt h) h
theorem ft_10_33 {c : Nat} (h : isO 10 c = true) : (fsO c)[33]? = some (2, some (RF c 33)) := (by decide +kernel : ∀ c, c < 78 → isO 10 c = true → (fsO c)[33]? = some (2, some (RF c 33))) c (isO_lt h) h
theorem ft_10_34 {c : Nat} (h : isO 10 c = true) : (fsO c)[34]? = some (0, none) := (by decide +kernel : ∀ c, c < 78 → isO 10 c = true → (fsO c)[34]? = some (0, none)) c (isO_lt h) h
theorem ft_10_35 {c : Nat} (h : isO 10 c = true) : (fsO c)[35]? = some (2, some (RF c 35)) := (by decide +kernel : ∀ c, c < 78 → isO 10 c = true → (fsO c)[35]? = some (2, some (RF c 35))) c (isO_lt h) h
theorem ft_10_36 {c : Nat} (h : isO 10 c = true) : (fsO c)[36]? = some (0, none) := (by decide +kernel : ∀ c, c < 78 → isO 10 c = true → (fsO c)[36]? = some (0, none)) c (isO_lt h) h
theorem ft_10_37 {c : Nat} (h : isO 10 c = true) : (fsO c)[37]? = some (2, some (RF c 37)) := (by decide +kernel : ∀ c, c < 78 → isO 10 c = true → (fsO c)[37]? = some (2, some (RF c 37))) c (isO_lt h) h
theorem ft_10_38 {c : Nat} (h : isO 10 c = true) : (fsO c)[38]? = some (2, some (RF c 38)) := (by decide +kernel : ∀ c, c < 78 → isO 10 c = true → (fsO c)[38]? = some (2, some (RF c 38))) c (isO_lt h) h
theorem ft_10_39 {c : Nat} (h : isO 10 c = true) : (fsO c)[39]? = some (2, some (RF c 39)) := (by decide +kernel : ∀ c, c < 78 → isO 10 c = true → (fsO c)[39]? = some (2, some (RF c 39))) c (isO_lt h) h
theorem ft_10_40 {c : Nat} (h : isO 10 c = true) : (fsO c)[40]? = some (2, some (RF c 40)) := (by decide +kernel : ∀ c, c < 78 → isO 10 c = true → (fsO c)[40]? = some (2, some (RF c 40))) c (isO_lt h) h
theorem ft_10_41 {c : Nat} (h : isO 10 c = true) : (fsO c)[41]? = some (2, some (RF c 41)) := (by decide +kernel : ∀ c, c < 78 → isO 10 c = true → (fsO c)[41]? = some (2, some (RF c 41))) c (isO_lt h) h
theorem ft_10_42 {c : Nat} (h : isO 10 c = true) : (fsO c)[42]? = some (2, some (RF c 42)) := (by decide +kernel : ∀ c, c < 78 → isO 10 c = true → (fsO c)[42]? = some (2, some (RF c 42))) c (isO_lt h) h
theorem ft_10_43 {c : Nat} (h : isO 10 c = true) : (fsO c)[43]? = some (2, some (RF c 43)) := (by decide +kernel : ∀ c, c < 78 → isO 10 c = true → (fsO c)[43]? = some (2, some (RF c 43))) c (isO_lt h) h
theorem ft_10_44 {c : Nat} (h : isO 10 c = true) : (fsO c)[44]? = some (0, none) := (by decide +kernel : ∀ c, c < 78 → isO 10 c = true → (fsO c)[44]? = some (0, none)) c (isO_lt h) h
theorem rf_0_0 {c : Nat} (h : isO 0 c = true) : isA 1 (RF c 0) = true := (by decide +kernel : ∀ c, c < 78 → isO 0 c = true → isA 1 (RF c 0) = true) c (isO_lt h) h
theorem rf_1_0 {c : Nat} (h : isO 1 c = true) : isA 2 (RF c 0) = true := (by decide +kernel : ∀ c, c < 78 → isO 1 c = true → isA 2 (RF c 0) = true) c (isO_lt h) h
theorem rf_1_1 {c : Nat} (h : isO 1 c = true) : isA 2 (RF c 1) = true := (by decide +kernel : ∀ c, c < 78 → isO 1 c = true → isA 2 (RF c 1) = true) c (isO_lt h) h
theorem rf_2_0 {c : Nat} (h : isO 2 c = true) : isA 1 (RF c 0) = true := (by decide +kernel : ∀ c, c < 78 → isO 2 c = true → isA 1 (RF c 0) = true) c (isO_lt h) h
theorem rf_2_1 {c : Nat} (h : isO 2 c = true) : isA 1 (RF c 1) = true := (by decide +kernel : ∀ c, c < 78 → isO 2 c = true → isA 1 (RF c 1) = true) c (isO_lt h) h
theorem rf_3_0 {c : Nat} (h : isO 3 c = true) : isO 2 (RF c 0) = true := (by decide +kernel : ∀ c, c < 78 → isO 3 c = true → isO 2 (RF c 0) = true) c (isO_lt h) h
theorem rf_3_1 {c : Nat} (h : isO 3 c = true) : isA 1 (RF c 1) = true := (by decide +kernel : ∀ c, c < 78 → isO 3 c = true → isA 1 (RF c 1) = true) c (isO_lt h) h
theorem rf_4_0 {c : Nat} (h : isO 4 c = true) : isA 1 (RF c 0) = true := (by decide +kernel : ∀ c, c < 78 → isO 4 c = true → isA 1 (RF c 0) = true) c (isO_lt h) h
theorem rf_4_1 {c : Nat} (h : isO 4 c = true) : isA 1 (RF c 1) = true := (by decide +kernel : ∀ c, c < 78 → isO 4 c = true → isA 1 (RF c 1) = true) c (isO_lt h) h
theorem rf_4_2 {c : Nat} (h : isO 4 c = true) : isA 1 (RF c 2) = true := (by decide +kernel : ∀ c, c < 78 → isO 4 c = true → isA 1 (RF c 2) = true) c (isO_lt h) h
theorem rf_5_0 {c : Nat} (h : isO 5 c = true) : isA 1 (RF c 0) = true := (by decide +kernel : ∀ c, c < 78 → isO 5 c = true → isA 1 (RF c 0) = true) c (isO_lt h) h
theorem rf_5_1 {c : Nat} (h : isO 5 c = true) : isA 1 (RF c 1) = true := (by decide +kernel : ∀ c, c < 78 → isO 5 c = true → isA 1 (RF c 1) = true) c (isO_lt h) h
theorem rf_6_0 {c : Nat} (h : isO 6 c = true) : isA 2 (RF c 0) = true := (by decide +kernel : ∀ c, c < 78 → isO 6 c = true → isA 2 (RF c 0) = true) c (isO_lt h) h
theorem rf_7_0 {c : Nat} (h : isO 7 c = true) : isO 2 (RF c 0) = true := (by decide +kernel : ∀ c, c < 78 → isO 7 c = true → isO 2 (RF c 0) = true) c (isO_lt h) h
theorem rf_7_1 {c : Nat} (h : isO 7 c = true) : isO 4 (RF c 1) = true := (by decide +kernel : ∀ c, c < 78 → isO 7 c = true → isO 4 (RF c 1) = true) c (isO_lt h) h
theorem rf_7_2 {c : Nat} (h : isO 7 c = true) : isA 1 (RF c 2) = true := (by decide +kernel : ∀ c, c < 78 → isO 7 c = true → isA 1 (RF c 2) = true) c (isO_lt h) h
theorem rf_7_3 {c : Nat} (h : isO 7 c = true) : isA 1 (RF c 3) = true := (by decide +kernel : ∀ c, c < 78 → isO 7 c = true → isA 1 (RF c 3) = true) c (isO_lt h) h
theorem rf_7_4 {c : Nat} (h : isO 7 c = true) : isA 1 (RF c 4) = true := (by decide +kernel : ∀ c, c < 78 → isO 7 c = true → isA 1 (RF c 4) = true) c (isO_lt h) h
theorem rf_7_5 {c : Nat} (h : isO 7 c = true) : isA 1 (RF c 5) = true := (by decide +kernel : ∀ c, c < 78 → isO 7 c = true → isA 1 (RF c 5) = true) c (isO_lt h) h
theorem rf_7_6 {c : Nat} (h : isO 7 c = true) : isA 1 (RF c 6) = true := (by decide +kernel : ∀ c, c < 78 → isO 7 c = true → isA 1 (RF c 6) = true) c (isO_lt h) h
theorem rf_8_0 {c : Nat} (h : isO 8 c = true) : isO 7 (RF c 0) = true := (by decide +kernel : ∀ c, c < 78 → isO 8 c = true → isO 7 (RF c 0) = true) c (isO_lt h) h
theorem rf_8_1 {c : Nat} (h : isO 8 c = true) : isA 1 (RF c 1) = true := (by decide +kernel : ∀ c, c < 78 → isO 8 c = true → isA 1 (RF c 1) = true) c (isO_lt h) h
theorem rf_8_2 {c : Nat} (h : isO 8 c = true) : isA 1 (RF c 2) = true := (by decide +kernel : ∀ c, c < 78 → isO 8 c = true → isA 1 (RF c 2) = true) c (isO_lt h) h
theorem rf_9_0 {c : Nat} (h : isO 9 c = true) : isO 2 (RF c 0) = true := (by decide +kernel : ∀ c, c < 78 → isO 9 c = true → isO 2 (RF c 0) = true) c (isO_lt h) h
theorem rf_9_1 {c : Nat} (h : isO 9 c = true) : isO 4 (RF c 1) = true := (by decide +kernel : ∀ c, c < 78 → isO 9 c = true → isO 4 (RF c 1) = true) c (isO_lt h) h
theorem rf_9_2 {c : Nat} (h : isO 9 c = true) : isO 7 (RF c 2) = true := (by decide +kernel : ∀ c, c < 78 → isO 9 c = true → isO 7 (RF c 2) = true) c (isO_lt h) h
theorem rf_9_3 {c : Nat} (h : isO 9 c = true) : isO 8 (RF c 3) = true := (by decide +kernel : ∀ c, c < 78 → isO 9 c = true → isO 8 (RF c 3) = true) c (isO_lt h) h
theorem rf_9_4 {c : Nat} (h : isO 9 c = true) : isO 1 (RF c 4) = true := (by decide +kernel : ∀ c, c < 78 → isO 9 c = true → isO 1 (RF c 4) = true) c (isO_lt h) h
theorem rf_9_5 {c : Nat} (h : isO 9 c = true) : isO 0 (RF c 5) = true := (by decide +kernel : ∀ c, c < 78 → isO 9 c = true → isO 0 (RF c 5) = true) c (isO_lt h) h
theorem rf_9_6 {c : Nat} (h : isO 9 c = true) : isO 3 (RF c 6) = true := (by decide +kernel : ∀ c, c < 78 → isO 9 c = true → isO 3 (RF c 6) = true) c (isO_lt h) h
theorem rf_9_7 {c : Nat} (h : isO 9 c = true) : isO 5 (RF c 7) = true := (by decide +kernel : ∀ c, c < 78 → isO 9 c = true → isO 5 (RF c 7) = true) c (isO_lt h) h
theorem rf_9_8 {c : Nat} (h : isO 9 c = true) : isA 3 (RF c 8) = true := (by decide +kernel : ∀ c, c < 78 → isO 9 c = true → isA 3 (RF c 8) = true) c (isO_lt h) h
theorem rf_9_9 {c : Nat} (h : isO 9 c = true) : isA 1 (RF c 9) = true := (by decide +kernel : ∀ c, c < 78 → isO 9 c = true → isA 1 (RF c 9) = true) c (isO_lt h) h
theorem rf_10_1 {c : Nat} (h : isO 10 c = true) : isA 1 (RF c 1) = true := (by decide +kernel : ∀ c, c < 78 → isO 10 c = true → isA 1 (RF c 1) = true) c (isO_lt h) h
theorem rf_10_2 {c : Nat} (h : isO 10 c = true) : isA 1 (RF c 2) = true := (by decide +kernel : ∀ c, c < 78 → isO 10 c = true → isA 1 (RF c 2) = true) c (isO_lt h) h
theorem rf_10_3 {c : Nat} (h : isO 10 c = true) : isA 1 (RF c 3) = true := (by decide +kernel : ∀ c, c < 78 → isO 10 c = true → isA 1 (RF c 3) = true) c (isO_lt h) h
theorem rf_10_4 {c : Nat} (h : isO 10 c = true) : isA 1 (RF c 4) = true := (by decide +kernel : ∀ c, c < 78 → isO 10 c = true → isA 1 (RF c 4) = true) c (isO_lt h) h
theorem rf_10_6 {c : Nat} (h : isO 10 c = true) : isA 1 (RF c 6) = true := (by decide +kernel : ∀ c, c < 78 → isO 10 c = true → isA 1 (RF c 6) = true) c (isO_lt h) h
theorem rf_10_8 {c : Nat} (h : isO 10 c = true) : isA 1 (RF c 8) = true := (by decide +kernel : ∀ c, c < 78 → isO 10 c = true → isA 1 (RF c 8) = true) c (isO_lt h) h
theorem rf_10_11 {c : Nat} (h : isO 10 c = true) : isA 1 (RF c 11) = true := (by decide +kernel : ∀ c, c < 78 → isO 10 c = true → isA 1 (RF c 11) = true) c (isO_lt h) h
theorem rf_10_12 {c : Nat} (h : isO 10 c = true) : isA 1 (RF c 12) = true := (by decide +kernel : ∀ c, c < 78 → isO 10 c = true → isA 1 (RF c 12) = true) c (isO_lt h) h
theorem rf_10_13 {c : Nat} (h : isO 10 c = true) : isA 1 (RF c 13) = true := (by decide +kernel : ∀ c, c < 78 → isO 10 c = true → isA 1 (RF c 13) = true) c (isO_lt h) h
theorem rf_10_14 {c : Nat} (h : isO 10 c = true) : isA 1 (RF c 14) = true := (by decide +kernel : ∀ c, c < 78 → isO 10 c = true → isA 1 (RF c 14) = true) c (isO_lt h) h
theorem rf_10_19 {c : Nat} (h : isO 10 c = true) : isA 1 (RF c 19) = true := (by decide +kernel : ∀ c, c < 78 → isO 10 c = true → isA 1 (RF c 19) = true) c (isO_lt h) h
theorem rf_10_20 {c : Nat} (h : isO 10 c = true) : isA 1 (RF c 20) = true := (by decide +kernel : ∀ c, c < 78 → isO 10 c = true → isA 1 (RF c 20) = true) c (isO_lt h) h
theorem rf_10_21 {c : Nat} (h : isO 10 c = true) : isA 1 (RF c 21) = true := (by decide +kernel : ∀ c, c < 78 → isO 10 c = true → isA 1 (RF c 21) = true) c (isO_lt h) h
theorem rf_10_22 {c : Nat} (h : isO 10 c = true) : isA 1 (RF c 22) = true := (by decide +kernel : ∀ c, c < 78 → isO 10 c = true → isA 1 (RF c 22) = true) c (isO_lt h) h
theorem rf_10_23 {c : Nat} (h : isO 10 c = true) : isA 1 (RF c 23) = true := (by decide +kernel : ∀ c, c < 78 → isO 10 c = true → isA 1 (RF c 23) = true) c (isO_lt h) h
theorem rf_10_24 {c : Nat} (h : isO 10 c = true) : isA 1 (RF c 24) = true := (by decide +kernel : ∀ c, c < 78 → isO 10 c = true → isA 1 (RF c 24) = true) c (isO_lt h) h
theorem rf_10_25 {c : Nat} (h : isO 10 c = true) : isA 1 (RF c 25) = true := (by decide +kernel : ∀ c, c < 78 → isO 10 c = true → isA 1 (RF c 25) = true) c (isO_lt h) h
theorem rf_10_29 {c : Nat} (h : isO 10 c = true) : isA 1 (RF c 29) = true := (by decide +kernel : ∀ c, c < 78 → isO 10 c = true → isA 1 (RF c 29) = true) c (isO_lt h) h
theorem rf_10_30 {c : Nat} (h : isO 10 c = true) : isA 1 (RF c 30) = true := (by decide +kernel : ∀ c, c < 78 → isO 10 c = true → isA 1 (RF c 30) = true) c (isO_lt h) h
theorem rf_10_33 {c : Nat} (h : isO 10 c = true) : isA 1 (RF c 33) = true := (by decide +kernel : ∀ c, c < 78 → isO 10 c = true → isA 1 (RF c 33) = true) c (isO_lt h) h
theorem rf_10_35 {c : Nat} (h : isO 10 c = true) : isA 1 (RF c 35) = true := (by decide +kernel : ∀ c, c < 78 → isO 10 c = true → isA 1 (RF c 35) = true) c (isO_lt h) h
theorem rf_10_37 {c : Nat} (h : isO 10 c = true) : isA 1 (RF c 37) = true := (by decide +kernel : ∀ c, c < 78 → isO 10 c = true → isA 1 (RF c 37) = true) c (isO_lt h) h
theorem rf_10_38 {c : Nat} (h : isO 10 c = true) : isA 1 (RF c 38) = true := (by decide +kernel : ∀ c, c < 78 → isO 10 c = true → isA 1 (RF c 38) = true) c (isO_lt h) h
theorem rf_10_39 {c : Nat} (h : isO 10 c = true) : isA 1 (RF c 39) = true := (by decide +kernel : ∀ c, c < 78 → isO 10 c = true → isA 1 (RF c 39) = true) c (isO_lt h) h
theorem rf_10_40 {c : Nat} (h : isO 10 c = true) : isA 2 (RF c 40) = true := (by decide +kernel : ∀ c, c < 78 → isO 10 c = true → isA 2 (RF c 40) = true) c (isO_lt h) h
theorem rf_10_41 {c : Nat} (h : isO 10 c = true) : isA 1 (RF c 41) = true := (by decide +kernel : ∀ c, c < 78 → isO 10 c = true → isA 1 (RF c 41) = true) c (isO_lt h) h
theorem rf_10_42 {c : Nat} (h : isO 10 c = true) : isA 1 (RF c 42) = true := (by decide +kernel : ∀ c, c < 78 → isO 10 c = true → isA 1 (RF c 42) = true) c (isO_lt h) h
theorem rf_10_43 {c : Nat} (h : isO 10 c = true) : isA 1 (RF c 43) = true := (by decide +kernel : ∀ c, c < 78 → isO 10 c = true → isA 1 (RF c 43) = true) c (isO_lt h) h
theorem mlRX9_80 : ML RX9 80 yX2_addThing := Or.inl (lw_w_in (l := lw_tbl) 399 rfl (by decide +kernel) (by decide +kernel))
theorem mlRX9_84 : ML RX9 84 yX9_isWithin := Or.inl (lw_w_in (l := lw_tbl) 411 rfl (by decide +kernel) (by decide +kernel))
theorem mlRX9_88 : ML RX9 88 yX2_addBidder := Or.inl (lw_w_in (l := lw_tbl) 416 rfl (by decide +kernel) (by decide +kernel))
theorem mlRX9_92 : ML RX9 92 yX9_isShelf := Or.inl (lw_w_in (l := lw_tbl) 424 rfl (by decide +kernel) (by decide +kernel))
theorem mlRX9_100 : ML RX9 100 yX6_holdsBytes := Or.inl (lw_w_in (l := lw_tbl) 427 rfl (by decide +kernel) (by decide +kernel))
theorem mlRX9_104 : ML RX9 104 yX6_hasRun := Or.inl (lw_w_in (l := lw_tbl) 431 rfl (by decide +kernel) (by decide +kernel))
theorem mlRX9_107 : ML RX9 107 yX9_comesFrom := Or.inl (lw_w_in (l := lw_tbl) 435 rfl (by decide +kernel) (by decide +kernel))
theorem mlRX9_111 : ML RX9 111 yX6_at := Or.inl (lw_w_in (l := lw_tbl) 439 rfl (by decide +kernel) (by decide +kernel))
theorem mlRX9_115 : ML RX9 115 yX2_has := Or.inl (lw_w_in (l := lw_tbl) 448 rfl (by decide +kernel) (by decide +kernel))
theorem mlRX9_118 : ML RX9 118 yX9_mayBe := Or.inl (lw_w_in (l := lw_tbl) 460 rfl (by decide +kernel) (by decide +kernel))
theorem mlRX9_122 : ML RX9 122 yX2_number := Or.inl (lw_w_in (l := lw_tbl) 466 rfl (by decide +kernel) (by decide +kernel))
theorem mlRX9_126 : ML RX9 126 yX2_become := Or.inl (lw_w_in (l := lw_tbl) 470 rfl (by decide +kernel) (by decide +kernel))
theorem mlRX9_130 : ML RX9 130 yX0_came := Or.inl (lw_w_in (l := lw_tbl) 471 rfl (by decide +kernel) (by decide +kernel))
theorem mlRX9_134 : ML RX9 134 yX4_isTapeFull := Or.inl (lw_w_in (l := lw_tbl) 486 rfl (by decide +kernel) (by decide +kernel))
theorem mlRX9_137 : ML RX9 137 yX4_comes := Or.inl (lw_w_in (l := lw_tbl) 490 rfl (by decide +kernel) (by decide +kernel))
theorem mlRX9_140 : ML RX9 140 yX4_fromTape := Or.inl (lw_w_in (l := lw_tbl) 498 rfl (by decide +kernel) (by decide +kernel))
theorem mlRX9_144 : ML RX9 144 yX9_isPair := Or.inl (lw_w_in (l := lw_tbl) 632 rfl (by decide +kernel) (by decide +kernel))
theorem mlRX9_147 : ML RX9 147 yX7_begin := Or.inl (lw_w_in (l := lw_tbl) 637 rfl (by decide +kernel) (by decide +kernel))
theorem mlRX9_151 : ML RX9 151 yX7_considers := Or.inl (lw_w_in (l := lw_tbl) 655 rfl (by decide +kernel) (by decide +kernel))
theorem mlRX9_158 : ML RX9 158 yX7_bid := Or.inl (lw_w_in (l := lw_tbl) 674 rfl (by decide +kernel) (by decide +kernel))
theorem mlRX9_161 : ML RX9 161 yX2_hasThing := Or.inl (lw_w_in (l := lw_tbl) 636 rfl (by decide +kernel) (by decide +kernel))
theorem mlRX9_164 : ML RX9 164 yX7_winner := Or.inl (lw_w_in (l := lw_tbl) 682 rfl (by decide +kernel) (by decide +kernel))
theorem mlRX9_167 : ML RX9 167 yX6_refusesBytes := Or.inl (lw_w_in (l := lw_tbl) 691 rfl (by decide +kernel) (by decide +kernel))
theorem mlRX9_170 : ML RX9 170 yX7_sellsAll := Or.inl (lw_w_in (l := lw_tbl) 696 rfl (by decide +kernel) (by decide +kernel))
theorem mlRX9_180 : ML RX9 180 yX2_hasBidder := Or.inl (lw_w_in (l := lw_tbl) 464 rfl (by decide +kernel) (by decide +kernel))
theorem mlRX9_195 : ML RX9 195 yJ6_bitCount_0f7a4 := Or.inl (lw_w_in (l := lw_tbl) 720 rfl (by decide +kernel) (by decide +kernel))
theorem mlRX9_200 : ML RX9 200 yX8_orders := Or.inl (lw_w_in (l := lw_tbl) 726 rfl (by decide +kernel) (by decide +kernel))
theorem mlRX9_210 : ML RX9 210 yX8_fewestExamined := Or.inl (lw_w_in (l := lw_tbl) 749 rfl (by decide +kernel) (by decide +kernel))
theorem mlRX9_213 : ML RX9 213 yX1_deals := Or.inl (lw_w_in (l := lw_tbl) 759 rfl (by decide +kernel) (by decide +kernel))
theorem mlRX9_216 : ML RX9 216 yX1_total := Or.inl (lw_w_in (l := lw_tbl) 782 rfl (by decide +kernel) (by decide +kernel))
theorem mlRX9_219 : ML RX9 219 yX1_share := Or.inl (lw_w_in (l := lw_tbl) 786 rfl (by decide +kernel) (by decide +kernel))
theorem mlRX9_225 : ML RX9 225 yX7_wouldChange := Or.inl (lw_w_in (l := lw_tbl) 795 rfl (by decide +kernel) (by decide +kernel))
theorem mlRX9_228 : ML RX9 228 yX2_yearPasses := Or.inl (lw_w_in (l := lw_tbl) 803 rfl (by decide +kernel) (by decide +kernel))
theorem mlRX9_231 : ML RX9 231 yX2_missedBits := Or.inl (lw_w_in (l := lw_tbl) 809 rfl (by decide +kernel) (by decide +kernel))
theorem mlRX9_234 : ML RX9 234 yX2_missedLongest := Or.inl (lw_w_in (l := lw_tbl) 817 rfl (by decide +kernel) (by decide +kernel))
theorem mlRX9_237 : ML RX9 237 yX9_areShelves := Or.inl (lw_w_in (l := lw_tbl) 825 rfl (by decide +kernel) (by decide +kernel))
theorem mlRX9_240 : ML RX9 240 yX9_refusesBoth := Or.inl (lw_w_in (l := lw_tbl) 828 rfl (by decide +kernel) (by decide +kernel))
theorem mlRX9_243 : ML RX9 243 yX7_firstWrong := Or.inl (lw_w_in (l := lw_tbl) 832 rfl (by decide +kernel) (by decide +kernel))
theorem mlRX9_247 : ML RX9 247 yX7_varies := Or.inl (lw_w_in (l := lw_tbl) 841 rfl (by decide +kernel) (by decide +kernel))
theorem mlRX9_250 : ML RX9 250 yX8_turns := Or.inl (lw_w_in (l := lw_tbl) 850 rfl (by decide +kernel) (by decide +kernel))
theorem mlRX9_256 : ML RX9 256 yX7_restarts := Or.inl (lw_w_in (l := lw_tbl) 872 rfl (by decide +kernel) (by decide +kernel))
theorem mlRX9_259 : ML RX9 259 yX7_sellsByDraws := Or.inl (lw_w_in (l := lw_tbl) 873 rfl (by decide +kernel) (by decide +kernel))
theorem mlRX9_263 : ML RX9 263 yX7_misses := Or.inl (lw_w_in (l := lw_tbl) 886 rfl (by decide +kernel) (by decide +kernel))
theorem lmRX9_266 : Cond.methodLink RX9 266 Lib.Math.min.name ∈ lw_w := lw_w_in (l := lw_tbl) 887 rfl (by decide +kernel) (by decide +kernel)
theorem mlRX9_271 : ML RX9 271 yX3_takes := Or.inl (lw_w_in (l := lw_tbl) 904 rfl (by decide +kernel) (by decide +kernel))
theorem mlRX9_279 : ML RX9 279 yX3_laysBack := Or.inl (lw_w_in (l := lw_tbl) 914 rfl (by decide +kernel) (by decide +kernel))
theorem mlRX9_285 : ML RX9 285 yX0_unmake := Or.inl (lw_w_in (l := lw_tbl) 924 rfl (by decide +kernel) (by decide +kernel))
theorem mlRX9_292 : ML RX9 292 yX0_remake := Or.inl (lw_w_in (l := lw_tbl) 933 rfl (by decide +kernel) (by decide +kernel))
theorem mlRX9_295 : ML RX9 295 yX5_isFull := Or.inl (lw_w_in (l := lw_tbl) 941 rfl (by decide +kernel) (by decide +kernel))
theorem mlRX9_298 : ML RX9 298 yX5_add := Or.inl (lw_w_in (l := lw_tbl) 945 rfl (by decide +kernel) (by decide +kernel))
theorem mlRX9_301 : ML RX9 301 yX5_acts := Or.inl (lw_w_in (l := lw_tbl) 953 rfl (by decide +kernel) (by decide +kernel))
theorem mlRX9_304 : ML RX9 304 yX5_traced := Or.inl (lw_w_in (l := lw_tbl) 981 rfl (by decide +kernel) (by decide +kernel))
theorem mlRX9_307 : ML RX9 307 yX5_has := Or.inl (lw_w_in (l := lw_tbl) 990 rfl (by decide +kernel) (by decide +kernel))
theorem mlRX9_309 : ML RX9 309 yX6_holdNothing := Or.inl (lw_w_in (l := lw_tbl) 991 rfl (by decide +kernel) (by decide +kernel))
theorem mlRX9_312 : ML RX9 312 yX6_holdLot := Or.inl (lw_w_in (l := lw_tbl) 995 rfl (by decide +kernel) (by decide +kernel))
theorem mlRX9_315 : ML RX9 315 yX6_holdRow := Or.inl (lw_w_in (l := lw_tbl) 1003 rfl (by decide +kernel) (by decide +kernel))
theorem mlRX9_319 : ML RX9 319 yX9_refusesElement := Or.inl (lw_w_in (l := lw_tbl) 1014 rfl (by decide +kernel) (by decide +kernel))
theorem mlRX9_322 : ML RX9 322 yX6_lay := Or.inl (lw_w_in (l := lw_tbl) 1018 rfl (by decide +kernel) (by decide +kernel))
theorem lmRX9_337 : Cond.methodLink RX9 337 arraycopyName ∈ lw_w := lw_w_in (l := lw_tbl) 1035 rfl (by decide +kernel) (by decide +kernel)
theorem mlRX9_346 : ML RX9 346 yX5_kindOf := Or.inl (lw_w_in (l := lw_tbl) 1040 rfl (by decide +kernel) (by decide +kernel))
theorem mlRX9_349 : ML RX9 349 yX5_isUnder := Or.inl (lw_w_in (l := lw_tbl) 1044 rfl (by decide +kernel) (by decide +kernel))
theorem lmRX0_20 : Cond.methodLink RX0 20 arraycopyName ∈ lw_w := lw_w_in (l := lw_tbl) 475 rfl (by decide +kernel) (by decide +kernel)
theorem mlRX0_26 : ML RX0 26 yX2_become := Or.inl (lw_w_in (l := lw_tbl) 928 rfl (by decide +kernel) (by decide +kernel))
theorem mlRX1_24 : ML RX1 24 yJ7_fill_d0a16 := Or.inl (lw_w_in (l := lw_tbl) 763 rfl (by decide +kernel) (by decide +kernel))
theorem mlRX1_39 : ML RX1 39 yX1_weigh := Or.inl (lw_w_in (l := lw_tbl) 766 rfl (by decide +kernel) (by decide +kernel))
theorem mlRX1_43 : ML RX1 43 yX1_bestOf := Or.inl (lw_w_in (l := lw_tbl) 775 rfl (by decide +kernel) (by decide +kernel))
theorem mlRX1_54 : ML RX1 54 yX2_number := Or.inl (lw_w_in (l := lw_tbl) 770 rfl (by decide +kernel) (by decide +kernel))
theorem mlRX1_62 : ML RX1 62 yX7_misses := Or.inl (lw_w_in (l := lw_tbl) 771 rfl (by decide +kernel) (by decide +kernel))
theorem lmRX1_71 : Cond.methodLink RX1 71 Lib.MathLoose.max_long.x ∈ lw_w := lw_w_in (l := lw_tbl) 779 rfl (by decide +kernel) (by decide +kernel)
theorem mlRX2_25 : ML RX2 25 yX2_hasThing := Or.inl (lw_w_in (l := lw_tbl) 452 rfl (by decide +kernel) (by decide +kernel))
theorem mlRX2_29 : ML RX2 29 yX2_hasBidder := Or.inl (lw_w_in (l := lw_tbl) 456 rfl (by decide +kernel) (by decide +kernel))
theorem mlRX2_32 : ML RX2 32 yX2_become := Or.inl (lw_w_in (l := lw_tbl) 403 rfl (by decide +kernel) (by decide +kernel))
theorem lmRX2_36 : Cond.methodLink RX2 36 arraycopyName ∈ lw_w := lw_w_in (l := lw_tbl) 645 rfl (by decide +kernel) (by decide +kernel)
theorem mlRX2_42 : ML RX2 42 yX2_number := Or.inl (lw_w_in (l := lw_tbl) 807 rfl (by decide +kernel) (by decide +kernel))
theorem lmRX2_46 : Cond.methodLink RX2 46 Lib.Math.max.name ∈ lw_w := lw_w_in (l := lw_tbl) 808 rfl (by decide +kernel) (by decide +kernel)
theorem mlRX3_22 : ML RX3 22 yX2_copies := Or.inl (lw_w_in (l := lw_tbl) 908 rfl (by decide +kernel) (by decide +kernel))
theorem lmRX3_26 : Cond.methodLink RX3 26 arraycopyName ∈ lw_w := lw_w_in (l := lw_tbl) 909 rfl (by decide +kernel) (by decide +kernel)
theorem mlRX3_40 : ML RX3 40 yX2_number := Or.inl (lw_w_in (l := lw_tbl) 918 rfl (by decide +kernel) (by decide +kernel))
theorem mlRX3_44 : ML RX3 44 yX2_become := Or.inl (lw_w_in (l := lw_tbl) 919 rfl (by decide +kernel) (by decide +kernel))
theorem mlRX4_35 : ML RX4 35 yX4_readLines := Or.inl (lw_w_in (l := lw_tbl) 502 rfl (by decide +kernel) (by decide +kernel))
theorem mlRX4_46 : ML RX4 46 yX4_readLine := Or.inl (lw_w_in (l := lw_tbl) 506 rfl (by decide +kernel) (by decide +kernel))
theorem mlRX4_49 : ML RX4 49 yX4_takes := Or.inl (lw_w_in (l := lw_tbl) 620 rfl (by decide +kernel) (by decide +kernel))
theorem mlRX4_53 : ML RX4 53 yX4_readRank := Or.inl (lw_w_in (l := lw_tbl) 510 rfl (by decide +kernel) (by decide +kernel))
theorem mlRX4_57 : ML RX4 57 yX4_emit := Or.inl (lw_w_in (l := lw_tbl) 529 rfl (by decide +kernel) (by decide +kernel))
theorem mlRX4_61 : ML RX4 61 yX4_readOperand := Or.inl (lw_w_in (l := lw_tbl) 514 rfl (by decide +kernel) (by decide +kernel))
theorem mlRX4_64 : ML RX4 64 yX4_next := Or.inl (lw_w_in (l := lw_tbl) 518 rfl (by decide +kernel) (by decide +kernel))
theorem mlRX4_68 : ML RX4 68 yX4_rankOf := Or.inl (lw_w_in (l := lw_tbl) 624 rfl (by decide +kernel) (by decide +kernel))
theorem mlRX4_72 : ML RX4 72 yX4_isDigit := Or.inl (lw_w_in (l := lw_tbl) 522 rfl (by decide +kernel) (by decide +kernel))
theorem mlRX4_75 : ML RX4 75 yX4_readNumber := Or.inl (lw_w_in (l := lw_tbl) 525 rfl (by decide +kernel) (by decide +kernel))
theorem lmRX4_80 : Cond.methodLink RX4 80 yJ0_indexOf_0f7a4 ∈ lw_w := lw_w_in (l := lw_tbl) 534 rfl (by decide +kernel) (by decide +kernel)
theorem lmRX4_85 : Cond.methodLink RX4 85 Lib.Math.min.name ∈ lw_w := lw_w_in (l := lw_tbl) 667 rfl (by decide +kernel) (by decide +kernel)
theorem lmRX4_91 : Cond.methodLink RX4 91 Lib.Math.max.name ∈ lw_w := lw_w_in (l := lw_tbl) 668 rfl (by decide +kernel) (by decide +kernel)
theorem mlRX4_94 : ML RX4 94 yX4_worked := Or.inl (lw_w_in (l := lw_tbl) 669 rfl (by decide +kernel) (by decide +kernel))
theorem mlRX5_22 : ML RX5 22 yX5_has := Or.inl (lw_w_in (l := lw_tbl) 957 rfl (by decide +kernel) (by decide +kernel))
theorem lmRX5_32 : Cond.methodLink RX5 32 Lib.Math.min.name ∈ lw_w := lw_w_in (l := lw_tbl) 985 rfl (by decide +kernel) (by decide +kernel)
theorem mlRX5_41 : ML RX5 41 yX5_runs := Or.inl (lw_w_in (l := lw_tbl) 961 rfl (by decide +kernel) (by decide +kernel))
theorem mlRX5_48 : ML RX5 48 yX5_runBody := Or.inl (lw_w_in (l := lw_tbl) 969 rfl (by decide +kernel) (by decide +kernel))
theorem mlRX5_51 : ML RX5 51 yX5_own := Or.inl (lw_w_in (l := lw_tbl) 973 rfl (by decide +kernel) (by decide +kernel))
theorem lmRX6_28 : Cond.methodLink RX6 28 Lib.Math.min.name ∈ lw_w := lw_w_in (l := lw_tbl) 1007 rfl (by decide +kernel) (by decide +kernel)
theorem lmRX6_34 : Cond.methodLink RX6 34 Lib.Math.max.name ∈ lw_w := lw_w_in (l := lw_tbl) 1008 rfl (by decide +kernel) (by decide +kernel)
theorem mlRX6_37 : ML RX6 37 yJ7_fill_d0a16 := Or.inl (lw_w_in (l := lw_tbl) 1009 rfl (by decide +kernel) (by decide +kernel))
theorem mlRX6_43 : ML RX6 43 yX6_holdsBytes := Or.inl (lw_w_in (l := lw_tbl) 695 rfl (by decide +kernel) (by decide +kernel))
theorem mlRX6_47 : ML RX6 47 yX6_hasRun := Or.inl (lw_w_in (l := lw_tbl) 443 rfl (by decide +kernel) (by decide +kernel))
theorem mlRX6_51 : ML RX6 51 yX6_kept := Or.inl (lw_w_in (l := lw_tbl) 1022 rfl (by decide +kernel) (by decide +kernel))
theorem mlRX7_38 : ML RX7 38 yX2_copies := Or.inl (lw_w_in (l := lw_tbl) 641 rfl (by decide +kernel) (by decide +kernel))
theorem mlRX7_42 : ML RX7 42 yJ7_fill_53178 := Or.inl (lw_w_in (l := lw_tbl) 646 rfl (by decide +kernel) (by decide +kernel))
theorem mlRX7_48 : ML RX7 48 yX7_restarts := Or.inl (lw_w_in (l := lw_tbl) 649 rfl (by decide +kernel) (by decide +kernel))
theorem mlRX7_67 : ML RX7 67 yX2_number := Or.inl (lw_w_in (l := lw_tbl) 653 rfl (by decide +kernel) (by decide +kernel))
theorem mlRX7_71 : ML RX7 71 yX2_hasBidder := Or.inl (lw_w_in (l := lw_tbl) 654 rfl (by decide +kernel) (by decide +kernel))
theorem mlRX7_75 : ML RX7 75 yX2_become := Or.inl (lw_w_in (l := lw_tbl) 845 rfl (by decide +kernel) (by decide +kernel))
theorem mlRX7_79 : ML RX7 79 yX4_gives := Or.inl (lw_w_in (l := lw_tbl) 663 rfl (by decide +kernel) (by decide +kernel))
theorem lmRX7_85 : Cond.methodLink RX7 85 Lib.Math.min.name ∈ lw_w := lw_w_in (l := lw_tbl) 672 rfl (by decide +kernel) (by decide +kernel)
theorem lmRX7_90 : Cond.methodLink RX7 90 Lib.Math.max.name ∈ lw_w := lw_w_in (l := lw_tbl) 673 rfl (by decide +kernel) (by decide +kernel)
theorem mlRX7_96 : ML RX7 96 yX7_misses := Or.inl (lw_w_in (l := lw_tbl) 659 rfl (by decide +kernel) (by decide +kernel))
theorem mlRX7_100 : ML RX7 100 yX7_bid := Or.inl (lw_w_in (l := lw_tbl) 686 rfl (by decide +kernel) (by decide +kernel))
theorem mlRX7_104 : ML RX7 104 yX7_considers := Or.inl (lw_w_in (l := lw_tbl) 710 rfl (by decide +kernel) (by decide +kernel))
theorem mlRX7_108 : ML RX7 108 yX7_winner := Or.inl (lw_w_in (l := lw_tbl) 711 rfl (by decide +kernel) (by decide +kernel))
theorem mlRX7_112 : ML RX7 112 yX7_lengthOf := Or.inl (lw_w_in (l := lw_tbl) 700 rfl (by decide +kernel) (by decide +kernel))
theorem mlRX7_119 : ML RX7 119 yX6_at := Or.inl (lw_w_in (l := lw_tbl) 704 rfl (by decide +kernel) (by decide +kernel))
theorem mlRX7_125 : ML RX7 125 yX7_sellsOne := Or.inl (lw_w_in (l := lw_tbl) 706 rfl (by decide +kernel) (by decide +kernel))
theorem mlRX7_132 : ML RX7 132 yX2_hasThing := Or.inl (lw_w_in (l := lw_tbl) 705 rfl (by decide +kernel) (by decide +kernel))
theorem lmRX8_26 : Cond.methodLink RX8 26 Lib.Math.min.name ∈ lw_w := lw_w_in (l := lw_tbl) 730 rfl (by decide +kernel) (by decide +kernel)
theorem mlRX8_35 : ML RX8 35 yX8_tryOrder := Or.inl (lw_w_in (l := lw_tbl) 731 rfl (by decide +kernel) (by decide +kernel))
theorem lmRX8_44 : Cond.methodLink RX8 44 arraycopyName ∈ lw_w := lw_w_in (l := lw_tbl) 735 rfl (by decide +kernel) (by decide +kernel)
theorem mlRX8_53 : ML RX8 53 yX7_sellsOne := Or.inl (lw_w_in (l := lw_tbl) 736 rfl (by decide +kernel) (by decide +kernel))
theorem mlRX8_57 : ML RX8 57 yX7_unsellsOne := Or.inl (lw_w_in (l := lw_tbl) 737 rfl (by decide +kernel) (by decide +kernel))
theorem mlRX8_73 : ML RX8 73 yJ6_bitCount_0f7a4 := Or.inl (lw_w_in (l := lw_tbl) 753 rfl (by decide +kernel) (by decide +kernel))
theorem mlRX8_78 : ML RX8 78 yX7_winner := Or.inl (lw_w_in (l := lw_tbl) 754 rfl (by decide +kernel) (by decide +kernel))
theorem mlRX8_85 : ML RX8 85 yX8_moved := Or.inl (lw_w_in (l := lw_tbl) 856 rfl (by decide +kernel) (by decide +kernel))
theorem lmRX8_92 : Cond.methodLink RX8 92 Lib.Math.max.name ∈ lw_w := lw_w_in (l := lw_tbl) 867 rfl (by decide +kernel) (by decide +kernel)
theorem mlRX8_95 : ML RX8 95 yX2_number := Or.inl (lw_w_in (l := lw_tbl) 860 rfl (by decide +kernel) (by decide +kernel))
theorem mlRX8_101 : ML RX8 101 yX2_become := Or.inl (lw_w_in (l := lw_tbl) 862 rfl (by decide +kernel) (by decide +kernel))
theorem mlRX8_104 : ML RX8 104 yX8_outcome := Or.inl (lw_w_in (l := lw_tbl) 863 rfl (by decide +kernel) (by decide +kernel))
theorem mlRX10_101 : ML RX10 101 yX10_within := Or.inl (lw_w_in (l := lw_tbl) 1197 rfl (by decide +kernel) (by decide +kernel))
theorem mlRX10_108 : ML RX10 108 yX10_newOne := Or.inl (lw_w_in (l := lw_tbl) 1204 rfl (by decide +kernel) (by decide +kernel))
theorem mlRX10_112 : ML RX10 112 yX10_isShelf := Or.inl (lw_w_in (l := lw_tbl) 1212 rfl (by decide +kernel) (by decide +kernel))
theorem mlRX10_118 : ML RX10 118 yX10_toldAt := Or.inl (lw_w_in (l := lw_tbl) 1216 rfl (by decide +kernel) (by decide +kernel))
theorem mlRX10_122 : ML RX10 122 yX10_isThing := Or.inl (lw_w_in (l := lw_tbl) 1228 rfl (by decide +kernel) (by decide +kernel))
theorem mlRX10_125 : ML RX10 125 yX10_isOne := Or.inl (lw_w_in (l := lw_tbl) 1232 rfl (by decide +kernel) (by decide +kernel))
theorem mlRX10_128 : ML RX10 128 yX10_isOf := Or.inl (lw_w_in (l := lw_tbl) 1224 rfl (by decide +kernel) (by decide +kernel))
theorem mlRX10_132 : ML RX10 132 yX10_isFit := Or.inl (lw_w_in (l := lw_tbl) 1236 rfl (by decide +kernel) (by decide +kernel))
theorem mlRX10_136 : ML RX10 136 yX10_get := Or.inl (lw_w_in (l := lw_tbl) 1241 rfl (by decide +kernel) (by decide +kernel))
theorem mlRX10_139 : ML RX10 139 yX10_becomes := Or.inl (lw_w_in (l := lw_tbl) 1245 rfl (by decide +kernel) (by decide +kernel))
theorem mlRX10_155 : ML RX10 155 yX10_sign := Or.inl (lw_w_in (l := lw_tbl) 1301 rfl (by decide +kernel) (by decide +kernel))
theorem mlRX10_162 : ML RX10 162 yX10_isDigit := Or.inl (lw_w_in (l := lw_tbl) 1297 rfl (by decide +kernel) (by decide +kernel))
theorem mlRX10_166 : ML RX10 166 yX10_codes := Or.inl (lw_w_in (l := lw_tbl) 1305 rfl (by decide +kernel) (by decide +kernel))
theorem mlRX10_169 : ML RX10 169 yX10_nameOf := Or.inl (lw_w_in (l := lw_tbl) 1309 rfl (by decide +kernel) (by decide +kernel))
theorem mlRX10_176 : ML RX10 176 yX10_is := Or.inl (lw_w_in (l := lw_tbl) 1312 rfl (by decide +kernel) (by decide +kernel))
theorem mlRX10_179 : ML RX10 179 yX10_isO := Or.inl (lw_w_in (l := lw_tbl) 1293 rfl (by decide +kernel) (by decide +kernel))
theorem mlRX10_182 : ML RX10 182 yX10_isE := Or.inl (lw_w_in (l := lw_tbl) 1273 rfl (by decide +kernel) (by decide +kernel))
theorem mlRX10_185 : ML RX10 185 yX10_isP := Or.inl (lw_w_in (l := lw_tbl) 1289 rfl (by decide +kernel) (by decide +kernel))
theorem mlRX10_188 : ML RX10 188 yX10_isS := Or.inl (lw_w_in (l := lw_tbl) 1285 rfl (by decide +kernel) (by decide +kernel))
theorem mlRX10_191 : ML RX10 191 yX10_isB := Or.inl (lw_w_in (l := lw_tbl) 1281 rfl (by decide +kernel) (by decide +kernel))
theorem mlRX10_194 : ML RX10 194 yX10_isA := Or.inl (lw_w_in (l := lw_tbl) 1277 rfl (by decide +kernel) (by decide +kernel))
theorem mlRX10_200 : ML RX10 200 yX10_isLine := Or.inl (lw_w_in (l := lw_tbl) 1269 rfl (by decide +kernel) (by decide +kernel))
theorem mlRX10_210 : ML RX10 210 yX10_both := Or.inl (lw_w_in (l := lw_tbl) 1344 rfl (by decide +kernel) (by decide +kernel))
theorem mlRX10_213 : ML RX10 213 yX10_worked := Or.inl (lw_w_in (l := lw_tbl) 1340 rfl (by decide +kernel) (by decide +kernel))
theorem mlRX10_216 : ML RX10 216 yX10_missing := Or.inl (lw_w_in (l := lw_tbl) 1332 rfl (by decide +kernel) (by decide +kernel))
theorem mlRX10_219 : ML RX10 219 yX10_byLaw := Or.inl (lw_w_in (l := lw_tbl) 1336 rfl (by decide +kernel) (by decide +kernel))
theorem lmRX10_222 : Cond.methodLink RX10 222 Lib.Math.min.name ∈ lw_w := lw_w_in (l := lw_tbl) 1347 rfl (by decide +kernel) (by decide +kernel)
theorem lmRX10_227 : Cond.methodLink RX10 227 Lib.Math.max.name ∈ lw_w := lw_w_in (l := lw_tbl) 1348 rfl (by decide +kernel) (by decide +kernel)
theorem mlRX10_230 : ML RX10 230 yX10_countOf := Or.inl (lw_w_in (l := lw_tbl) 1324 rfl (by decide +kernel) (by decide +kernel))
theorem mlRX10_233 : ML RX10 233 yX10_yearsOf := Or.inl (lw_w_in (l := lw_tbl) 1328 rfl (by decide +kernel) (by decide +kernel))
theorem mlRX10_236 : ML RX10 236 yX10_wouldMiss := Or.inl (lw_w_in (l := lw_tbl) 1320 rfl (by decide +kernel) (by decide +kernel))
theorem mlRX10_239 : ML RX10 239 yX10_bidOf := Or.inl (lw_w_in (l := lw_tbl) 1349 rfl (by decide +kernel) (by decide +kernel))
theorem mlRX10_242 : ML RX10 242 yX10_winner := Or.inl (lw_w_in (l := lw_tbl) 1357 rfl (by decide +kernel) (by decide +kernel))
theorem mlRX10_245 : ML RX10 245 yX10_isForSale := Or.inl (lw_w_in (l := lw_tbl) 1381 rfl (by decide +kernel) (by decide +kernel))
theorem mlRX10_248 : ML RX10 248 yX10_laysBack := Or.inl (lw_w_in (l := lw_tbl) 1389 rfl (by decide +kernel) (by decide +kernel))
theorem mlRX10_252 : ML RX10 252 yX10_noBytes := Or.inl (lw_w_in (l := lw_tbl) 1365 rfl (by decide +kernel) (by decide +kernel))
theorem mlRX10_255 : ML RX10 255 yX10_listed := Or.inl (lw_w_in (l := lw_tbl) 1369 rfl (by decide +kernel) (by decide +kernel))
theorem mlRX10_258 : ML RX10 258 yX10_keeps := Or.inl (lw_w_in (l := lw_tbl) 1373 rfl (by decide +kernel) (by decide +kernel))
theorem mlRX10_262 : ML RX10 262 yX10_goes := Or.inl (lw_w_in (l := lw_tbl) 1377 rfl (by decide +kernel) (by decide +kernel))
theorem mlRX10_265 : ML RX10 265 yX10_laysBack_ := Or.inl (lw_w_in (l := lw_tbl) 1385 rfl (by decide +kernel) (by decide +kernel))
theorem mlRX10_270 : ML RX10 270 yX10_orders := Or.inl (lw_w_in (l := lw_tbl) 1406 rfl (by decide +kernel) (by decide +kernel))
theorem mlRX10_273 : ML RX10 273 yX10_forSale := Or.inl (lw_w_in (l := lw_tbl) 1401 rfl (by decide +kernel) (by decide +kernel))
theorem mlRX10_276 : ML RX10 276 yJ6_bitCount_0f7a4 := Or.inl (lw_w_in (l := lw_tbl) 1405 rfl (by decide +kernel) (by decide +kernel))
theorem mlRX10_281 : ML RX10 281 yX10_deals := Or.inl (lw_w_in (l := lw_tbl) 1422 rfl (by decide +kernel) (by decide +kernel))
theorem mlRX10_284 : ML RX10 284 yX10_wouldChange := Or.inl (lw_w_in (l := lw_tbl) 1430 rfl (by decide +kernel) (by decide +kernel))
theorem mlRX10_287 : ML RX10 287 yX10_less := Or.inl (lw_w_in (l := lw_tbl) 1442 rfl (by decide +kernel) (by decide +kernel))
theorem mlRX10_290 : ML RX10 290 yX10_passes := Or.inl (lw_w_in (l := lw_tbl) 1438 rfl (by decide +kernel) (by decide +kernel))
theorem mlRX10_293 : ML RX10 293 yX10_missedNow := Or.inl (lw_w_in (l := lw_tbl) 1445 rfl (by decide +kernel) (by decide +kernel))
theorem mlRX10_296 : ML RX10 296 yX10_quiet := Or.inl (lw_w_in (l := lw_tbl) 1453 rfl (by decide +kernel) (by decide +kernel))
theorem mlRX10_299 : ML RX10 299 yX10_longest := Or.inl (lw_w_in (l := lw_tbl) 1457 rfl (by decide +kernel) (by decide +kernel))
theorem mlRX10_302 : ML RX10 302 yX10_noBook := Or.inl (lw_w_in (l := lw_tbl) 1465 rfl (by decide +kernel) (by decide +kernel))
theorem mlRX10_305 : ML RX10 305 yX10_unlike := Or.inl (lw_w_in (l := lw_tbl) 1469 rfl (by decide +kernel) (by decide +kernel))
theorem mlRX10_308 : ML RX10 308 yX10_turnBy := Or.inl (lw_w_in (l := lw_tbl) 1481 rfl (by decide +kernel) (by decide +kernel))
theorem mlRX10_312 : ML RX10 312 yX10_turnFrom := Or.inl (lw_w_in (l := lw_tbl) 1485 rfl (by decide +kernel) (by decide +kernel))
theorem mlRX10_329 : ML RX10 329 yX10_ran := Or.inl (lw_w_in (l := lw_tbl) 1534 rfl (by decide +kernel) (by decide +kernel))
theorem mlRX10_333 : ML RX10 333 yX10_bidsBy := Or.inl (lw_w_in (l := lw_tbl) 1530 rfl (by decide +kernel) (by decide +kernel))
theorem mlRX10_336 : ML RX10 336 yX10_above := Or.inl (lw_w_in (l := lw_tbl) 1538 rfl (by decide +kernel) (by decide +kernel))
theorem mlRX10_339 : ML RX10 339 yX10_missesBy := Or.inl (lw_w_in (l := lw_tbl) 1541 rfl (by decide +kernel) (by decide +kernel))
theorem mlRX10_342 : ML RX10 342 yX10_losesBy := Or.inl (lw_w_in (l := lw_tbl) 1545 rfl (by decide +kernel) (by decide +kernel))
theorem mlRX10_345 : ML RX10 345 yX10_tells := Or.inl (lw_w_in (l := lw_tbl) 1549 rfl (by decide +kernel) (by decide +kernel))
theorem mlRX10_351 : ML RX10 351 yX10_isRow := Or.inl (lw_w_in (l := lw_tbl) 1569 rfl (by decide +kernel) (by decide +kernel))
theorem mlRX10_354 : ML RX10 354 yX10_kept := Or.inl (lw_w_in (l := lw_tbl) 1573 rfl (by decide +kernel) (by decide +kernel))
theorem miJ6_bitCount_0f7a4 : MI yJ6_bitCount_0f7a4 cJ6_bitCount_0f7a4 1 (some .int) 1 := ⟨lw_w_in (l := lw_tbl) 722 rfl (by decide +kernel) (by decide +kernel), lw_w_in (l := lw_tbl) 95 rfl (by decide +kernel) (by decide +kernel), by decide +kernel, by decide +kernel, by decide +kernel⟩
theorem miJ7_fill_53178 : MI yJ7_fill_53178 cJ7_fill_53178 4 none 2 := ⟨lw_w_in (l := lw_tbl) 648 rfl (by decide +kernel) (by decide +kernel), lw_w_in (l := lw_tbl) 94 rfl (by decide +kernel) (by decide +kernel), by decide +kernel, by decide +kernel, by decide +kernel⟩
theorem miJ7_fill_d0a16 : MI yJ7_fill_d0a16 cJ7_fill_d0a16 5 none 2 := ⟨lw_w_in (l := lw_tbl) 765 rfl (by decide +kernel) (by decide +kernel), lw_w_in (l := lw_tbl) 94 rfl (by decide +kernel) (by decide +kernel), by decide +kernel, by decide +kernel, by decide +kernel⟩
theorem miX0_came : MI yX0_came cX0_came 6 none 4 := ⟨lw_w_in (l := lw_tbl) 474 rfl (by decide +kernel) (by decide +kernel), lw_w_in (l := lw_tbl) 82 rfl (by decide +kernel) (by decide +kernel), by decide +kernel, by decide +kernel, by decide +kernel⟩
theorem miX0_remake : MI yX0_remake cX0_remake 3 (some .int) 1 := ⟨lw_w_in (l := lw_tbl) 936 rfl (by decide +kernel) (by decide +kernel), lw_w_in (l := lw_tbl) 82 rfl (by decide +kernel) (by decide +kernel), by decide +kernel, by decide +kernel, by decide +kernel⟩
theorem miX0_unmake : MI yX0_unmake cX0_unmake 3 (some .int) 1 := ⟨lw_w_in (l := lw_tbl) 927 rfl (by decide +kernel) (by decide +kernel), lw_w_in (l := lw_tbl) 82 rfl (by decide +kernel) (by decide +kernel), by decide +kernel, by decide +kernel, by decide +kernel⟩
theorem miX10_above : MI yX10_above cX10_above 1 (some .int) 1 := ⟨lw_w_in (l := lw_tbl) 1540 rfl (by decide +kernel) (by decide +kernel), lw_w_in (l := lw_tbl) 86 rfl (by decide +kernel) (by decide +kernel), by decide +kernel, by decide +kernel, by decide +kernel⟩
theorem miX10_becomes : MI yX10_becomes cX10_becomes 4 none 3 := ⟨lw_w_in (l := lw_tbl) 1248 rfl (by decide +kernel) (by decide +kernel), lw_w_in (l := lw_tbl) 86 rfl (by decide +kernel) (by decide +kernel), by decide +kernel, by decide +kernel, by decide +kernel⟩
theorem miX10_bidOf : MI yX10_bidOf cX10_bidOf 5 (some .int) 2 := ⟨lw_w_in (l := lw_tbl) 1352 rfl (by decide +kernel) (by decide +kernel), lw_w_in (l := lw_tbl) 86 rfl (by decide +kernel) (by decide +kernel), by decide +kernel, by decide +kernel, by decide +kernel⟩
theorem miX10_bidsBy : MI yX10_bidsBy cX10_bidsBy 4 (some .int) 3 := ⟨lw_w_in (l := lw_tbl) 1533 rfl (by decide +kernel) (by decide +kernel), lw_w_in (l := lw_tbl) 86 rfl (by decide +kernel) (by decide +kernel), by decide +kernel, by decide +kernel, by decide +kernel⟩
theorem miX10_both : MI yX10_both cX10_both 3 (some .int) 3 := ⟨lw_w_in (l := lw_tbl) 1346 rfl (by decide +kernel) (by decide +kernel), lw_w_in (l := lw_tbl) 86 rfl (by decide +kernel) (by decide +kernel), by decide +kernel, by decide +kernel, by decide +kernel⟩
theorem miX10_byLaw : MI yX10_byLaw cX10_byLaw 2 (some .int) 0 := ⟨lw_w_in (l := lw_tbl) 1339 rfl (by decide +kernel) (by decide +kernel), lw_w_in (l := lw_tbl) 86 rfl (by decide +kernel) (by decide +kernel), by decide +kernel, by decide +kernel, by decide +kernel⟩
theorem miX10_codes : MI yX10_codes cX10_codes 2 (some .boolean) 1 := ⟨lw_w_in (l := lw_tbl) 1308 rfl (by decide +kernel) (by decide +kernel), lw_w_in (l := lw_tbl) 86 rfl (by decide +kernel) (by decide +kernel), by decide +kernel, by decide +kernel, by decide +kernel⟩
theorem miX10_countOf : MI yX10_countOf cX10_countOf 4 (some .int) 1 := ⟨lw_w_in (l := lw_tbl) 1327 rfl (by decide +kernel) (by decide +kernel), lw_w_in (l := lw_tbl) 86 rfl (by decide +kernel) (by decide +kernel), by decide +kernel, by decide +kernel, by decide +kernel⟩
theorem miX10_deals : MI yX10_deals cX10_deals 5 none 3 := ⟨lw_w_in (l := lw_tbl) 1425 rfl (by decide +kernel) (by decide +kernel), lw_w_in (l := lw_tbl) 86 rfl (by decide +kernel) (by decide +kernel), by decide +kernel, by decide +kernel, by decide +kernel⟩
theorem miX10_forSale : MI yX10_forSale cX10_forSale 3 (some .int) 0 := ⟨lw_w_in (l := lw_tbl) 1404 rfl (by decide +kernel) (by decide +kernel), lw_w_in (l := lw_tbl) 86 rfl (by decide +kernel) (by decide +kernel), by decide +kernel, by decide +kernel, by decide +kernel⟩
theorem miX10_get : MI yX10_get cX10_get 3 (some .int) 2 := ⟨lw_w_in (l := lw_tbl) 1244 rfl (by decide +kernel) (by decide +kernel), lw_w_in (l := lw_tbl) 86 rfl (by decide +kernel) (by decide +kernel), by decide +kernel, by decide +kernel, by decide +kernel⟩
theorem miX10_goes : MI yX10_goes cX10_goes 3 (some .int) 1 := ⟨lw_w_in (l := lw_tbl) 1380 rfl (by decide +kernel) (by decide +kernel), lw_w_in (l := lw_tbl) 86 rfl (by decide +kernel) (by decide +kernel), by decide +kernel, by decide +kernel, by decide +kernel⟩
theorem miX10_is : MI yX10_is cX10_is 2 (some .boolean) 1 := ⟨lw_w_in (l := lw_tbl) 1315 rfl (by decide +kernel) (by decide +kernel), lw_w_in (l := lw_tbl) 86 rfl (by decide +kernel) (by decide +kernel), by decide +kernel, by decide +kernel, by decide +kernel⟩
theorem miX10_isA : MI yX10_isA cX10_isA 1 (some .boolean) 0 := ⟨lw_w_in (l := lw_tbl) 1280 rfl (by decide +kernel) (by decide +kernel), lw_w_in (l := lw_tbl) 86 rfl (by decide +kernel) (by decide +kernel), by decide +kernel, by decide +kernel, by decide +kernel⟩
theorem miX10_isB : MI yX10_isB cX10_isB 2 (some .boolean) 0 := ⟨lw_w_in (l := lw_tbl) 1284 rfl (by decide +kernel) (by decide +kernel), lw_w_in (l := lw_tbl) 86 rfl (by decide +kernel) (by decide +kernel), by decide +kernel, by decide +kernel, by decide +kernel⟩
theorem miX10_isDigit : MI yX10_isDigit cX10_isDigit 1 (some .boolean) 0 := ⟨lw_w_in (l := lw_tbl) 1300 rfl (by decide +kernel) (by decide +kernel), lw_w_in (l := lw_tbl) 86 rfl (by decide +kernel) (by decide +kernel), by decide +kernel, by decide +kernel, by decide +kernel⟩
theorem miX10_isE : MI yX10_isE cX10_isE 1 (some .boolean) 0 := ⟨lw_w_in (l := lw_tbl) 1276 rfl (by decide +kernel) (by decide +kernel), lw_w_in (l := lw_tbl) 86 rfl (by decide +kernel) (by decide +kernel), by decide +kernel, by decide +kernel, by decide +kernel⟩
theorem miX10_isFit : MI yX10_isFit cX10_isFit 3 (some .boolean) 2 := ⟨lw_w_in (l := lw_tbl) 1239 rfl (by decide +kernel) (by decide +kernel), lw_w_in (l := lw_tbl) 86 rfl (by decide +kernel) (by decide +kernel), by decide +kernel, by decide +kernel, by decide +kernel⟩
theorem miX10_isForSale : MI yX10_isForSale cX10_isForSale 2 (some .boolean) 1 := ⟨lw_w_in (l := lw_tbl) 1384 rfl (by decide +kernel) (by decide +kernel), lw_w_in (l := lw_tbl) 86 rfl (by decide +kernel) (by decide +kernel), by decide +kernel, by decide +kernel, by decide +kernel⟩
theorem miX10_isLine : MI yX10_isLine cX10_isLine 1 (some .boolean) 0 := ⟨lw_w_in (l := lw_tbl) 1272 rfl (by decide +kernel) (by decide +kernel), lw_w_in (l := lw_tbl) 86 rfl (by decide +kernel) (by decide +kernel), by decide +kernel, by decide +kernel, by decide +kernel⟩
theorem miX10_isO : MI yX10_isO cX10_isO 3 (some .boolean) 0 := ⟨lw_w_in (l := lw_tbl) 1296 rfl (by decide +kernel) (by decide +kernel), lw_w_in (l := lw_tbl) 86 rfl (by decide +kernel) (by decide +kernel), by decide +kernel, by decide +kernel, by decide +kernel⟩
theorem miX10_isOf : MI yX10_isOf cX10_isOf 3 (some .boolean) 2 := ⟨lw_w_in (l := lw_tbl) 1227 rfl (by decide +kernel) (by decide +kernel), lw_w_in (l := lw_tbl) 86 rfl (by decide +kernel) (by decide +kernel), by decide +kernel, by decide +kernel, by decide +kernel⟩
theorem miX10_isOne : MI yX10_isOne cX10_isOne 2 (some .boolean) 1 := ⟨lw_w_in (l := lw_tbl) 1235 rfl (by decide +kernel) (by decide +kernel), lw_w_in (l := lw_tbl) 86 rfl (by decide +kernel) (by decide +kernel), by decide +kernel, by decide +kernel, by decide +kernel⟩
theorem miX10_isP : MI yX10_isP cX10_isP 2 (some .boolean) 0 := ⟨lw_w_in (l := lw_tbl) 1292 rfl (by decide +kernel) (by decide +kernel), lw_w_in (l := lw_tbl) 86 rfl (by decide +kernel) (by decide +kernel), by decide +kernel, by decide +kernel, by decide +kernel⟩
theorem miX10_isRow : MI yX10_isRow cX10_isRow 2 (some .boolean) 1 := ⟨lw_w_in (l := lw_tbl) 1572 rfl (by decide +kernel) (by decide +kernel), lw_w_in (l := lw_tbl) 86 rfl (by decide +kernel) (by decide +kernel), by decide +kernel, by decide +kernel, by decide +kernel⟩
theorem miX10_isS : MI yX10_isS cX10_isS 2 (some .boolean) 0 := ⟨lw_w_in (l := lw_tbl) 1288 rfl (by decide +kernel) (by decide +kernel), lw_w_in (l := lw_tbl) 86 rfl (by decide +kernel) (by decide +kernel), by decide +kernel, by decide +kernel, by decide +kernel⟩
theorem miX10_isShelf : MI yX10_isShelf cX10_isShelf 1 (some .boolean) 1 := ⟨lw_w_in (l := lw_tbl) 1214 rfl (by decide +kernel) (by decide +kernel), lw_w_in (l := lw_tbl) 86 rfl (by decide +kernel) (by decide +kernel), by decide +kernel, by decide +kernel, by decide +kernel⟩
theorem miX10_isThing : MI yX10_isThing cX10_isThing 2 (some .boolean) 1 := ⟨lw_w_in (l := lw_tbl) 1231 rfl (by decide +kernel) (by decide +kernel), lw_w_in (l := lw_tbl) 86 rfl (by decide +kernel) (by decide +kernel), by decide +kernel, by decide +kernel, by decide +kernel⟩
theorem miX10_keeps : MI yX10_keeps cX10_keeps 3 none 1 := ⟨lw_w_in (l := lw_tbl) 1376 rfl (by decide +kernel) (by decide +kernel), lw_w_in (l := lw_tbl) 86 rfl (by decide +kernel) (by decide +kernel), by decide +kernel, by decide +kernel, by decide +kernel⟩
theorem miX10_kept : MI yX10_kept cX10_kept 3 (some .long) 2 := ⟨lw_w_in (l := lw_tbl) 1575 rfl (by decide +kernel) (by decide +kernel), lw_w_in (l := lw_tbl) 86 rfl (by decide +kernel) (by decide +kernel), by decide +kernel, by decide +kernel, by decide +kernel⟩
theorem miX10_laysBack : MI yX10_laysBack cX10_laysBack 5 none 3 := ⟨lw_w_in (l := lw_tbl) 1392 rfl (by decide +kernel) (by decide +kernel), lw_w_in (l := lw_tbl) 86 rfl (by decide +kernel) (by decide +kernel), by decide +kernel, by decide +kernel, by decide +kernel⟩
theorem miX10_laysBack_ : MI yX10_laysBack_ cX10_laysBack_ 1 none 0 := ⟨lw_w_in (l := lw_tbl) 1388 rfl (by decide +kernel) (by decide +kernel), lw_w_in (l := lw_tbl) 86 rfl (by decide +kernel) (by decide +kernel), by decide +kernel, by decide +kernel, by decide +kernel⟩
theorem miX10_less : MI yX10_less cX10_less 1 (some .int) 1 := ⟨lw_w_in (l := lw_tbl) 1444 rfl (by decide +kernel) (by decide +kernel), lw_w_in (l := lw_tbl) 86 rfl (by decide +kernel) (by decide +kernel), by decide +kernel, by decide +kernel, by decide +kernel⟩
theorem miX10_listed : MI yX10_listed cX10_listed 3 (some .int) 1 := ⟨lw_w_in (l := lw_tbl) 1372 rfl (by decide +kernel) (by decide +kernel), lw_w_in (l := lw_tbl) 86 rfl (by decide +kernel) (by decide +kernel), by decide +kernel, by decide +kernel, by decide +kernel⟩
theorem miX10_longest : MI yX10_longest cX10_longest 3 (some .int) 0 := ⟨lw_w_in (l := lw_tbl) 1460 rfl (by decide +kernel) (by decide +kernel), lw_w_in (l := lw_tbl) 86 rfl (by decide +kernel) (by decide +kernel), by decide +kernel, by decide +kernel, by decide +kernel⟩
theorem miX10_losesBy : MI yX10_losesBy cX10_losesBy 5 (some .int) 3 := ⟨lw_w_in (l := lw_tbl) 1548 rfl (by decide +kernel) (by decide +kernel), lw_w_in (l := lw_tbl) 86 rfl (by decide +kernel) (by decide +kernel), by decide +kernel, by decide +kernel, by decide +kernel⟩
theorem miX10_missedNow : MI yX10_missedNow cX10_missedNow 3 (some .int) 0 := ⟨lw_w_in (l := lw_tbl) 1448 rfl (by decide +kernel) (by decide +kernel), lw_w_in (l := lw_tbl) 86 rfl (by decide +kernel) (by decide +kernel), by decide +kernel, by decide +kernel, by decide +kernel⟩
theorem miX10_missesBy : MI yX10_missesBy cX10_missesBy 5 (some .int) 3 := ⟨lw_w_in (l := lw_tbl) 1544 rfl (by decide +kernel) (by decide +kernel), lw_w_in (l := lw_tbl) 86 rfl (by decide +kernel) (by decide +kernel), by decide +kernel, by decide +kernel, by decide +kernel⟩
theorem miX10_missing : MI yX10_missing cX10_missing 4 (some .int) 1 := ⟨lw_w_in (l := lw_tbl) 1335 rfl (by decide +kernel) (by decide +kernel), lw_w_in (l := lw_tbl) 86 rfl (by decide +kernel) (by decide +kernel), by decide +kernel, by decide +kernel, by decide +kernel⟩
theorem miX10_nameOf : MI yX10_nameOf cX10_nameOf 1 (some .int) 1 := ⟨lw_w_in (l := lw_tbl) 1311 rfl (by decide +kernel) (by decide +kernel), lw_w_in (l := lw_tbl) 86 rfl (by decide +kernel) (by decide +kernel), by decide +kernel, by decide +kernel, by decide +kernel⟩
theorem miX10_newOne : MI yX10_newOne cX10_newOne 5 (some .int) 3 := ⟨lw_w_in (l := lw_tbl) 1207 rfl (by decide +kernel) (by decide +kernel), lw_w_in (l := lw_tbl) 86 rfl (by decide +kernel) (by decide +kernel), by decide +kernel, by decide +kernel, by decide +kernel⟩
theorem miX10_noBook : MI yX10_noBook cX10_noBook 3 (some .int) 1 := ⟨lw_w_in (l := lw_tbl) 1468 rfl (by decide +kernel) (by decide +kernel), lw_w_in (l := lw_tbl) 86 rfl (by decide +kernel) (by decide +kernel), by decide +kernel, by decide +kernel, by decide +kernel⟩
theorem miX10_noBytes : MI yX10_noBytes cX10_noBytes 2 (some .int) 1 := ⟨lw_w_in (l := lw_tbl) 1368 rfl (by decide +kernel) (by decide +kernel), lw_w_in (l := lw_tbl) 86 rfl (by decide +kernel) (by decide +kernel), by decide +kernel, by decide +kernel, by decide +kernel⟩
theorem miX10_orders : MI yX10_orders cX10_orders 6 none 3 := ⟨lw_w_in (l := lw_tbl) 1409 rfl (by decide +kernel) (by decide +kernel), lw_w_in (l := lw_tbl) 86 rfl (by decide +kernel) (by decide +kernel), by decide +kernel, by decide +kernel, by decide +kernel⟩
theorem miX10_passes : MI yX10_passes cX10_passes 2 none 0 := ⟨lw_w_in (l := lw_tbl) 1441 rfl (by decide +kernel) (by decide +kernel), lw_w_in (l := lw_tbl) 86 rfl (by decide +kernel) (by decide +kernel), by decide +kernel, by decide +kernel, by decide +kernel⟩
theorem miX10_quiet : MI yX10_quiet cX10_quiet 3 (some .int) 0 := ⟨lw_w_in (l := lw_tbl) 1456 rfl (by decide +kernel) (by decide +kernel), lw_w_in (l := lw_tbl) 86 rfl (by decide +kernel) (by decide +kernel), by decide +kernel, by decide +kernel, by decide +kernel⟩
theorem miX10_ran : MI yX10_ran cX10_ran 2 none 1 := ⟨lw_w_in (l := lw_tbl) 1537 rfl (by decide +kernel) (by decide +kernel), lw_w_in (l := lw_tbl) 86 rfl (by decide +kernel) (by decide +kernel), by decide +kernel, by decide +kernel, by decide +kernel⟩
theorem miX10_sign : MI yX10_sign cX10_sign 1 (some .int) 0 := ⟨lw_w_in (l := lw_tbl) 1304 rfl (by decide +kernel) (by decide +kernel), lw_w_in (l := lw_tbl) 86 rfl (by decide +kernel) (by decide +kernel), by decide +kernel, by decide +kernel, by decide +kernel⟩
theorem miX10_tells : MI yX10_tells cX10_tells 5 (some .int) 3 := ⟨lw_w_in (l := lw_tbl) 1552 rfl (by decide +kernel) (by decide +kernel), lw_w_in (l := lw_tbl) 86 rfl (by decide +kernel) (by decide +kernel), by decide +kernel, by decide +kernel, by decide +kernel⟩
theorem miX10_toldAt : MI yX10_toldAt cX10_toldAt 3 (some .int) 2 := ⟨lw_w_in (l := lw_tbl) 1219 rfl (by decide +kernel) (by decide +kernel), lw_w_in (l := lw_tbl) 86 rfl (by decide +kernel) (by decide +kernel), by decide +kernel, by decide +kernel, by decide +kernel⟩
theorem miX10_turnBy : MI yX10_turnBy cX10_turnBy 11 (some .int) 5 := ⟨lw_w_in (l := lw_tbl) 1484 rfl (by decide +kernel) (by decide +kernel), lw_w_in (l := lw_tbl) 86 rfl (by decide +kernel) (by decide +kernel), by decide +kernel, by decide +kernel, by decide +kernel⟩
theorem miX10_turnFrom : MI yX10_turnFrom cX10_turnFrom 8 (some .int) 4 := ⟨lw_w_in (l := lw_tbl) 1488 rfl (by decide +kernel) (by decide +kernel), lw_w_in (l := lw_tbl) 86 rfl (by decide +kernel) (by decide +kernel), by decide +kernel, by decide +kernel, by decide +kernel⟩
theorem miX10_unlike : MI yX10_unlike cX10_unlike 8 (some .int) 1 := ⟨lw_w_in (l := lw_tbl) 1472 rfl (by decide +kernel) (by decide +kernel), lw_w_in (l := lw_tbl) 86 rfl (by decide +kernel) (by decide +kernel), by decide +kernel, by decide +kernel, by decide +kernel⟩
theorem miX10_winner : MI yX10_winner cX10_winner 6 (some .int) 1 := ⟨lw_w_in (l := lw_tbl) 1360 rfl (by decide +kernel) (by decide +kernel), lw_w_in (l := lw_tbl) 86 rfl (by decide +kernel) (by decide +kernel), by decide +kernel, by decide +kernel, by decide +kernel⟩
theorem miX10_within : MI yX10_within cX10_within 3 (some .boolean) 3 := ⟨lw_w_in (l := lw_tbl) 1199 rfl (by decide +kernel) (by decide +kernel), lw_w_in (l := lw_tbl) 86 rfl (by decide +kernel) (by decide +kernel), by decide +kernel, by decide +kernel, by decide +kernel⟩
theorem miX10_worked : MI yX10_worked cX10_worked 6 (some .int) 2 := ⟨lw_w_in (l := lw_tbl) 1343 rfl (by decide +kernel) (by decide +kernel), lw_w_in (l := lw_tbl) 86 rfl (by decide +kernel) (by decide +kernel), by decide +kernel, by decide +kernel, by decide +kernel⟩
theorem miX10_wouldChange : MI yX10_wouldChange cX10_wouldChange 5 (some .boolean) 3 := ⟨lw_w_in (l := lw_tbl) 1433 rfl (by decide +kernel) (by decide +kernel), lw_w_in (l := lw_tbl) 86 rfl (by decide +kernel) (by decide +kernel), by decide +kernel, by decide +kernel, by decide +kernel⟩
theorem miX10_wouldMiss : MI yX10_wouldMiss cX10_wouldMiss 3 (some .int) 2 := ⟨lw_w_in (l := lw_tbl) 1323 rfl (by decide +kernel) (by decide +kernel), lw_w_in (l := lw_tbl) 86 rfl (by decide +kernel) (by decide +kernel), by decide +kernel, by decide +kernel, by decide +kernel⟩
theorem miX10_yearsOf : MI yX10_yearsOf cX10_yearsOf 5 (some .int) 3 := ⟨lw_w_in (l := lw_tbl) 1331 rfl (by decide +kernel) (by decide +kernel), lw_w_in (l := lw_tbl) 86 rfl (by decide +kernel) (by decide +kernel), by decide +kernel, by decide +kernel, by decide +kernel⟩
theorem miX1_bestOf : MI yX1_bestOf cX1_bestOf 5 (some .long) 1 := ⟨lw_w_in (l := lw_tbl) 778 rfl (by decide +kernel) (by decide +kernel), lw_w_in (l := lw_tbl) 81 rfl (by decide +kernel) (by decide +kernel), by decide +kernel, by decide +kernel, by decide +kernel⟩
theorem miX1_deals : MI yX1_deals cX1_deals 5 none 1 := ⟨lw_w_in (l := lw_tbl) 762 rfl (by decide +kernel) (by decide +kernel), lw_w_in (l := lw_tbl) 81 rfl (by decide +kernel) (by decide +kernel), by decide +kernel, by decide +kernel, by decide +kernel⟩
theorem miX1_share : MI yX1_share cX1_share 2 (some .int) 1 := ⟨lw_w_in (l := lw_tbl) 789 rfl (by decide +kernel) (by decide +kernel), lw_w_in (l := lw_tbl) 81 rfl (by decide +kernel) (by decide +kernel), by decide +kernel, by decide +kernel, by decide +kernel⟩
theorem miX1_total : MI yX1_total cX1_total 1 (some .int) 0 := ⟨lw_w_in (l := lw_tbl) 785 rfl (by decide +kernel) (by decide +kernel), lw_w_in (l := lw_tbl) 81 rfl (by decide +kernel) (by decide +kernel), by decide +kernel, by decide +kernel, by decide +kernel⟩
theorem miX1_weigh : MI yX1_weigh cX1_weigh 7 none 2 := ⟨lw_w_in (l := lw_tbl) 769 rfl (by decide +kernel) (by decide +kernel), lw_w_in (l := lw_tbl) 81 rfl (by decide +kernel) (by decide +kernel), by decide +kernel, by decide +kernel, by decide +kernel⟩
theorem miX2_addBidder : MI yX2_addBidder cX2_addBidder 6 (some .int) 3 := ⟨lw_w_in (l := lw_tbl) 419 rfl (by decide +kernel) (by decide +kernel), lw_w_in (l := lw_tbl) 77 rfl (by decide +kernel) (by decide +kernel), by decide +kernel, by decide +kernel, by decide +kernel⟩
theorem miX2_addThing : MI yX2_addThing cX2_addThing 3 (some .int) 1 := ⟨lw_w_in (l := lw_tbl) 402 rfl (by decide +kernel) (by decide +kernel), lw_w_in (l := lw_tbl) 77 rfl (by decide +kernel) (by decide +kernel), by decide +kernel, by decide +kernel, by decide +kernel⟩
theorem miX2_become : MI yX2_become cX2_become 4 none 3 := ⟨lw_w_in (l := lw_tbl) 406 rfl (by decide +kernel) (by decide +kernel), lw_w_in (l := lw_tbl) 77 rfl (by decide +kernel) (by decide +kernel), by decide +kernel, by decide +kernel, by decide +kernel⟩
theorem miX2_copies : MI yX2_copies cX2_copies 2 none 1 := ⟨lw_w_in (l := lw_tbl) 644 rfl (by decide +kernel) (by decide +kernel), lw_w_in (l := lw_tbl) 77 rfl (by decide +kernel) (by decide +kernel), by decide +kernel, by decide +kernel, by decide +kernel⟩
theorem miX2_has : MI yX2_has cX2_has 3 (some .boolean) 2 := ⟨lw_w_in (l := lw_tbl) 451 rfl (by decide +kernel) (by decide +kernel), lw_w_in (l := lw_tbl) 77 rfl (by decide +kernel) (by decide +kernel), by decide +kernel, by decide +kernel, by decide +kernel⟩
theorem miX2_hasBidder : MI yX2_hasBidder cX2_hasBidder 2 (some .boolean) 1 := ⟨lw_w_in (l := lw_tbl) 459 rfl (by decide +kernel) (by decide +kernel), lw_w_in (l := lw_tbl) 77 rfl (by decide +kernel) (by decide +kernel), by decide +kernel, by decide +kernel, by decide +kernel⟩
theorem miX2_hasThing : MI yX2_hasThing cX2_hasThing 2 (some .boolean) 1 := ⟨lw_w_in (l := lw_tbl) 455 rfl (by decide +kernel) (by decide +kernel), lw_w_in (l := lw_tbl) 77 rfl (by decide +kernel) (by decide +kernel), by decide +kernel, by decide +kernel, by decide +kernel⟩
theorem miX2_missedBits : MI yX2_missedBits cX2_missedBits 3 (some .int) 0 := ⟨lw_w_in (l := lw_tbl) 812 rfl (by decide +kernel) (by decide +kernel), lw_w_in (l := lw_tbl) 77 rfl (by decide +kernel) (by decide +kernel), by decide +kernel, by decide +kernel, by decide +kernel⟩
theorem miX2_missedLongest : MI yX2_missedLongest cX2_missedLongest 4 (some .int) 0 := ⟨lw_w_in (l := lw_tbl) 820 rfl (by decide +kernel) (by decide +kernel), lw_w_in (l := lw_tbl) 77 rfl (by decide +kernel) (by decide +kernel), by decide +kernel, by decide +kernel, by decide +kernel⟩
theorem miX2_number : MI yX2_number cX2_number 3 (some .int) 2 := ⟨lw_w_in (l := lw_tbl) 469 rfl (by decide +kernel) (by decide +kernel), lw_w_in (l := lw_tbl) 77 rfl (by decide +kernel) (by decide +kernel), by decide +kernel, by decide +kernel, by decide +kernel⟩
theorem miX2_yearPasses : MI yX2_yearPasses cX2_yearPasses 3 none 0 := ⟨lw_w_in (l := lw_tbl) 806 rfl (by decide +kernel) (by decide +kernel), lw_w_in (l := lw_tbl) 77 rfl (by decide +kernel) (by decide +kernel), by decide +kernel, by decide +kernel, by decide +kernel⟩
theorem miX3_laysBack : MI yX3_laysBack cX3_laysBack 4 none 2 := ⟨lw_w_in (l := lw_tbl) 917 rfl (by decide +kernel) (by decide +kernel), lw_w_in (l := lw_tbl) 83 rfl (by decide +kernel) (by decide +kernel), by decide +kernel, by decide +kernel, by decide +kernel⟩
theorem miX3_takes : MI yX3_takes cX3_takes 3 none 2 := ⟨lw_w_in (l := lw_tbl) 907 rfl (by decide +kernel) (by decide +kernel), lw_w_in (l := lw_tbl) 83 rfl (by decide +kernel) (by decide +kernel), by decide +kernel, by decide +kernel, by decide +kernel⟩
theorem miX4_comes : MI yX4_comes cX4_comes 2 (some .int) 1 := ⟨lw_w_in (l := lw_tbl) 493 rfl (by decide +kernel) (by decide +kernel), lw_w_in (l := lw_tbl) 78 rfl (by decide +kernel) (by decide +kernel), by decide +kernel, by decide +kernel, by decide +kernel⟩
theorem miX4_emit : MI yX4_emit cX4_emit 2 none 1 := ⟨lw_w_in (l := lw_tbl) 532 rfl (by decide +kernel) (by decide +kernel), lw_w_in (l := lw_tbl) 78 rfl (by decide +kernel) (by decide +kernel), by decide +kernel, by decide +kernel, by decide +kernel⟩
theorem miX4_fromTape : MI yX4_fromTape cX4_fromTape 3 (some .int) 0 := ⟨lw_w_in (l := lw_tbl) 501 rfl (by decide +kernel) (by decide +kernel), lw_w_in (l := lw_tbl) 78 rfl (by decide +kernel) (by decide +kernel), by decide +kernel, by decide +kernel, by decide +kernel⟩
theorem miX4_gives : MI yX4_gives cX4_gives 11 (some .int) 6 := ⟨lw_w_in (l := lw_tbl) 666 rfl (by decide +kernel) (by decide +kernel), lw_w_in (l := lw_tbl) 78 rfl (by decide +kernel) (by decide +kernel), by decide +kernel, by decide +kernel, by decide +kernel⟩
theorem miX4_isDigit : MI yX4_isDigit cX4_isDigit 1 (some .boolean) 1 := ⟨lw_w_in (l := lw_tbl) 524 rfl (by decide +kernel) (by decide +kernel), lw_w_in (l := lw_tbl) 78 rfl (by decide +kernel) (by decide +kernel), by decide +kernel, by decide +kernel, by decide +kernel⟩
theorem miX4_isTapeFull : MI yX4_isTapeFull cX4_isTapeFull 1 (some .boolean) 0 := ⟨lw_w_in (l := lw_tbl) 489 rfl (by decide +kernel) (by decide +kernel), lw_w_in (l := lw_tbl) 78 rfl (by decide +kernel) (by decide +kernel), by decide +kernel, by decide +kernel, by decide +kernel⟩
theorem miX4_next : MI yX4_next cX4_next 1 (some .int) 0 := ⟨lw_w_in (l := lw_tbl) 521 rfl (by decide +kernel) (by decide +kernel), lw_w_in (l := lw_tbl) 78 rfl (by decide +kernel) (by decide +kernel), by decide +kernel, by decide +kernel, by decide +kernel⟩
theorem miX4_rankOf : MI yX4_rankOf cX4_rankOf 1 (some .int) 1 := ⟨lw_w_in (l := lw_tbl) 626 rfl (by decide +kernel) (by decide +kernel), lw_w_in (l := lw_tbl) 78 rfl (by decide +kernel) (by decide +kernel), by decide +kernel, by decide +kernel, by decide +kernel⟩
theorem miX4_readLine : MI yX4_readLine cX4_readLine 2 (some .boolean) 0 := ⟨lw_w_in (l := lw_tbl) 509 rfl (by decide +kernel) (by decide +kernel), lw_w_in (l := lw_tbl) 78 rfl (by decide +kernel) (by decide +kernel), by decide +kernel, by decide +kernel, by decide +kernel⟩
theorem miX4_readLines : MI yX4_readLines cX4_readLines 2 (some .boolean) 0 := ⟨lw_w_in (l := lw_tbl) 505 rfl (by decide +kernel) (by decide +kernel), lw_w_in (l := lw_tbl) 78 rfl (by decide +kernel) (by decide +kernel), by decide +kernel, by decide +kernel, by decide +kernel⟩
theorem miX4_readNumber : MI yX4_readNumber cX4_readNumber 3 (some .boolean) 0 := ⟨lw_w_in (l := lw_tbl) 528 rfl (by decide +kernel) (by decide +kernel), lw_w_in (l := lw_tbl) 78 rfl (by decide +kernel) (by decide +kernel), by decide +kernel, by decide +kernel, by decide +kernel⟩
theorem miX4_readOperand : MI yX4_readOperand cX4_readOperand 4 (some .boolean) 1 := ⟨lw_w_in (l := lw_tbl) 517 rfl (by decide +kernel) (by decide +kernel), lw_w_in (l := lw_tbl) 78 rfl (by decide +kernel) (by decide +kernel), by decide +kernel, by decide +kernel, by decide +kernel⟩
theorem miX4_readRank : MI yX4_readRank cX4_readRank 6 (some .boolean) 2 := ⟨lw_w_in (l := lw_tbl) 513 rfl (by decide +kernel) (by decide +kernel), lw_w_in (l := lw_tbl) 78 rfl (by decide +kernel) (by decide +kernel), by decide +kernel, by decide +kernel, by decide +kernel⟩
theorem miX4_takes : MI yX4_takes cX4_takes 2 (some .boolean) 1 := ⟨lw_w_in (l := lw_tbl) 623 rfl (by decide +kernel) (by decide +kernel), lw_w_in (l := lw_tbl) 78 rfl (by decide +kernel) (by decide +kernel), by decide +kernel, by decide +kernel, by decide +kernel⟩
theorem miX4_worked : MI yX4_worked cX4_worked 3 (some .int) 3 := ⟨lw_w_in (l := lw_tbl) 671 rfl (by decide +kernel) (by decide +kernel), lw_w_in (l := lw_tbl) 78 rfl (by decide +kernel) (by decide +kernel), by decide +kernel, by decide +kernel, by decide +kernel⟩
theorem miX5_acts : MI yX5_acts cX5_acts 4 (some .int) 3 := ⟨lw_w_in (l := lw_tbl) 956 rfl (by decide +kernel) (by decide +kernel), lw_w_in (l := lw_tbl) 84 rfl (by decide +kernel) (by decide +kernel), by decide +kernel, by decide +kernel, by decide +kernel⟩
theorem miX5_add : MI yX5_add cX5_add 3 (some .int) 1 := ⟨lw_w_in (l := lw_tbl) 948 rfl (by decide +kernel) (by decide +kernel), lw_w_in (l := lw_tbl) 84 rfl (by decide +kernel) (by decide +kernel), by decide +kernel, by decide +kernel, by decide +kernel⟩
theorem miX5_has : MI yX5_has cX5_has 2 (some .boolean) 1 := ⟨lw_w_in (l := lw_tbl) 960 rfl (by decide +kernel) (by decide +kernel), lw_w_in (l := lw_tbl) 84 rfl (by decide +kernel) (by decide +kernel), by decide +kernel, by decide +kernel, by decide +kernel⟩
theorem miX5_isFull : MI yX5_isFull cX5_isFull 1 (some .boolean) 0 := ⟨lw_w_in (l := lw_tbl) 944 rfl (by decide +kernel) (by decide +kernel), lw_w_in (l := lw_tbl) 84 rfl (by decide +kernel) (by decide +kernel), by decide +kernel, by decide +kernel, by decide +kernel⟩
theorem miX5_isUnder : MI yX5_isUnder cX5_isUnder 4 (some .boolean) 2 := ⟨lw_w_in (l := lw_tbl) 1046 rfl (by decide +kernel) (by decide +kernel), lw_w_in (l := lw_tbl) 84 rfl (by decide +kernel) (by decide +kernel), by decide +kernel, by decide +kernel, by decide +kernel⟩
theorem miX5_kindOf : MI yX5_kindOf cX5_kindOf 2 (some .int) 1 := ⟨lw_w_in (l := lw_tbl) 1043 rfl (by decide +kernel) (by decide +kernel), lw_w_in (l := lw_tbl) 84 rfl (by decide +kernel) (by decide +kernel), by decide +kernel, by decide +kernel, by decide +kernel⟩
theorem miX5_own : MI yX5_own cX5_own 4 (some .int) 3 := ⟨lw_w_in (l := lw_tbl) 976 rfl (by decide +kernel) (by decide +kernel), lw_w_in (l := lw_tbl) 84 rfl (by decide +kernel) (by decide +kernel), by decide +kernel, by decide +kernel, by decide +kernel⟩
theorem miX5_runBody : MI yX5_runBody cX5_runBody 5 (some .int) 4 := ⟨lw_w_in (l := lw_tbl) 972 rfl (by decide +kernel) (by decide +kernel), lw_w_in (l := lw_tbl) 84 rfl (by decide +kernel) (by decide +kernel), by decide +kernel, by decide +kernel, by decide +kernel⟩
theorem miX5_runs : MI yX5_runs cX5_runs 8 (some .int) 4 := ⟨lw_w_in (l := lw_tbl) 964 rfl (by decide +kernel) (by decide +kernel), lw_w_in (l := lw_tbl) 84 rfl (by decide +kernel) (by decide +kernel), by decide +kernel, by decide +kernel, by decide +kernel⟩
theorem miX5_traced : MI yX5_traced cX5_traced 2 (some .int) 1 := ⟨lw_w_in (l := lw_tbl) 984 rfl (by decide +kernel) (by decide +kernel), lw_w_in (l := lw_tbl) 84 rfl (by decide +kernel) (by decide +kernel), by decide +kernel, by decide +kernel, by decide +kernel⟩
theorem miX6_at : MI yX6_at cX6_at 2 (some .long) 1 := ⟨lw_w_in (l := lw_tbl) 442 rfl (by decide +kernel) (by decide +kernel), lw_w_in (l := lw_tbl) 85 rfl (by decide +kernel) (by decide +kernel), by decide +kernel, by decide +kernel, by decide +kernel⟩
theorem miX6_hasRun : MI yX6_hasRun cX6_hasRun 3 (some .boolean) 2 := ⟨lw_w_in (l := lw_tbl) 434 rfl (by decide +kernel) (by decide +kernel), lw_w_in (l := lw_tbl) 85 rfl (by decide +kernel) (by decide +kernel), by decide +kernel, by decide +kernel, by decide +kernel⟩
theorem miX6_holdLot : MI yX6_holdLot cX6_holdLot 2 none 1 := ⟨lw_w_in (l := lw_tbl) 998 rfl (by decide +kernel) (by decide +kernel), lw_w_in (l := lw_tbl) 85 rfl (by decide +kernel) (by decide +kernel), by decide +kernel, by decide +kernel, by decide +kernel⟩
theorem miX6_holdNothing : MI yX6_holdNothing cX6_holdNothing 1 none 0 := ⟨lw_w_in (l := lw_tbl) 994 rfl (by decide +kernel) (by decide +kernel), lw_w_in (l := lw_tbl) 85 rfl (by decide +kernel) (by decide +kernel), by decide +kernel, by decide +kernel, by decide +kernel⟩
theorem miX6_holdRow : MI yX6_holdRow cX6_holdRow 3 none 2 := ⟨lw_w_in (l := lw_tbl) 1006 rfl (by decide +kernel) (by decide +kernel), lw_w_in (l := lw_tbl) 85 rfl (by decide +kernel) (by decide +kernel), by decide +kernel, by decide +kernel, by decide +kernel⟩
theorem miX6_holdsBytes : MI yX6_holdsBytes cX6_holdsBytes 1 (some .boolean) 0 := ⟨lw_w_in (l := lw_tbl) 430 rfl (by decide +kernel) (by decide +kernel), lw_w_in (l := lw_tbl) 85 rfl (by decide +kernel) (by decide +kernel), by decide +kernel, by decide +kernel, by decide +kernel⟩
theorem miX6_kept : MI yX6_kept cX6_kept 3 (some .long) 1 := ⟨lw_w_in (l := lw_tbl) 1025 rfl (by decide +kernel) (by decide +kernel), lw_w_in (l := lw_tbl) 85 rfl (by decide +kernel) (by decide +kernel), by decide +kernel, by decide +kernel, by decide +kernel⟩
theorem miX6_lay : MI yX6_lay cX6_lay 4 none 2 := ⟨lw_w_in (l := lw_tbl) 1021 rfl (by decide +kernel) (by decide +kernel), lw_w_in (l := lw_tbl) 85 rfl (by decide +kernel) (by decide +kernel), by decide +kernel, by decide +kernel, by decide +kernel⟩
theorem miX6_refusesBytes : MI yX6_refusesBytes cX6_refusesBytes 1 (some .int) 0 := ⟨lw_w_in (l := lw_tbl) 694 rfl (by decide +kernel) (by decide +kernel), lw_w_in (l := lw_tbl) 85 rfl (by decide +kernel) (by decide +kernel), by decide +kernel, by decide +kernel, by decide +kernel⟩
theorem miX7_begin : MI yX7_begin cX7_begin 2 none 1 := ⟨lw_w_in (l := lw_tbl) 640 rfl (by decide +kernel) (by decide +kernel), lw_w_in (l := lw_tbl) 79 rfl (by decide +kernel) (by decide +kernel), by decide +kernel, by decide +kernel, by decide +kernel⟩
theorem miX7_bid : MI yX7_bid cX7_bid 3 (some .int) 1 := ⟨lw_w_in (l := lw_tbl) 677 rfl (by decide +kernel) (by decide +kernel), lw_w_in (l := lw_tbl) 79 rfl (by decide +kernel) (by decide +kernel), by decide +kernel, by decide +kernel, by decide +kernel⟩
theorem miX7_considers : MI yX7_considers cX7_considers 4 none 1 := ⟨lw_w_in (l := lw_tbl) 658 rfl (by decide +kernel) (by decide +kernel), lw_w_in (l := lw_tbl) 79 rfl (by decide +kernel) (by decide +kernel), by decide +kernel, by decide +kernel, by decide +kernel⟩
theorem miX7_firstWrong : MI yX7_firstWrong cX7_firstWrong 5 (some .int) 2 := ⟨lw_w_in (l := lw_tbl) 835 rfl (by decide +kernel) (by decide +kernel), lw_w_in (l := lw_tbl) 79 rfl (by decide +kernel) (by decide +kernel), by decide +kernel, by decide +kernel, by decide +kernel⟩
theorem miX7_lengthOf : MI yX7_lengthOf cX7_lengthOf 4 (some .int) 1 := ⟨lw_w_in (l := lw_tbl) 703 rfl (by decide +kernel) (by decide +kernel), lw_w_in (l := lw_tbl) 79 rfl (by decide +kernel) (by decide +kernel), by decide +kernel, by decide +kernel, by decide +kernel⟩
theorem miX7_misses : MI yX7_misses cX7_misses 6 (some .int) 3 := ⟨lw_w_in (l := lw_tbl) 662 rfl (by decide +kernel) (by decide +kernel), lw_w_in (l := lw_tbl) 79 rfl (by decide +kernel) (by decide +kernel), by decide +kernel, by decide +kernel, by decide +kernel⟩
theorem miX7_restarts : MI yX7_restarts cX7_restarts 4 none 0 := ⟨lw_w_in (l := lw_tbl) 652 rfl (by decide +kernel) (by decide +kernel), lw_w_in (l := lw_tbl) 79 rfl (by decide +kernel) (by decide +kernel), by decide +kernel, by decide +kernel, by decide +kernel⟩
theorem miX7_sellsAll : MI yX7_sellsAll cX7_sellsAll 3 none 1 := ⟨lw_w_in (l := lw_tbl) 699 rfl (by decide +kernel) (by decide +kernel), lw_w_in (l := lw_tbl) 79 rfl (by decide +kernel) (by decide +kernel), by decide +kernel, by decide +kernel, by decide +kernel⟩
theorem miX7_sellsByDraws : MI yX7_sellsByDraws cX7_sellsByDraws 6 (some .int) 3 := ⟨lw_w_in (l := lw_tbl) 876 rfl (by decide +kernel) (by decide +kernel), lw_w_in (l := lw_tbl) 79 rfl (by decide +kernel) (by decide +kernel), by decide +kernel, by decide +kernel, by decide +kernel⟩
theorem miX7_sellsOne : MI yX7_sellsOne cX7_sellsOne 3 (some .int) 1 := ⟨lw_w_in (l := lw_tbl) 709 rfl (by decide +kernel) (by decide +kernel), lw_w_in (l := lw_tbl) 79 rfl (by decide +kernel) (by decide +kernel), by decide +kernel, by decide +kernel, by decide +kernel⟩
theorem miX7_unsellsOne : MI yX7_unsellsOne cX7_unsellsOne 3 none 2 := ⟨lw_w_in (l := lw_tbl) 740 rfl (by decide +kernel) (by decide +kernel), lw_w_in (l := lw_tbl) 79 rfl (by decide +kernel) (by decide +kernel), by decide +kernel, by decide +kernel, by decide +kernel⟩
theorem miX7_varies : MI yX7_varies cX7_varies 5 none 3 := ⟨lw_w_in (l := lw_tbl) 844 rfl (by decide +kernel) (by decide +kernel), lw_w_in (l := lw_tbl) 79 rfl (by decide +kernel) (by decide +kernel), by decide +kernel, by decide +kernel, by decide +kernel⟩
theorem miX7_winner : MI yX7_winner cX7_winner 5 (some .int) 0 := ⟨lw_w_in (l := lw_tbl) 685 rfl (by decide +kernel) (by decide +kernel), lw_w_in (l := lw_tbl) 79 rfl (by decide +kernel) (by decide +kernel), by decide +kernel, by decide +kernel, by decide +kernel⟩
theorem miX7_wouldChange : MI yX7_wouldChange cX7_wouldChange 6 (some .boolean) 2 := ⟨lw_w_in (l := lw_tbl) 798 rfl (by decide +kernel) (by decide +kernel), lw_w_in (l := lw_tbl) 79 rfl (by decide +kernel) (by decide +kernel), by decide +kernel, by decide +kernel, by decide +kernel⟩
theorem miX8_fewestExamined : MI yX8_fewestExamined cX8_fewestExamined 6 (some .int) 1 := ⟨lw_w_in (l := lw_tbl) 752 rfl (by decide +kernel) (by decide +kernel), lw_w_in (l := lw_tbl) 80 rfl (by decide +kernel) (by decide +kernel), by decide +kernel, by decide +kernel, by decide +kernel⟩
theorem miX8_moved : MI yX8_moved cX8_moved 9 (some .int) 4 := ⟨lw_w_in (l := lw_tbl) 859 rfl (by decide +kernel) (by decide +kernel), lw_w_in (l := lw_tbl) 80 rfl (by decide +kernel) (by decide +kernel), by decide +kernel, by decide +kernel, by decide +kernel⟩
theorem miX8_orders : MI yX8_orders cX8_orders 3 (some .int) 2 := ⟨lw_w_in (l := lw_tbl) 729 rfl (by decide +kernel) (by decide +kernel), lw_w_in (l := lw_tbl) 80 rfl (by decide +kernel) (by decide +kernel), by decide +kernel, by decide +kernel, by decide +kernel⟩
theorem miX8_outcome : MI yX8_outcome cX8_outcome 6 (some .int) 3 := ⟨lw_w_in (l := lw_tbl) 866 rfl (by decide +kernel) (by decide +kernel), lw_w_in (l := lw_tbl) 80 rfl (by decide +kernel) (by decide +kernel), by decide +kernel, by decide +kernel, by decide +kernel⟩
theorem miX8_tryOrder : MI yX8_tryOrder cX8_tryOrder 7 none 3 := ⟨lw_w_in (l := lw_tbl) 734 rfl (by decide +kernel) (by decide +kernel), lw_w_in (l := lw_tbl) 80 rfl (by decide +kernel) (by decide +kernel), by decide +kernel, by decide +kernel, by decide +kernel⟩
theorem miX8_turns : MI yX8_turns cX8_turns 7 (some .int) 3 := ⟨lw_w_in (l := lw_tbl) 853 rfl (by decide +kernel) (by decide +kernel), lw_w_in (l := lw_tbl) 80 rfl (by decide +kernel) (by decide +kernel), by decide +kernel, by decide +kernel, by decide +kernel⟩
theorem miX9_areShelves : MI yX9_areShelves cX9_areShelves 1 (some .boolean) 1 := ⟨lw_w_in (l := lw_tbl) 827 rfl (by decide +kernel) (by decide +kernel), lw_w_in (l := lw_tbl) 76 rfl (by decide +kernel) (by decide +kernel), by decide +kernel, by decide +kernel, by decide +kernel⟩
theorem miX9_comesFrom : MI yX9_comesFrom cX9_comesFrom 6 (some .boolean) 2 := ⟨lw_w_in (l := lw_tbl) 438 rfl (by decide +kernel) (by decide +kernel), lw_w_in (l := lw_tbl) 76 rfl (by decide +kernel) (by decide +kernel), by decide +kernel, by decide +kernel, by decide +kernel⟩
theorem miX9_isPair : MI yX9_isPair cX9_isPair 2 (some .boolean) 1 := ⟨lw_w_in (l := lw_tbl) 635 rfl (by decide +kernel) (by decide +kernel), lw_w_in (l := lw_tbl) 76 rfl (by decide +kernel) (by decide +kernel), by decide +kernel, by decide +kernel, by decide +kernel⟩
theorem miX9_isShelf : MI yX9_isShelf cX9_isShelf 1 (some .boolean) 1 := ⟨lw_w_in (l := lw_tbl) 426 rfl (by decide +kernel) (by decide +kernel), lw_w_in (l := lw_tbl) 76 rfl (by decide +kernel) (by decide +kernel), by decide +kernel, by decide +kernel, by decide +kernel⟩
theorem miX9_isWithin : MI yX9_isWithin cX9_isWithin 2 (some .boolean) 2 := ⟨lw_w_in (l := lw_tbl) 413 rfl (by decide +kernel) (by decide +kernel), lw_w_in (l := lw_tbl) 76 rfl (by decide +kernel) (by decide +kernel), by decide +kernel, by decide +kernel, by decide +kernel⟩
theorem miX9_mayBe : MI yX9_mayBe cX9_mayBe 3 (some .boolean) 2 := ⟨lw_w_in (l := lw_tbl) 463 rfl (by decide +kernel) (by decide +kernel), lw_w_in (l := lw_tbl) 76 rfl (by decide +kernel) (by decide +kernel), by decide +kernel, by decide +kernel, by decide +kernel⟩
theorem miX9_refusesBoth : MI yX9_refusesBoth cX9_refusesBoth 3 (some .int) 1 := ⟨lw_w_in (l := lw_tbl) 831 rfl (by decide +kernel) (by decide +kernel), lw_w_in (l := lw_tbl) 76 rfl (by decide +kernel) (by decide +kernel), by decide +kernel, by decide +kernel, by decide +kernel⟩
theorem miX9_refusesElement : MI yX9_refusesElement cX9_refusesElement 3 (some .int) 2 := ⟨lw_w_in (l := lw_tbl) 1017 rfl (by decide +kernel) (by decide +kernel), lw_w_in (l := lw_tbl) 76 rfl (by decide +kernel) (by decide +kernel), by decide +kernel, by decide +kernel, by decide +kernel⟩
theorem mvX0_came : MV yX0_came := ⟨lw_w_in (l := lw_tbl) 472 rfl (by decide +kernel) (by decide +kernel), lw_w_in (l := lw_tbl) 473 rfl (by decide +kernel) (by decide +kernel)⟩
theorem mvX0_remake : MV yX0_remake := ⟨lw_w_in (l := lw_tbl) 934 rfl (by decide +kernel) (by decide +kernel), lw_w_in (l := lw_tbl) 935 rfl (by decide +kernel) (by decide +kernel)⟩
theorem mvX0_unmake : MV yX0_unmake := ⟨lw_w_in (l := lw_tbl) 925 rfl (by decide +kernel) (by decide +kernel), lw_w_in (l := lw_tbl) 926 rfl (by decide +kernel) (by decide +kernel)⟩
theorem mvX10_becomes : MV yX10_becomes := ⟨lw_w_in (l := lw_tbl) 1247 rfl (by decide +kernel) (by decide +kernel), lw_w_in (l := lw_tbl) 30 rfl (by decide +kernel) (by decide +kernel)⟩
theorem mvX10_bidOf : MV yX10_bidOf := ⟨lw_w_in (l := lw_tbl) 1351 rfl (by decide +kernel) (by decide +kernel), lw_w_in (l := lw_tbl) 48 rfl (by decide +kernel) (by decide +kernel)⟩
theorem mvX10_bidsBy : MV yX10_bidsBy := ⟨lw_w_in (l := lw_tbl) 1532 rfl (by decide +kernel) (by decide +kernel), lw_w_in (l := lw_tbl) 69 rfl (by decide +kernel) (by decide +kernel)⟩
theorem mvX10_byLaw : MV yX10_byLaw := ⟨lw_w_in (l := lw_tbl) 1338 rfl (by decide +kernel) (by decide +kernel), lw_w_in (l := lw_tbl) 46 rfl (by decide +kernel) (by decide +kernel)⟩
theorem mvX10_codes : MV yX10_codes := ⟨lw_w_in (l := lw_tbl) 1307 rfl (by decide +kernel) (by decide +kernel), lw_w_in (l := lw_tbl) 40 rfl (by decide +kernel) (by decide +kernel)⟩
theorem mvX10_countOf : MV yX10_countOf := ⟨lw_w_in (l := lw_tbl) 1326 rfl (by decide +kernel) (by decide +kernel), lw_w_in (l := lw_tbl) 43 rfl (by decide +kernel) (by decide +kernel)⟩
theorem mvX10_deals : MV yX10_deals := ⟨lw_w_in (l := lw_tbl) 1424 rfl (by decide +kernel) (by decide +kernel), lw_w_in (l := lw_tbl) 59 rfl (by decide +kernel) (by decide +kernel)⟩
theorem mvX10_forSale : MV yX10_forSale := ⟨lw_w_in (l := lw_tbl) 1403 rfl (by decide +kernel) (by decide +kernel), lw_w_in (l := lw_tbl) 57 rfl (by decide +kernel) (by decide +kernel)⟩
theorem mvX10_get : MV yX10_get := ⟨lw_w_in (l := lw_tbl) 1243 rfl (by decide +kernel) (by decide +kernel), lw_w_in (l := lw_tbl) 29 rfl (by decide +kernel) (by decide +kernel)⟩
theorem mvX10_goes : MV yX10_goes := ⟨lw_w_in (l := lw_tbl) 1379 rfl (by decide +kernel) (by decide +kernel), lw_w_in (l := lw_tbl) 53 rfl (by decide +kernel) (by decide +kernel)⟩
theorem mvX10_is : MV yX10_is := ⟨lw_w_in (l := lw_tbl) 1314 rfl (by decide +kernel) (by decide +kernel), lw_w_in (l := lw_tbl) 41 rfl (by decide +kernel) (by decide +kernel)⟩
theorem mvX10_isA : MV yX10_isA := ⟨lw_w_in (l := lw_tbl) 1279 rfl (by decide +kernel) (by decide +kernel), lw_w_in (l := lw_tbl) 33 rfl (by decide +kernel) (by decide +kernel)⟩
theorem mvX10_isB : MV yX10_isB := ⟨lw_w_in (l := lw_tbl) 1283 rfl (by decide +kernel) (by decide +kernel), lw_w_in (l := lw_tbl) 34 rfl (by decide +kernel) (by decide +kernel)⟩
theorem mvX10_isDigit : MV yX10_isDigit := ⟨lw_w_in (l := lw_tbl) 1299 rfl (by decide +kernel) (by decide +kernel), lw_w_in (l := lw_tbl) 38 rfl (by decide +kernel) (by decide +kernel)⟩
theorem mvX10_isE : MV yX10_isE := ⟨lw_w_in (l := lw_tbl) 1275 rfl (by decide +kernel) (by decide +kernel), lw_w_in (l := lw_tbl) 32 rfl (by decide +kernel) (by decide +kernel)⟩
theorem mvX10_isFit : MV yX10_isFit := ⟨lw_w_in (l := lw_tbl) 1238 rfl (by decide +kernel) (by decide +kernel), lw_w_in (l := lw_tbl) 28 rfl (by decide +kernel) (by decide +kernel)⟩
theorem mvX10_isForSale : MV yX10_isForSale := ⟨lw_w_in (l := lw_tbl) 1383 rfl (by decide +kernel) (by decide +kernel), lw_w_in (l := lw_tbl) 54 rfl (by decide +kernel) (by decide +kernel)⟩
theorem mvX10_isLine : MV yX10_isLine := ⟨lw_w_in (l := lw_tbl) 1271 rfl (by decide +kernel) (by decide +kernel), lw_w_in (l := lw_tbl) 31 rfl (by decide +kernel) (by decide +kernel)⟩
theorem mvX10_isO : MV yX10_isO := ⟨lw_w_in (l := lw_tbl) 1295 rfl (by decide +kernel) (by decide +kernel), lw_w_in (l := lw_tbl) 37 rfl (by decide +kernel) (by decide +kernel)⟩
theorem mvX10_isOf : MV yX10_isOf := ⟨lw_w_in (l := lw_tbl) 1226 rfl (by decide +kernel) (by decide +kernel), lw_w_in (l := lw_tbl) 25 rfl (by decide +kernel) (by decide +kernel)⟩
theorem mvX10_isOne : MV yX10_isOne := ⟨lw_w_in (l := lw_tbl) 1234 rfl (by decide +kernel) (by decide +kernel), lw_w_in (l := lw_tbl) 27 rfl (by decide +kernel) (by decide +kernel)⟩
theorem mvX10_isP : MV yX10_isP := ⟨lw_w_in (l := lw_tbl) 1291 rfl (by decide +kernel) (by decide +kernel), lw_w_in (l := lw_tbl) 36 rfl (by decide +kernel) (by decide +kernel)⟩
theorem mvX10_isRow : MV yX10_isRow := ⟨lw_w_in (l := lw_tbl) 1571 rfl (by decide +kernel) (by decide +kernel), lw_w_in (l := lw_tbl) 74 rfl (by decide +kernel) (by decide +kernel)⟩
theorem mvX10_isS : MV yX10_isS := ⟨lw_w_in (l := lw_tbl) 1287 rfl (by decide +kernel) (by decide +kernel), lw_w_in (l := lw_tbl) 35 rfl (by decide +kernel) (by decide +kernel)⟩
theorem mvX10_isThing : MV yX10_isThing := ⟨lw_w_in (l := lw_tbl) 1230 rfl (by decide +kernel) (by decide +kernel), lw_w_in (l := lw_tbl) 26 rfl (by decide +kernel) (by decide +kernel)⟩
theorem mvX10_keeps : MV yX10_keeps := ⟨lw_w_in (l := lw_tbl) 1375 rfl (by decide +kernel) (by decide +kernel), lw_w_in (l := lw_tbl) 52 rfl (by decide +kernel) (by decide +kernel)⟩
theorem mvX10_laysBack : MV yX10_laysBack := ⟨lw_w_in (l := lw_tbl) 1391 rfl (by decide +kernel) (by decide +kernel), lw_w_in (l := lw_tbl) 56 rfl (by decide +kernel) (by decide +kernel)⟩
theorem mvX10_laysBack_ : MV yX10_laysBack_ := ⟨lw_w_in (l := lw_tbl) 1387 rfl (by decide +kernel) (by decide +kernel), lw_w_in (l := lw_tbl) 55 rfl (by decide +kernel) (by decide +kernel)⟩
theorem mvX10_listed : MV yX10_listed := ⟨lw_w_in (l := lw_tbl) 1371 rfl (by decide +kernel) (by decide +kernel), lw_w_in (l := lw_tbl) 51 rfl (by decide +kernel) (by decide +kernel)⟩
theorem mvX10_longest : MV yX10_longest := ⟨lw_w_in (l := lw_tbl) 1459 rfl (by decide +kernel) (by decide +kernel), lw_w_in (l := lw_tbl) 64 rfl (by decide +kernel) (by decide +kernel)⟩
theorem mvX10_losesBy : MV yX10_losesBy := ⟨lw_w_in (l := lw_tbl) 1547 rfl (by decide +kernel) (by decide +kernel), lw_w_in (l := lw_tbl) 72 rfl (by decide +kernel) (by decide +kernel)⟩
theorem mvX10_missedNow : MV yX10_missedNow := ⟨lw_w_in (l := lw_tbl) 1447 rfl (by decide +kernel) (by decide +kernel), lw_w_in (l := lw_tbl) 62 rfl (by decide +kernel) (by decide +kernel)⟩
theorem mvX10_missesBy : MV yX10_missesBy := ⟨lw_w_in (l := lw_tbl) 1543 rfl (by decide +kernel) (by decide +kernel), lw_w_in (l := lw_tbl) 71 rfl (by decide +kernel) (by decide +kernel)⟩
theorem mvX10_missing : MV yX10_missing := ⟨lw_w_in (l := lw_tbl) 1334 rfl (by decide +kernel) (by decide +kernel), lw_w_in (l := lw_tbl) 45 rfl (by decide +kernel) (by decide +kernel)⟩
theorem mvX10_newOne : MV yX10_newOne := ⟨lw_w_in (l := lw_tbl) 1206 rfl (by decide +kernel) (by decide +kernel), lw_w_in (l := lw_tbl) 23 rfl (by decide +kernel) (by decide +kernel)⟩
theorem mvX10_noBook : MV yX10_noBook := ⟨lw_w_in (l := lw_tbl) 1467 rfl (by decide +kernel) (by decide +kernel), lw_w_in (l := lw_tbl) 65 rfl (by decide +kernel) (by decide +kernel)⟩
theorem mvX10_noBytes : MV yX10_noBytes := ⟨lw_w_in (l := lw_tbl) 1367 rfl (by decide +kernel) (by decide +kernel), lw_w_in (l := lw_tbl) 50 rfl (by decide +kernel) (by decide +kernel)⟩
theorem mvX10_orders : MV yX10_orders := ⟨lw_w_in (l := lw_tbl) 1408 rfl (by decide +kernel) (by decide +kernel), lw_w_in (l := lw_tbl) 58 rfl (by decide +kernel) (by decide +kernel)⟩
theorem mvX10_passes : MV yX10_passes := ⟨lw_w_in (l := lw_tbl) 1440 rfl (by decide +kernel) (by decide +kernel), lw_w_in (l := lw_tbl) 61 rfl (by decide +kernel) (by decide +kernel)⟩
theorem mvX10_quiet : MV yX10_quiet := ⟨lw_w_in (l := lw_tbl) 1455 rfl (by decide +kernel) (by decide +kernel), lw_w_in (l := lw_tbl) 63 rfl (by decide +kernel) (by decide +kernel)⟩
theorem mvX10_ran : MV yX10_ran := ⟨lw_w_in (l := lw_tbl) 1536 rfl (by decide +kernel) (by decide +kernel), lw_w_in (l := lw_tbl) 70 rfl (by decide +kernel) (by decide +kernel)⟩
theorem mvX10_sign : MV yX10_sign := ⟨lw_w_in (l := lw_tbl) 1303 rfl (by decide +kernel) (by decide +kernel), lw_w_in (l := lw_tbl) 39 rfl (by decide +kernel) (by decide +kernel)⟩
theorem mvX10_tells : MV yX10_tells := ⟨lw_w_in (l := lw_tbl) 1551 rfl (by decide +kernel) (by decide +kernel), lw_w_in (l := lw_tbl) 73 rfl (by decide +kernel) (by decide +kernel)⟩
theorem mvX10_toldAt : MV yX10_toldAt := ⟨lw_w_in (l := lw_tbl) 1218 rfl (by decide +kernel) (by decide +kernel), lw_w_in (l := lw_tbl) 24 rfl (by decide +kernel) (by decide +kernel)⟩
theorem mvX10_turnBy : MV yX10_turnBy := ⟨lw_w_in (l := lw_tbl) 1483 rfl (by decide +kernel) (by decide +kernel), lw_w_in (l := lw_tbl) 67 rfl (by decide +kernel) (by decide +kernel)⟩
theorem mvX10_turnFrom : MV yX10_turnFrom := ⟨lw_w_in (l := lw_tbl) 1487 rfl (by decide +kernel) (by decide +kernel), lw_w_in (l := lw_tbl) 68 rfl (by decide +kernel) (by decide +kernel)⟩
theorem mvX10_unlike : MV yX10_unlike := ⟨lw_w_in (l := lw_tbl) 1471 rfl (by decide +kernel) (by decide +kernel), lw_w_in (l := lw_tbl) 66 rfl (by decide +kernel) (by decide +kernel)⟩
theorem mvX10_winner : MV yX10_winner := ⟨lw_w_in (l := lw_tbl) 1359 rfl (by decide +kernel) (by decide +kernel), lw_w_in (l := lw_tbl) 49 rfl (by decide +kernel) (by decide +kernel)⟩
theorem mvX10_worked : MV yX10_worked := ⟨lw_w_in (l := lw_tbl) 1342 rfl (by decide +kernel) (by decide +kernel), lw_w_in (l := lw_tbl) 47 rfl (by decide +kernel) (by decide +kernel)⟩
theorem mvX10_wouldChange : MV yX10_wouldChange := ⟨lw_w_in (l := lw_tbl) 1432 rfl (by decide +kernel) (by decide +kernel), lw_w_in (l := lw_tbl) 60 rfl (by decide +kernel) (by decide +kernel)⟩
theorem mvX10_wouldMiss : MV yX10_wouldMiss := ⟨lw_w_in (l := lw_tbl) 1322 rfl (by decide +kernel) (by decide +kernel), lw_w_in (l := lw_tbl) 42 rfl (by decide +kernel) (by decide +kernel)⟩
theorem mvX10_yearsOf : MV yX10_yearsOf := ⟨lw_w_in (l := lw_tbl) 1330 rfl (by decide +kernel) (by decide +kernel), lw_w_in (l := lw_tbl) 44 rfl (by decide +kernel) (by decide +kernel)⟩
theorem mvX1_bestOf : MV yX1_bestOf := ⟨lw_w_in (l := lw_tbl) 777 rfl (by decide +kernel) (by decide +kernel), lw_w_in (l := lw_tbl) 14 rfl (by decide +kernel) (by decide +kernel)⟩
theorem mvX1_deals : MV yX1_deals := ⟨lw_w_in (l := lw_tbl) 760 rfl (by decide +kernel) (by decide +kernel), lw_w_in (l := lw_tbl) 761 rfl (by decide +kernel) (by decide +kernel)⟩
theorem mvX1_share : MV yX1_share := ⟨lw_w_in (l := lw_tbl) 787 rfl (by decide +kernel) (by decide +kernel), lw_w_in (l := lw_tbl) 788 rfl (by decide +kernel) (by decide +kernel)⟩
theorem mvX1_total : MV yX1_total := ⟨lw_w_in (l := lw_tbl) 783 rfl (by decide +kernel) (by decide +kernel), lw_w_in (l := lw_tbl) 784 rfl (by decide +kernel) (by decide +kernel)⟩
theorem mvX1_weigh : MV yX1_weigh := ⟨lw_w_in (l := lw_tbl) 768 rfl (by decide +kernel) (by decide +kernel), lw_w_in (l := lw_tbl) 13 rfl (by decide +kernel) (by decide +kernel)⟩
theorem mvX2_addBidder : MV yX2_addBidder := ⟨lw_w_in (l := lw_tbl) 417 rfl (by decide +kernel) (by decide +kernel), lw_w_in (l := lw_tbl) 418 rfl (by decide +kernel) (by decide +kernel)⟩
theorem mvX2_addThing : MV yX2_addThing := ⟨lw_w_in (l := lw_tbl) 400 rfl (by decide +kernel) (by decide +kernel), lw_w_in (l := lw_tbl) 401 rfl (by decide +kernel) (by decide +kernel)⟩
theorem mvX2_become : MV yX2_become := ⟨lw_w_in (l := lw_tbl) 404 rfl (by decide +kernel) (by decide +kernel), lw_w_in (l := lw_tbl) 405 rfl (by decide +kernel) (by decide +kernel)⟩
theorem mvX2_copies : MV yX2_copies := ⟨lw_w_in (l := lw_tbl) 642 rfl (by decide +kernel) (by decide +kernel), lw_w_in (l := lw_tbl) 643 rfl (by decide +kernel) (by decide +kernel)⟩
theorem mvX2_has : MV yX2_has := ⟨lw_w_in (l := lw_tbl) 449 rfl (by decide +kernel) (by decide +kernel), lw_w_in (l := lw_tbl) 450 rfl (by decide +kernel) (by decide +kernel)⟩
theorem mvX2_hasBidder : MV yX2_hasBidder := ⟨lw_w_in (l := lw_tbl) 457 rfl (by decide +kernel) (by decide +kernel), lw_w_in (l := lw_tbl) 458 rfl (by decide +kernel) (by decide +kernel)⟩
theorem mvX2_hasThing : MV yX2_hasThing := ⟨lw_w_in (l := lw_tbl) 453 rfl (by decide +kernel) (by decide +kernel), lw_w_in (l := lw_tbl) 454 rfl (by decide +kernel) (by decide +kernel)⟩
theorem mvX2_missedBits : MV yX2_missedBits := ⟨lw_w_in (l := lw_tbl) 810 rfl (by decide +kernel) (by decide +kernel), lw_w_in (l := lw_tbl) 811 rfl (by decide +kernel) (by decide +kernel)⟩
theorem mvX2_missedLongest : MV yX2_missedLongest := ⟨lw_w_in (l := lw_tbl) 818 rfl (by decide +kernel) (by decide +kernel), lw_w_in (l := lw_tbl) 819 rfl (by decide +kernel) (by decide +kernel)⟩
theorem mvX2_number : MV yX2_number := ⟨lw_w_in (l := lw_tbl) 467 rfl (by decide +kernel) (by decide +kernel), lw_w_in (l := lw_tbl) 468 rfl (by decide +kernel) (by decide +kernel)⟩
theorem mvX2_yearPasses : MV yX2_yearPasses := ⟨lw_w_in (l := lw_tbl) 804 rfl (by decide +kernel) (by decide +kernel), lw_w_in (l := lw_tbl) 805 rfl (by decide +kernel) (by decide +kernel)⟩
theorem mvX3_laysBack : MV yX3_laysBack := ⟨lw_w_in (l := lw_tbl) 915 rfl (by decide +kernel) (by decide +kernel), lw_w_in (l := lw_tbl) 916 rfl (by decide +kernel) (by decide +kernel)⟩
theorem mvX3_takes : MV yX3_takes := ⟨lw_w_in (l := lw_tbl) 905 rfl (by decide +kernel) (by decide +kernel), lw_w_in (l := lw_tbl) 906 rfl (by decide +kernel) (by decide +kernel)⟩
theorem mvX4_comes : MV yX4_comes := ⟨lw_w_in (l := lw_tbl) 491 rfl (by decide +kernel) (by decide +kernel), lw_w_in (l := lw_tbl) 492 rfl (by decide +kernel) (by decide +kernel)⟩
theorem mvX4_emit : MV yX4_emit := ⟨lw_w_in (l := lw_tbl) 531 rfl (by decide +kernel) (by decide +kernel), lw_w_in (l := lw_tbl) 8 rfl (by decide +kernel) (by decide +kernel)⟩
theorem mvX4_fromTape : MV yX4_fromTape := ⟨lw_w_in (l := lw_tbl) 499 rfl (by decide +kernel) (by decide +kernel), lw_w_in (l := lw_tbl) 500 rfl (by decide +kernel) (by decide +kernel)⟩
theorem mvX4_gives : MV yX4_gives := ⟨lw_w_in (l := lw_tbl) 664 rfl (by decide +kernel) (by decide +kernel), lw_w_in (l := lw_tbl) 665 rfl (by decide +kernel) (by decide +kernel)⟩
theorem mvX4_isTapeFull : MV yX4_isTapeFull := ⟨lw_w_in (l := lw_tbl) 487 rfl (by decide +kernel) (by decide +kernel), lw_w_in (l := lw_tbl) 488 rfl (by decide +kernel) (by decide +kernel)⟩
theorem mvX4_next : MV yX4_next := ⟨lw_w_in (l := lw_tbl) 520 rfl (by decide +kernel) (by decide +kernel), lw_w_in (l := lw_tbl) 6 rfl (by decide +kernel) (by decide +kernel)⟩
theorem mvX4_readLine : MV yX4_readLine := ⟨lw_w_in (l := lw_tbl) 508 rfl (by decide +kernel) (by decide +kernel), lw_w_in (l := lw_tbl) 3 rfl (by decide +kernel) (by decide +kernel)⟩
theorem mvX4_readLines : MV yX4_readLines := ⟨lw_w_in (l := lw_tbl) 504 rfl (by decide +kernel) (by decide +kernel), lw_w_in (l := lw_tbl) 2 rfl (by decide +kernel) (by decide +kernel)⟩
theorem mvX4_readNumber : MV yX4_readNumber := ⟨lw_w_in (l := lw_tbl) 527 rfl (by decide +kernel) (by decide +kernel), lw_w_in (l := lw_tbl) 7 rfl (by decide +kernel) (by decide +kernel)⟩
theorem mvX4_readOperand : MV yX4_readOperand := ⟨lw_w_in (l := lw_tbl) 516 rfl (by decide +kernel) (by decide +kernel), lw_w_in (l := lw_tbl) 5 rfl (by decide +kernel) (by decide +kernel)⟩
theorem mvX4_readRank : MV yX4_readRank := ⟨lw_w_in (l := lw_tbl) 512 rfl (by decide +kernel) (by decide +kernel), lw_w_in (l := lw_tbl) 4 rfl (by decide +kernel) (by decide +kernel)⟩
theorem mvX4_takes : MV yX4_takes := ⟨lw_w_in (l := lw_tbl) 622 rfl (by decide +kernel) (by decide +kernel), lw_w_in (l := lw_tbl) 9 rfl (by decide +kernel) (by decide +kernel)⟩
theorem mvX5_acts : MV yX5_acts := ⟨lw_w_in (l := lw_tbl) 954 rfl (by decide +kernel) (by decide +kernel), lw_w_in (l := lw_tbl) 955 rfl (by decide +kernel) (by decide +kernel)⟩
theorem mvX5_add : MV yX5_add := ⟨lw_w_in (l := lw_tbl) 946 rfl (by decide +kernel) (by decide +kernel), lw_w_in (l := lw_tbl) 947 rfl (by decide +kernel) (by decide +kernel)⟩
theorem mvX5_has : MV yX5_has := ⟨lw_w_in (l := lw_tbl) 958 rfl (by decide +kernel) (by decide +kernel), lw_w_in (l := lw_tbl) 959 rfl (by decide +kernel) (by decide +kernel)⟩
theorem mvX5_isFull : MV yX5_isFull := ⟨lw_w_in (l := lw_tbl) 942 rfl (by decide +kernel) (by decide +kernel), lw_w_in (l := lw_tbl) 943 rfl (by decide +kernel) (by decide +kernel)⟩
theorem mvX5_kindOf : MV yX5_kindOf := ⟨lw_w_in (l := lw_tbl) 1041 rfl (by decide +kernel) (by decide +kernel), lw_w_in (l := lw_tbl) 1042 rfl (by decide +kernel) (by decide +kernel)⟩
theorem mvX5_own : MV yX5_own := ⟨lw_w_in (l := lw_tbl) 975 rfl (by decide +kernel) (by decide +kernel), lw_w_in (l := lw_tbl) 20 rfl (by decide +kernel) (by decide +kernel)⟩
theorem mvX5_runBody : MV yX5_runBody := ⟨lw_w_in (l := lw_tbl) 971 rfl (by decide +kernel) (by decide +kernel), lw_w_in (l := lw_tbl) 19 rfl (by decide +kernel) (by decide +kernel)⟩
theorem mvX5_runs : MV yX5_runs := ⟨lw_w_in (l := lw_tbl) 963 rfl (by decide +kernel) (by decide +kernel), lw_w_in (l := lw_tbl) 18 rfl (by decide +kernel) (by decide +kernel)⟩
theorem mvX5_traced : MV yX5_traced := ⟨lw_w_in (l := lw_tbl) 982 rfl (by decide +kernel) (by decide +kernel), lw_w_in (l := lw_tbl) 983 rfl (by decide +kernel) (by decide +kernel)⟩
theorem mvX6_at : MV yX6_at := ⟨lw_w_in (l := lw_tbl) 440 rfl (by decide +kernel) (by decide +kernel), lw_w_in (l := lw_tbl) 441 rfl (by decide +kernel) (by decide +kernel)⟩
theorem mvX6_hasRun : MV yX6_hasRun := ⟨lw_w_in (l := lw_tbl) 432 rfl (by decide +kernel) (by decide +kernel), lw_w_in (l := lw_tbl) 433 rfl (by decide +kernel) (by decide +kernel)⟩
theorem mvX6_holdLot : MV yX6_holdLot := ⟨lw_w_in (l := lw_tbl) 996 rfl (by decide +kernel) (by decide +kernel), lw_w_in (l := lw_tbl) 997 rfl (by decide +kernel) (by decide +kernel)⟩
theorem mvX6_holdNothing : MV yX6_holdNothing := ⟨lw_w_in (l := lw_tbl) 992 rfl (by decide +kernel) (by decide +kernel), lw_w_in (l := lw_tbl) 993 rfl (by decide +kernel) (by decide +kernel)⟩
theorem mvX6_holdRow : MV yX6_holdRow := ⟨lw_w_in (l := lw_tbl) 1004 rfl (by decide +kernel) (by decide +kernel), lw_w_in (l := lw_tbl) 1005 rfl (by decide +kernel) (by decide +kernel)⟩
theorem mvX6_holdsBytes : MV yX6_holdsBytes := ⟨lw_w_in (l := lw_tbl) 428 rfl (by decide +kernel) (by decide +kernel), lw_w_in (l := lw_tbl) 429 rfl (by decide +kernel) (by decide +kernel)⟩
theorem mvX6_kept : MV yX6_kept := ⟨lw_w_in (l := lw_tbl) 1024 rfl (by decide +kernel) (by decide +kernel), lw_w_in (l := lw_tbl) 22 rfl (by decide +kernel) (by decide +kernel)⟩
theorem mvX6_lay : MV yX6_lay := ⟨lw_w_in (l := lw_tbl) 1019 rfl (by decide +kernel) (by decide +kernel), lw_w_in (l := lw_tbl) 1020 rfl (by decide +kernel) (by decide +kernel)⟩
theorem mvX6_refusesBytes : MV yX6_refusesBytes := ⟨lw_w_in (l := lw_tbl) 692 rfl (by decide +kernel) (by decide +kernel), lw_w_in (l := lw_tbl) 693 rfl (by decide +kernel) (by decide +kernel)⟩
theorem mvX7_begin : MV yX7_begin := ⟨lw_w_in (l := lw_tbl) 638 rfl (by decide +kernel) (by decide +kernel), lw_w_in (l := lw_tbl) 639 rfl (by decide +kernel) (by decide +kernel)⟩
theorem mvX7_bid : MV yX7_bid := ⟨lw_w_in (l := lw_tbl) 675 rfl (by decide +kernel) (by decide +kernel), lw_w_in (l := lw_tbl) 676 rfl (by decide +kernel) (by decide +kernel)⟩
theorem mvX7_considers : MV yX7_considers := ⟨lw_w_in (l := lw_tbl) 656 rfl (by decide +kernel) (by decide +kernel), lw_w_in (l := lw_tbl) 657 rfl (by decide +kernel) (by decide +kernel)⟩
theorem mvX7_firstWrong : MV yX7_firstWrong := ⟨lw_w_in (l := lw_tbl) 833 rfl (by decide +kernel) (by decide +kernel), lw_w_in (l := lw_tbl) 834 rfl (by decide +kernel) (by decide +kernel)⟩
theorem mvX7_lengthOf : MV yX7_lengthOf := ⟨lw_w_in (l := lw_tbl) 702 rfl (by decide +kernel) (by decide +kernel), lw_w_in (l := lw_tbl) 11 rfl (by decide +kernel) (by decide +kernel)⟩
theorem mvX7_misses : MV yX7_misses := ⟨lw_w_in (l := lw_tbl) 660 rfl (by decide +kernel) (by decide +kernel), lw_w_in (l := lw_tbl) 661 rfl (by decide +kernel) (by decide +kernel)⟩
theorem mvX7_restarts : MV yX7_restarts := ⟨lw_w_in (l := lw_tbl) 650 rfl (by decide +kernel) (by decide +kernel), lw_w_in (l := lw_tbl) 651 rfl (by decide +kernel) (by decide +kernel)⟩
theorem mvX7_sellsAll : MV yX7_sellsAll := ⟨lw_w_in (l := lw_tbl) 697 rfl (by decide +kernel) (by decide +kernel), lw_w_in (l := lw_tbl) 698 rfl (by decide +kernel) (by decide +kernel)⟩
theorem mvX7_sellsByDraws : MV yX7_sellsByDraws := ⟨lw_w_in (l := lw_tbl) 874 rfl (by decide +kernel) (by decide +kernel), lw_w_in (l := lw_tbl) 875 rfl (by decide +kernel) (by decide +kernel)⟩
theorem mvX7_sellsOne : MV yX7_sellsOne := ⟨lw_w_in (l := lw_tbl) 707 rfl (by decide +kernel) (by decide +kernel), lw_w_in (l := lw_tbl) 708 rfl (by decide +kernel) (by decide +kernel)⟩
theorem mvX7_unsellsOne : MV yX7_unsellsOne := ⟨lw_w_in (l := lw_tbl) 738 rfl (by decide +kernel) (by decide +kernel), lw_w_in (l := lw_tbl) 739 rfl (by decide +kernel) (by decide +kernel)⟩
theorem mvX7_varies : MV yX7_varies := ⟨lw_w_in (l := lw_tbl) 842 rfl (by decide +kernel) (by decide +kernel), lw_w_in (l := lw_tbl) 843 rfl (by decide +kernel) (by decide +kernel)⟩
theorem mvX7_winner : MV yX7_winner := ⟨lw_w_in (l := lw_tbl) 683 rfl (by decide +kernel) (by decide +kernel), lw_w_in (l := lw_tbl) 684 rfl (by decide +kernel) (by decide +kernel)⟩
theorem mvX7_wouldChange : MV yX7_wouldChange := ⟨lw_w_in (l := lw_tbl) 796 rfl (by decide +kernel) (by decide +kernel), lw_w_in (l := lw_tbl) 797 rfl (by decide +kernel) (by decide +kernel)⟩
theorem mvX8_fewestExamined : MV yX8_fewestExamined := ⟨lw_w_in (l := lw_tbl) 750 rfl (by decide +kernel) (by decide +kernel), lw_w_in (l := lw_tbl) 751 rfl (by decide +kernel) (by decide +kernel)⟩
theorem mvX8_moved : MV yX8_moved := ⟨lw_w_in (l := lw_tbl) 858 rfl (by decide +kernel) (by decide +kernel), lw_w_in (l := lw_tbl) 16 rfl (by decide +kernel) (by decide +kernel)⟩
theorem mvX8_orders : MV yX8_orders := ⟨lw_w_in (l := lw_tbl) 727 rfl (by decide +kernel) (by decide +kernel), lw_w_in (l := lw_tbl) 728 rfl (by decide +kernel) (by decide +kernel)⟩
theorem mvX8_outcome : MV yX8_outcome := ⟨lw_w_in (l := lw_tbl) 865 rfl (by decide +kernel) (by decide +kernel), lw_w_in (l := lw_tbl) 17 rfl (by decide +kernel) (by decide +kernel)⟩
theorem mvX8_tryOrder : MV yX8_tryOrder := ⟨lw_w_in (l := lw_tbl) 733 rfl (by decide +kernel) (by decide +kernel), lw_w_in (l := lw_tbl) 12 rfl (by decide +kernel) (by decide +kernel)⟩
theorem mvX8_turns : MV yX8_turns := ⟨lw_w_in (l := lw_tbl) 851 rfl (by decide +kernel) (by decide +kernel), lw_w_in (l := lw_tbl) 852 rfl (by decide +kernel) (by decide +kernel)⟩
theorem mvX9_comesFrom : MV yX9_comesFrom := ⟨lw_w_in (l := lw_tbl) 437 rfl (by decide +kernel) (by decide +kernel), lw_w_in (l := lw_tbl) 0 rfl (by decide +kernel) (by decide +kernel)⟩
theorem mvX9_isPair : MV yX9_isPair := ⟨lw_w_in (l := lw_tbl) 634 rfl (by decide +kernel) (by decide +kernel), lw_w_in (l := lw_tbl) 10 rfl (by decide +kernel) (by decide +kernel)⟩
theorem mvX9_mayBe : MV yX9_mayBe := ⟨lw_w_in (l := lw_tbl) 462 rfl (by decide +kernel) (by decide +kernel), lw_w_in (l := lw_tbl) 1 rfl (by decide +kernel) (by decide +kernel)⟩
theorem mvX9_refusesBoth : MV yX9_refusesBoth := ⟨lw_w_in (l := lw_tbl) 830 rfl (by decide +kernel) (by decide +kernel), lw_w_in (l := lw_tbl) 15 rfl (by decide +kernel) (by decide +kernel)⟩
theorem mvX9_refusesElement : MV yX9_refusesElement := ⟨lw_w_in (l := lw_tbl) 1016 rfl (by decide +kernel) (by decide +kernel), lw_w_in (l := lw_tbl) 21 rfl (by decide +kernel) (by decide +kernel)⟩
theorem msJ6_bitCount_0f7a4 : Cond.static yJ6_bitCount_0f7a4 ∈ lw_w := lw_w_in (l := lw_tbl) 721 rfl (by decide +kernel) (by decide +kernel)
theorem msJ7_fill_53178 : Cond.static yJ7_fill_53178 ∈ lw_w := lw_w_in (l := lw_tbl) 647 rfl (by decide +kernel) (by decide +kernel)
theorem msJ7_fill_d0a16 : Cond.static yJ7_fill_d0a16 ∈ lw_w := lw_w_in (l := lw_tbl) 764 rfl (by decide +kernel) (by decide +kernel)
theorem msX10_above : Cond.static yX10_above ∈ lw_w := lw_w_in (l := lw_tbl) 1539 rfl (by decide +kernel) (by decide +kernel)
theorem msX10_both : Cond.static yX10_both ∈ lw_w := lw_w_in (l := lw_tbl) 1345 rfl (by decide +kernel) (by decide +kernel)
theorem msX10_isShelf : Cond.static yX10_isShelf ∈ lw_w := lw_w_in (l := lw_tbl) 1213 rfl (by decide +kernel) (by decide +kernel)
theorem msX10_kept : Cond.static yX10_kept ∈ lw_w := lw_w_in (l := lw_tbl) 1574 rfl (by decide +kernel) (by decide +kernel)
theorem msX10_less : Cond.static yX10_less ∈ lw_w := lw_w_in (l := lw_tbl) 1443 rfl (by decide +kernel) (by decide +kernel)
theorem msX10_nameOf : Cond.static yX10_nameOf ∈ lw_w := lw_w_in (l := lw_tbl) 1310 rfl (by decide +kernel) (by decide +kernel)
theorem msX10_within : Cond.static yX10_within ∈ lw_w := lw_w_in (l := lw_tbl) 1198 rfl (by decide +kernel) (by decide +kernel)
theorem msX4_isDigit : Cond.static yX4_isDigit ∈ lw_w := lw_w_in (l := lw_tbl) 523 rfl (by decide +kernel) (by decide +kernel)
theorem msX4_rankOf : Cond.static yX4_rankOf ∈ lw_w := lw_w_in (l := lw_tbl) 625 rfl (by decide +kernel) (by decide +kernel)
theorem msX4_worked : Cond.static yX4_worked ∈ lw_w := lw_w_in (l := lw_tbl) 670 rfl (by decide +kernel) (by decide +kernel)
theorem msX5_isUnder : Cond.static yX5_isUnder ∈ lw_w := lw_w_in (l := lw_tbl) 1045 rfl (by decide +kernel) (by decide +kernel)
theorem msX9_areShelves : Cond.static yX9_areShelves ∈ lw_w := lw_w_in (l := lw_tbl) 826 rfl (by decide +kernel) (by decide +kernel)
theorem msX9_isShelf : Cond.static yX9_isShelf ∈ lw_w := lw_w_in (l := lw_tbl) 425 rfl (by decide +kernel) (by decide +kernel)
theorem msX9_isWithin : Cond.static yX9_isWithin ∈ lw_w := lw_w_in (l := lw_tbl) 412 rfl (by decide +kernel) (by decide +kernel)
theorem mn_1 : Cond.static Lib.Math.min.name ∈ lw_w := lw_w_in (l := lw_tbl) 566 rfl (by decide +kernel) (by decide +kernel)
theorem mx_1 : Cond.static Lib.Math.max.name ∈ lw_w := lw_w_in (l := lw_tbl) 563 rfl (by decide +kernel) (by decide +kernel)
theorem ml_1 : Cond.static Lib.MathLoose.max_long.x ∈ lw_w := lw_w_in (l := lw_tbl) 780 rfl (by decide +kernel) (by decide +kernel)
theorem mn_2 : Cond.initialized "java/lang/Math" ∈ lw_w := lw_w_in (l := lw_tbl) 90 rfl (by decide +kernel) (by decide +kernel)
theorem mn_3 : Cond.code Lib.Math.min.name Lib.Math.min.code 2 (some .int) ∈ lw_w := lw_w_in (l := lw_tbl) 567 rfl (by decide +kernel) (by decide +kernel)
theorem mx_3 : Cond.code Lib.Math.max.name Lib.Math.max.code 2 (some .int) ∈ lw_w := lw_w_in (l := lw_tbl) 564 rfl (by decide +kernel) (by decide +kernel)
theorem ml_3 : Cond.code Lib.MathLoose.max_long.x Lib.MathLoose.max_long.code 4 (some .long) ∈ lw_w := lw_w_in (l := lw_tbl) 781 rfl (by decide +kernel) (by decide +kernel)
theorem ac_1 : Cond.native arraycopyName ∈ lw_w := lw_w_in (l := lw_tbl) 477 rfl (by decide +kernel) (by decide +kernel)
theorem ac_2 : Cond.static arraycopyName ∈ lw_w := lw_w_in (l := lw_tbl) 476 rfl (by decide +kernel) (by decide +kernel)
theorem ac_3 : Cond.initialized "java/lang/System" ∈ lw_w := lw_w_in (l := lw_tbl) 87 rfl (by decide +kernel) (by decide +kernel)
abbrev stv0 : List Int := [3, 6, 1, 99, 9, 99, 9, 9, 1, 9, 9, 9, 9]
theorem stv0_ok (i : Nat) : ok32 (stv0.getD i 0) := by
  rcases Nat.lt_or_ge i 13 with h | h
  · exact (by decide : ∀ i, i < 13 → (-2147483648 ≤ stv0.getD i 0 ∧ stv0.getD i 0 < 2147483648)) i h
  · have e : stv0.getD i 0 = 0 := by rw [List.getD_eq_getElem?_getD, List.getElem?_eq_none h]; rfl
    rw [e]
    exact ok32_0
abbrev stv1 : List Int := [531441, 59049, 6561, 729, 81, 9, 1]
theorem stv1_ok (i : Nat) : ok64 (stv1.getD i 0) := by
  rcases Nat.lt_or_ge i 7 with h | h
  · exact (by decide : ∀ i, i < 7 → (-9223372036854775808 ≤ stv1.getD i 0 ∧ stv1.getD i 0 < 9223372036854775808)) i h
  · have e : stv1.getD i 0 = 0 := by rw [List.getD_eq_getElem?_getD, List.getElem?_eq_none h]; rfl
    rw [e]
    exact ok64_0
abbrev stv2 : List Int := [-1, 0, 0, 2, 1, 3, 0, 4]
theorem stv2_ok (i : Nat) : ok32 (stv2.getD i 0) := by
  rcases Nat.lt_or_ge i 8 with h | h
  · exact (by decide : ∀ i, i < 8 → (-2147483648 ≤ stv2.getD i 0 ∧ stv2.getD i 0 < 2147483648)) i h
  · have e : stv2.getD i 0 = 0 := by rw [List.getD_eq_getElem?_getD, List.getElem?_eq_none h]; rfl
    rw [e]
    exact ok32_0
abbrev stv3 : List Int := [1, 10, 11, 2, 20, 0, 0, 0, 0, 30, 0, 0, 0, 41, 40, 0, 0, 0, 50, 0, 0, 0, 0, 60, 70, 0, 0, 0, 0, 80, 0, 81]
theorem stv3_ok (i : Nat) : ok32 (stv3.getD i 0) := by
  rcases Nat.lt_or_ge i 32 with h | h
  · exact (by decide : ∀ i, i < 32 → (-2147483648 ≤ stv3.getD i 0 ∧ stv3.getD i 0 < 2147483648)) i h
  · have e : stv3.getD i 0 = 0 := by rw [List.getD_eq_getElem?_getD, List.getElem?_eq_none h]; rfl
    rw [e]
    exact ok32_0
abbrev stv4 : List Int := [2, 0, 1]
theorem stv4_ok (i : Nat) : ok32 (stv4.getD i 0) := by
  rcases Nat.lt_or_ge i 3 with h | h
  · exact (by decide : ∀ i, i < 3 → (-2147483648 ≤ stv4.getD i 0 ∧ stv4.getD i 0 < 2147483648)) i h
  · have e : stv4.getD i 0 = 0 := by rw [List.getD_eq_getElem?_getD, List.getElem?_eq_none h]; rfl
    rw [e]
    exact ok32_0
def DEP : Nat := 200
end
section
/-! A static of the nest's host; the String constant. -/
section MiscRows
variable {K : KT} {g : GT} {own : String} {cc : ByteArray} {nL fr cm sm : Nat} {cs : Nat × Nat} {pc : Nat} {L : List (Nat × Vl)} {st : List Vl} {S : S2}
theorem g_getsN {ix k : Nat} {C n d host : String} {ty : FieldType} {xs : List Int} (hC : Ctx K g own cc nL fr cm sm) (hd : decode cc pc = .ok (.getstatic ix, 3)) (hk : sts[k]? = some (C, n, d, ty, xs)) (hl : Cond.fieldLinkNest own ix C n d host ∈ lw_tbl) (kk : G K g nL cs (pc + 3) L (vo k :: st) S) : G K g nL cs pc L st S := by
  obtain ⟨p, l, e, R, s, m, args, below, meth, c0, Q⟩ := K
  intro H locs ls h1 h2 h3 h4 h5
  exact va_getsN hC.1 hC.2.1 (hC.2.2.2.2.2.1.2.1.1 k C n d ty xs hk).1 h2 hC.2.2.2.1 (va_Nw.use rfl (hC.2.2.2.2.2.1.2.2.1 _ hl rfl)) (fun _ h => h) hd (kk H locs ls h1 h2 (okv_cons (v := vo k) trivial h3) h4 h5)
theorem g_ldcS (hC : Ctx K g RX4 cc nL fr cm sm) (hd : decode cc pc = .ok (.ldc 78, 2)) (kk : G K g nL cs (pc + 2) L (vo 5 :: st) S) : G K g nL cs pc L st S := by
  obtain ⟨p, l, e, R, s, m, args, below, meth, c0, Q⟩ := K
  intro H locs ls h1 h2 h3 h4 h5
  exact va_ldcS hC.1 hC.2.1 hC.2.2.2.1 hC.2.2.2.2.2.1.2.2.2.1 hd (kk H locs ls h1 h2 (okv_cons (v := vo 5) trivial h3) h4 h5)
def ixof (x : Int) : Int := if x = 99 then 0 else if x = 108 then 1 else if x = 104 then 2 else if x = 118 then 3 else if x = 110 then 4 else if x = 109 then 5 else -1
theorem g_ixof {ix : Nat} {x : Int} (hC : Ctx K g own cc nL fr cm sm) (hd : decode cc pc = .ok (.invokevirtual ix, 3)) (hl : Cond.methodLink own ix yJ0_indexOf_0f7a4 ∈ lw_w) (hw : wsum st ≤ 8) (hfr : 8 ≤ fr) (hcs : cs.1 ≤ cm ∧ cs.2 ≤ sm) (kk : G K g nL cs (pc + 3) L (vi (ixof x) :: st) S) : G K g nL cs pc L (vi x :: vo 5 :: st) S := by
  sorry
end MiscRows
end
section
/-! The methods as plain functions over the store (printed by my program from the bytecode). -/
def fX10_within (x0 : Int) (x1 : Int) (x2 : Int) (σ : St) : Option (Int × St) := if x0 < x1 then (some (0, σ)) else (if x2 < x0 then (some (0, σ)) else (some (1, σ)))
def fX10_isShelf (x0 : Int) (σ : St) : Option (Int × St) := Option.bind (fX10_within x0 0 5 σ) fun q1 => if q1.1 = 0 ∨ q1.1 = 1 then some (q1.1, q1.2) else none
def fX10_toldAt (c0 : Nat) (x1 : Int) (x2 : Int) (σ : St) : Option (Int × St) := if inb (i_add (i_mul 60 x1) x2) (LN (RF c0 40)) then some (c_l2i (σ (RF c0 40) (Int.toNat (i_add (i_mul 60 x1) x2))), σ) else none
def fX10_newOne_35 (c0 : Nat) (x1 : Int) (x2 : Int) (x3 : Int) (k3 : Int → St → Option (Int × St)) (x4 : Int) (d0 : Nat) (y1 : Int) (y2 : Int) (σ : St) : Option (Int × St) := if inb y1 (LN d0) then k3 (i_add x4 1) (up σ d0 (Int.toNat y1) y2) else none
def fX10_newOne_78 (c0 : Nat) (x1 : Int) (x2 : Int) (x3 : Int) (σ : St) : Option (Int × St) := some (σ c0 5, up σ c0 5 (i_add (σ c0 5) 1))
def fX10_newOne_3 (c0 : Nat) (x1 : Int) (x2 : Int) (x3 : Int) : Nat → Int → St → Option (Int × St)
  | 0, _, _ => none
  | n + 1, x4, σ => if 9 ≤ x4 then (if inb (σ c0 5) (LN (RF c0 6)) then if inb (i_add 7 ((up σ (RF c0 6) (Int.toNat (σ c0 5)) x1) c0 5)) (LN (RF c0 6)) then if inb (i_add 21 ((up (up σ (RF c0 6) (Int.toNat (σ c0 5)) x1) (RF c0 6) (Int.toNat (i_add 7 ((up σ (RF c0 6) (Int.toNat (σ c0 5)) x1) c0 5))) x2) c0 5)) (LN (RF c0 6)) then fX10_newOne_78 c0 x1 x2 x3 (up (up (up σ (RF c0 6) (Int.toNat (σ c0 5)) x1) (RF c0 6) (Int.toNat (i_add 7 ((up σ (RF c0 6) (Int.toNat (σ c0 5)) x1) c0 5))) x2) (RF c0 6) (Int.toNat (i_add 21 ((up (up σ (RF c0 6) (Int.toNat (σ c0 5)) x1) (RF c0 6) (Int.toNat (i_add 7 ((up σ (RF c0 6) (Int.toNat (σ c0 5)) x1) c0 5))) x2) c0 5))) x3) else none else none else none) else (if x4 ≤ 4 then (fX10_newOne_35 c0 x1 x2 x3 (fX10_newOne_3 c0 x1 x2 x3 n) x4 (RF c0 6) (i_add (i_mul 7 x4) (σ c0 5)) 0 σ) else (fX10_newOne_35 c0 x1 x2 x3 (fX10_newOne_3 c0 x1 x2 x3 n) x4 (RF c0 6) (i_add (i_mul 7 x4) (σ c0 5)) 5 σ))
def fX10_newOne (c0 : Nat) (x1 : Int) (x2 : Int) (x3 : Int) (σ : St) : Option (Int × St) := fX10_newOne_3 c0 x1 x2 x3 FU 0 σ
def fX10_bidders_49 (c0 : Nat) (x1 : Int) (x2 : Int) (x3 : Int) : Nat → Int → Int → St → Option (Int × St)
  | 0, _, _, _ => none
  | n + 1, x4, x5, σ => if x3 ≤ x5 then (some (x4, σ)) else (if (l_cmp (l_add (c_i2l x2) (l_mul 3 (c_i2l x5))) 0) < 0 then (some (x4, σ)) else (if inb x1 (LN (RF c0 39)) then if 0 < (l_cmp (l_add (l_add (c_i2l x2) (l_mul 3 (c_i2l x5))) 3) (c_i2l (σ (RF c0 39) (Int.toNat x1)))) then (some (x4, σ)) else (if (σ c0 5) = 7 then (some (x4, σ)) else (Option.bind (fX10_toldAt c0 x1 (c_l2i (l_add (c_i2l x2) (l_mul 3 (c_i2l x5)))) σ) fun q1 => Option.bind (fX10_within q1.1 0 9 q1.2) fun q2 => if q2.1 = 0 then (some (x4, q2.2)) else (Option.bind (fX10_toldAt c0 x1 (i_add (c_l2i (l_add (c_i2l x2) (l_mul 3 (c_i2l x5)))) 1) q2.2) fun q3 => Option.bind (fX10_within q3.1 0 99 q3.2) fun q4 => if q4.1 = 0 then (some (x4, q4.2)) else (Option.bind (fX10_toldAt c0 x1 (i_add (c_l2i (l_add (c_i2l x2) (l_mul 3 (c_i2l x5)))) 2) q4.2) fun q5 => Option.bind (fX10_within q5.1 0 9 q5.2) fun q6 => if q6.1 = 0 then (some (x4, q6.2)) else (Option.bind (fX10_toldAt c0 x1 (c_l2i (l_add (c_i2l x2) (l_mul 3 (c_i2l x5)))) q6.2) fun q7 => Option.bind (fX10_toldAt c0 x1 (i_add (c_l2i (l_add (c_i2l x2) (l_mul 3 (c_i2l x5)))) 1) q7.2) fun q8 => Option.bind (fX10_toldAt c0 x1 (i_add (c_l2i (l_add (c_i2l x2) (l_mul 3 (c_i2l x5)))) 2) q8.2) fun q9 => Option.bind (fX10_newOne c0 q7.1 q8.1 q9.1 q9.2) fun q10 => fX10_bidders_49 c0 x1 x2 x3 n (i_add x4 1) (i_add x5 1) q10.2))))) else none))
def fX10_bidders (c0 : Nat) (x1 : Int) (x2 : Int) (x3 : Int) (σ : St) : Option (Int × St) := Option.bind (fX10_isShelf x1 σ) fun q1 => if q1.1 = 0 then (some ((-1), q1.2)) else (Option.bind (fX10_within x3 1 7 q1.2) fun q2 => if q2.1 = 0 then (some ((-1), q2.2)) else (if inb x1 (LN (RF c0 38)) then if (q2.2 (RF c0 38) (Int.toNat x1)) = (-1) then (some (0, q2.2)) else (if inb x1 (LN (RF c0 38)) then if (q2.2 (RF c0 38) (Int.toNat x1)) = 0 then (fX10_bidders_49 c0 x1 x2 x3 FU 0 0 q2.2) else (some ((-12), q2.2)) else none) else none))
def fX2_number_32 (c0 : Nat) (x1 : Int) (x2 : Int) (σ : St) : Option (Int × St) := if x2 < 4 then (some (0, σ)) else (if 13 ≤ x2 then (some (0, σ)) else (if x1 < 0 then (some (0, σ)) else (if (σ c0 3) ≤ x1 then (some (0, σ)) else (if inb (i_sub (i_add (i_mul x1 9) x2) 4) (LN (RF c0 1)) then some (σ (RF c0 1) (Int.toNat (i_sub (i_add (i_mul x1 9) x2) 4)), σ) else none))))
def fX2_number (c0 : Nat) (x1 : Int) (x2 : Int) (σ : St) : Option (Int × St) := if x2 < 0 then (fX2_number_32 c0 x1 x2 σ) else (if 4 ≤ x2 then (fX2_number_32 c0 x1 x2 σ) else (if x1 < 0 then (fX2_number_32 c0 x1 x2 σ) else (if (σ c0 2) ≤ x1 then (fX2_number_32 c0 x1 x2 σ) else (if inb (i_add (i_mul x1 4) x2) (LN (RF c0 0)) then some (σ (RF c0 0) (Int.toNat (i_add (i_mul x1 4) x2)), σ) else none))))
def fX2_missedLongest_34 (c0 : Nat) (k7 : Int → Int → Int → St → Option (Int × St)) (x1 : Int) (x2 : Int) (x3 : Int) (σ : St) : Option (Int × St) := k7 x1 x2 (i_add x3 1) σ
def fX2_missedLongest_7 (c0 : Nat) : Nat → Int → Int → Int → St → Option (Int × St)
  | 0, _, _, _, _ => none
  | n + 1, x1, x2, x3, σ => if (σ c0 2) ≤ x3 then (some (x1, σ)) else (Option.bind (fX2_number c0 x3 3 σ) fun q1 => if q1.1 ≤ x2 then (fX2_missedLongest_34 c0 (fX2_missedLongest_7 c0 n) x1 x2 x3 q1.2) else (Option.bind (fX2_number c0 x3 3 q1.2) fun q2 => fX2_missedLongest_34 c0 (fX2_missedLongest_7 c0 n) x3 q2.1 x3 q2.2))
def fX2_missedLongest (c0 : Nat) (σ : St) : Option (Int × St) := fX2_missedLongest_7 c0 FU (-2) 0 0 σ
def fX9_missed_43 (c0 : Nat) (x1 : Int) (y0 : Int) (σ : St) : Option (Int × St) := if 60 < y0 then (some ((-2), σ)) else (some (y0, σ))
def fX9_missed (c0 : Nat) (x1 : Int) (σ : St) : Option (Int × St) := if x1 < 0 then (some ((-1), σ)) else (if x1 ≤ 1 then (Option.bind (fX2_missedLongest (RF c0 0) σ) fun q1 => if x1 = 1 then (some (q1.1, q1.2)) else (if 0 ≤ q1.1 then (Option.bind (fX2_number (RF c0 0) q1.1 3 q1.2) fun q2 => fX9_missed_43 c0 x1 q2.1 q2.2) else (fX9_missed_43 c0 x1 0 q1.2))) else (some ((-1), σ)))
def fX10_countOf_34 (c0 : Nat) (x1 : Int) (k4 : Int → Int → St → Option (Int × St)) (x2 : Int) (x3 : Int) (σ : St) : Option (Int × St) := k4 x2 (i_add x3 1) σ
def fX10_countOf_4 (c0 : Nat) (x1 : Int) : Nat → Int → Int → St → Option (Int × St)
  | 0, _, _, _ => none
  | n + 1, x2, x3, σ => if (σ c0 0) ≤ x3 then (some (x2, σ)) else (if inb x3 (LN (RF c0 2)) then if (σ (RF c0 2) (Int.toNat x3)) = x1 then (if inb x3 (LN (RF c0 3)) then if (σ (RF c0 3) (Int.toNat x3)) = 0 then (fX10_countOf_34 c0 x1 (fX10_countOf_4 c0 x1 n) (i_add x2 1) x3 σ) else (fX10_countOf_34 c0 x1 (fX10_countOf_4 c0 x1 n) x2 x3 σ) else none) else (fX10_countOf_34 c0 x1 (fX10_countOf_4 c0 x1 n) x2 x3 σ) else none)
def fX10_countOf (c0 : Nat) (x1 : Int) (σ : St) : Option (Int × St) := fX10_countOf_4 c0 x1 FU 0 0 σ
def fX10_both (x0 : Int) (x1 : Int) (x2 : Int) (σ : St) : Option (Int × St) := if x0 = 6 then (if x1 = 0 then (if x2 = 0 then (some (0, σ)) else (some (1, σ))) else (some (1, σ))) else if x0 = 7 then (if x1 = 0 then (some (0, σ)) else (if x2 = 0 then (some (0, σ)) else (some (1, σ)))) else if x0 = 8 then (if x2 ≤ x1 then (some (0, σ)) else (some (1, σ))) else if x0 = 9 then (if x1 = x2 then (some (1, σ)) else (some (0, σ))) else if x0 = 10 then (if x1 ≤ x2 then (some (0, σ)) else (some (1, σ))) else if x0 = 11 then (some (i_add x1 x2, σ)) else if x0 = 12 then (some (i_sub x1 x2, σ)) else if x0 = 13 then (some (i_mul x1 x2, σ)) else if x0 = 14 then (if x2 = 0 then (some (0, σ)) else (if ¬ x2 = 0 then some (i_div x1 x2, σ) else none)) else (if x2 = 0 then (some (0, σ)) else (if ¬ x2 = 0 then some (i_rem x1 x2, σ) else none))
def fX10_worked_157 (c0 : Nat) (x1 : Int) (x2 : Int) (k5 : Int → Int → St → Option (Int × St)) (x3 : Int) (x4 : Int) (σ : St) : Option (Int × St) := k5 x3 (i_add x4 1) σ
def fX10_worked_63 (c0 : Nat) (x1 : Int) (x2 : Int) (k5 : Int → Int → St → Option (Int × St)) (x3 : Int) (x4 : Int) (d0 : Nat) (y1 : Int) (y2 : Int) (σ : St) : Option (Int × St) := if inb y1 (LN d0) then fX10_worked_157 c0 x1 x2 k5 x3 x4 (up σ d0 (Int.toNat y1) y2) else none
def fX10_worked_33 (c0 : Nat) (x1 : Int) (x2 : Int) (k5 : Int → Int → St → Option (Int × St)) (x3 : Int) (x4 : Int) (x5 : Int) (σ : St) : Option (Int × St) := if x5 < 18 then (if inb x5 (LN (RF c0 24)) then fX10_worked_63 c0 x1 x2 k5 (i_add x3 1) x4 (RF c0 23) x3 (σ (RF c0 24) (Int.toNat x5)) σ else none) else (fX10_worked_63 c0 x1 x2 k5 (i_add x3 1) x4 (RF c0 23) x3 (i_sub x5 18) σ)
def fX10_worked_123 (c0 : Nat) (x1 : Int) (x2 : Int) (k5 : Int → Int → St → Option (Int × St)) (x3 : Int) (x4 : Int) (d0 : Nat) (y1 : Int) (y2 : Int) (σ : St) : Option (Int × St) := if inb y1 (LN d0) then fX10_worked_157 c0 x1 x2 k5 x3 x4 (up σ d0 (Int.toNat y1) y2) else none
def fX10_worked_81 (c0 : Nat) (x1 : Int) (x2 : Int) (k5 : Int → Int → St → Option (Int × St)) (x3 : Int) (x4 : Int) (x5 : Int) (σ : St) : Option (Int × St) := if x5 = 17 then (if inb (i_sub x3 1) (LN (RF c0 23)) then fX10_worked_123 c0 x1 x2 k5 x3 x4 (RF c0 23) (i_sub x3 1) (i_neg (σ (RF c0 23) (Int.toNat (i_sub x3 1)))) σ else none) else (if inb (i_sub x3 1) (LN (RF c0 23)) then if (σ (RF c0 23) (Int.toNat (i_sub x3 1))) = 0 then (fX10_worked_123 c0 x1 x2 k5 x3 x4 (RF c0 23) (i_sub x3 1) 1 σ) else (fX10_worked_123 c0 x1 x2 k5 x3 x4 (RF c0 23) (i_sub x3 1) 0 σ) else none)
def fX10_worked_5 (c0 : Nat) (x1 : Int) (x2 : Int) : Nat → Int → Int → St → Option (Int × St)
  | 0, _, _, _ => none
  | n + 1, x3, x4, σ => if x2 ≤ x4 then (if inb 0 (LN (RF c0 23)) then some (σ (RF c0 23) (Int.toNat 0), σ) else none) else (if inb x4 (LN (RF c0 14)) then if 18 ≤ (σ (RF c0 14) (Int.toNat x4)) then (fX10_worked_33 c0 x1 x2 (fX10_worked_5 c0 x1 x2 n) x3 x4 (σ (RF c0 14) (Int.toNat x4)) σ) else (if 5 < (σ (RF c0 14) (Int.toNat x4)) then (if (σ (RF c0 14) (Int.toNat x4)) = 16 then (fX10_worked_81 c0 x1 x2 (fX10_worked_5 c0 x1 x2 n) x3 x4 (σ (RF c0 14) (Int.toNat x4)) σ) else (if (σ (RF c0 14) (Int.toNat x4)) = 17 then (fX10_worked_81 c0 x1 x2 (fX10_worked_5 c0 x1 x2 n) x3 x4 (σ (RF c0 14) (Int.toNat x4)) σ) else (if inb (i_sub (i_add x3 (-1)) 1) (LN (RF c0 23)) then if inb (i_add x3 (-1)) (LN (RF c0 23)) then Option.bind (fX10_both (σ (RF c0 14) (Int.toNat x4)) (σ (RF c0 23) (Int.toNat (i_sub (i_add x3 (-1)) 1))) (σ (RF c0 23) (Int.toNat (i_add x3 (-1)))) σ) fun q1 => if inb (i_sub (i_add x3 (-1)) 1) (LN (RF c0 23)) then fX10_worked_157 c0 x1 x2 (fX10_worked_5 c0 x1 x2 n) (i_add x3 (-1)) x4 (up q1.2 (RF c0 23) (Int.toNat (i_sub (i_add x3 (-1)) 1)) q1.1) else none else none else none))) else (fX10_worked_33 c0 x1 x2 (fX10_worked_5 c0 x1 x2 n) x3 x4 (σ (RF c0 14) (Int.toNat x4)) σ)) else none)
def fX10_worked (c0 : Nat) (x1 : Int) (x2 : Int) (σ : St) : Option (Int × St) := fX10_worked_5 c0 x1 x2 FU 0 x1 σ
def fX10_byLaw_47 (c0 : Nat) (x1 : Int) (σ : St) : Option (Int × St) := if inb x1 (LN (RF c0 12)) then if inb x1 (LN (RF c0 13)) then Option.bind (fX10_worked c0 (σ (RF c0 12) (Int.toNat x1)) (σ (RF c0 13) (Int.toNat x1)) σ) fun q1 => some (q1.1, q1.2) else none else none
def fX10_byLaw_2 (c0 : Nat) : Nat → Int → St → Option (Int × St)
  | 0, _, _ => none
  | n + 1, x1, σ => if (σ c0 10) ≤ x1 then (some (0, σ)) else (if inb x1 (LN (RF c0 12)) then if inb x1 (LN (RF c0 11)) then if (σ (RF c0 12) (Int.toNat x1)) ≤ (σ (RF c0 11) (Int.toNat x1)) then (fX10_byLaw_47 c0 x1 σ) else (if inb x1 (LN (RF c0 11)) then if inb x1 (LN (RF c0 12)) then Option.bind (fX10_worked c0 (σ (RF c0 11) (Int.toNat x1)) (σ (RF c0 12) (Int.toNat x1)) σ) fun q1 => if q1.1 = 0 then (fX10_byLaw_2 c0 n (i_add x1 1) q1.2) else (fX10_byLaw_47 c0 x1 q1.2) else none else none) else none else none)
def fX10_byLaw (c0 : Nat) (σ : St) : Option (Int × St) := fX10_byLaw_2 c0 FU 0 σ
def fX10_missing_44 (c0 : Nat) (x1 : Int) (k4 : Int → Int → St → Option (Int × St)) (x2 : Int) (x3 : Int) (σ : St) : Option (Int × St) := k4 x2 (i_add x3 1) σ
def fX10_missing_4 (c0 : Nat) (x1 : Int) : Nat → Int → Int → St → Option (Int × St)
  | 0, _, _, _ => none
  | n + 1, x2, x3, σ => if (σ c0 0) ≤ x3 then (some (x2, σ)) else (if inb x3 (LN (RF c0 2)) then if (σ (RF c0 2) (Int.toNat x3)) = x1 then (if inb x3 (LN (RF c0 3)) then if (σ (RF c0 3) (Int.toNat x3)) = 1 then (if inb x3 (LN (RF c0 4)) then if (σ (RF c0 4) (Int.toNat x3)) ≤ 0 then (fX10_missing_44 c0 x1 (fX10_missing_4 c0 x1 n) x2 x3 σ) else (fX10_missing_44 c0 x1 (fX10_missing_4 c0 x1 n) (i_add x2 1) x3 σ) else none) else (fX10_missing_44 c0 x1 (fX10_missing_4 c0 x1 n) x2 x3 σ) else none) else (fX10_missing_44 c0 x1 (fX10_missing_4 c0 x1 n) x2 x3 σ) else none)
def fX10_missing (c0 : Nat) (x1 : Int) (σ : St) : Option (Int × St) := fX10_missing_4 c0 x1 FU 0 0 σ
def fX10_yearsOf_126 (c0 : Nat) (x1 : Int) (x2 : Int) (x3 : Int) (y0 : Int) (σ : St) : Option (Int × St) := some (m_max 0 (m_min 99 y0), σ)
def fX10_yearsOf_68 (c0 : Nat) (x1 : Int) (x2 : Int) (x3 : Int) (σ : St) : Option (Int × St) := Option.bind (fX10_missing c0 x1 σ) fun q1 => if inb 5 (LN (RF c0 24)) then if ((up q1.2 (RF c0 24) (Int.toNat 5) q1.1) c0 9) = 0 then (if inb 0 (LN (RF c0 24)) then if inb 3 (LN (RF c0 24)) then if inb 1 (LN (RF c0 24)) then if inb 2 (LN (RF c0 24)) then fX10_yearsOf_126 c0 x1 x2 x3 (i_sub (m_min (i_mul ((up q1.2 (RF c0 24) (Int.toNat 5) q1.1) (RF c0 24) (Int.toNat 0)) ((up q1.2 (RF c0 24) (Int.toNat 5) q1.1) (RF c0 24) (Int.toNat 3))) (i_add ((up q1.2 (RF c0 24) (Int.toNat 5) q1.1) (RF c0 24) (Int.toNat 1)) ((up q1.2 (RF c0 24) (Int.toNat 5) q1.1) (RF c0 24) (Int.toNat 2)))) (i_mul 5 x3)) (up q1.2 (RF c0 24) (Int.toNat 5) q1.1) else none else none else none else none) else (Option.bind (fX10_byLaw c0 (up q1.2 (RF c0 24) (Int.toNat 5) q1.1)) fun q2 => fX10_yearsOf_126 c0 x1 x2 x3 q2.1 q2.2) else none
def fX10_yearsOf_61 (c0 : Nat) (x1 : Int) (x2 : Int) (x3 : Int) (σ : St) : Option (Int × St) := if inb 4 (LN (RF c0 24)) then fX10_yearsOf_68 c0 x1 x2 x3 (up σ (RF c0 24) (Int.toNat 4) x3) else none
def fX10_yearsOf_42 (c0 : Nat) (x1 : Int) (x2 : Int) (x3 : Int) (σ : St) : Option (Int × St) := if inb (i_add (i_mul 7 (i_add 5 x2)) x1) (LN (RF c0 6)) then if inb 3 (LN (RF c0 24)) then fX10_yearsOf_61 c0 x1 x2 x3 (up σ (RF c0 24) (Int.toNat 3) (σ (RF c0 6) (Int.toNat (i_add (i_mul 7 (i_add 5 x2)) x1)))) else none else none
def fX10_yearsOf (c0 : Nat) (x1 : Int) (x2 : Int) (x3 : Int) (σ : St) : Option (Int × St) := if inb x1 (LN (RF c0 6)) then if inb 0 (LN (RF c0 24)) then if inb (i_add 7 x1) (LN (RF c0 6)) then if inb 1 (LN (RF c0 24)) then if inb (i_add 14 x1) (LN (RF c0 6)) then if inb 2 (LN (RF c0 24)) then fX10_yearsOf_42 c0 x1 x2 x3 (up (up (up σ (RF c0 24) (Int.toNat 0) (σ (RF c0 6) (Int.toNat x1))) (RF c0 24) (Int.toNat 1) ((up σ (RF c0 24) (Int.toNat 0) (σ (RF c0 6) (Int.toNat x1))) (RF c0 6) (Int.toNat (i_add 7 x1)))) (RF c0 24) (Int.toNat 2) ((up (up σ (RF c0 24) (Int.toNat 0) (σ (RF c0 6) (Int.toNat x1))) (RF c0 24) (Int.toNat 1) ((up σ (RF c0 24) (Int.toNat 0) (σ (RF c0 6) (Int.toNat x1))) (RF c0 6) (Int.toNat (i_add 7 x1)))) (RF c0 6) (Int.toNat (i_add 14 x1)))) else none else none else none else none else none else none
def fX10_wouldMiss (c0 : Nat) (x1 : Int) (x2 : Int) (σ : St) : Option (Int × St) := if inb x2 (LN (RF c0 1)) then Option.bind (fX10_countOf c0 x1 σ) fun q1 => Option.bind (fX10_yearsOf c0 x1 (σ (RF c0 1) (Int.toNat x2)) q1.1 q1.2) fun q2 => some (q2.1, q2.2) else none
def fX10_deals_25 (cl : Nat → List Int → St → Option (Int × St)) (c0 : Nat) (x1 : Int) (x2 : Int) (x3 : Int) : Nat → Int → St → Option (St)
  | 0, _, _ => none
  | n + 1, x4, σ => if 7 ≤ x4 then (some σ) else (if inb x4 (LN (RF c0 42)) then if inb x4 (LN (RF c0 43)) then fX10_deals_25 cl c0 x1 x2 x3 n (i_add x4 1) (up σ (RF c0 43) (Int.toNat x4) (σ (RF c0 42) (Int.toNat x4))) else none else none)
def fX10_deals_109 (cl : Nat → List Int → St → Option (Int × St)) (c0 : Nat) (x1 : Int) (x2 : Int) (x3 : Int) (k56 : Int → St → Option (St)) (x4 : Int) (σ : St) : Option (St) := k56 (i_add x4 1) σ
def fX10_deals_56 (cl : Nat → List Int → St → Option (Int × St)) (c0 : Nat) (x1 : Int) (x2 : Int) (x3 : Int) : Nat → Int → St → Option (St)
  | 0, _, _ => none
  | n + 1, x4, σ => if (σ c0 0) ≤ x4 then (if inb x1 (LN (RF c0 42)) then Option.bind (cl 0 [i_add x1 1, x2, x3] (up σ (RF c0 42) (Int.toNat x1) 8)) fun q1 => some q1.2 else none) else (if (i_and (i_shr x2 x4) 1) = 0 then (fX10_deals_109 cl c0 x1 x2 x3 (fX10_deals_56 cl c0 x1 x2 x3 n) x4 σ) else (if inb x1 (LN (RF c0 42)) then Option.bind (fX10_wouldMiss c0 x1 x4 (up σ (RF c0 42) (Int.toNat x1) x4)) fun q2 => Option.bind (cl 0 [i_add x1 1, i_and x2 (i_xor (i_shl 1 x4) (-1)), i_add x3 q2.1] q2.2) fun q3 => fX10_deals_109 cl c0 x1 x2 x3 (fX10_deals_56 cl c0 x1 x2 x3 n) x4 q3.2 else none))
def fX10_deals (cl : Nat → List Int → St → Option (Int × St)) (c0 : Nat) (x1 : Int) (x2 : Int) (x3 : Int) (σ : St) : Option (St) := if x1 = (σ c0 5) then (if (σ c0 44) < x3 then (fX10_deals_25 cl c0 x1 x2 x3 FU 0 (up σ c0 44 x3)) else (some σ)) else (fX10_deals_56 cl c0 x1 x2 x3 FU 0 σ)
def gX10_deals (c0 : Nat) : Nat → Nat → List Int → St → Option (Int × St)
  | 0, _, _, _ => none
  | d + 1, 0, [a0, a1, a2], σ => Option.bind (fX10_deals (gX10_deals c0 d) c0 a0 a1 a2 σ) fun q => some (0, q)
  | _ + 1, _, _, _ => none
def hX10_deals (c0 : Nat) (a0 : Int) (a1 : Int) (a2 : Int) (σ : St) : Option (St) := Option.bind (gX10_deals c0 DEP 0 [a0, a1, a2] σ) fun q => some q.2
def fX10_isForSale (c0 : Nat) (x1 : Int) (σ : St) : Option (Int × St) := if inb x1 (LN (RF c0 2)) then if (σ (RF c0 2) (Int.toNat x1)) = (-1) then (if inb x1 (LN (RF c0 3)) then if (σ (RF c0 3) (Int.toNat x1)) = 0 then (some (1, σ)) else (some (0, σ)) else none) else (some (0, σ)) else none
def fX10_forSale_26 (c0 : Nat) (k4 : Int → Int → St → Option (Int × St)) (x1 : Int) (x2 : Int) (σ : St) : Option (Int × St) := k4 x1 (i_add x2 1) σ
def fX10_forSale_4 (c0 : Nat) : Nat → Int → Int → St → Option (Int × St)
  | 0, _, _, _ => none
  | n + 1, x1, x2, σ => if (σ c0 0) ≤ x2 then (some (x1, σ)) else (Option.bind (fX10_isForSale c0 x2 σ) fun q1 => if q1.1 = 0 then (fX10_forSale_26 c0 (fX10_forSale_4 c0 n) x1 x2 q1.2) else (fX10_forSale_26 c0 (fX10_forSale_4 c0 n) (i_or x1 (i_shl 1 x2)) x2 q1.2))
def fX10_forSale (c0 : Nat) (σ : St) : Option (Int × St) := fX10_forSale_4 c0 FU 0 0 σ
def fX10_isOne (c0 : Nat) (x1 : Int) (σ : St) : Option (Int × St) := Option.bind (fX10_within x1 0 (i_sub (σ c0 5) 1) σ) fun q1 => if q1.1 = 0 ∨ q1.1 = 1 then some (q1.1, q1.2) else none
def fX10_dealt_15 (c0 : Nat) (x1 : Int) (σ : St) : Option (Int × St) := Option.bind (fX10_forSale c0 (up σ c0 44 (-1))) fun q1 => Option.bind (hX10_deals c0 0 q1.1 0 q1.2) fun q2 => if x1 = (-1) then (some (q2 c0 44, q2)) else (if inb x1 (LN (RF c0 43)) then some (q2 (RF c0 43) (Int.toNat x1), q2) else none)
def fX10_dealt (c0 : Nat) (x1 : Int) (σ : St) : Option (Int × St) := if x1 = (-1) then (fX10_dealt_15 c0 x1 σ) else (Option.bind (fX10_isOne c0 x1 σ) fun q1 => if q1.1 = 0 then (some ((-1), q1.2)) else (fX10_dealt_15 c0 x1 q1.2))
def fX10_sign (c0 : Nat) (σ : St) : Option (Int × St) := if (σ c0 7) ≤ (σ c0 15) then (some ((-1), σ)) else (if inb (σ c0 15) (LN (RF c0 8)) then some (σ (RF c0 8) (Int.toNat (σ c0 15)), σ) else none)
def fX10_is (c0 : Nat) (x1 : Int) (σ : St) : Option (Int × St) := Option.bind (fX10_sign c0 σ) fun q1 => if q1.1 = x1 then (some (1, up q1.2 c0 15 (i_add (q1.2 c0 15) 1))) else (some (0, q1.2))
def fX10_codes (c0 : Nat) (x1 : Int) (σ : St) : Option (Int × St) := if inb (σ c0 17) (LN (RF c0 22)) then some (1, up (up σ c0 17 (i_add (σ c0 17) 1)) (RF c0 22) (Int.toNat (σ c0 17)) x1) else none
def fX10_nameOf (x0 : Int) (σ : St) : Option (Int × St) := if x0 = 99 then (some (0, σ)) else if x0 = 104 then (some (2, σ)) else if x0 = 108 then (some (1, σ)) else if x0 = 109 then (some (5, σ)) else if x0 = 110 then (some (4, σ)) else if x0 = 118 then (some (3, σ)) else (some ((-1), σ))
def fX10_isDigit (c0 : Nat) (σ : St) : Option (Int × St) := Option.bind (fX10_sign c0 σ) fun q1 => if q1.1 < 48 then (some (0, q1.2)) else (Option.bind (fX10_sign c0 q1.2) fun q2 => if 57 < q2.1 then (some (0, q2.2)) else (some (1, q2.2)))
def fX10_isA_9 (cl : Nat → List Int → St → Option (Int × St)) (c0 : Nat) : Nat → St → Option (Int × St)
  | 0, _ => none
  | n + 1, σ => Option.bind (fX10_is c0 38 σ) fun q1 => if q1.1 = 0 then (some (1, q1.2)) else (Option.bind (cl 1 [] q1.2) fun q2 => if q2.1 = 0 then (some (0, q2.2)) else (Option.bind (fX10_codes c0 7 q2.2) fun q3 => fX10_isA_9 cl c0 n q3.2))
def fX10_isA (cl : Nat → List Int → St → Option (Int × St)) (c0 : Nat) (σ : St) : Option (Int × St) := Option.bind (cl 1 [] σ) fun q1 => if q1.1 = 0 then (some (0, q1.2)) else (fX10_isA_9 cl c0 FU q1.2)
def fX10_isB_52 (cl : Nat → List Int → St → Option (Int × St)) (c0 : Nat) (y0 : Int) (σ : St) : Option (Int × St) := if 0 ≤ y0 then (Option.bind (cl 5 [] (up σ c0 15 (i_add (σ c0 15) 1))) fun q1 => if q1.1 = 0 then (some (0, q1.2)) else (Option.bind (fX10_codes c0 y0 q1.2) fun q2 => if q2.1 = 0 then (some (0, q2.2)) else (some (1, q2.2)))) else (some (1, σ))
def fX10_isB (cl : Nat → List Int → St → Option (Int × St)) (c0 : Nat) (σ : St) : Option (Int × St) := Option.bind (cl 5 [] σ) fun q1 => if q1.1 = 0 then (some (0, q1.2)) else (Option.bind (fX10_sign c0 q1.2) fun q2 => if q2.1 = 60 then (fX10_isB_52 cl c0 8 q2.2) else (Option.bind (fX10_sign c0 q2.2) fun q3 => if q3.1 = 61 then (fX10_isB_52 cl c0 9 q3.2) else (Option.bind (fX10_sign c0 q3.2) fun q4 => if q4.1 = 62 then (fX10_isB_52 cl c0 10 q4.2) else (fX10_isB_52 cl c0 (-1) q4.2))))
def fX10_isE_9 (cl : Nat → List Int → St → Option (Int × St)) (c0 : Nat) : Nat → St → Option (Int × St)
  | 0, _ => none
  | n + 1, σ => Option.bind (fX10_is c0 124 σ) fun q1 => if q1.1 = 0 then (some (1, q1.2)) else (Option.bind (cl 0 [] q1.2) fun q2 => if q2.1 = 0 then (some (0, q2.2)) else (Option.bind (fX10_codes c0 6 q2.2) fun q3 => fX10_isE_9 cl c0 n q3.2))
def fX10_isE (cl : Nat → List Int → St → Option (Int × St)) (c0 : Nat) (σ : St) : Option (Int × St) := Option.bind (cl 0 [] σ) fun q1 => if q1.1 = 0 then (some (0, q1.2)) else (fX10_isE_9 cl c0 FU q1.2)
def fX10_isO_57 (cl : Nat → List Int → St → Option (Int × St)) (c0 : Nat) (x1 : Int) (σ : St) : Option (Int × St) := Option.bind (fX10_codes c0 (i_add 18 x1) σ) fun q1 => if q1.1 = 0 ∨ q1.1 = 1 then some (q1.1, q1.2) else none
def fX10_isO_11 (cl : Nat → List Int → St → Option (Int × St)) (c0 : Nat) : Nat → Int → Int → St → Option (Int × St)
  | 0, _, _, _ => none
  | n + 1, x1, x2, σ => if 4 ≤ x2 then (fX10_isO_57 cl c0 x1 σ) else (Option.bind (fX10_isDigit c0 σ) fun q1 => if q1.1 = 0 then (fX10_isO_57 cl c0 x1 q1.2) else (if inb (q1.2 c0 15) (LN (RF c0 8)) then fX10_isO_11 cl c0 n (i_sub (i_add (i_mul 10 x1) (q1.2 (RF c0 8) (Int.toNat (q1.2 c0 15)))) 48) (i_add x2 1) (up q1.2 c0 15 (i_add (q1.2 c0 15) 1)) else none))
def fX10_isO_214 (cl : Nat → List Int → St → Option (Int × St)) (c0 : Nat) (x2 : Int) (σ : St) : Option (Int × St) := if x2 = 0 ∨ x2 = 1 then some (x2, up σ c0 16 (i_sub (σ c0 16) 1)) else none
def fX10_isO_145 (cl : Nat → List Int → St → Option (Int × St)) (c0 : Nat) (y0 : Int) (σ : St) : Option (Int × St) := fX10_isO_214 cl c0 y0 σ
def fX10_isO_144 (cl : Nat → List Int → St → Option (Int × St)) (c0 : Nat) (σ : St) : Option (Int × St) := fX10_isO_145 cl c0 0 σ
def fX10_isO_179 (cl : Nat → List Int → St → Option (Int × St)) (c0 : Nat) (y0 : Int) (σ : St) : Option (Int × St) := fX10_isO_214 cl c0 y0 σ
def fX10_isO_178 (cl : Nat → List Int → St → Option (Int × St)) (c0 : Nat) (σ : St) : Option (Int × St) := fX10_isO_179 cl c0 0 σ
def fX10_isO_213 (cl : Nat → List Int → St → Option (Int × St)) (c0 : Nat) (y0 : Int) (σ : St) : Option (Int × St) := fX10_isO_214 cl c0 y0 σ
def fX10_isO_212 (cl : Nat → List Int → St → Option (Int × St)) (c0 : Nat) (σ : St) : Option (Int × St) := fX10_isO_213 cl c0 0 σ
def fX10_isO (cl : Nat → List Int → St → Option (Int × St)) (c0 : Nat) (σ : St) : Option (Int × St) := Option.bind (fX10_isDigit c0 σ) fun q1 => if q1.1 = 0 then (Option.bind (fX10_sign c0 q1.2) fun q2 => Option.bind (fX10_nameOf q2.1 q2.2) fun q3 => if q3.1 < 0 then (if (q3.2 c0 16) = 6 then (some (0, q3.2)) else (Option.bind (fX10_is c0 33 (up q3.2 c0 16 (i_add (q3.2 c0 16) 1))) fun q4 => if q4.1 = 0 then (Option.bind (fX10_is c0 45 q4.2) fun q5 => if q5.1 = 0 then (Option.bind (fX10_is c0 40 q5.2) fun q6 => if q6.1 = 0 then (fX10_isO_212 cl c0 q6.2) else (Option.bind (cl 2 [] q6.2) fun q7 => if q7.1 = 0 then (fX10_isO_212 cl c0 q7.2) else (Option.bind (fX10_is c0 41 q7.2) fun q8 => if q8.1 = 0 then (fX10_isO_212 cl c0 q8.2) else (fX10_isO_213 cl c0 1 q8.2)))) else (Option.bind (cl 3 [] q5.2) fun q9 => if q9.1 = 0 then (fX10_isO_178 cl c0 q9.2) else (Option.bind (fX10_codes c0 17 q9.2) fun q10 => if q10.1 = 0 then (fX10_isO_178 cl c0 q10.2) else (fX10_isO_179 cl c0 1 q10.2)))) else (Option.bind (cl 3 [] q4.2) fun q11 => if q11.1 = 0 then (fX10_isO_144 cl c0 q11.2) else (Option.bind (fX10_codes c0 16 q11.2) fun q12 => if q12.1 = 0 then (fX10_isO_144 cl c0 q12.2) else (fX10_isO_145 cl c0 1 q12.2))))) else (Option.bind (fX10_codes c0 q3.1 (up q3.2 c0 15 (i_add (q3.2 c0 15) 1))) fun q13 => if q13.1 = 0 ∨ q13.1 = 1 then some (q13.1, q13.2) else none)) else (fX10_isO_11 cl c0 FU 0 0 q1.2)
def fX10_isP_52 (cl : Nat → List Int → St → Option (Int × St)) (c0 : Nat) (k9 : St → Option (Int × St)) (y0 : Int) (σ : St) : Option (Int × St) := if 0 ≤ y0 then (Option.bind (cl 3 [] (up σ c0 15 (i_add (σ c0 15) 1))) fun q1 => if q1.1 = 0 then (some (0, q1.2)) else (Option.bind (fX10_codes c0 y0 q1.2) fun q2 => k9 q2.2)) else (some (1, σ))
def fX10_isP_9 (cl : Nat → List Int → St → Option (Int × St)) (c0 : Nat) : Nat → St → Option (Int × St)
  | 0, _ => none
  | n + 1, σ => Option.bind (fX10_sign c0 σ) fun q1 => if q1.1 = 42 then (fX10_isP_52 cl c0 (fX10_isP_9 cl c0 n) 13 q1.2) else (Option.bind (fX10_sign c0 q1.2) fun q2 => if q2.1 = 47 then (fX10_isP_52 cl c0 (fX10_isP_9 cl c0 n) 14 q2.2) else (Option.bind (fX10_sign c0 q2.2) fun q3 => if q3.1 = 37 then (fX10_isP_52 cl c0 (fX10_isP_9 cl c0 n) 15 q3.2) else (fX10_isP_52 cl c0 (fX10_isP_9 cl c0 n) (-1) q3.2)))
def fX10_isP (cl : Nat → List Int → St → Option (Int × St)) (c0 : Nat) (σ : St) : Option (Int × St) := Option.bind (cl 3 [] σ) fun q1 => if q1.1 = 0 then (some (0, q1.2)) else (fX10_isP_9 cl c0 FU q1.2)
def fX10_isS_38 (cl : Nat → List Int → St → Option (Int × St)) (c0 : Nat) (k9 : St → Option (Int × St)) (y0 : Int) (σ : St) : Option (Int × St) := if 0 ≤ y0 then (Option.bind (cl 4 [] (up σ c0 15 (i_add (σ c0 15) 1))) fun q1 => if q1.1 = 0 then (some (0, q1.2)) else (Option.bind (fX10_codes c0 y0 q1.2) fun q2 => k9 q2.2)) else (some (1, σ))
def fX10_isS_9 (cl : Nat → List Int → St → Option (Int × St)) (c0 : Nat) : Nat → St → Option (Int × St)
  | 0, _ => none
  | n + 1, σ => Option.bind (fX10_sign c0 σ) fun q1 => if q1.1 = 43 then (fX10_isS_38 cl c0 (fX10_isS_9 cl c0 n) 11 q1.2) else (Option.bind (fX10_sign c0 q1.2) fun q2 => if q2.1 = 45 then (fX10_isS_38 cl c0 (fX10_isS_9 cl c0 n) 12 q2.2) else (fX10_isS_38 cl c0 (fX10_isS_9 cl c0 n) (-1) q2.2))
def fX10_isS (cl : Nat → List Int → St → Option (Int × St)) (c0 : Nat) (σ : St) : Option (Int × St) := Option.bind (cl 4 [] σ) fun q1 => if q1.1 = 0 then (some (0, q1.2)) else (fX10_isS_9 cl c0 FU q1.2)
def gX10_isA (c0 : Nat) : Nat → Nat → List Int → St → Option (Int × St)
  | 0, _, _, _ => none
  | d + 1, 0, [], σ => fX10_isA (gX10_isA c0 d) c0 σ
  | d + 1, 1, [], σ => fX10_isB (gX10_isA c0 d) c0 σ
  | d + 1, 2, [], σ => fX10_isE (gX10_isA c0 d) c0 σ
  | d + 1, 3, [], σ => fX10_isO (gX10_isA c0 d) c0 σ
  | d + 1, 4, [], σ => fX10_isP (gX10_isA c0 d) c0 σ
  | d + 1, 5, [], σ => fX10_isS (gX10_isA c0 d) c0 σ
  | _ + 1, _, _, _ => none
def hX10_isA (c0 : Nat) (σ : St) : Option (Int × St) := gX10_isA c0 DEP 0 [] σ
def hX10_isB (c0 : Nat) (σ : St) : Option (Int × St) := gX10_isA c0 DEP 1 [] σ
def hX10_isE (c0 : Nat) (σ : St) : Option (Int × St) := gX10_isA c0 DEP 2 [] σ
def hX10_isO (c0 : Nat) (σ : St) : Option (Int × St) := gX10_isA c0 DEP 3 [] σ
def hX10_isP (c0 : Nat) (σ : St) : Option (Int × St) := gX10_isA c0 DEP 4 [] σ
def hX10_isS (c0 : Nat) (σ : St) : Option (Int × St) := gX10_isA c0 DEP 5 [] σ
def fX10_isLine_71 (c0 : Nat) (σ : St) : Option (Int × St) := if inb (σ c0 18) (LN (RF c0 21)) then some (1, up (up σ c0 18 (i_add (σ c0 18) 1)) (RF c0 21) (Int.toNat (σ c0 18)) ((up σ c0 18 (i_add (σ c0 18) 1)) c0 17)) else none
def fX10_isLine (c0 : Nat) (σ : St) : Option (Int × St) := if inb (σ c0 18) (LN (RF c0 19)) then Option.bind (hX10_isE c0 (up σ (RF c0 19) (Int.toNat (σ c0 18)) (σ c0 17))) fun q1 => if q1.1 = 0 then (some (0, q1.2)) else (if inb (q1.2 c0 18) (LN (RF c0 19)) then if inb (q1.2 c0 18) (LN (RF c0 20)) then Option.bind (fX10_is c0 63 (up q1.2 (RF c0 20) (Int.toNat (q1.2 c0 18)) (q1.2 (RF c0 19) (Int.toNat (q1.2 c0 18))))) fun q2 => if q2.1 = 0 then (fX10_isLine_71 c0 q2.2) else (if inb (q2.2 c0 18) (LN (RF c0 20)) then Option.bind (hX10_isE c0 (up q2.2 (RF c0 20) (Int.toNat (q2.2 c0 18)) (q2.2 c0 17))) fun q3 => if q3.1 = 0 then (some (0, q3.2)) else (fX10_isLine_71 c0 q3.2) else none) else none else none) else none
def fX10_law_146 (c0 : Nat) (k99 : Int → St → Option (Int × St)) (x3 : Int) (σ : St) : Option (Int × St) := k99 x3 σ
def fX10_law_143 (c0 : Nat) (k99 : Int → St → Option (Int × St)) (x3 : Int) (σ : St) : Option (Int × St) := fX10_law_146 c0 k99 (i_add x3 1) σ
def fX10_law_151 (c0 : Nat) : Nat → Int → St → Option (Int × St)
  | 0, _, _ => none
  | n + 1, x3, σ => if (σ c0 17) ≤ x3 then (some (1, σ)) else (if inb x3 (LN (RF c0 22)) then if inb x3 (LN (RF c0 14)) then fX10_law_151 c0 n (i_add x3 1) (up σ (RF c0 14) (Int.toNat x3) (σ (RF c0 22) (Int.toNat x3))) else none else none)
def fX10_law_99 (c0 : Nat) : Nat → Int → St → Option (Int × St)
  | 0, _, _ => none
  | n + 1, x3, σ => if (σ c0 10) ≤ x3 then (fX10_law_151 c0 FU 0 σ) else (if inb x3 (LN (RF c0 19)) then if inb x3 (LN (RF c0 11)) then if inb x3 (LN (RF c0 20)) then if inb x3 (LN (RF c0 12)) then if inb x3 (LN (RF c0 21)) then if inb x3 (LN (RF c0 13)) then fX10_law_143 c0 (fX10_law_99 c0 n) x3 (up (up (up σ (RF c0 11) (Int.toNat x3) (σ (RF c0 19) (Int.toNat x3))) (RF c0 12) (Int.toNat x3) ((up σ (RF c0 11) (Int.toNat x3) (σ (RF c0 19) (Int.toNat x3))) (RF c0 20) (Int.toNat x3))) (RF c0 13) (Int.toNat x3) ((up (up σ (RF c0 11) (Int.toNat x3) (σ (RF c0 19) (Int.toNat x3))) (RF c0 12) (Int.toNat x3) ((up σ (RF c0 11) (Int.toNat x3) (σ (RF c0 19) (Int.toNat x3))) (RF c0 20) (Int.toNat x3))) (RF c0 21) (Int.toNat x3))) else none else none else none else none else none else none)
def fX10_law_66 (c0 : Nat) (y0 : Int) (σ : St) : Option (Int × St) := if y0 = 0 then (some (i_sub (-100) ((up σ c0 7 0) c0 15), up σ c0 7 0)) else (fX10_law_99 c0 FU 0 (up (up (up σ c0 7 0) c0 9 1) c0 10 ((up (up σ c0 7 0) c0 9 1) c0 18)))
def fX10_law_65 (c0 : Nat) (σ : St) : Option (Int × St) := fX10_law_66 c0 0 σ
def fX10_law_46 (c0 : Nat) (x1 : Int) (σ : St) : Option (Int × St) := if x1 = 0 then (fX10_law_65 c0 σ) else (if (σ c0 15) = (σ c0 7) then (fX10_law_66 c0 1 σ) else (fX10_law_65 c0 σ))
def fX10_law_25 (c0 : Nat) : Nat → Int → St → Option (Int × St)
  | 0, _, _ => none
  | n + 1, x1, σ => if x1 = 0 then (fX10_law_46 c0 x1 σ) else (Option.bind (fX10_is c0 59 σ) fun q1 => if q1.1 = 0 then (fX10_law_46 c0 x1 q1.2) else (Option.bind (fX10_isLine c0 q1.2) fun q2 => fX10_law_25 c0 n q2.1 q2.2))
def fX10_law (c0 : Nat) (σ : St) : Option (Int × St) := Option.bind (fX10_isLine c0 (up (up (up (up σ c0 15 0) c0 16 0) c0 17 0) c0 18 0)) fun q1 => fX10_law_25 c0 FU q1.1 q1.2
def fX9_isShelf (x0 : Int) (σ : St) : Option (Int × St) := if x0 < 0 then (some (0, σ)) else (if 6 ≤ x0 then (some (0, σ)) else (some (1, σ)))
def fX5_has (c0 : Nat) (x1 : Int) (σ : St) : Option (Int × St) := if x1 < 0 then (some (0, σ)) else (if (σ c0 2) ≤ x1 then (some (0, σ)) else (some (1, σ)))
def fX6_holdNothing (c0 : Nat) (σ : St) : Option (St) := some (up (up σ c0 1 0) c0 4 0)
def fX6_holdLot (c0 : Nat) (x1 : Int) (σ : St) : Option (St) := some (up (up (up σ c0 1 1) c0 2 x1) c0 4 0)
def fX9_keep_25 (c0 : Nat) (x1 : Int) (x2 : Int) (σ : St) : Option (Int × St) := if 0 ≤ x2 then (if inb x1 (LN (RF c0 8)) then Option.bind (fX6_holdLot (RF (RF c0 8) (Int.toNat x1)) x2 σ) fun q2 => some (1, q2) else none) else (if inb x1 (LN (RF c0 8)) then Option.bind (fX6_holdNothing (RF (RF c0 8) (Int.toNat x1)) σ) fun q4 => some (1, q4) else none)
def fX9_keep (c0 : Nat) (x1 : Int) (x2 : Int) (σ : St) : Option (Int × St) := Option.bind (fX9_isShelf x1 σ) fun q1 => if q1.1 = 0 then (some ((-1), q1.2)) else (if x2 = (-1) then (fX9_keep_25 c0 x1 x2 q1.2) else (Option.bind (fX5_has (RF c0 7) x2 q1.2) fun q2 => if q2.1 = 0 then (some ((-1), q2.2)) else (fX9_keep_25 c0 x1 x2 q2.2)))
def fX6_hasRun (c0 : Nat) (x1 : Int) (x2 : Int) (σ : St) : Option (Int × St) := if x1 < 0 then (some (0, σ)) else (if x2 < 0 then (some (0, σ)) else (if (σ c0 4) < x1 then (some (0, σ)) else (if (i_sub (σ c0 4) x1) < x2 then (some (0, σ)) else (some (1, σ)))))
def fX6_at (c0 : Nat) (x1 : Int) (σ : St) : Option (Int × St) := Option.bind (fX6_hasRun c0 x1 1 σ) fun q1 => if q1.1 = 0 then (some (0, q1.2)) else (if inb x1 (LN (RF c0 0)) then some (q1.2 (RF c0 0) (Int.toNat x1), q1.2) else none)
def fX2_hasThing (c0 : Nat) (x1 : Int) (σ : St) : Option (Int × St) := if x1 < 0 then (some (0, σ)) else (if (σ c0 2) ≤ x1 then (some (0, σ)) else (some (1, σ)))
def fX7_lengthOf_12 (c0 : Nat) (c1 : Nat) : Nat → Int → Int → St → Option (Int × St)
  | 0, _, _, _ => none
  | n + 1, x2, x3, σ => if x2 ≤ x3 then (some (x2, σ)) else (Option.bind (fX6_at c1 x3 σ) fun q1 => Option.bind (fX2_hasThing (RF c0 0) (c_l2i q1.1) q1.2) fun q2 => if q2.1 = 0 then (some (x3, q2.2)) else (fX7_lengthOf_12 c0 c1 n x2 (i_add x3 1) q2.2))
def fX7_lengthOf (c0 : Nat) (c1 : Nat) (σ : St) : Option (Int × St) := fX7_lengthOf_12 c0 c1 FU (m_min 16 (σ c1 4)) 0 σ
def fX7_bid_35 (c0 : Nat) (x1 : Int) (x2 : Int) (σ : St) : Option (Int × St) := if x2 ≤ 0 then (if inb x1 (LN (RF c0 5)) then some (σ (RF c0 5) (Int.toNat x1), σ) else none) else (some (0, σ))
def fX7_bid (c0 : Nat) (x1 : Int) (σ : St) : Option (Int × St) := Option.bind (fX2_number (RF c0 0) x1 7 σ) fun q1 => Option.bind (fX2_number (RF c0 0) x1 8 q1.2) fun q2 => if q2.1 = 0 then (if (i_and (i_shr (q2.2 c0 9) x1) 1) = 0 then (if inb x1 (LN (RF c0 5)) then some (m_min 99 (i_add (q2.2 (RF c0 5) (Int.toNat x1)) q1.1), q2.2) else none) else (fX7_bid_35 c0 x1 q1.1 q2.2)) else (fX7_bid_35 c0 x1 q1.1 q2.2)
def fX7_winner_53 (c0 : Nat) (k7 : Int → Int → Int → St → Option (Int × St)) (x1 : Int) (x2 : Int) (x3 : Int) (σ : St) : Option (Int × St) := k7 x1 x2 (i_add x3 1) σ
def fX7_winner_7 (c0 : Nat) : Nat → Int → Int → Int → St → Option (Int × St)
  | 0, _, _, _, _ => none
  | n + 1, x1, x2, x3, σ => if (σ (RF c0 0) 3) ≤ x3 then (some (x2, σ)) else (Option.bind (fX7_bid c0 x3 σ) fun q1 => if q1.1 ≤ x1 then (if q1.1 = x1 then (if q1.1 ≤ 0 then (fX7_winner_53 c0 (fX7_winner_7 c0 n) x1 x2 x3 q1.2) else (fX7_winner_53 c0 (fX7_winner_7 c0 n) x1 8 x3 q1.2)) else (fX7_winner_53 c0 (fX7_winner_7 c0 n) x1 x2 x3 q1.2)) else (fX7_winner_53 c0 (fX7_winner_7 c0 n) q1.1 x3 x3 q1.2))
def fX7_winner (c0 : Nat) (σ : St) : Option (Int × St) := fX7_winner_7 c0 FU 0 (-2) 0 σ
def fX2_hasBidder (c0 : Nat) (x1 : Int) (σ : St) : Option (Int × St) := if x1 < 0 then (some (0, σ)) else (if (σ c0 3) ≤ x1 then (some (0, σ)) else (some (1, σ)))
def fX4_worked (x0 : Int) (x1 : Int) (x2 : Int) (σ : St) : Option (Int × St) := if x0 = 37 then (if x2 = 0 then (some (0, σ)) else (if ¬ x2 = 0 then some (i_rem x1 x2, σ) else none)) else if x0 = 38 then (if x1 = 0 then (some (0, σ)) else (if x2 = 0 then (some (0, σ)) else (some (1, σ)))) else if x0 = 42 then (some (i_mul x1 x2, σ)) else if x0 = 43 then (some (i_add x1 x2, σ)) else if x0 = 45 then (some (i_sub x1 x2, σ)) else if x0 = 47 then (if x2 = 0 then (some (0, σ)) else (if ¬ x2 = 0 then some (i_div x1 x2, σ) else none)) else if x0 = 60 then (if x2 ≤ x1 then (some (0, σ)) else (some (1, σ))) else if x0 = 61 then (if x1 = x2 then (some (1, σ)) else (some (0, σ))) else if x0 = 62 then (if x1 ≤ x2 then (some (0, σ)) else (some (1, σ))) else if x0 = 124 then (if x1 = 0 then (if x2 = 0 then (some (0, σ)) else (some (1, σ))) else (some (1, σ))) else (some (0, σ))
def fX4_gives_298 (c0 : Nat) (x1 : Int) (x2 : Int) (x3 : Int) (x4 : Int) (x5 : Int) (x6 : Int) (k74 : Int → Int → St → Option (Int × St)) (x7 : Int) (x8 : Int) (σ : St) : Option (Int × St) := k74 x7 (i_add x8 1) σ
def fX4_gives_137 (c0 : Nat) (x1 : Int) (x2 : Int) (x3 : Int) (x4 : Int) (x5 : Int) (x6 : Int) (k74 : Int → Int → St → Option (Int × St)) (x7 : Int) (x8 : Int) (d0 : Nat) (y1 : Int) (y2 : Int) (σ : St) : Option (Int × St) := if inb y1 (LN d0) then fX4_gives_298 c0 x1 x2 x3 x4 x5 x6 k74 (i_add x7 1) x8 (up σ d0 (Int.toNat y1) y2) else none
def fX4_gives_207 (c0 : Nat) (x1 : Int) (x2 : Int) (x3 : Int) (x4 : Int) (x5 : Int) (x6 : Int) (k74 : Int → Int → St → Option (Int × St)) (x7 : Int) (y0 : Int) (σ : St) : Option (Int × St) := fX4_gives_298 c0 x1 x2 x3 x4 x5 x6 k74 x7 y0 σ
def fX4_gives_257 (c0 : Nat) (x1 : Int) (x2 : Int) (x3 : Int) (x4 : Int) (x5 : Int) (x6 : Int) (k74 : Int → Int → St → Option (Int × St)) (x7 : Int) (x8 : Int) (d0 : Nat) (y1 : Int) (y2 : Int) (σ : St) : Option (Int × St) := if inb y1 (LN d0) then fX4_gives_298 c0 x1 x2 x3 x4 x5 x6 k74 x7 x8 (up σ d0 (Int.toNat y1) y2) else none
def fX4_gives_226 (c0 : Nat) (x1 : Int) (x2 : Int) (x3 : Int) (x4 : Int) (x5 : Int) (x6 : Int) (k74 : Int → Int → St → Option (Int × St)) (x7 : Int) (x8 : Int) (x9 : Int) (x10 : Int) (σ : St) : Option (Int × St) := if x9 = (-126) then (fX4_gives_257 c0 x1 x2 x3 x4 x5 x6 k74 x7 x8 (RF c0 2) (i_sub x7 1) (i_neg x10) σ) else (if x10 = 0 then (fX4_gives_257 c0 x1 x2 x3 x4 x5 x6 k74 x7 x8 (RF c0 2) (i_sub x7 1) 1 σ) else (fX4_gives_257 c0 x1 x2 x3 x4 x5 x6 k74 x7 x8 (RF c0 2) (i_sub x7 1) 0 σ))
def fX4_gives_74 (c0 : Nat) (x1 : Int) (x2 : Int) (x3 : Int) (x4 : Int) (x5 : Int) (x6 : Int) : Nat → Int → Int → St → Option (Int × St)
  | 0, _, _, _ => none
  | n + 1, x7, x8, σ => if (σ c0 8) ≤ x8 then (some (0, σ)) else (if isA 1 (Int.toNat (σ c0 3)) = true then if inb x8 (LN (Int.toNat (σ c0 3))) then if (σ (Int.toNat (σ c0 3)) (Int.toNat x8)) < (i_neg (LN (RF c0 1) : Int)) then (if 1 ≤ x7 then (if inb (i_sub x7 1) (LN (RF c0 2)) then if (σ (Int.toNat (σ c0 3)) (Int.toNat x8)) = (-59) then (some (σ (RF c0 2) (Int.toNat (i_sub x7 1)), σ)) else (if (-1000) < (σ (Int.toNat (σ c0 3)) (Int.toNat x8)) then (if (σ (Int.toNat (σ c0 3)) (Int.toNat x8)) = (-33) then (fX4_gives_226 c0 x1 x2 x3 x4 x5 x6 (fX4_gives_74 c0 x1 x2 x3 x4 x5 x6 n) x7 x8 (σ (Int.toNat (σ c0 3)) (Int.toNat x8)) (σ (RF c0 2) (Int.toNat (i_sub x7 1))) σ) else (if (σ (Int.toNat (σ c0 3)) (Int.toNat x8)) = (-126) then (fX4_gives_226 c0 x1 x2 x3 x4 x5 x6 (fX4_gives_74 c0 x1 x2 x3 x4 x5 x6 n) x7 x8 (σ (Int.toNat (σ c0 3)) (Int.toNat x8)) (σ (RF c0 2) (Int.toNat (i_sub x7 1))) σ) else (if 2 ≤ x7 then (if inb (i_sub (i_add x7 (-1)) 1) (LN (RF c0 2)) then Option.bind (fX4_worked (i_neg (σ (Int.toNat (σ c0 3)) (Int.toNat x8))) (σ (RF c0 2) (Int.toNat (i_sub (i_add x7 (-1)) 1))) (σ (RF c0 2) (Int.toNat (i_sub x7 1))) σ) fun q2 => if inb (i_sub (i_add x7 (-1)) 1) (LN (RF c0 2)) then fX4_gives_298 c0 x1 x2 x3 x4 x5 x6 (fX4_gives_74 c0 x1 x2 x3 x4 x5 x6 n) (i_add x7 (-1)) x8 (up q2.2 (RF c0 2) (Int.toNat (i_sub (i_add x7 (-1)) 1)) q2.1) else none else none) else (some (0, σ))))) else (if (σ (RF c0 2) (Int.toNat (i_sub x7 1))) = 0 then (fX4_gives_207 c0 x1 x2 x3 x4 x5 x6 (fX4_gives_74 c0 x1 x2 x3 x4 x5 x6 n) (i_add x7 (-1)) (m_max x8 (i_sub (i_sub (-1000) (σ (Int.toNat (σ c0 3)) (Int.toNat x8))) 1)) σ) else (fX4_gives_207 c0 x1 x2 x3 x4 x5 x6 (fX4_gives_74 c0 x1 x2 x3 x4 x5 x6 n) (i_add x7 (-1)) x8 σ))) else none) else (some (0, σ))) else (if x7 < 64 then (if (σ (Int.toNat (σ c0 3)) (Int.toNat x8)) < 0 then (if inb (i_sub (-1) (σ (Int.toNat (σ c0 3)) (Int.toNat x8))) (LN (RF c0 1)) then fX4_gives_137 c0 x1 x2 x3 x4 x5 x6 (fX4_gives_74 c0 x1 x2 x3 x4 x5 x6 n) x7 x8 (RF c0 2) x7 (σ (RF c0 1) (Int.toNat (i_sub (-1) (σ (Int.toNat (σ c0 3)) (Int.toNat x8))))) σ else none) else (fX4_gives_137 c0 x1 x2 x3 x4 x5 x6 (fX4_gives_74 c0 x1 x2 x3 x4 x5 x6 n) x7 x8 (RF c0 2) x7 (σ (Int.toNat (σ c0 3)) (Int.toNat x8)) σ)) else (some (0, σ))) else none else none)
def fX4_gives (c0 : Nat) (x1 : Int) (x2 : Int) (x3 : Int) (x4 : Int) (x5 : Int) (x6 : Int) (σ : St) : Option (Int × St) := if (σ c0 9) = 0 then (some (i_sub (m_min (i_mul x1 x4) (i_add x2 x3)) (i_mul 5 x5), σ)) else (if inb 0 (LN (RF c0 1)) then if inb 1 (LN (RF c0 1)) then if inb 2 (LN (RF c0 1)) then if inb 3 (LN (RF c0 1)) then if inb 4 (LN (RF c0 1)) then if inb 5 (LN (RF c0 1)) then fX4_gives_74 c0 x1 x2 x3 x4 x5 x6 FU 0 0 (up (up (up (up (up (up σ (RF c0 1) (Int.toNat 0) x1) (RF c0 1) (Int.toNat 1) x2) (RF c0 1) (Int.toNat 2) x3) (RF c0 1) (Int.toNat 3) x4) (RF c0 1) (Int.toNat 4) x5) (RF c0 1) (Int.toNat 5) x6) else none else none else none else none else none else none)
def fX7_misses (c0 : Nat) (x1 : Int) (x2 : Int) (x3 : Int) (σ : St) : Option (Int × St) := Option.bind (fX2_hasBidder (RF c0 0) x1 σ) fun q1 => if q1.1 = 0 then (some (0, q1.2)) else (if x2 < 0 then (some (0, q1.2)) else (if 4 ≤ x2 then (some (0, q1.2)) else (if x3 < 0 then (some (0, q1.2)) else (if x3 < 9 then (if inb (i_add (i_mul (i_add (i_mul x1 4) x2) 9) x3) (LN (RF c0 4)) then if (q1.2 (RF c0 4) (Int.toNat (i_add (i_mul (i_add (i_mul x1 4) x2) 9) x3))) = (-1) then (Option.bind (fX2_number (RF c0 0) x1 4 q1.2) fun q2 => Option.bind (fX2_number (RF c0 0) x1 5 q2.2) fun q3 => Option.bind (fX2_number (RF c0 0) x1 6 q3.2) fun q4 => Option.bind (fX2_number (RF c0 0) x1 (i_add 9 x2) q4.2) fun q5 => if inb x1 (LN (RF c0 3)) then Option.bind (fX4_gives (RF c0 1) q2.1 q3.1 q4.1 q5.1 x3 (q5.2 (RF c0 3) (Int.toNat x1)) q5.2) fun q6 => if inb (i_add (i_mul (i_add (i_mul x1 4) x2) 9) x3) (LN (RF c0 4)) then if inb (i_add (i_mul (i_add (i_mul x1 4) x2) 9) x3) (LN (RF c0 4)) then some ((up q6.2 (RF c0 4) (Int.toNat (i_add (i_mul (i_add (i_mul x1 4) x2) 9) x3)) (m_max 0 (m_min 99 q6.1))) (RF c0 4) (Int.toNat (i_add (i_mul (i_add (i_mul x1 4) x2) 9) x3)), up q6.2 (RF c0 4) (Int.toNat (i_add (i_mul (i_add (i_mul x1 4) x2) 9) x3)) (m_max 0 (m_min 99 q6.1))) else none else none else none) else (if inb (i_add (i_mul (i_add (i_mul x1 4) x2) 9) x3) (LN (RF c0 4)) then some (q1.2 (RF c0 4) (Int.toNat (i_add (i_mul (i_add (i_mul x1 4) x2) 9) x3)), q1.2) else none) else none) else (some (0, q1.2))))))
def fX7_considers_12 (c0 : Nat) (x1 : Int) : Nat → Int → Int → St → Option (St)
  | 0, _, _, _ => none
  | n + 1, x2, x3, σ => if (σ (RF c0 0) 3) ≤ x3 then (some σ) else (if inb x3 (LN (RF c0 2)) then Option.bind (fX7_misses c0 x3 x2 (σ (RF c0 2) (Int.toNat x3)) σ) fun q1 => if inb x3 (LN (RF c0 5)) then fX7_considers_12 c0 x1 n x2 (i_add x3 1) (up q1.2 (RF c0 5) (Int.toNat x3) q1.1) else none else none)
def fX7_considers (c0 : Nat) (x1 : Int) (σ : St) : Option (St) := Option.bind (fX2_number (RF c0 0) x1 0 σ) fun q1 => fX7_considers_12 c0 x1 FU q1.1 0 q1.2
def fX7_sellsOne (c0 : Nat) (x1 : Int) (σ : St) : Option (Int × St) := if (i_and (i_shr (σ c0 8) x1) 1) = 0 then (some (9, σ)) else (Option.bind (fX7_considers c0 x1 σ) fun q1 => Option.bind (fX7_winner c0 q1) fun q2 => if q2.1 = 8 then (some (q2.1, up (up q2.2 c0 11 (i_add (q2.2 c0 11) 1)) c0 8 (i_and ((up q2.2 c0 11 (i_add (q2.2 c0 11) 1)) c0 8) (i_xor (i_shl 1 x1) (-1))))) else (if q2.1 < 0 then (some (q2.1, q2.2)) else (if inb q2.1 (LN (RF c0 2)) then if inb q2.1 (LN (RF c0 2)) then some (q2.1, up (up (up q2.2 c0 10 (i_add (q2.2 c0 10) 1)) (RF c0 2) (Int.toNat q2.1) (i_add ((up q2.2 c0 10 (i_add (q2.2 c0 10) 1)) (RF c0 2) (Int.toNat q2.1)) 1)) c0 8 (i_and ((up (up q2.2 c0 10 (i_add (q2.2 c0 10) 1)) (RF c0 2) (Int.toNat q2.1) (i_add ((up q2.2 c0 10 (i_add (q2.2 c0 10) 1)) (RF c0 2) (Int.toNat q2.1)) 1)) c0 8) (i_xor (i_shl 1 x1) (-1)))) else none else none)))
def fX7_sellsAll_11 (c0 : Nat) (c1 : Nat) : Nat → Int → St → Option (St)
  | 0, _, _ => none
  | n + 1, x2, σ => if (σ c0 7) ≤ x2 then (some σ) else (Option.bind (fX6_at c1 x2 σ) fun q1 => Option.bind (fX7_sellsOne c0 (c_l2i q1.1) q1.2) fun q2 => if inb x2 (LN (RF c0 6)) then fX7_sellsAll_11 c0 c1 n (i_add x2 1) (up q2.2 (RF c0 6) (Int.toNat x2) q2.1) else none)
def fX7_sellsAll (c0 : Nat) (c1 : Nat) (σ : St) : Option (St) := Option.bind (fX7_lengthOf c0 c1 σ) fun q1 => fX7_sellsAll_11 c0 c1 FU 0 (up q1.2 c0 7 q1.1)
def fX2_copies_44 (c0 : Nat) (c1 : Nat) (σ : St) : Option (St) := some (up σ c0 3 (σ c1 3))
def fX2_copies (c0 : Nat) (c1 : Nat) (σ : St) : Option (St) := if inc 0 0 (LN (RF c0 0) : Int) (LN (RF c1 0)) (LN (RF c0 0)) then if inc 0 0 (LN (RF c0 1) : Int) (LN (RF c1 1)) (LN (RF c0 1)) then fX2_copies_44 c0 c1 (up (cpy (cpy σ (RF c1 0) (Int.toNat 0) (RF c0 0) (Int.toNat 0) (Int.toNat (LN (RF c0 0) : Int))) (RF c1 1) (Int.toNat 0) (RF c0 1) (Int.toNat 0) (Int.toNat (LN (RF c0 1) : Int))) c0 2 ((cpy (cpy σ (RF c1 0) (Int.toNat 0) (RF c0 0) (Int.toNat 0) (Int.toNat (LN (RF c0 0) : Int))) (RF c1 1) (Int.toNat 0) (RF c0 1) (Int.toNat 0) (Int.toNat (LN (RF c0 1) : Int))) c1 2)) else none else none
def fJ7_fill_53178_5 (c0 : Nat) (x1 : Int) : Nat → Int → Int → St → Option (St)
  | 0, _, _, _ => none
  | n + 1, x2, x3, σ => if x3 ≤ x2 then (some σ) else (if inb x2 (LN c0) then fJ7_fill_53178_5 c0 x1 n (i_add x2 1) x3 (up σ c0 (Int.toNat x2) x1) else none)
def fJ7_fill_53178 (c0 : Nat) (x1 : Int) (σ : St) : Option (St) := fJ7_fill_53178_5 c0 x1 FU 0 (LN c0 : Int) σ
def fX7_restarts_150 (c0 : Nat) (k38 : Int → St → Option (St)) (x1 : Int) (σ : St) : Option (St) := k38 (i_add x1 1) σ
def fX7_restarts_104 (c0 : Nat) (k38 : Int → St → Option (St)) (x1 : Int) (d0 : Nat) (y1 : Int) (y2 : Int) (σ : St) : Option (St) := fX7_restarts_150 c0 k38 x1 (up σ d0 8 (i_or y1 y2))
def fX7_restarts_76 (c0 : Nat) (k38 : Int → St → Option (St)) (x1 : Int) (x2 : Int) (y0 : Int) (σ : St) : Option (St) := Option.bind (fX2_hasBidder (RF c0 0) x2 σ) fun q1 => if q1.1 = 0 then (if y0 = 0 then (fX7_restarts_104 c0 k38 x1 c0 (q1.2 c0 8) (i_shl 1 x1) q1.2) else (fX7_restarts_104 c0 k38 x1 c0 (q1.2 c0 8) 0 q1.2)) else (if y0 = 0 then (if inb x2 (LN (RF c0 2)) then if inb x2 (LN (RF c0 2)) then fX7_restarts_150 c0 k38 x1 (up q1.2 (RF c0 2) (Int.toNat x2) (i_add (q1.2 (RF c0 2) (Int.toNat x2)) 1)) else none else none) else (Option.bind (fX2_number (RF c0 0) x1 3 q1.2) fun q2 => if q2.1 ≤ 0 then (fX7_restarts_150 c0 k38 x1 q2.2) else (if inb x2 (LN (RF c0 3)) then if inb x2 (LN (RF c0 3)) then fX7_restarts_150 c0 k38 x1 (up q2.2 (RF c0 3) (Int.toNat x2) (i_add (q2.2 (RF c0 3) (Int.toNat x2)) 1)) else none else none)))
def fX7_restarts_38 (c0 : Nat) : Nat → Int → St → Option (St)
  | 0, _, _ => none
  | n + 1, x1, σ => if (σ (RF c0 0) 2) ≤ x1 then (some σ) else (Option.bind (fX2_number (RF c0 0) x1 1 σ) fun q1 => Option.bind (fX2_number (RF c0 0) x1 2 q1.2) fun q2 => if q2.1 = 0 then (fX7_restarts_76 c0 (fX7_restarts_38 c0 n) x1 q1.1 0 q2.2) else (fX7_restarts_76 c0 (fX7_restarts_38 c0 n) x1 q1.1 1 q2.2))
def fX7_restarts (c0 : Nat) (σ : St) : Option (St) := Option.bind (fJ7_fill_53178 (RF c0 2) 0 (up (up (up (up σ c0 8 0) c0 9 0) c0 10 0) c0 11 0)) fun q1 => Option.bind (fJ7_fill_53178 (RF c0 3) 0 q1) fun q2 => fX7_restarts_38 c0 FU 0 q2
def fX7_begin (c0 : Nat) (c1 : Nat) (σ : St) : Option (St) := Option.bind (fX2_copies (RF c0 0) c1 σ) fun q1 => Option.bind (fJ7_fill_53178 (RF c0 4) (-1) q1) fun q2 => Option.bind (fX7_restarts c0 q2) fun q3 => some q3
def fX6_holdsBytes (c0 : Nat) (σ : St) : Option (Int × St) := if (σ c0 1) = 2 then (if (σ c0 3) = 0 then (some (1, σ)) else (some (0, σ))) else (some (0, σ))
def fX6_refusesBytes (c0 : Nat) (σ : St) : Option (Int × St) := if (σ c0 1) = 0 then (some ((-11), σ)) else (Option.bind (fX6_holdsBytes c0 σ) fun q1 => if q1.1 = 0 then (some ((-12), q1.2)) else (some (0, q1.2)))
def fX9_sale (c0 : Nat) (x1 : Int) (x2 : Int) (σ : St) : Option (Int × St) := Option.bind (fX9_isShelf x1 σ) fun q1 => if q1.1 = 0 then (some ((-1), q1.2)) else (if x2 < 0 then (some ((-1), q1.2)) else (if x2 < 16 then (if inb x1 (LN (RF c0 8)) then Option.bind (fX6_refusesBytes (RF (RF c0 8) (Int.toNat x1)) q1.2) fun q3 => if q3.1 = 0 then (Option.bind (fX7_begin (RF c0 2) (RF c0 0) q3.2) fun q4 => if inb x1 (LN (RF c0 8)) then Option.bind (fX7_sellsAll (RF c0 2) (RF (RF c0 8) (Int.toNat x1)) q4) fun q6 => if (q6 (RF c0 2) 7) ≤ x2 then (some ((-2), q6)) else (if inb x2 (LN (RF (RF c0 2) 6)) then some (q6 (RF (RF c0 2) 6) (Int.toNat x2), q6) else none) else none) else (some (q3.1, q3.2)) else none) else (some ((-1), q1.2))))
def fX10_keeps_44 (c0 : Nat) (c1 : Nat) (k2 : Int → St → Option (St)) (x2 : Int) (σ : St) : Option (St) := k2 x2 σ
def fX10_keeps_41 (c0 : Nat) (c1 : Nat) (k2 : Int → St → Option (St)) (x2 : Int) (σ : St) : Option (St) := fX10_keeps_44 c0 c1 k2 (i_add x2 1) σ
def fX10_keeps_103 (c0 : Nat) (c1 : Nat) (k49 : Int → St → Option (St)) (x2 : Int) (σ : St) : Option (St) := k49 x2 σ
def fX10_keeps_100 (c0 : Nat) (c1 : Nat) (k49 : Int → St → Option (St)) (x2 : Int) (σ : St) : Option (St) := fX10_keeps_103 c0 c1 k49 (i_add x2 1) σ
def fX10_keeps_49 (c0 : Nat) (c1 : Nat) : Nat → Int → St → Option (St)
  | 0, _, _ => none
  | n + 1, x2, σ => if 7 ≤ x2 then (some σ) else (if inb (i_add 28 x2) (LN (RF c0 6)) then if inb (i_add 24 x2) (LN c1) then if inb (i_add 7 x2) (LN (RF c0 6)) then if inb (i_add 31 x2) (LN c1) then if inb (i_add 14 x2) (LN (RF c0 6)) then if inb (i_add 38 x2) (LN c1) then fX10_keeps_100 c0 c1 (fX10_keeps_49 c0 c1 n) x2 (up (up (up σ c1 (Int.toNat (i_add 24 x2)) (σ (RF c0 6) (Int.toNat (i_add 28 x2)))) c1 (Int.toNat (i_add 31 x2)) ((up σ c1 (Int.toNat (i_add 24 x2)) (σ (RF c0 6) (Int.toNat (i_add 28 x2)))) (RF c0 6) (Int.toNat (i_add 7 x2)))) c1 (Int.toNat (i_add 38 x2)) ((up (up σ c1 (Int.toNat (i_add 24 x2)) (σ (RF c0 6) (Int.toNat (i_add 28 x2)))) c1 (Int.toNat (i_add 31 x2)) ((up σ c1 (Int.toNat (i_add 24 x2)) (σ (RF c0 6) (Int.toNat (i_add 28 x2)))) (RF c0 6) (Int.toNat (i_add 7 x2)))) (RF c0 6) (Int.toNat (i_add 14 x2)))) else none else none else none else none else none else none)
def fX10_keeps_2 (c0 : Nat) (c1 : Nat) : Nat → Int → St → Option (St)
  | 0, _, _ => none
  | n + 1, x2, σ => if 8 ≤ x2 then (fX10_keeps_49 c0 c1 FU 0 σ) else (if inb x2 (LN (RF c0 2)) then if inb x2 (LN c1) then if inb x2 (LN (RF c0 3)) then if inb (i_add 8 x2) (LN c1) then if inb x2 (LN (RF c0 4)) then if inb (i_add 16 x2) (LN c1) then fX10_keeps_41 c0 c1 (fX10_keeps_2 c0 c1 n) x2 (up (up (up σ c1 (Int.toNat x2) (σ (RF c0 2) (Int.toNat x2))) c1 (Int.toNat (i_add 8 x2)) ((up σ c1 (Int.toNat x2) (σ (RF c0 2) (Int.toNat x2))) (RF c0 3) (Int.toNat x2))) c1 (Int.toNat (i_add 16 x2)) ((up (up σ c1 (Int.toNat x2) (σ (RF c0 2) (Int.toNat x2))) c1 (Int.toNat (i_add 8 x2)) ((up σ c1 (Int.toNat x2) (σ (RF c0 2) (Int.toNat x2))) (RF c0 3) (Int.toNat x2))) (RF c0 4) (Int.toNat x2))) else none else none else none else none else none else none)
def fX10_keeps (c0 : Nat) (c1 : Nat) (σ : St) : Option (St) := fX10_keeps_2 c0 c1 FU 0 σ
def fX10_image_31 (c0 : Nat) : Nat → Int → St → Option (Int × St)
  | 0, _, _ => none
  | n + 1, x1, σ => if 5 ≤ x1 then (if inb 4 (LN (RF c0 25)) then some (σ (RF c0 25) (Int.toNat 4), σ) else none) else (if inb x1 (LN (RF c0 25)) then if inb x1 (LN (RF c0 30)) then fX10_image_31 c0 n (i_add x1 1) (up σ (RF c0 30) (Int.toNat x1) (σ (RF c0 25) (Int.toNat x1))) else none else none)
def fX10_image (c0 : Nat) (σ : St) : Option (Int × St) := Option.bind (fX10_keeps c0 (RF c0 29) (up (up (up σ c0 26 1) c0 27 ((up σ c0 26 1) c0 0)) c0 28 ((up (up σ c0 26 1) c0 27 ((up σ c0 26 1) c0 0)) c0 5))) fun q1 => fX10_image_31 c0 FU 0 q1
def fX5_kindOf (c0 : Nat) (x1 : Int) (σ : St) : Option (Int × St) := Option.bind (fX5_has c0 x1 σ) fun q1 => if q1.1 = 0 then (some ((-1), q1.2)) else (if inb x1 (LN (RF c0 0)) then some (q1.2 (RF c0 0) (Int.toNat x1), q1.2) else none)
def fX5_isUnder_4 (x0 : Int) (x1 : Int) : Nat → Int → Int → St → Option (Int × St)
  | 0, _, _, _ => none
  | n + 1, x2, x3, σ => if 8 ≤ x3 then (some (0, σ)) else (if x2 < 0 then (some (0, σ)) else (if 8 ≤ x2 then (some (0, σ)) else (if x2 = x1 then (some (1, σ)) else (if inb x2 (List.length stv2) then fX5_isUnder_4 x0 x1 n (stv2.getD (Int.toNat x2) 0) (i_add x3 1) σ else none))))
def fX5_isUnder (x0 : Int) (x1 : Int) (σ : St) : Option (Int × St) := fX5_isUnder_4 x0 x1 FU x0 0 σ
def fX9_taken (c0 : Nat) (x1 : Int) (x2 : Int) (σ : St) : Option (Int × St) := Option.bind (fX9_isShelf x1 σ) fun q1 => if q1.1 = 0 then (some ((-1), q1.2)) else (if x2 < 0 then (some ((-1), q1.2)) else (if x2 < 8 then (if inb x1 (LN (RF c0 8)) then if (q1.2 (RF (RF c0 8) (Int.toNat x1)) 1) = 0 then (some ((-11), q1.2)) else (if (q1.2 (RF (RF c0 8) (Int.toNat x1)) 1) = 1 then (Option.bind (fX5_kindOf (RF c0 7) (q1.2 (RF (RF c0 8) (Int.toNat x1)) 2) q1.2) fun q3 => Option.bind (fX5_isUnder q3.1 x2 q3.2) fun q4 => if q4.1 = 0 then (some ((-12), q4.2)) else (some (q3.1, q4.2))) else (some ((-12), q1.2))) else none) else (some ((-1), q1.2))))
def fX10_thing_63 (c0 : Nat) (x1 : Int) (σ : St) : Option (Int × St) := some (σ c0 0, up σ c0 0 (i_add (σ c0 0) 1))
def fX10_thing_53 (c0 : Nat) (x1 : Int) (σ : St) : Option (Int × St) := if inb (σ c0 0) (LN (RF c0 4)) then fX10_thing_63 c0 x1 (up σ (RF c0 4) (Int.toNat (σ c0 0)) 0) else none
def fX10_thing (c0 : Nat) (x1 : Int) (σ : St) : Option (Int × St) := Option.bind (fX10_within x1 0 3 σ) fun q1 => if q1.1 = 0 then (some ((-1), q1.2)) else (if (q1.2 c0 0) = 8 then (some ((-3), q1.2)) else (if inb (q1.2 c0 0) (LN (RF c0 1)) then if inb ((up q1.2 (RF c0 1) (Int.toNat (q1.2 c0 0)) x1) c0 0) (LN (RF c0 2)) then if inb ((up (up q1.2 (RF c0 1) (Int.toNat (q1.2 c0 0)) x1) (RF c0 2) (Int.toNat ((up q1.2 (RF c0 1) (Int.toNat (q1.2 c0 0)) x1) c0 0)) (-1)) c0 0) (LN (RF c0 3)) then fX10_thing_53 c0 x1 (up (up (up q1.2 (RF c0 1) (Int.toNat (q1.2 c0 0)) x1) (RF c0 2) (Int.toNat ((up q1.2 (RF c0 1) (Int.toNat (q1.2 c0 0)) x1) c0 0)) (-1)) (RF c0 3) (Int.toNat ((up (up q1.2 (RF c0 1) (Int.toNat (q1.2 c0 0)) x1) (RF c0 2) (Int.toNat ((up q1.2 (RF c0 1) (Int.toNat (q1.2 c0 0)) x1) c0 0)) (-1)) c0 0)) 0) else none else none else none))
def fX0_came_36 (c0 : Nat) (x1 : Int) (x2 : Int) (x3 : Int) (x4 : Int) (σ : St) : Option (St) := if inb (i_mul (σ c0 1) 4) (LN (RF c0 0)) then if inb (i_add (i_mul (σ c0 1) 4) 1) (LN (RF c0 0)) then if inb (i_add (i_mul (σ c0 1) 4) 2) (LN (RF c0 0)) then if inb (i_add (i_mul (σ c0 1) 4) 3) (LN (RF c0 0)) then some (up (up (up (up (up σ (RF c0 0) (Int.toNat (i_mul (σ c0 1) 4)) x1) (RF c0 0) (Int.toNat (i_add (i_mul (σ c0 1) 4) 1)) x2) (RF c0 0) (Int.toNat (i_add (i_mul (σ c0 1) 4) 2)) x3) (RF c0 0) (Int.toNat (i_add (i_mul (σ c0 1) 4) 3)) x4) c0 1 (i_add ((up (up (up (up σ (RF c0 0) (Int.toNat (i_mul (σ c0 1) 4)) x1) (RF c0 0) (Int.toNat (i_add (i_mul (σ c0 1) 4) 1)) x2) (RF c0 0) (Int.toNat (i_add (i_mul (σ c0 1) 4) 2)) x3) (RF c0 0) (Int.toNat (i_add (i_mul (σ c0 1) 4) 3)) x4) c0 1) 1)) else none else none else none else none
def fX0_came (c0 : Nat) (x1 : Int) (x2 : Int) (x3 : Int) (x4 : Int) (σ : St) : Option (St) := if ((up σ c0 2 0) c0 1) < 40 then (fX0_came_36 c0 x1 x2 x3 x4 (up σ c0 2 0)) else (if inc 4 0 156 (LN (RF c0 0)) (LN (RF c0 0)) then fX0_came_36 c0 x1 x2 x3 x4 (up (cpy (up σ c0 2 0) (RF c0 0) (Int.toNat 4) (RF c0 0) (Int.toNat 0) (Int.toNat 156)) c0 1 39) else none)
def fX2_become_35 (c0 : Nat) (x1 : Int) (x2 : Int) (x3 : Int) (σ : St) : Option (St) := if x2 < 4 then (some σ) else (if 13 ≤ x2 then (some σ) else (if x1 < 0 then (some σ) else (if (σ c0 3) ≤ x1 then (some σ) else (if inb (i_sub (i_add (i_mul x1 9) x2) 4) (LN (RF c0 1)) then some (up σ (RF c0 1) (Int.toNat (i_sub (i_add (i_mul x1 9) x2) 4)) x3) else none))))
def fX2_become (c0 : Nat) (x1 : Int) (x2 : Int) (x3 : Int) (σ : St) : Option (St) := if x2 < 0 then (fX2_become_35 c0 x1 x2 x3 σ) else (if 4 ≤ x2 then (fX2_become_35 c0 x1 x2 x3 σ) else (if x1 < 0 then (fX2_become_35 c0 x1 x2 x3 σ) else (if (σ c0 2) ≤ x1 then (fX2_become_35 c0 x1 x2 x3 σ) else (if inb (i_add (i_mul x1 4) x2) (LN (RF c0 0)) then some (up σ (RF c0 0) (Int.toNat (i_add (i_mul x1 4) x2)) x3) else none))))
def fX2_has (c0 : Nat) (x1 : Int) (x2 : Int) (σ : St) : Option (Int × St) := if x2 < 0 then (some (0, σ)) else (if x2 < 13 then (if 4 ≤ x2 then (Option.bind (fX2_hasBidder c0 x1 σ) fun q1 => if q1.1 = 0 ∨ q1.1 = 1 then some (q1.1, q1.2) else none) else (Option.bind (fX2_hasThing c0 x1 σ) fun q2 => if q2.1 = 0 ∨ q2.1 = 1 then some (q2.1, q2.2) else none)) else (some (0, σ)))
def fX9_isWithin (x0 : Int) (x1 : Int) (σ : St) : Option (Int × St) := if x1 < 0 then (some (0, σ)) else (if inb x0 (List.length stv0) then if (stv0.getD (Int.toNat x0) 0) < x1 then (some (0, σ)) else (some (1, σ)) else none)
def fX9_mayBe (c0 : Nat) (x1 : Int) (x2 : Int) (σ : St) : Option (Int × St) := if x1 = 1 then (if x2 = (-1) then (some (1, σ)) else (Option.bind (fX2_hasBidder (RF c0 0) x2 σ) fun q2 => if q2.1 = 0 then (some (0, q2.2)) else (some (1, q2.2)))) else (Option.bind (fX9_isWithin x1 x2 σ) fun q1 => if q1.1 = 0 ∨ q1.1 = 1 then some (q1.1, q1.2) else none)
def fX9_mend (c0 : Nat) (x1 : Int) (x2 : Int) (x3 : Int) (σ : St) : Option (Int × St) := Option.bind (fX2_has (RF c0 0) x1 x2 σ) fun q1 => if q1.1 = 0 then (some ((-2000000000), q1.2)) else (Option.bind (fX9_mayBe c0 x2 x3 q1.2) fun q2 => if q2.1 = 0 then (some ((-2000000000), q2.2)) else (Option.bind (fX2_number (RF c0 0) x1 x2 q2.2) fun q3 => if q3.1 = x3 then (some (q3.1, q3.2)) else (Option.bind (fX2_become (RF c0 0) x1 x2 x3 q3.2) fun q4 => Option.bind (fX0_came (RF c0 5) x1 x2 q3.1 x3 q4) fun q5 => some (q3.1, q5))))
def fX7_sellsByDraws_81 (c0 : Nat) (c1 : Nat) (x2 : Int) (x3 : Int) (k15 : Int → Int → St → Option (Int × St)) (x4 : Int) (x5 : Int) (σ : St) : Option (Int × St) := Option.bind (fX6_at c1 x5 σ) fun q1 => Option.bind (fX7_sellsOne c0 (c_l2i q1.1) q1.2) fun q2 => if inb x5 (LN (RF c0 6)) then k15 x4 (i_add x5 1) (up q2.2 (RF c0 6) (Int.toNat x5) q2.1) else none
def fX7_sellsByDraws_15 (c0 : Nat) (c1 : Nat) (x2 : Int) (x3 : Int) : Nat → Int → Int → St → Option (Int × St)
  | 0, _, _, _ => none
  | n + 1, x4, x5, σ => if (σ c0 7) ≤ x5 then (some (x4, σ)) else (if (σ (RF c0 0) 3) ≤ 0 then (fX7_sellsByDraws_81 c0 c1 x2 x3 (fX7_sellsByDraws_15 c0 c1 x2 x3 n) (i_add (i_mul x4 1103515245) 12345) x5 σ) else (if x3 ≤ (i_rem (i_ushr (i_add (i_mul x4 1103515245) 12345) 16) 12) then (fX7_sellsByDraws_81 c0 c1 x2 x3 (fX7_sellsByDraws_15 c0 c1 x2 x3 n) (i_add (i_mul x4 1103515245) 12345) x5 σ) else (if ¬ σ (RF c0 0) 3 = 0 then fX7_sellsByDraws_81 c0 c1 x2 x3 (fX7_sellsByDraws_15 c0 c1 x2 x3 n) (i_add (i_mul x4 1103515245) 12345) x5 (up σ c0 9 (i_or (σ c0 9) (i_shl 1 (i_rem (i_ushr (i_add (i_mul x4 1103515245) 12345) 8) (σ (RF c0 0) 3))))) else none)))
def fX7_sellsByDraws (c0 : Nat) (c1 : Nat) (x2 : Int) (x3 : Int) (σ : St) : Option (Int × St) := Option.bind (fX7_lengthOf c0 c1 σ) fun q1 => fX7_sellsByDraws_15 c0 c1 x2 x3 FU x2 0 (up q1.2 c0 7 q1.1)
def fX9_drawn_178 (c0 : Nat) (x1 : Int) (x2 : Int) (x3 : Int) (x4 : Int) (k90 : Int → Int → Int → St → Option (Int × St)) (x6 : Int) (x8 : Int) (y0 : Int) (y1 : Int) (σ : St) : Option (Int × St) := k90 x6 (i_add y0 y1) (i_add x8 1) σ
def fX9_drawn_125 (c0 : Nat) (x1 : Int) (x2 : Int) (x3 : Int) (x4 : Int) (k90 : Int → Int → Int → St → Option (Int × St)) (x6 : Int) (x7 : Int) (x8 : Int) (y0 : Int) (σ : St) : Option (Int × St) := if inb x2 (LN (RF c0 8)) then Option.bind (fX7_sellsByDraws (RF c0 2) (RF (RF c0 8) (Int.toNat x2)) x6 (i_rem x3 100) σ) fun q2 => if 0 ≤ x4 then (if inb x4 (LN (RF (RF c0 2) 2)) then fX9_drawn_178 c0 x1 x2 x3 x4 k90 q2.1 x8 x7 (i_sub (q2.2 (RF (RF c0 2) 2) (Int.toNat x4)) y0) q2.2 else none) else (fX9_drawn_178 c0 x1 x2 x3 x4 k90 q2.1 x8 x7 (q2.2 (RF c0 2) 11) q2.2) else none
def fX9_drawn_90 (c0 : Nat) (x1 : Int) (x2 : Int) (x3 : Int) (x4 : Int) : Nat → Int → Int → Int → St → Option (Int × St)
  | 0, _, _, _, _ => none
  | n + 1, x6, x7, x8, σ => if (i_div x3 100) ≤ x8 then (some (x7, σ)) else (Option.bind (fX7_restarts (RF c0 2) σ) fun q1 => if 0 ≤ x4 then (if inb x4 (LN (RF (RF c0 2) 2)) then fX9_drawn_125 c0 x1 x2 x3 x4 (fX9_drawn_90 c0 x1 x2 x3 x4 n) x6 x7 x8 (q1 (RF (RF c0 2) 2) (Int.toNat x4)) q1 else none) else (fX9_drawn_125 c0 x1 x2 x3 x4 (fX9_drawn_90 c0 x1 x2 x3 x4 n) x6 x7 x8 0 q1))
def fX9_drawn_51 (c0 : Nat) (x1 : Int) (x2 : Int) (x3 : Int) (x4 : Int) (σ : St) : Option (Int × St) := if inb x2 (LN (RF c0 8)) then Option.bind (fX6_refusesBytes (RF (RF c0 8) (Int.toNat x2)) σ) fun q2 => if q2.1 = 0 then (Option.bind (fX7_begin (RF c0 2) (RF c0 0) q2.2) fun q3 => fX9_drawn_90 c0 x1 x2 x3 x4 FU x1 0 0 q3) else (some (q2.1, q2.2)) else none
def fX9_drawn (c0 : Nat) (x1 : Int) (x2 : Int) (x3 : Int) (x4 : Int) (σ : St) : Option (Int × St) := Option.bind (fX9_isShelf x2 σ) fun q1 => if q1.1 = 0 then (some ((-1), q1.2)) else (if x3 < 100 then (some ((-1), q1.2)) else (if 30 < (i_div x3 100) then (some ((-1), q1.2)) else (if 12 < (i_rem x3 100) then (some ((-1), q1.2)) else (if x4 = (-1) then (fX9_drawn_51 c0 x1 x2 x3 x4 q1.2) else (Option.bind (fX2_hasBidder (RF c0 0) x4 q1.2) fun q2 => if q2.1 = 0 then (some ((-1), q2.2)) else (fX9_drawn_51 c0 x1 x2 x3 x4 q2.2))))))
def fX10_isThing (c0 : Nat) (x1 : Int) (σ : St) : Option (Int × St) := Option.bind (fX10_within x1 0 (i_sub (σ c0 0) 1) σ) fun q1 => if q1.1 = 0 ∨ q1.1 = 1 then some (q1.1, q1.2) else none
def fX10_bidOf (c0 : Nat) (x1 : Int) (x2 : Int) (σ : St) : Option (Int × St) := Option.bind (fX10_wouldMiss c0 x1 x2 σ) fun q1 => if inb (i_add 21 x1) (LN (RF c0 6)) then if inb (i_add 28 x1) (LN (RF c0 6)) then if (q1.2 (RF c0 6) (Int.toNat (i_add 28 x1))) = 1 then (if (q1.2 (RF c0 6) (Int.toNat (i_add 21 x1))) ≤ 0 then (some (q1.1, q1.2)) else (some (0, q1.2))) else (some (m_min 99 (i_add q1.1 (q1.2 (RF c0 6) (Int.toNat (i_add 21 x1)))), q1.2)) else none else none
def fX10_winner_57 (c0 : Nat) (x1 : Int) (k8 : Int → Int → Int → St → Option (Int × St)) (x2 : Int) (x3 : Int) (x4 : Int) (σ : St) : Option (Int × St) := k8 x2 x3 (i_add x4 1) σ
def fX10_winner_53 (c0 : Nat) (x1 : Int) (k8 : Int → Int → Int → St → Option (Int × St)) (x4 : Int) (x5 : Int) (y0 : Int) (σ : St) : Option (Int × St) := fX10_winner_57 c0 x1 k8 y0 x5 x4 σ
def fX10_winner_8 (c0 : Nat) (x1 : Int) : Nat → Int → Int → Int → St → Option (Int × St)
  | 0, _, _, _, _ => none
  | n + 1, x2, x3, x4, σ => if (σ c0 5) ≤ x4 then (some (x2, σ)) else (Option.bind (fX10_bidOf c0 x4 x1 σ) fun q1 => if q1.1 = 0 then (fX10_winner_57 c0 x1 (fX10_winner_8 c0 x1 n) x2 x3 x4 q1.2) else (if x3 ≤ q1.1 then (if q1.1 = x3 then (fX10_winner_53 c0 x1 (fX10_winner_8 c0 x1 n) x4 q1.1 8 q1.2) else (fX10_winner_53 c0 x1 (fX10_winner_8 c0 x1 n) x4 q1.1 x4 q1.2)) else (fX10_winner_57 c0 x1 (fX10_winner_8 c0 x1 n) x2 x3 x4 q1.2)))
def fX10_winner (c0 : Nat) (x1 : Int) (σ : St) : Option (Int × St) := fX10_winner_8 c0 x1 FU (-2) 0 0 σ
def fX10_feign_83 (c0 : Nat) (x1 : Int) (k51 : Int → Int → Int → Int → St → Option (Int × St)) (x2 : Int) (x3 : Int) (x4 : Int) (x5 : Int) (σ : St) : Option (Int × St) := k51 x2 x3 x4 (i_add x5 (-1)) σ
def fX10_feign_51 (c0 : Nat) (x1 : Int) : Nat → Int → Int → Int → Int → St → Option (Int × St)
  | 0, _, _, _, _, _ => none
  | n + 1, x2, x3, x4, x5, σ => if x5 < 0 then (if inb (i_add 21 x2) (LN (RF c0 6)) then some (x4, up σ (RF c0 6) (Int.toNat (i_add 21 x2)) x3) else none) else (if inb (i_add 21 x2) (LN (RF c0 6)) then Option.bind (fX10_winner c0 (i_rem x1 10) (up σ (RF c0 6) (Int.toNat (i_add 21 x2)) x5)) fun q1 => if q1.1 = x2 then (fX10_feign_83 c0 x1 (fX10_feign_51 c0 x1 n) x2 x3 x5 x5 q1.2) else (fX10_feign_83 c0 x1 (fX10_feign_51 c0 x1 n) x2 x3 x4 x5 q1.2) else none)
def fX10_feign (c0 : Nat) (x1 : Int) (σ : St) : Option (Int × St) := if x1 < 0 then (some ((-1), σ)) else (Option.bind (fX10_isOne c0 (i_div x1 10) σ) fun q1 => if q1.1 = 0 then (some ((-1), q1.2)) else (Option.bind (fX10_isThing c0 (i_rem x1 10) q1.2) fun q2 => if q2.1 = 0 then (some ((-1), q2.2)) else (if inb (i_add 21 (i_div x1 10)) (LN (RF c0 6)) then fX10_feign_51 c0 x1 FU (i_div x1 10) (q2.2 (RF c0 6) (Int.toNat (i_add 21 (i_div x1 10)))) (-2) 9 q2.2 else none)))
def fX10_laysBack_51 (c0 : Nat) (c1 : Nat) (x2 : Int) (x3 : Int) (k3 : Int → St → Option (St)) (x4 : Int) (σ : St) : Option (St) := k3 x4 σ
def fX10_laysBack_48 (c0 : Nat) (c1 : Nat) (x2 : Int) (x3 : Int) (k3 : Int → St → Option (St)) (x4 : Int) (σ : St) : Option (St) := fX10_laysBack_51 c0 c1 x2 x3 k3 (i_add x4 1) σ
def fX10_laysBack_117 (c0 : Nat) (c1 : Nat) (x2 : Int) (x3 : Int) (k57 : Int → St → Option (St)) (x4 : Int) (σ : St) : Option (St) := k57 x4 σ
def fX10_laysBack_114 (c0 : Nat) (c1 : Nat) (x2 : Int) (x3 : Int) (k57 : Int → St → Option (St)) (x4 : Int) (σ : St) : Option (St) := fX10_laysBack_117 c0 c1 x2 x3 k57 (i_add x4 1) σ
def fX10_laysBack_57 (c0 : Nat) (c1 : Nat) (x2 : Int) (x3 : Int) : Nat → Int → St → Option (St)
  | 0, _, _ => none
  | n + 1, x4, σ => if x3 ≤ x4 then (some σ) else (if inb (i_add 24 x4) (LN c1) then if inb (i_add 28 x4) (LN (RF c0 6)) then if inb (i_add 31 x4) (LN c1) then if inb (i_add 7 x4) (LN (RF c0 6)) then if inb (i_add 38 x4) (LN c1) then if inb (i_add 14 x4) (LN (RF c0 6)) then fX10_laysBack_114 c0 c1 x2 x3 (fX10_laysBack_57 c0 c1 x2 x3 n) x4 (up (up (up σ (RF c0 6) (Int.toNat (i_add 28 x4)) (σ c1 (Int.toNat (i_add 24 x4)))) (RF c0 6) (Int.toNat (i_add 7 x4)) ((up σ (RF c0 6) (Int.toNat (i_add 28 x4)) (σ c1 (Int.toNat (i_add 24 x4)))) c1 (Int.toNat (i_add 31 x4)))) (RF c0 6) (Int.toNat (i_add 14 x4)) ((up (up σ (RF c0 6) (Int.toNat (i_add 28 x4)) (σ c1 (Int.toNat (i_add 24 x4)))) (RF c0 6) (Int.toNat (i_add 7 x4)) ((up σ (RF c0 6) (Int.toNat (i_add 28 x4)) (σ c1 (Int.toNat (i_add 24 x4)))) c1 (Int.toNat (i_add 31 x4)))) c1 (Int.toNat (i_add 38 x4)))) else none else none else none else none else none else none)
def fX10_laysBack_3 (c0 : Nat) (c1 : Nat) (x2 : Int) (x3 : Int) : Nat → Int → St → Option (St)
  | 0, _, _ => none
  | n + 1, x4, σ => if x2 ≤ x4 then (fX10_laysBack_57 c0 c1 x2 x3 FU 0 σ) else (if inb x4 (LN c1) then if inb x4 (LN (RF c0 2)) then if inb (i_add 8 x4) (LN c1) then if inb x4 (LN (RF c0 3)) then if inb (i_add 16 x4) (LN c1) then if inb x4 (LN (RF c0 4)) then fX10_laysBack_48 c0 c1 x2 x3 (fX10_laysBack_3 c0 c1 x2 x3 n) x4 (up (up (up σ (RF c0 2) (Int.toNat x4) (σ c1 (Int.toNat x4))) (RF c0 3) (Int.toNat x4) ((up σ (RF c0 2) (Int.toNat x4) (σ c1 (Int.toNat x4))) c1 (Int.toNat (i_add 8 x4)))) (RF c0 4) (Int.toNat x4) ((up (up σ (RF c0 2) (Int.toNat x4) (σ c1 (Int.toNat x4))) (RF c0 3) (Int.toNat x4) ((up σ (RF c0 2) (Int.toNat x4) (σ c1 (Int.toNat x4))) c1 (Int.toNat (i_add 8 x4)))) c1 (Int.toNat (i_add 16 x4)))) else none else none else none else none else none else none)
def fX10_laysBack (c0 : Nat) (c1 : Nat) (x2 : Int) (x3 : Int) (σ : St) : Option (St) := fX10_laysBack_3 c0 c1 x2 x3 FU 0 σ
def fX10_laysBack_ (c0 : Nat) (σ : St) : Option (St) := Option.bind (fX10_laysBack c0 (RF c0 41) 8 7 σ) fun q1 => some q1
def fJ6_bitCount_0f7a4_41 (x0 : Int) (σ : St) : Option (Int × St) := some (i_and (i_add x0 (i_ushr x0 16)) 63, σ)
def fJ6_bitCount_0f7a4_34 (x0 : Int) (σ : St) : Option (Int × St) := fJ6_bitCount_0f7a4_41 (i_add x0 (i_ushr x0 8)) σ
def fJ6_bitCount_0f7a4 (x0 : Int) (σ : St) : Option (Int × St) := fJ6_bitCount_0f7a4_34 (i_and (i_add (i_add (i_and (i_sub x0 (i_and (i_ushr x0 1) 1431655765)) 858993459) (i_and (i_ushr (i_sub x0 (i_and (i_ushr x0 1) 1431655765)) 2) 858993459)) (i_ushr (i_add (i_and (i_sub x0 (i_and (i_ushr x0 1) 1431655765)) 858993459) (i_and (i_ushr (i_sub x0 (i_and (i_ushr x0 1) 1431655765)) 2) 858993459)) 4)) 252645135) σ
def fX10_examined_96 (c0 : Nat) (x1 : Int) (x2 : Int) (k51 : Int → Int → St → Option (Int × St)) (k65 : Int → Int → Int → St → Option (Int × St)) (x3 : Int) (x4 : Int) (x5 : Int) (σ : St) : Option (Int × St) := k65 x3 x4 (i_add x5 1) σ
def fX10_examined_154 (c0 : Nat) (x1 : Int) (x2 : Int) (k51 : Int → Int → St → Option (Int × St)) (x3 : Int) (x4 : Int) (σ : St) : Option (Int × St) := k51 x3 (i_add x4 1) σ
def fX10_examined_151 (c0 : Nat) (x1 : Int) (x2 : Int) (k51 : Int → Int → St → Option (Int × St)) (x4 : Int) (σ : St) : Option (Int × St) := fX10_examined_154 c0 x1 x2 k51 x4 x4 σ
def fX10_examined_122 (c0 : Nat) (x1 : Int) (x2 : Int) (k51 : Int → Int → St → Option (Int × St)) (x3 : Int) (x4 : Int) (y0 : Int) (σ : St) : Option (Int × St) := Option.bind (fX10_laysBack_ c0 σ) fun q1 => if y0 = 0 then (fX10_examined_154 c0 x1 x2 k51 x3 x4 q1) else (if x3 = (-2) then (fX10_examined_151 c0 x1 x2 k51 x4 q1) else (Option.bind (fJ6_bitCount_0f7a4 x4 q1) fun q2 => Option.bind (fJ6_bitCount_0f7a4 x3 q2.2) fun q3 => if q3.1 ≤ q2.1 then (fX10_examined_154 c0 x1 x2 k51 x3 x4 q3.2) else (fX10_examined_151 c0 x1 x2 k51 x4 q3.2)))
def fX10_examined_65 (c0 : Nat) (x1 : Int) (x2 : Int) (k51 : Int → Int → St → Option (Int × St)) : Nat → Int → Int → Int → St → Option (Int × St)
  | 0, _, _, _, _ => none
  | n + 1, x3, x4, x5, σ => if (σ c0 5) ≤ x5 then (Option.bind (fX10_winner c0 (i_rem x1 10) σ) fun q1 => if q1.1 = (i_div x1 10) then (fX10_examined_122 c0 x1 x2 k51 x3 x4 1 q1.2) else (fX10_examined_122 c0 x1 x2 k51 x3 x4 0 q1.2)) else (if (i_and (i_shr x4 x5) 1) = 1 then (if inb (i_add 28 x5) (LN (RF c0 6)) then fX10_examined_96 c0 x1 x2 k51 (fX10_examined_65 c0 x1 x2 k51 n) x3 x4 x5 (up σ (RF c0 6) (Int.toNat (i_add 28 x5)) 1) else none) else (fX10_examined_96 c0 x1 x2 k51 (fX10_examined_65 c0 x1 x2 k51 n) x3 x4 x5 σ))
def fX10_examined_51 (c0 : Nat) (x1 : Int) (x2 : Int) : Nat → Int → Int → St → Option (Int × St)
  | 0, _, _, _ => none
  | n + 1, x3, x4, σ => if (i_shl 1 (σ c0 5)) ≤ x4 then (if x2 = 1 then (some (x3, σ)) else (if x3 = (-2) then (some (x3, σ)) else (Option.bind (fJ6_bitCount_0f7a4 x3 σ) fun q1 => some (q1.1, q1.2)))) else (fX10_examined_65 c0 x1 x2 (fX10_examined_51 c0 x1 x2 n) FU x3 x4 0 σ)
def fX10_examined (c0 : Nat) (x1 : Int) (x2 : Int) (σ : St) : Option (Int × St) := if x1 < 0 then (some ((-1), σ)) else (Option.bind (fX10_isOne c0 (i_div x1 10) σ) fun q1 => if q1.1 = 0 then (some ((-1), q1.2)) else (Option.bind (fX10_isThing c0 (i_rem x1 10) q1.2) fun q2 => if q2.1 = 0 then (some ((-1), q2.2)) else (Option.bind (fX10_within x2 0 1 q2.2) fun q3 => if q3.1 = 0 then (some ((-1), q3.2)) else (Option.bind (fX10_keeps c0 (RF c0 41) q3.2) fun q4 => fX10_examined_51 c0 x1 x2 FU (-2) 0 q4))))
def fX10_back_28 (c0 : Nat) : Nat → Int → St → Option (Int × St)
  | 0, _, _ => none
  | n + 1, x1, σ => if 5 ≤ x1 then (if inb 4 (LN (RF c0 25)) then some (σ (RF c0 25) (Int.toNat 4), σ) else none) else (if inb x1 (LN (RF c0 30)) then if inb x1 (LN (RF c0 25)) then fX10_back_28 c0 n (i_add x1 1) (up σ (RF c0 25) (Int.toNat x1) (σ (RF c0 30) (Int.toNat x1))) else none else none)
def fX10_back (c0 : Nat) (σ : St) : Option (Int × St) := if (σ c0 26) = 0 then (some ((-5), σ)) else (Option.bind (fX10_laysBack c0 (RF c0 29) (σ c0 27) (σ c0 28) σ) fun q1 => fX10_back_28 c0 FU 0 q1)
def fX10_led (c0 : Nat) (x1 : Int) (σ : St) : Option (Int × St) := Option.bind (fX10_within x1 0 4 σ) fun q1 => if q1.1 = 0 then (some ((-1), q1.2)) else (if inb x1 (LN (RF c0 25)) then some (q1.2 (RF c0 25) (Int.toNat x1), q1.2) else none)
def fX10_becomes (c0 : Nat) (x1 : Int) (x2 : Int) (x3 : Int) (σ : St) : Option (St) := if x2 = 0 then (if inb x1 (LN (RF c0 1)) then some (up σ (RF c0 1) (Int.toNat x1) x3) else none) else if x2 = 1 then (if inb x1 (LN (RF c0 2)) then some (up σ (RF c0 2) (Int.toNat x1) x3) else none) else if x2 = 2 then (if inb x1 (LN (RF c0 3)) then some (up σ (RF c0 3) (Int.toNat x1) x3) else none) else if x2 = 3 then (if inb x1 (LN (RF c0 4)) then some (up σ (RF c0 4) (Int.toNat x1) x3) else none) else (if inb (i_add (i_mul 7 (i_sub x2 4)) x1) (LN (RF c0 6)) then some (up σ (RF c0 6) (Int.toNat (i_add (i_mul 7 (i_sub x2 4)) x1)) x3) else none)
def fX10_undo (c0 : Nat) (σ : St) : Option (Int × St) := if (σ c0 32) = 0 then (some ((-5), σ)) else (if inb (i_mul 4 ((up σ c0 32 (i_sub (σ c0 32) 1)) c0 32)) (LN (RF c0 33)) then if inb (i_add (i_mul 4 ((up σ c0 32 (i_sub (σ c0 32) 1)) c0 32)) 1) (LN (RF c0 33)) then if inb (i_add (i_mul 4 ((up σ c0 32 (i_sub (σ c0 32) 1)) c0 32)) 2) (LN (RF c0 33)) then Option.bind (fX10_becomes c0 ((up σ c0 32 (i_sub (σ c0 32) 1)) (RF c0 33) (Int.toNat (i_mul 4 ((up σ c0 32 (i_sub (σ c0 32) 1)) c0 32)))) ((up σ c0 32 (i_sub (σ c0 32) 1)) (RF c0 33) (Int.toNat (i_add (i_mul 4 ((up σ c0 32 (i_sub (σ c0 32) 1)) c0 32)) 1))) ((up σ c0 32 (i_sub (σ c0 32) 1)) (RF c0 33) (Int.toNat (i_add (i_mul 4 ((up σ c0 32 (i_sub (σ c0 32) 1)) c0 32)) 2))) (up σ c0 32 (i_sub (σ c0 32) 1))) fun q1 => some (q1 c0 32, q1) else none else none else none)
def fX10_isRow (c0 : Nat) (x1 : Int) (σ : St) : Option (Int × St) := if inb x1 (LN (RF c0 38)) then Option.bind (fX10_within (σ (RF c0 38) (Int.toNat x1)) 0 4 σ) fun q1 => if q1.1 = 0 ∨ q1.1 = 1 then some (q1.1, q1.2) else none else none
def fX10_element (c0 : Nat) (x1 : Int) (x2 : Int) (σ : St) : Option (Int × St) := Option.bind (fX10_isShelf x1 σ) fun q1 => if q1.1 = 0 then (some ((-9223372036854775808), q1.2)) else (Option.bind (fX10_isRow c0 x1 q1.2) fun q2 => if q2.1 = 0 then (some ((-9223372036854775808), q2.2)) else (if inb x1 (LN (RF c0 39)) then Option.bind (fX10_within x2 0 (i_sub (q2.2 (RF c0 39) (Int.toNat x1)) 1) q2.2) fun q3 => if q3.1 = 0 then (some ((-9223372036854775808), q3.2)) else (if inb (i_add (i_mul 60 x1) x2) (LN (RF c0 40)) then some (q3.2 (RF c0 40) (Int.toNat (i_add (i_mul 60 x1) x2)), q3.2) else none) else none))
def fX4_next (c0 : Nat) (σ : St) : Option (Int × St) := if (σ c0 5) ≤ (σ c0 6) then (some ((-1), σ)) else (if 120 ≤ (σ c0 6) then (some ((-1), σ)) else (if inb (σ c0 6) (LN (RF c0 0)) then some (σ (RF c0 0) (Int.toNat (σ c0 6)), σ) else none))
def fX4_takes (c0 : Nat) (x1 : Int) (σ : St) : Option (Int × St) := Option.bind (fX4_next c0 σ) fun q1 => if q1.1 = x1 then (some (1, up q1.2 c0 6 (i_add (q1.2 c0 6) 1))) else (some (0, q1.2))
def fX4_isDigit (x0 : Int) (σ : St) : Option (Int × St) := if x0 < 48 then (some (0, σ)) else (if 57 < x0 then (some (0, σ)) else (some (1, σ)))
def fX4_emit (c0 : Nat) (x1 : Int) (σ : St) : Option (St) := if isA 1 (Int.toNat (σ c0 4)) = true then if (LN (Int.toNat (σ c0 4)) : Int) ≤ (σ c0 7) then (some σ) else (if isA 1 (Int.toNat (σ c0 4)) = true then if inb (σ c0 7) (LN (Int.toNat (σ c0 4))) then some (up (up σ (Int.toNat (σ c0 4)) (Int.toNat (σ c0 7)) x1) c0 7 (i_add ((up σ (Int.toNat (σ c0 4)) (Int.toNat (σ c0 7)) x1) c0 7) 1)) else none else none) else none
def fX4_readNumber_48 (c0 : Nat) (x1 : Int) (σ : St) : Option (Int × St) := Option.bind (fX4_emit c0 x1 σ) fun q1 => some (1, q1)
def fX4_readNumber_4 (c0 : Nat) : Nat → Int → Int → St → Option (Int × St)
  | 0, _, _, _ => none
  | n + 1, x1, x2, σ => if 4 ≤ x2 then (fX4_readNumber_48 c0 x1 σ) else (Option.bind (fX4_next c0 σ) fun q1 => Option.bind (fX4_isDigit q1.1 q1.2) fun q2 => if q2.1 = 0 then (fX4_readNumber_48 c0 x1 q2.2) else (Option.bind (fX4_next c0 q2.2) fun q3 => fX4_readNumber_4 c0 n (i_sub (i_add (i_mul x1 10) q3.1) 48) (i_add x2 1) (up q3.2 c0 6 (i_add (q3.2 c0 6) 1))))
def fX4_readNumber (c0 : Nat) (σ : St) : Option (Int × St) := fX4_readNumber_4 c0 FU 0 0 σ
def fX4_rankOf (x0 : Int) (σ : St) : Option (Int × St) := if x0 = 37 then (some (4, σ)) else if x0 = 38 then (some (1, σ)) else if x0 = 42 then (some (4, σ)) else if x0 = 43 then (some (3, σ)) else if x0 = 45 then (some (3, σ)) else if x0 = 47 then (some (4, σ)) else if x0 = 60 then (some (2, σ)) else if x0 = 61 then (some (2, σ)) else if x0 = 62 then (some (2, σ)) else if x0 = 124 then (some (0, σ)) else (some ((-1), σ))
def fX4_readOperand_145 (cl : Nat → List Int → St → Option (Int × St)) (c0 : Nat) (x1 : Int) (d0 : Nat) (y1 : Int) (σ : St) : Option (Int × St) := Option.bind (fX4_emit d0 y1 σ) fun q1 => some (1, q1)
def fX4_readOperand_119 (cl : Nat → List Int → St → Option (Int × St)) (c0 : Nat) (x1 : Int) (x2 : Int) (σ : St) : Option (Int × St) := Option.bind (cl 0 [i_add x1 1] σ) fun q1 => if q1.1 = 0 then (some (0, q1.2)) else (if x2 = 45 then (fX4_readOperand_145 cl c0 x1 c0 (-126) q1.2) else (fX4_readOperand_145 cl c0 x1 c0 (-33) q1.2))
def fX4_readOperand_32 (cl : Nat → List Int → St → Option (Int × St)) (c0 : Nat) (x1 : Int) (x2 : Int) (y0 : Int) (σ : St) : Option (Int × St) := if y0 < 0 then (if x1 < 6 then (Option.bind (fX4_takes c0 40 σ) fun q1 => if q1.1 = 0 then (Option.bind (fX4_takes c0 33 q1.2) fun q2 => if q2.1 = 0 then (Option.bind (fX4_takes c0 45 q2.2) fun q3 => if q3.1 = 0 then (some (0, q3.2)) else (fX4_readOperand_119 cl c0 x1 x2 q3.2)) else (fX4_readOperand_119 cl c0 x1 x2 q2.2)) else (Option.bind (cl 1 [0, i_add x1 1] q1.2) fun q4 => if q4.1 = 0 then (some (0, q4.2)) else (Option.bind (fX4_takes c0 41 q4.2) fun q5 => if q5.1 = 0 then (some (0, q5.2)) else (some (1, q5.2))))) else (some (0, σ))) else (Option.bind (fX4_emit c0 (i_sub (-1) y0) (up σ c0 6 (i_add (σ c0 6) 1))) fun q6 => some (1, q6))
def fX4_readOperand (cl : Nat → List Int → St → Option (Int × St)) (c0 : Nat) (x1 : Int) (σ : St) : Option (Int × St) := Option.bind (fX4_next c0 σ) fun q1 => Option.bind (fX4_isDigit q1.1 q1.2) fun q2 => if q2.1 = 0 then (if 0 ≤ q1.1 then (fX4_readOperand_32 cl c0 x1 q1.1 (ixof (c_i2c q1.1)) q2.2) else (fX4_readOperand_32 cl c0 x1 q1.1 (-1) q2.2)) else (Option.bind (fX4_readNumber c0 q2.2) fun q3 => if q3.1 = 0 ∨ q3.1 = 1 then some (q3.1, q3.2) else none)
def fX4_readRank_39 (cl : Nat → List Int → St → Option (Int × St)) (c0 : Nat) (x1 : Int) (x2 : Int) : Nat → Int → Int → St → Option (Int × St)
  | 0, _, _, _ => none
  | n + 1, x3, x4, σ => if x3 ≤ x4 then (some (1, σ)) else (Option.bind (fX4_next c0 σ) fun q1 => Option.bind (fX4_rankOf q1.1 q1.2) fun q2 => if q2.1 = x1 then (Option.bind (fX4_next c0 q2.2) fun q3 => Option.bind (cl 1 [i_add x1 1, x2] (up q3.2 c0 6 (i_add (q3.2 c0 6) 1))) fun q4 => if q4.1 = 0 then (some (0, q4.2)) else (Option.bind (fX4_emit c0 (i_neg q3.1) q4.2) fun q5 => fX4_readRank_39 cl c0 x1 x2 n x3 (i_add x4 1) q5)) else (some (1, q2.2)))
def fX4_readRank_35 (cl : Nat → List Int → St → Option (Int × St)) (c0 : Nat) (x1 : Int) (x2 : Int) (y0 : Int) (σ : St) : Option (Int × St) := fX4_readRank_39 cl c0 x1 x2 FU y0 0 σ
def fX4_readRank (cl : Nat → List Int → St → Option (Int × St)) (c0 : Nat) (x1 : Int) (x2 : Int) (σ : St) : Option (Int × St) := if x1 < 5 then (Option.bind (cl 1 [i_add x1 1, x2] σ) fun q1 => if q1.1 = 0 then (some (0, q1.2)) else (if x1 = 2 then (fX4_readRank_35 cl c0 x1 x2 1 q1.2) else (fX4_readRank_35 cl c0 x1 x2 120 q1.2))) else (Option.bind (cl 0 [x2] σ) fun q2 => if q2.1 = 0 ∨ q2.1 = 1 then some (q2.1, q2.2) else none)
def gX4_readOperand (c0 : Nat) : Nat → Nat → List Int → St → Option (Int × St)
  | 0, _, _, _ => none
  | d + 1, 0, [a0], σ => fX4_readOperand (gX4_readOperand c0 d) c0 a0 σ
  | d + 1, 1, [a0, a1], σ => fX4_readRank (gX4_readOperand c0 d) c0 a0 a1 σ
  | _ + 1, _, _, _ => none
def hX4_readOperand (c0 : Nat) (a0 : Int) (σ : St) : Option (Int × St) := gX4_readOperand c0 DEP 0 [a0] σ
def hX4_readRank (c0 : Nat) (a0 : Int) (a1 : Int) (σ : St) : Option (Int × St) := gX4_readOperand c0 DEP 1 [a0, a1] σ
def fX4_readLine (c0 : Nat) (σ : St) : Option (Int × St) := Option.bind (hX4_readRank c0 0 0 σ) fun q1 => if q1.1 = 0 then (some (0, q1.2)) else (Option.bind (fX4_takes c0 63 q1.2) fun q2 => if q2.1 = 0 then (Option.bind (fX4_emit c0 (-59) q2.2) fun q8 => some (1, q8)) else (Option.bind (fX4_emit c0 (-1000) q2.2) fun q3 => Option.bind (hX4_readRank c0 0 0 q3) fun q4 => if q4.1 = 0 then (some (0, q4.2)) else (Option.bind (fX4_emit c0 (-59) q4.2) fun q5 => if isA 1 (Int.toNat (q5 c0 4)) = true then if (LN (Int.toNat (q5 c0 4)) : Int) ≤ (q2.2 c0 7) then (some (1, q5)) else (if isA 1 (Int.toNat (q5 c0 4)) = true then if inb (q2.2 c0 7) (LN (Int.toNat (q5 c0 4))) then some (1, up q5 (Int.toNat (q5 c0 4)) (Int.toNat (q2.2 c0 7)) (i_sub (-1000) (q5 c0 7))) else none else none) else none)))
def fX4_readLines_2 (c0 : Nat) : Nat → Int → St → Option (Int × St)
  | 0, _, _ => none
  | n + 1, x1, σ => if 120 < x1 then (some (0, σ)) else (Option.bind (fX4_readLine c0 σ) fun q1 => if q1.1 = 0 then (some (0, q1.2)) else (if (q1.2 c0 6) = (q1.2 c0 5) then (some (1, q1.2)) else (Option.bind (fX4_takes c0 59 q1.2) fun q2 => if q2.1 = 0 then (some (0, q2.2)) else (fX4_readLines_2 c0 n (i_add x1 1) q2.2))))
def fX4_readLines (c0 : Nat) (σ : St) : Option (Int × St) := fX4_readLines_2 c0 FU 0 σ
def fX4_fromTape_50 (c0 : Nat) (x1 : Int) (σ : St) : Option (Int × St) := if x1 = 0 then (some (i_sub (-100) ((up σ c0 5 0) c0 6), up σ c0 5 0)) else (some (1, up σ c0 5 0))
def fX4_fromTape (c0 : Nat) (σ : St) : Option (Int × St) := Option.bind (fX4_readLines c0 (up (up σ c0 6 0) c0 7 0)) fun q1 => if q1.1 = 0 then (fX4_fromTape_50 c0 q1.1 q1.2) else (if isA 1 (Int.toNat (q1.2 c0 3)) = true then if isA 1 (Int.toNat (q1.2 c0 4)) = true then fX4_fromTape_50 c0 q1.1 (up (up (up (up q1.2 c0 3 (Int.ofNat (Int.toNat (q1.2 c0 4)))) c0 4 (Int.ofNat (Int.toNat (q1.2 c0 3)))) c0 8 ((up (up q1.2 c0 3 (Int.ofNat (Int.toNat (q1.2 c0 4)))) c0 4 (Int.ofNat (Int.toNat (q1.2 c0 3)))) c0 7)) c0 9 1) else none else none)
def fX9_law (c0 : Nat) (σ : St) : Option (Int × St) := Option.bind (fX4_fromTape (RF c0 1) σ) fun q1 => some (q1.1, q1.2)
def fX2_addBidder_56 (c0 : Nat) (x1 : Int) (x2 : Int) (x3 : Int) : Nat → Int → Int → St → Option (Int × St)
  | 0, _, _, _ => none
  | n + 1, x4, x5, σ => if 4 ≤ x5 then (some (x4, σ)) else (Option.bind (fX2_become c0 x4 (i_add 9 x5) 5 σ) fun q1 => fX2_addBidder_56 c0 x1 x2 x3 n x4 (i_add x5 1) q1)
def fX2_addBidder (c0 : Nat) (x1 : Int) (x2 : Int) (x3 : Int) (σ : St) : Option (Int × St) := if (σ c0 3) < 7 then (Option.bind (fX2_become c0 (σ c0 3) 4 x1 (up σ c0 3 (i_add (σ c0 3) 1))) fun q1 => Option.bind (fX2_become c0 (σ c0 3) 5 x2 q1) fun q2 => Option.bind (fX2_become c0 (σ c0 3) 7 x3 q2) fun q3 => fX2_addBidder_56 c0 x1 x2 x3 FU (σ c0 3) 0 q3) else (some ((-3), σ))
def fX9_bidder (c0 : Nat) (x1 : Int) (x2 : Int) (σ : St) : Option (Int × St) := Option.bind (fX9_isWithin 4 x1 σ) fun q1 => if q1.1 = 0 then (some ((-1), q1.2)) else (Option.bind (fX9_isWithin 5 x2 q1.2) fun q2 => if q2.1 = 0 then (some ((-1), q2.2)) else (Option.bind (fX2_addBidder (RF c0 0) x1 x2 0 q2.2) fun q3 => some (q3.1, q3.2)))
def fX9_after_34 (c0 : Nat) (x1 : Int) (x2 : Int) (x3 : Int) (y0 : Int) (σ : St) : Option (Int × St) := Option.bind (fX9_isShelf x1 σ) fun q1 => if q1.1 = 0 then (some ((-1), q1.2)) else (if y0 = 0 then (some ((-1), q1.2)) else (if inb x1 (LN (RF c0 8)) then Option.bind (fX6_refusesBytes (RF (RF c0 8) (Int.toNat x1)) q1.2) fun q3 => if q3.1 = 0 then (Option.bind (fX7_begin (RF c0 2) (RF c0 0) q3.2) fun q4 => if inb x1 (LN (RF c0 8)) then Option.bind (fX7_sellsAll (RF c0 2) (RF (RF c0 8) (Int.toNat x1)) q4) fun q6 => if x3 = 0 then (if inb x2 (LN (RF (RF c0 2) 2)) then some (q6 (RF (RF c0 2) 2) (Int.toNat x2), q6) else none) else (if x3 = 1 then (some (q6 (RF c0 2) 11, q6)) else (some (q6 (RF c0 2) 10, q6))) else none) else (some (q3.1, q3.2)) else none))
def fX9_after_33 (c0 : Nat) (x1 : Int) (x2 : Int) (x3 : Int) (σ : St) : Option (Int × St) := fX9_after_34 c0 x1 x2 x3 0 σ
def fX9_after_25 (c0 : Nat) (x1 : Int) (x2 : Int) (x3 : Int) (σ : St) : Option (Int × St) := if x2 = 0 then (fX9_after_34 c0 x1 x2 x3 1 σ) else (fX9_after_33 c0 x1 x2 x3 σ)
def fX9_after (c0 : Nat) (x1 : Int) (x2 : Int) (x3 : Int) (σ : St) : Option (Int × St) := if x3 = 0 then (Option.bind (fX2_hasBidder (RF c0 0) x2 σ) fun q1 => fX9_after_34 c0 x1 x2 x3 q1.1 q1.2) else (if x3 = 1 then (fX9_after_25 c0 x1 x2 x3 σ) else (if x3 = 2 then (fX9_after_25 c0 x1 x2 x3 σ) else (fX9_after_33 c0 x1 x2 x3 σ)))
def fX10_quiet_4 (c0 : Nat) : Nat → Int → Int → St → Option (Int × St)
  | 0, _, _, _ => none
  | n + 1, x1, x2, σ => if (σ c0 0) ≤ x2 then (if x1 ≤ 60 then (some (x1, σ)) else (some ((-2), σ))) else (if inb x2 (LN (RF c0 4)) then fX10_quiet_4 c0 n (m_max x1 (σ (RF c0 4) (Int.toNat x2))) (i_add x2 1) σ else none)
def fX10_quiet (c0 : Nat) (σ : St) : Option (Int × St) := fX10_quiet_4 c0 FU 0 0 σ
def fX10_longest_40 (c0 : Nat) (k5 : Int → Int → St → Option (Int × St)) (x1 : Int) (x2 : Int) (σ : St) : Option (Int × St) := k5 x1 (i_add x2 1) σ
def fX10_longest_35 (c0 : Nat) (k5 : Int → Int → St → Option (Int × St)) (x1 : Int) (x2 : Int) (y0 : Int) (y1 : Int) (σ : St) : Option (Int × St) := if y0 ≤ y1 then (fX10_longest_40 c0 k5 x1 x2 σ) else (fX10_longest_40 c0 k5 x2 x2 σ)
def fX10_longest_5 (c0 : Nat) : Nat → Int → Int → St → Option (Int × St)
  | 0, _, _, _ => none
  | n + 1, x1, x2, σ => if (σ c0 0) ≤ x2 then (some (x1, σ)) else (if inb x2 (LN (RF c0 4)) then if x1 = (-2) then (fX10_longest_35 c0 (fX10_longest_5 c0 n) x1 x2 (σ (RF c0 4) (Int.toNat x2)) 0 σ) else (if inb x1 (LN (RF c0 4)) then fX10_longest_35 c0 (fX10_longest_5 c0 n) x1 x2 (σ (RF c0 4) (Int.toNat x2)) (σ (RF c0 4) (Int.toNat x1)) σ else none) else none)
def fX10_longest (c0 : Nat) (σ : St) : Option (Int × St) := fX10_longest_5 c0 FU (-2) 0 σ
def fX10_missed (c0 : Nat) (x1 : Int) (σ : St) : Option (Int × St) := if x1 = 0 then (Option.bind (fX10_quiet c0 σ) fun q2 => some (q2.1, q2.2)) else (if x1 = 1 then (Option.bind (fX10_longest c0 σ) fun q1 => some (q1.1, q1.2)) else (some ((-1), σ)))
def fX5_traced (c0 : Nat) (x1 : Int) (σ : St) : Option (Int × St) := if x1 < 0 then (some ((-1), σ)) else (if x1 < (m_min (σ c0 3) 24) then (if inb x1 (LN (RF c0 1)) then some (σ (RF c0 1) (Int.toNat x1), σ) else none) else (some ((-1), σ)))
def fX9_trace (c0 : Nat) (x1 : Int) (σ : St) : Option (Int × St) := Option.bind (fX5_traced (RF c0 7) x1 σ) fun q1 => some (q1.1, q1.2)
def fX9_areShelves (x0 : Int) (σ : St) : Option (Int × St) := if x0 < 0 then (some (0, σ)) else (Option.bind (fX9_isShelf (i_div x0 10) σ) fun q1 => if q1.1 = 0 then (some (0, q1.2)) else (Option.bind (fX9_isShelf (i_rem x0 10) q1.2) fun q2 => if q2.1 = 0 then (some (0, q2.2)) else (some (1, q2.2))))
def fX7_firstWrong_67 (c0 : Nat) (c1 : Nat) (c2 : Nat) (k11 : Int → St → Option (Int × St)) (x3 : Int) (σ : St) : Option (Int × St) := k11 (i_add x3 1) σ
def fX7_firstWrong_11 (c0 : Nat) (c1 : Nat) (c2 : Nat) : Nat → Int → St → Option (Int × St)
  | 0, _, _ => none
  | n + 1, x3, σ => if (σ c2 4) ≤ x3 then (some ((-2), σ)) else (if x3 < (σ c0 7) then (Option.bind (fX6_at c1 x3 σ) fun q1 => Option.bind (fX7_sellsOne c0 (c_l2i q1.1) q1.2) fun q2 => Option.bind (fX6_at c2 x3 q2.2) fun q3 => if (l_cmp q3.1 10) = 0 then (fX7_firstWrong_67 c0 c1 c2 (fX7_firstWrong_11 c0 c1 c2 n) x3 q3.2) else (Option.bind (fX6_at c2 x3 q3.2) fun q4 => if (l_cmp q4.1 (c_i2l q2.1)) = 0 then (fX7_firstWrong_67 c0 c1 c2 (fX7_firstWrong_11 c0 c1 c2 n) x3 q4.2) else (some (x3, q4.2)))) else (some (x3, σ)))
def fX7_firstWrong (c0 : Nat) (c1 : Nat) (c2 : Nat) (σ : St) : Option (Int × St) := Option.bind (fX7_lengthOf c0 c1 σ) fun q1 => fX7_firstWrong_11 c0 c1 c2 FU 0 (up q1.2 c0 7 q1.1)
def fX9_refusesBoth (c0 : Nat) (x1 : Int) (σ : St) : Option (Int × St) := if inb (i_div x1 10) (LN (RF c0 8)) then Option.bind (fX6_refusesBytes (RF (RF c0 8) (Int.toNat (i_div x1 10))) σ) fun q2 => if q2.1 = 0 then (if inb (i_rem x1 10) (LN (RF c0 8)) then Option.bind (fX6_refusesBytes (RF (RF c0 8) (Int.toNat (i_rem x1 10))) q2.2) fun q4 => some (q4.1, q4.2) else none) else (some (q2.1, q2.2)) else none
def fX9_judge (c0 : Nat) (x1 : Int) (σ : St) : Option (Int × St) := Option.bind (fX9_areShelves x1 σ) fun q1 => if q1.1 = 0 then (some ((-1), q1.2)) else (Option.bind (fX9_refusesBoth c0 x1 q1.2) fun q2 => if q2.1 = 0 then (Option.bind (fX7_begin (RF c0 2) (RF c0 0) q2.2) fun q3 => if inb (i_div x1 10) (LN (RF c0 8)) then if inb (i_rem x1 10) (LN (RF c0 8)) then Option.bind (fX7_firstWrong (RF c0 2) (RF (RF c0 8) (Int.toNat (i_div x1 10))) (RF (RF c0 8) (Int.toNat (i_rem x1 10))) q3) fun q6 => some (q6.1, q6.2) else none else none) else (some (q2.1, q2.2)))
def fX10_kept (x0 : Int) (x1 : Int) (σ : St) : Option (Int × St) := if x0 = 0 then (some (c_i2l (c_i2b (c_l2i x1)), σ)) else if x0 = 1 then (some (c_i2l (c_i2s (c_l2i x1)), σ)) else if x0 = 2 then (some (c_i2l (c_l2i x1), σ)) else if x0 = 3 then (some (x1, σ)) else (if (l_cmp x1 0) = 0 then (some (0, σ)) else (some (1, σ)))
def fX10_put (c0 : Nat) (x1 : Int) (x2 : Int) (x3 : Int) (σ : St) : Option (Int × St) := Option.bind (fX10_isShelf x1 σ) fun q1 => if q1.1 = 0 then (some ((-1), q1.2)) else (if inb x1 (LN (RF c0 38)) then if (q1.2 (RF c0 38) (Int.toNat x1)) = (-1) then (some ((-11), q1.2)) else (Option.bind (fX10_isRow c0 x1 q1.2) fun q2 => if q2.1 = 0 then (some ((-12), q2.2)) else (if inb x1 (LN (RF c0 39)) then Option.bind (fX10_within x2 0 (i_sub (q2.2 (RF c0 39) (Int.toNat x1)) 1) q2.2) fun q3 => if q3.1 = 0 then (some ((-13), q3.2)) else (if inb x1 (LN (RF c0 38)) then Option.bind (fX10_kept (q3.2 (RF c0 38) (Int.toNat x1)) x3 q3.2) fun q4 => if inb (i_add (i_mul 60 x1) x2) (LN (RF c0 40)) then some (1, up q4.2 (RF c0 40) (Int.toNat (i_add (i_mul 60 x1) x2)) q4.1) else none else none) else none)) else none)
def fX9_loses (c0 : Nat) (x1 : Int) (σ : St) : Option (Int × St) := Option.bind (fX2_hasThing (RF c0 0) x1 σ) fun q1 => if q1.1 = 0 then (some ((-1), q1.2)) else (Option.bind (fX2_number (RF c0 0) x1 1 q1.2) fun q2 => Option.bind (fX2_hasBidder (RF c0 0) q2.1 q2.2) fun q3 => if q3.1 = 0 then (some ((-5), q3.2)) else (Option.bind (fX2_number (RF c0 0) x1 2 q3.2) fun q4 => if q4.1 = 0 then (Option.bind (fX7_begin (RF c0 2) (RF c0 0) q4.2) fun q5 => Option.bind (fX2_number (RF c0 0) x1 0 q5) fun q6 => if inb q2.1 (LN (RF (RF c0 2) 2)) then Option.bind (fX7_misses (RF c0 2) q2.1 q6.1 (i_sub (q6.2 (RF (RF c0 2) 2) (Int.toNat q2.1)) 1) q6.2) fun q7 => Option.bind (fX2_number (RF c0 0) q2.1 5 q7.2) fun q8 => Option.bind (fX2_number (RF c0 0) q2.1 6 q8.2) fun q9 => Option.bind (fX2_become (RF c0 0) x1 2 1 q9.2) fun q10 => Option.bind (fX2_become (RF c0 0) x1 3 (m_min q7.1 (i_add q8.1 q9.1)) q10) fun q11 => if inb 2 (LN (RF c0 9)) then if inb 2 (LN (RF c0 9)) then some (m_min q7.1 (i_add q8.1 q9.1), up q11 (RF c0 9) (Int.toNat 2) (i_add (q11 (RF c0 9) (Int.toNat 2)) 1)) else none else none else none) else (some ((-5), q4.2))))
def fX10_turnBy_103 (cl : Nat → List Int → St → Option (Int × St)) (c0 : Nat) (x1 : Int) (x2 : Int) (x3 : Int) (x4 : Int) (x5 : Int) (x6 : Int) (x7 : Int) (x8 : Int) (x9 : Int) (σ : St) : Option (Int × St) := Option.bind (cl 1 [i_add x1 1, x2, x3, x4] σ) fun q1 => if inb (i_add 21 x6) (LN (RF c0 6)) then if inb (i_add 28 x7) (LN (RF c0 6)) then some (q1.1, up (up q1.2 (RF c0 6) (Int.toNat (i_add 21 x6)) x8) (RF c0 6) (Int.toNat (i_add 28 x7)) x9) else none else none
def fX10_turnBy_86 (cl : Nat → List Int → St → Option (Int × St)) (c0 : Nat) (x1 : Int) (x2 : Int) (x3 : Int) (x4 : Int) (x5 : Int) (x6 : Int) (x7 : Int) (x8 : Int) (x9 : Int) (σ : St) : Option (Int × St) := if x5 = 1 then (if inb (i_add 28 x7) (LN (RF c0 6)) then fX10_turnBy_103 cl c0 x1 x2 x3 x4 x5 x6 x7 x8 x9 (up σ (RF c0 6) (Int.toNat (i_add 28 x7)) 1) else none) else (fX10_turnBy_103 cl c0 x1 x2 x3 x4 x5 x6 x7 x8 x9 σ)
def fX10_turnBy_36 (cl : Nat → List Int → St → Option (Int × St)) (c0 : Nat) (x1 : Int) (x2 : Int) (x3 : Int) (x4 : Int) (x5 : Int) (x6 : Int) (y0 : Int) (σ : St) : Option (Int × St) := if inb (i_add 21 x6) (LN (RF c0 6)) then if inb (i_add 28 y0) (LN (RF c0 6)) then if x5 = 0 then (if inb (i_add 21 x6) (LN (RF c0 6)) then fX10_turnBy_86 cl c0 x1 x2 x3 x4 x5 x6 y0 (σ (RF c0 6) (Int.toNat (i_add 21 x6))) (σ (RF c0 6) (Int.toNat (i_add 28 y0))) (up σ (RF c0 6) (Int.toNat (i_add 21 x6)) (m_min 9 (i_add (σ (RF c0 6) (Int.toNat (i_add 21 x6))) 1))) else none) else (fX10_turnBy_86 cl c0 x1 x2 x3 x4 x5 x6 y0 (σ (RF c0 6) (Int.toNat (i_add 21 x6))) (σ (RF c0 6) (Int.toNat (i_add 28 y0))) σ) else none else none
def fX10_turnBy_17 (cl : Nat → List Int → St → Option (Int × St)) (c0 : Nat) (x1 : Int) (x2 : Int) (x3 : Int) (x4 : Int) (x5 : Int) (y0 : Int) (σ : St) : Option (Int × St) := if (i_rem x1 2) = 0 then (fX10_turnBy_36 cl c0 x1 x2 x3 x4 x5 y0 (i_rem x3 10) σ) else (fX10_turnBy_36 cl c0 x1 x2 x3 x4 x5 y0 (i_div x3 10) σ)
def fX10_turnBy (cl : Nat → List Int → St → Option (Int × St)) (c0 : Nat) (x1 : Int) (x2 : Int) (x3 : Int) (x4 : Int) (x5 : Int) (σ : St) : Option (Int × St) := if (i_rem x1 2) = 0 then (fX10_turnBy_17 cl c0 x1 x2 x3 x4 x5 (i_div x3 10) σ) else (fX10_turnBy_17 cl c0 x1 x2 x3 x4 x5 (i_rem x3 10) σ)
def fX10_turnFrom_98 (cl : Nat → List Int → St → Option (Int × St)) (c0 : Nat) (x1 : Int) (x2 : Int) (x3 : Int) (x4 : Int) (k56 : Int → Int → St → Option (Int × St)) (x6 : Int) (y0 : Int) (σ : St) : Option (Int × St) := k56 y0 (i_add x6 1) σ
def fX10_turnFrom_56 (cl : Nat → List Int → St → Option (Int × St)) (c0 : Nat) (x1 : Int) (x2 : Int) (x3 : Int) (x4 : Int) : Nat → Int → Int → St → Option (Int × St)
  | 0, _, _, _ => none
  | n + 1, x5, x6, σ => if 2 ≤ x6 then (some (x5, σ)) else (Option.bind (cl 0 [x1, x2, x3, x4, x6] σ) fun q1 => if (i_rem x1 2) = 0 then (fX10_turnFrom_98 cl c0 x1 x2 x3 x4 (fX10_turnFrom_56 cl c0 x1 x2 x3 x4 n) x6 (m_max x5 q1.1) q1.2) else (fX10_turnFrom_98 cl c0 x1 x2 x3 x4 (fX10_turnFrom_56 cl c0 x1 x2 x3 x4 n) x6 (m_min x5 q1.1) q1.2))
def fX10_turnFrom (cl : Nat → List Int → St → Option (Int × St)) (c0 : Nat) (x1 : Int) (x2 : Int) (x3 : Int) (x4 : Int) (σ : St) : Option (Int × St) := if x1 = x2 then (Option.bind (fX10_winner c0 x4 σ) fun q2 => if q2.1 = (i_div x3 10) then (some (1, q2.2)) else (Option.bind (fX10_winner c0 x4 q2.2) fun q3 => if q3.1 = (i_rem x3 10) then (some ((-1), q3.2)) else (some (0, q3.2)))) else (Option.bind (cl 0 [x1, x2, x3, x4, 2] σ) fun q1 => fX10_turnFrom_56 cl c0 x1 x2 x3 x4 FU q1.1 0 q1.2)
def gX10_turnBy (c0 : Nat) : Nat → Nat → List Int → St → Option (Int × St)
  | 0, _, _, _ => none
  | d + 1, 0, [a0, a1, a2, a3, a4], σ => fX10_turnBy (gX10_turnBy c0 d) c0 a0 a1 a2 a3 a4 σ
  | d + 1, 1, [a0, a1, a2, a3], σ => fX10_turnFrom (gX10_turnBy c0 d) c0 a0 a1 a2 a3 σ
  | _ + 1, _, _, _ => none
def hX10_turnBy (c0 : Nat) (a0 : Int) (a1 : Int) (a2 : Int) (a3 : Int) (a4 : Int) (σ : St) : Option (Int × St) := gX10_turnBy c0 DEP 0 [a0, a1, a2, a3, a4] σ
def hX10_turnFrom (c0 : Nat) (a0 : Int) (a1 : Int) (a2 : Int) (a3 : Int) (σ : St) : Option (Int × St) := gX10_turnBy c0 DEP 1 [a0, a1, a2, a3] σ
def fX10_byTurns_120 (c0 : Nat) (x1 : Int) (x2 : Int) (x3 : Int) (x4 : Int) (k84 : Int → Int → Int → St → Option (Int × St)) (x5 : Int) (x6 : Int) (x7 : Int) (σ : St) : Option (Int × St) := k84 x5 x6 (i_add x7 1) σ
def fX10_byTurns_84 (c0 : Nat) (x1 : Int) (x2 : Int) (x3 : Int) (x4 : Int) : Nat → Int → Int → Int → St → Option (Int × St)
  | 0, _, _, _, _ => none
  | n + 1, x5, x6, x7, σ => if 2 ≤ x7 then (if x4 = 0 then (some (x5, σ)) else (some (x6, σ))) else (Option.bind (hX10_turnBy c0 0 x3 x1 x2 x7 σ) fun q1 => if x5 < q1.1 then (fX10_byTurns_120 c0 x1 x2 x3 x4 (fX10_byTurns_84 c0 x1 x2 x3 x4 n) q1.1 x7 x7 q1.2) else (fX10_byTurns_120 c0 x1 x2 x3 x4 (fX10_byTurns_84 c0 x1 x2 x3 x4 n) x5 x6 x7 q1.2))
def fX10_byTurns (c0 : Nat) (x1 : Int) (x2 : Int) (x3 : Int) (x4 : Int) (σ : St) : Option (Int × St) := if x1 < 0 then (some ((-2000000000), σ)) else (Option.bind (fX10_isOne c0 (i_div x1 10) σ) fun q1 => if q1.1 = 0 then (some ((-2000000000), q1.2)) else (Option.bind (fX10_isOne c0 (i_rem x1 10) q1.2) fun q2 => if q2.1 = 0 then (some ((-2000000000), q2.2)) else (if (i_div x1 10) = (i_rem x1 10) then (some ((-2000000000), q2.2)) else (Option.bind (fX10_isThing c0 x2 q2.2) fun q3 => if q3.1 = 0 then (some ((-2000000000), q3.2)) else (Option.bind (fX10_within x3 1 5 q3.2) fun q4 => if q4.1 = 0 then (some ((-2000000000), q4.2)) else (Option.bind (fX10_within x4 0 1 q4.2) fun q5 => if q5.1 = 0 then (some ((-2000000000), q5.2)) else (Option.bind (hX10_turnBy c0 0 x3 x1 x2 2 q5.2) fun q6 => fX10_byTurns_84 c0 x1 x2 x3 x4 FU q6.1 2 0 q6.2)))))))
def fX0_remake (c0 : Nat) (c1 : Nat) (σ : St) : Option (Int × St) := if (σ c0 2) ≤ 0 then (some (σ c0 2, σ)) else (if 40 ≤ (σ c0 1) then (some (σ c0 2, σ)) else (if inb (i_mul (σ c0 1) 4) (LN (RF c0 0)) then if inb (i_add (i_mul (σ c0 1) 4) 1) (LN (RF c0 0)) then if inb (i_add (i_mul (σ c0 1) 4) 3) (LN (RF c0 0)) then Option.bind (fX2_become c1 (σ (RF c0 0) (Int.toNat (i_mul (σ c0 1) 4))) (σ (RF c0 0) (Int.toNat (i_add (i_mul (σ c0 1) 4) 1))) (σ (RF c0 0) (Int.toNat (i_add (i_mul (σ c0 1) 4) 3))) σ) fun q1 => some ((up (up q1 c0 1 (i_add (q1 c0 1) 1)) c0 2 (i_sub ((up q1 c0 1 (i_add (q1 c0 1) 1)) c0 2) 1)) c0 2, up (up q1 c0 1 (i_add (q1 c0 1) 1)) c0 2 (i_sub ((up q1 c0 1 (i_add (q1 c0 1) 1)) c0 2) 1)) else none else none else none))
def fX9_redo (c0 : Nat) (σ : St) : Option (Int × St) := if (σ (RF c0 5) 2) = 0 then (some ((-5), σ)) else (Option.bind (fX0_remake (RF c0 5) (RF c0 0) σ) fun q1 => some (q1.1, q1.2))
def fX10_goes (c0 : Nat) (x1 : Int) (σ : St) : Option (Int × St) := Option.bind (fX10_isForSale c0 x1 σ) fun q1 => if q1.1 = 0 then (some (9, q1.2)) else (Option.bind (fX10_winner c0 x1 q1.2) fun q2 => if q2.1 = 8 then (if inb x1 (LN (RF c0 3)) then if inb x1 (LN (RF c0 4)) then some (q2.1, up (up q2.2 (RF c0 3) (Int.toNat x1) 1) (RF c0 4) (Int.toNat x1) 0) else none else none) else (if q2.1 = (-2) then (some (q2.1, q2.2)) else (if inb x1 (LN (RF c0 2)) then some (q2.1, up q2.2 (RF c0 2) (Int.toNat x1) q2.1) else none)))
def fX10_putUp (c0 : Nat) (x1 : Int) (σ : St) : Option (Int × St) := Option.bind (fX10_isThing c0 x1 σ) fun q1 => if q1.1 = 0 then (some ((-1), q1.2)) else (Option.bind (fX10_isForSale c0 x1 q1.2) fun q2 => if q2.1 = 0 then (some ((-5), q2.2)) else (Option.bind (fX10_goes c0 x1 q2.2) fun q3 => if q3.1 = 8 then (if inb 1 (LN (RF c0 25)) then if inb 1 (LN (RF c0 25)) then some (q3.1, up q3.2 (RF c0 25) (Int.toNat 1) (i_add (q3.2 (RF c0 25) (Int.toNat 1)) 1)) else none else none) else (if q3.1 = (-2) then (some (q3.1, q3.2)) else (if inb 0 (LN (RF c0 25)) then if inb 0 (LN (RF c0 25)) then some (q3.1, up q3.2 (RF c0 25) (Int.toNat 0) (i_add (q3.2 (RF c0 25) (Int.toNat 0)) 1)) else none else none))))
def fX10_listed_2 (c0 : Nat) (x1 : Int) : Nat → Int → St → Option (Int × St)
  | 0, _, _ => none
  | n + 1, x2, σ => if inb x1 (LN (RF c0 39)) then if (σ (RF c0 39) (Int.toNat x1)) ≤ x2 then (some (x2, σ)) else (if 16 ≤ x2 then (some (x2, σ)) else (Option.bind (fX10_toldAt c0 x1 x2 σ) fun q1 => Option.bind (fX10_isThing c0 q1.1 q1.2) fun q2 => if q2.1 = 0 then (some (x2, q2.2)) else (fX10_listed_2 c0 x1 n (i_add x2 1) q2.2))) else none
def fX10_listed (c0 : Nat) (x1 : Int) (σ : St) : Option (Int × St) := fX10_listed_2 c0 x1 FU 0 σ
def fX10_unlike_110 (c0 : Nat) (x1 : Int) (k32 : Int → Int → Int → Int → Int → St → Option (Int × St)) (x2 : Int) (x3 : Int) (x4 : Int) (x5 : Int) (x6 : Int) (σ : St) : Option (Int × St) := k32 x2 x3 x4 x5 (i_add x6 1) σ
def fX10_unlike_106 (c0 : Nat) (x1 : Int) (k32 : Int → Int → Int → Int → Int → St → Option (Int × St)) (x2 : Int) (x3 : Int) (x4 : Int) (x6 : Int) (σ : St) : Option (Int × St) := fX10_unlike_110 c0 x1 k32 x2 x3 x4 x6 x6 σ
def fX10_unlike_73 (c0 : Nat) (x1 : Int) (k32 : Int → Int → Int → Int → Int → St → Option (Int × St)) (x2 : Int) (x3 : Int) (x4 : Int) (x5 : Int) (x6 : Int) (y0 : Int) (σ : St) : Option (Int × St) := if x4 ≤ x6 then (fX10_unlike_106 c0 x1 k32 x2 x3 x4 x6 σ) else (Option.bind (fX10_toldAt c0 x3 x6 σ) fun q1 => if q1.1 = 10 then (fX10_unlike_110 c0 x1 k32 x2 x3 x4 x5 x6 q1.2) else (Option.bind (fX10_toldAt c0 x3 x6 q1.2) fun q2 => if q2.1 = y0 then (fX10_unlike_110 c0 x1 k32 x2 x3 x4 x5 x6 q2.2) else (fX10_unlike_106 c0 x1 k32 x2 x3 x4 x6 q2.2)))
def fX10_unlike_116 (c0 : Nat) (x1 : Int) (x5 : Int) (σ : St) : Option (Int × St) := Option.bind (fX10_laysBack_ c0 σ) fun q1 => some (x5, q1)
def fX10_unlike_32 (c0 : Nat) (x1 : Int) : Nat → Int → Int → Int → Int → Int → St → Option (Int × St)
  | 0, _, _, _, _, _, _ => none
  | n + 1, x2, x3, x4, x5, x6, σ => if inb x3 (LN (RF c0 39)) then if (σ (RF c0 39) (Int.toNat x3)) ≤ x6 then (fX10_unlike_116 c0 x1 x5 σ) else (if x5 = (-2) then (if x4 ≤ x6 then (fX10_unlike_73 c0 x1 (fX10_unlike_32 c0 x1 n) x2 x3 x4 x5 x6 (-2) σ) else (Option.bind (fX10_toldAt c0 x2 x6 σ) fun q1 => Option.bind (fX10_goes c0 q1.1 q1.2) fun q2 => fX10_unlike_73 c0 x1 (fX10_unlike_32 c0 x1 n) x2 x3 x4 x5 x6 q2.1 q2.2)) else (fX10_unlike_116 c0 x1 x5 σ)) else none
def fX10_unlike (c0 : Nat) (x1 : Int) (σ : St) : Option (Int × St) := Option.bind (fX10_keeps c0 (RF c0 41) σ) fun q1 => Option.bind (fX10_listed c0 (i_div x1 10) q1) fun q2 => fX10_unlike_32 c0 x1 FU (i_div x1 10) (i_rem x1 10) q2.1 (-2) 0 q2.2
def fX10_noBytes (c0 : Nat) (x1 : Int) (σ : St) : Option (Int × St) := if inb x1 (LN (RF c0 38)) then if (σ (RF c0 38) (Int.toNat x1)) = (-1) then (some ((-11), σ)) else (if inb x1 (LN (RF c0 38)) then if (σ (RF c0 38) (Int.toNat x1)) = 0 then (some (0, σ)) else (some ((-12), σ)) else none) else none
def fX10_noBook (c0 : Nat) (x1 : Int) (σ : St) : Option (Int × St) := if x1 < 0 then (some ((-1), σ)) else (Option.bind (fX10_isShelf (i_div x1 10) σ) fun q1 => if q1.1 = 0 then (some ((-1), q1.2)) else (Option.bind (fX10_isShelf (i_rem x1 10) q1.2) fun q2 => if q2.1 = 0 then (some ((-1), q2.2)) else (Option.bind (fX10_noBytes c0 (i_div x1 10) q2.2) fun q3 => if 0 ≤ q3.1 then (Option.bind (fX10_noBytes c0 (i_rem x1 10) q3.2) fun q4 => some (q4.1, q4.2)) else (some (q3.1, q3.2)))))
def fX10_judge (c0 : Nat) (x1 : Int) (σ : St) : Option (Int × St) := Option.bind (fX10_noBook c0 x1 σ) fun q1 => if 0 ≤ q1.1 then (Option.bind (fX10_unlike c0 x1 q1.2) fun q2 => some (q2.1, q2.2)) else (some (q1.1, q1.2))
def fX5_add (c0 : Nat) (x1 : Int) (σ : St) : Option (Int × St) := if 50 ≤ (σ c0 2) then (some (σ c0 2, σ)) else (if inb (σ c0 2) (LN (RF c0 0)) then some (σ c0 2, up (up σ (RF c0 0) (Int.toNat (σ c0 2)) x1) c0 2 (i_add ((up σ (RF c0 0) (Int.toNat (σ c0 2)) x1) c0 2) 1)) else none)
def fX5_isFull (c0 : Nat) (σ : St) : Option (Int × St) := if (σ c0 2) < 50 then (some (0, σ)) else (some (1, σ))
def fX9_body (c0 : Nat) (x1 : Int) (σ : St) : Option (Int × St) := if x1 < 0 then (some ((-1), σ)) else (if x1 < 8 then (Option.bind (fX5_isFull (RF c0 7) σ) fun q1 => if q1.1 = 0 then (Option.bind (fX5_add (RF c0 7) x1 q1.2) fun q2 => some (q2.1, q2.2)) else (some ((-3), q1.2))) else (some ((-1), σ)))
def fX10_after_123 (c0 : Nat) (x1 : Int) (x2 : Int) (x3 : Int) (k76 : Int → Int → Int → Int → St → Option (Int × St)) (x5 : Int) (x6 : Int) (x7 : Int) (x8 : Int) (σ : St) : Option (Int × St) := k76 x5 x6 x7 (i_add x8 1) σ
def fX10_after_142 (c0 : Nat) (x1 : Int) (x2 : Int) (x3 : Int) (x5 : Int) (x6 : Int) (y0 : Int) (σ : St) : Option (Int × St) := Option.bind (fX10_laysBack_ c0 σ) fun q1 => if x3 = 0 then (some (y0, q1)) else (if x3 = 1 then (some (x5, q1)) else (some (x6, q1)))
def fX10_after_76 (c0 : Nat) (x1 : Int) (x2 : Int) (x3 : Int) : Nat → Int → Int → Int → Int → St → Option (Int × St)
  | 0, _, _, _, _, _ => none
  | n + 1, x5, x6, x7, x8, σ => if x7 ≤ x8 then (if x3 = 0 then (Option.bind (fX10_countOf c0 x2 σ) fun q1 => fX10_after_142 c0 x1 x2 x3 x5 x6 q1.1 q1.2) else (fX10_after_142 c0 x1 x2 x3 x5 x6 0 σ)) else (Option.bind (fX10_toldAt c0 x1 x8 σ) fun q2 => Option.bind (fX10_goes c0 q2.1 q2.2) fun q3 => if q3.1 = 8 then (fX10_after_123 c0 x1 x2 x3 (fX10_after_76 c0 x1 x2 x3 n) (i_add x5 1) x6 x7 x8 q3.2) else (Option.bind (fX10_within q3.1 0 6 q3.2) fun q4 => if q4.1 = 0 then (fX10_after_123 c0 x1 x2 x3 (fX10_after_76 c0 x1 x2 x3 n) x5 x6 x7 x8 q4.2) else (fX10_after_123 c0 x1 x2 x3 (fX10_after_76 c0 x1 x2 x3 n) x5 (i_add x6 1) x7 x8 q4.2)))
def fX10_after_37 (c0 : Nat) (x1 : Int) (x2 : Int) (x3 : Int) (σ : St) : Option (Int × St) := Option.bind (fX10_noBytes c0 x1 σ) fun q1 => if 0 ≤ q1.1 then (Option.bind (fX10_keeps c0 (RF c0 41) q1.2) fun q2 => Option.bind (fX10_listed c0 x1 q2) fun q3 => fX10_after_76 c0 x1 x2 x3 FU 0 0 q3.1 0 q3.2) else (some (q1.1, q1.2))
def fX10_after (c0 : Nat) (x1 : Int) (x2 : Int) (x3 : Int) (σ : St) : Option (Int × St) := Option.bind (fX10_isShelf x1 σ) fun q1 => if q1.1 = 0 then (some ((-1), q1.2)) else (Option.bind (fX10_within x3 0 2 q1.2) fun q2 => if q2.1 = 0 then (some ((-1), q2.2)) else (if x3 = 0 then (Option.bind (fX10_isOne c0 x2 q2.2) fun q3 => if q3.1 = 0 then (some ((-1), q3.2)) else (fX10_after_37 c0 x1 x2 x3 q3.2)) else (if x2 = 0 then (fX10_after_37 c0 x1 x2 x3 q2.2) else (some ((-1), q2.2)))))
def fX9_wins (c0 : Nat) (x1 : Int) (σ : St) : Option (Int × St) := Option.bind (fX2_hasThing (RF c0 0) x1 σ) fun q1 => if q1.1 = 0 then (some ((-1), q1.2)) else (Option.bind (fX7_begin (RF c0 2) (RF c0 0) q1.2) fun q2 => Option.bind (fX7_considers (RF c0 2) x1 q2) fun q3 => Option.bind (fX7_winner (RF c0 2) q3) fun q4 => some (q4.1, q4.2))
def fX10_orders_69 (cl : Nat → List Int → St → Option (Int × St)) (c0 : Nat) (x1 : Int) (x2 : Int) (x3 : Int) : Nat → Int → St → Option (St)
  | 0, _, _ => none
  | n + 1, x5, σ => if x1 ≤ x5 then (some σ) else (if inb x5 (LN (RF c0 42)) then if inb x5 (LN (RF c0 43)) then fX10_orders_69 cl c0 x1 x2 x3 n (i_add x5 1) (up σ (RF c0 43) (Int.toNat x5) (σ (RF c0 42) (Int.toNat x5))) else none else none)
def fX10_orders_15 (cl : Nat → List Int → St → Option (Int × St)) (c0 : Nat) (x1 : Int) (x2 : Int) (x3 : Int) : Nat → Int → St → Option (St)
  | 0, _, _ => none
  | n + 1, x4, σ => if x1 ≤ x4 then (Option.bind (fX10_countOf c0 x3 σ) fun q1 => Option.bind (fX10_laysBack_ c0 q1.2) fun q2 => if (q2 c0 44) < q1.1 then (fX10_orders_69 cl c0 x1 x2 x3 FU 0 (up q2 c0 44 q1.1)) else (some q2)) else (if inb x4 (LN (RF c0 42)) then Option.bind (fX10_goes c0 (σ (RF c0 42) (Int.toNat x4)) σ) fun q3 => fX10_orders_15 cl c0 x1 x2 x3 n (i_add x4 1) q3.2 else none)
def fX10_orders_144 (cl : Nat → List Int → St → Option (Int × St)) (c0 : Nat) (x1 : Int) (x2 : Int) (x3 : Int) (k99 : Int → St → Option (St)) (x4 : Int) (σ : St) : Option (St) := k99 (i_add x4 1) σ
def fX10_orders_99 (cl : Nat → List Int → St → Option (Int × St)) (c0 : Nat) (x1 : Int) (x2 : Int) (x3 : Int) : Nat → Int → St → Option (St)
  | 0, _, _ => none
  | n + 1, x4, σ => if (σ c0 0) ≤ x4 then (some σ) else (if (i_and (i_shr x2 x4) 1) = 0 then (fX10_orders_144 cl c0 x1 x2 x3 (fX10_orders_99 cl c0 x1 x2 x3 n) x4 σ) else (if inb x1 (LN (RF c0 42)) then Option.bind (cl 0 [i_add x1 1, i_and x2 (i_xor (i_shl 1 x4) (-1)), x3] (up σ (RF c0 42) (Int.toNat x1) x4)) fun q1 => fX10_orders_144 cl c0 x1 x2 x3 (fX10_orders_99 cl c0 x1 x2 x3 n) x4 q1.2 else none))
def fX10_orders (cl : Nat → List Int → St → Option (Int × St)) (c0 : Nat) (x1 : Int) (x2 : Int) (x3 : Int) (σ : St) : Option (St) := if x2 = 0 then (Option.bind (fX10_keeps c0 (RF c0 41) σ) fun q1 => fX10_orders_15 cl c0 x1 x2 x3 FU 0 q1) else (fX10_orders_99 cl c0 x1 x2 x3 FU 0 σ)
def gX10_orders (c0 : Nat) : Nat → Nat → List Int → St → Option (Int × St)
  | 0, _, _, _ => none
  | d + 1, 0, [a0, a1, a2], σ => Option.bind (fX10_orders (gX10_orders c0 d) c0 a0 a1 a2 σ) fun q => some (0, q)
  | _ + 1, _, _, _ => none
def hX10_orders (c0 : Nat) (a0 : Int) (a1 : Int) (a2 : Int) (σ : St) : Option (St) := Option.bind (gX10_orders c0 DEP 0 [a0, a1, a2] σ) fun q => some q.2
def fX10_bestOrder (c0 : Nat) (x1 : Int) (x2 : Int) (σ : St) : Option (Int × St) := Option.bind (fX10_isOne c0 x1 σ) fun q1 => if q1.1 = 0 then (some ((-1), q1.2)) else (if (-1) ≤ x2 then (Option.bind (fX10_forSale c0 q1.2) fun q2 => Option.bind (fJ6_bitCount_0f7a4 q2.1 q2.2) fun q3 => if q3.1 ≤ 5 then (Option.bind (hX10_orders c0 0 q2.1 x1 (up q3.2 c0 44 (-1))) fun q4 => if x2 = (-1) then (some (q4 c0 44, q4)) else (Option.bind (fJ6_bitCount_0f7a4 q2.1 q4) fun q5 => if q5.1 ≤ x2 then (some ((-2), q5.2)) else (if inb x2 (LN (RF c0 43)) then some (q5.2 (RF c0 43) (Int.toNat x2), q5.2) else none))) else (some ((-5), q3.2))) else (some ((-1), q1.2)))
def fX0_unmake (c0 : Nat) (c1 : Nat) (σ : St) : Option (Int × St) := if (σ c0 1) ≤ 0 then (some (σ c0 1, σ)) else (if inb (i_mul ((up (up σ c0 1 (i_sub (σ c0 1) 1)) c0 2 (i_add ((up σ c0 1 (i_sub (σ c0 1) 1)) c0 2) 1)) c0 1) 4) (LN (RF c0 0)) then if inb (i_add (i_mul ((up (up σ c0 1 (i_sub (σ c0 1) 1)) c0 2 (i_add ((up σ c0 1 (i_sub (σ c0 1) 1)) c0 2) 1)) c0 1) 4) 1) (LN (RF c0 0)) then if inb (i_add (i_mul ((up (up σ c0 1 (i_sub (σ c0 1) 1)) c0 2 (i_add ((up σ c0 1 (i_sub (σ c0 1) 1)) c0 2) 1)) c0 1) 4) 2) (LN (RF c0 0)) then Option.bind (fX2_become c1 ((up (up σ c0 1 (i_sub (σ c0 1) 1)) c0 2 (i_add ((up σ c0 1 (i_sub (σ c0 1) 1)) c0 2) 1)) (RF c0 0) (Int.toNat (i_mul ((up (up σ c0 1 (i_sub (σ c0 1) 1)) c0 2 (i_add ((up σ c0 1 (i_sub (σ c0 1) 1)) c0 2) 1)) c0 1) 4))) ((up (up σ c0 1 (i_sub (σ c0 1) 1)) c0 2 (i_add ((up σ c0 1 (i_sub (σ c0 1) 1)) c0 2) 1)) (RF c0 0) (Int.toNat (i_add (i_mul ((up (up σ c0 1 (i_sub (σ c0 1) 1)) c0 2 (i_add ((up σ c0 1 (i_sub (σ c0 1) 1)) c0 2) 1)) c0 1) 4) 1))) ((up (up σ c0 1 (i_sub (σ c0 1) 1)) c0 2 (i_add ((up σ c0 1 (i_sub (σ c0 1) 1)) c0 2) 1)) (RF c0 0) (Int.toNat (i_add (i_mul ((up (up σ c0 1 (i_sub (σ c0 1) 1)) c0 2 (i_add ((up σ c0 1 (i_sub (σ c0 1) 1)) c0 2) 1)) c0 1) 4) 2))) (up (up σ c0 1 (i_sub (σ c0 1) 1)) c0 2 (i_add ((up σ c0 1 (i_sub (σ c0 1) 1)) c0 2) 1))) fun q1 => some (q1 c0 1, q1) else none else none else none)
def fX9_undo (c0 : Nat) (σ : St) : Option (Int × St) := if (σ (RF c0 5) 1) = 0 then (some ((-5), σ)) else (Option.bind (fX0_unmake (RF c0 5) (RF c0 0) σ) fun q1 => some (q1.1, q1.2))
def fX3_takes (c0 : Nat) (c1 : Nat) (c2 : Nat) (σ : St) : Option (St) := Option.bind (fX2_copies (RF c0 0) c1 σ) fun q1 => if inc 0 0 5 (LN c2) (LN (RF c0 1)) then some (up (cpy q1 c2 (Int.toNat 0) (RF c0 1) (Int.toNat 0) (Int.toNat 5)) c0 2 1) else none
def fX9_image (c0 : Nat) (σ : St) : Option (Int × St) := Option.bind (fX3_takes (RF c0 6) (RF c0 0) (RF c0 9) σ) fun q1 => if inb 4 (LN (RF c0 9)) then some (q1 (RF c0 9) (Int.toNat 4), q1) else none
def fX9_slip (c0 : Nat) (x1 : Int) (x2 : Int) (σ : St) : Option (Int × St) := Option.bind (fX2_hasBidder (RF c0 0) x1 σ) fun q1 => if q1.1 = 0 then (some ((-1), q1.2)) else (if x2 < 0 then (some ((-1), q1.2)) else (if x2 ≤ 1 then (Option.bind (fX2_number (RF c0 0) x1 8 q1.2) fun q2 => Option.bind (fX2_become (RF c0 0) x1 8 x2 q2.2) fun q3 => if inb 3 (LN (RF c0 9)) then if inb 3 (LN (RF c0 9)) then some (q2.1, up q3 (RF c0 9) (Int.toNat 3) (i_add (q3 (RF c0 9) (Int.toNat 3)) x2)) else none else none) else (some ((-1), q1.2))))
def fX9_isPair (c0 : Nat) (x1 : Int) (σ : St) : Option (Int × St) := if x1 < 0 then (some (0, σ)) else (Option.bind (fX2_hasBidder (RF c0 0) (i_div x1 10) σ) fun q1 => if q1.1 = 0 then (some (0, q1.2)) else (Option.bind (fX2_hasThing (RF c0 0) (i_rem x1 10) q1.2) fun q2 => if q2.1 = 0 then (some (0, q2.2)) else (some (1, q2.2))))
def fX9_feign_39 (c0 : Nat) (x1 : Int) : Nat → Int → Int → St → Option (Int × St)
  | 0, _, _, _ => none
  | n + 1, x2, x3, σ => if inb 7 (List.length stv0) then if (stv0.getD (Int.toNat 7) 0) < x3 then (some ((-2), σ)) else (Option.bind (fX2_become (RF (RF c0 2) 0) x2 7 x3 σ) fun q1 => Option.bind (fX7_winner (RF c0 2) q1) fun q2 => if q2.1 = x2 then (some (x3, q2.2)) else (fX9_feign_39 c0 x1 n x2 (i_add x3 1) q2.2)) else none
def fX9_feign (c0 : Nat) (x1 : Int) (σ : St) : Option (Int × St) := Option.bind (fX9_isPair c0 x1 σ) fun q1 => if q1.1 = 0 then (some ((-1), q1.2)) else (Option.bind (fX7_begin (RF c0 2) (RF c0 0) q1.2) fun q2 => Option.bind (fX7_considers (RF c0 2) (i_rem x1 10) q2) fun q3 => fX9_feign_39 c0 x1 FU (i_div x1 10) 0 q3)
def fX4_isTapeFull (c0 : Nat) (σ : St) : Option (Int × St) := if (σ c0 5) < 120 then (some (0, σ)) else (some (1, σ))
def fX4_comes (c0 : Nat) (x1 : Int) (σ : St) : Option (Int × St) := if 120 ≤ (σ c0 5) then (some (σ c0 5, σ)) else (if inb (σ c0 5) (LN (RF c0 0)) then some ((up (up σ (RF c0 0) (Int.toNat (σ c0 5)) x1) c0 5 (i_add ((up σ (RF c0 0) (Int.toNat (σ c0 5)) x1) c0 5) 1)) c0 5, up (up σ (RF c0 0) (Int.toNat (σ c0 5)) x1) c0 5 (i_add ((up σ (RF c0 0) (Int.toNat (σ c0 5)) x1) c0 5) 1)) else none)
def fX9_feed (c0 : Nat) (x1 : Int) (σ : St) : Option (Int × St) := if x1 < 0 then (some ((-1), σ)) else (if x1 ≤ 255 then (Option.bind (fX4_isTapeFull (RF c0 1) σ) fun q1 => if q1.1 = 0 then (Option.bind (fX4_comes (RF c0 1) x1 q1.2) fun q2 => some (q2.1, q2.2)) else (some ((-3), q1.2))) else (some ((-1), σ)))
def fX5_own (cl : Nat → List Int → St → Option (Int × St)) (c0 : Nat) (x1 : Int) (x2 : Int) (x3 : Int) (σ : St) : Option (Int × St) := if inb (σ c0 4) (LN (RF c0 0)) then Option.bind (cl 2 [σ (RF c0 0) (Int.toNat (σ c0 4)), x1, x2, x3] σ) fun q1 => some (q1.1, q1.2) else none
def fX5_runBody_19 (cl : Nat → List Int → St → Option (Int × St)) (c0 : Nat) (x1 : Int) (x2 : Int) (x3 : Int) (x4 : Int) (σ : St) : Option (Int × St) := if x1 = 1 then (some (i_add x3 ((up σ c0 3 (i_add (σ c0 3) 1)) c0 4), up σ c0 3 (i_add (σ c0 3) 1))) else if x1 = 2 then (Option.bind (cl 0 [1, x3, x4] (up σ c0 3 (i_add (σ c0 3) 1))) fun q2 => Option.bind (cl 0 [2, 1, x4] q2.2) fun q3 => some (i_sub q2.1 q3.1, q3.2)) else if x1 = 10 then (Option.bind (cl 0 [0, x3, x4] (up σ c0 3 (i_add (σ c0 3) 1))) fun q5 => some (i_mul q5.1 2, q5.2)) else if x1 = 11 then (some (i_xor x3 ((up σ c0 3 (i_add (σ c0 3) 1)) c0 4), up σ c0 3 (i_add (σ c0 3) 1))) else if x1 = 20 then (Option.bind (cl 2 [x2, 0, x3, x4] (up σ c0 3 (i_add (σ c0 3) 1))) fun q8 => some (i_add q8.1 3, q8.2)) else if x1 = 30 then (Option.bind (cl 2 [x2, 1, x3, x4] (up σ c0 3 (i_add (σ c0 3) 1))) fun q10 => some (i_neg q10.1, q10.2)) else if x1 = 40 then (Option.bind (cl 2 [x2, 2, x3, x4] (up σ c0 3 (i_add (σ c0 3) 1))) fun q12 => some (i_mul q12.1 3, q12.2)) else if x1 = 41 then (Option.bind (cl 2 [x2, 1, i_add x3 1, x4] (up σ c0 3 (i_add (σ c0 3) 1))) fun q14 => some (q14.1, q14.2)) else if x1 = 50 then (Option.bind (cl 2 [x2, 2, x3, x4] (up σ c0 3 (i_add (σ c0 3) 1))) fun q16 => Option.bind (cl 0 [0, 2, x4] q16.2) fun q17 => some (i_sub q16.1 q17.1, q17.2)) else if x1 = 60 then (Option.bind (cl 2 [x2, 3, x3, x4] (up σ c0 3 (i_add (σ c0 3) 1))) fun q19 => some (i_xor q19.1 5, q19.2)) else if x1 = 70 then (Option.bind (cl 2 [x2, 0, x3, x4] (up σ c0 3 (i_add (σ c0 3) 1))) fun q21 => some (i_mul q21.1 2, q21.2)) else if x1 = 80 then (Option.bind (cl 2 [x2, 1, x3, x4] (up σ c0 3 (i_add (σ c0 3) 1))) fun q23 => Option.bind (cl 0 [2, 2, x4] q23.2) fun q24 => some (i_add q23.1 q24.1, q24.2)) else if x1 = 81 then (Option.bind (cl 2 [x2, 3, x3, x4] (up σ c0 3 (i_add (σ c0 3) 1))) fun q26 => some (i_sub q26.1 1, q26.2)) else (some (0, up σ c0 3 (i_add (σ c0 3) 1)))
def fX5_runBody (cl : Nat → List Int → St → Option (Int × St)) (c0 : Nat) (x1 : Int) (x2 : Int) (x3 : Int) (x4 : Int) (σ : St) : Option (Int × St) := if 24 ≤ (σ c0 3) then (fX5_runBody_19 cl c0 x1 x2 x3 x4 σ) else (if inb (σ c0 3) (LN (RF c0 1)) then fX5_runBody_19 cl c0 x1 x2 x3 x4 (up σ (RF c0 1) (Int.toNat (σ c0 3)) x1) else none)
def fX5_runs_6 (cl : Nat → List Int → St → Option (Int × St)) (c0 : Nat) (x1 : Int) (x2 : Int) (x3 : Int) (x4 : Int) : Nat → Int → Int → St → Option (Int × St)
  | 0, _, _, _ => none
  | n + 1, x5, x6, σ => if 8 ≤ x6 then (some (0, σ)) else (if x5 < 0 then (some (0, σ)) else (if 8 ≤ x5 then (some (0, σ)) else (if inb (i_add (i_mul x5 4) x2) (List.length stv3) then if (stv3.getD (Int.toNat (i_add (i_mul x5 4) x2)) 0) = 0 then (if inb x5 (List.length stv2) then fX5_runs_6 cl c0 x1 x2 x3 x4 n (stv2.getD (Int.toNat x5) 0) (i_add x6 1) σ else none) else (if 40 ≤ x4 then (some (0, σ)) else (if inb x5 (List.length stv2) then Option.bind (cl 1 [stv3.getD (Int.toNat (i_add (i_mul x5 4) x2)) 0, stv2.getD (Int.toNat x5) 0, x3, i_add x4 1] σ) fun q1 => some (q1.1, q1.2) else none)) else none)))
def fX5_runs (cl : Nat → List Int → St → Option (Int × St)) (c0 : Nat) (x1 : Int) (x2 : Int) (x3 : Int) (x4 : Int) (σ : St) : Option (Int × St) := fX5_runs_6 cl c0 x1 x2 x3 x4 FU x1 0 σ
def gX5_own (c0 : Nat) : Nat → Nat → List Int → St → Option (Int × St)
  | 0, _, _, _ => none
  | d + 1, 0, [a0, a1, a2], σ => fX5_own (gX5_own c0 d) c0 a0 a1 a2 σ
  | d + 1, 1, [a0, a1, a2, a3], σ => fX5_runBody (gX5_own c0 d) c0 a0 a1 a2 a3 σ
  | d + 1, 2, [a0, a1, a2, a3], σ => fX5_runs (gX5_own c0 d) c0 a0 a1 a2 a3 σ
  | _ + 1, _, _, _ => none
def hX5_own (c0 : Nat) (a0 : Int) (a1 : Int) (a2 : Int) (σ : St) : Option (Int × St) := gX5_own c0 DEP 0 [a0, a1, a2] σ
def hX5_runBody (c0 : Nat) (a0 : Int) (a1 : Int) (a2 : Int) (a3 : Int) (σ : St) : Option (Int × St) := gX5_own c0 DEP 1 [a0, a1, a2, a3] σ
def hX5_runs (c0 : Nat) (a0 : Int) (a1 : Int) (a2 : Int) (a3 : Int) (σ : St) : Option (Int × St) := gX5_own c0 DEP 2 [a0, a1, a2, a3] σ
def fX5_acts (c0 : Nat) (x1 : Int) (x2 : Int) (x3 : Int) (σ : St) : Option (Int × St) := Option.bind (fX5_has c0 x1 (up σ c0 3 0)) fun q1 => if q1.1 = 0 then (some (0, q1.2)) else (if x2 < 0 then (some (0, q1.2)) else (if x2 < 4 then (if inb x1 (LN (RF c0 0)) then Option.bind (hX5_runs c0 ((up q1.2 c0 4 x1) (RF c0 0) (Int.toNat x1)) x2 x3 0 (up q1.2 c0 4 x1)) fun q2 => some (q2.1, q2.2) else none) else (some (0, q1.2))))
def fX9_act (c0 : Nat) (x1 : Int) (x2 : Int) (x3 : Int) (σ : St) : Option (Int × St) := Option.bind (fX5_acts (RF c0 7) x1 x2 x3 σ) fun q1 => some (q1.1, q1.2)
def fX10_body (c0 : Nat) (x1 : Int) (σ : St) : Option (Int × St) := Option.bind (fX10_within x1 0 7 σ) fun q1 => if q1.1 = 0 then (some ((-1), q1.2)) else (if (q1.2 c0 34) = 50 then (some ((-3), q1.2)) else (if inb (q1.2 c0 34) (LN (RF c0 35)) then some ((up q1.2 (RF c0 35) (Int.toNat (q1.2 c0 34)) x1) c0 34, up (up q1.2 (RF c0 35) (Int.toNat (q1.2 c0 34)) x1) c0 34 (i_add ((up q1.2 (RF c0 35) (Int.toNat (q1.2 c0 34)) x1) c0 34) 1)) else none))
def fX10_years (c0 : Nat) (x1 : Int) (x2 : Int) (σ : St) : Option (Int × St) := if x1 < 0 then (some ((-1), σ)) else (Option.bind (fX10_isOne c0 (i_div x1 10) σ) fun q1 => if q1.1 = 0 then (some ((-1), q1.2)) else (Option.bind (fX10_isThing c0 (i_rem x1 10) q1.2) fun q2 => if q2.1 = 0 then (some ((-1), q2.2)) else (Option.bind (fX10_within x2 0 1 q2.2) fun q3 => if q3.1 = 0 then (some ((-1), q3.2)) else (if x2 = 0 then (Option.bind (fX10_wouldMiss c0 (i_div x1 10) (i_rem x1 10) q3.2) fun q5 => some (q5.1, q5.2)) else (Option.bind (fX10_bidOf c0 (i_div x1 10) (i_rem x1 10) q3.2) fun q4 => some (q4.1, q4.2))))))
def fX10_slip (c0 : Nat) (x1 : Int) (x2 : Int) (σ : St) : Option (Int × St) := Option.bind (fX10_isOne c0 x1 σ) fun q1 => if q1.1 = 0 then (some ((-1), q1.2)) else (Option.bind (fX10_within x2 0 1 q1.2) fun q2 => if q2.1 = 0 then (some ((-1), q2.2)) else (if inb (i_add 28 x1) (LN (RF c0 6)) then if inb (i_add 28 x1) (LN (RF c0 6)) then if inb 3 (LN (RF c0 25)) then if inb 3 (LN (RF c0 25)) then some (q2.2 (RF c0 6) (Int.toNat (i_add 28 x1)), up (up q2.2 (RF c0 6) (Int.toNat (i_add 28 x1)) x2) (RF c0 25) (Int.toNat 3) (i_add ((up q2.2 (RF c0 6) (Int.toNat (i_add 28 x1)) x2) (RF c0 25) (Int.toNat 3)) x2)) else none else none else none else none))
def fX10_shift_142 (c0 : Nat) (x1 : Int) (x2 : Int) (x3 : Int) (x4 : Int) (x5 : Int) : Nat → Int → St → Option (Int × St)
  | 0, _, _ => none
  | n + 1, x6, σ => if x6 < 0 then (some (x5, σ)) else (if inb (i_add (i_add (i_mul 60 x1) x2) x6) (LN (RF c0 40)) then if inb (i_add (i_add (i_mul 60 x3) x4) x6) (LN (RF c0 40)) then fX10_shift_142 c0 x1 x2 x3 x4 x5 n (i_add x6 (-1)) (up σ (RF c0 40) (Int.toNat (i_add (i_add (i_mul 60 x3) x4) x6)) (σ (RF c0 40) (Int.toNat (i_add (i_add (i_mul 60 x1) x2) x6)))) else none else none)
def fX10_shift_188 (c0 : Nat) (x1 : Int) (x2 : Int) (x3 : Int) (x4 : Int) (x5 : Int) : Nat → Int → St → Option (Int × St)
  | 0, _, _ => none
  | n + 1, x6, σ => if x5 ≤ x6 then (some (x5, σ)) else (if inb (i_add (i_add (i_mul 60 x1) x2) x6) (LN (RF c0 40)) then if inb (i_add (i_add (i_mul 60 x3) x4) x6) (LN (RF c0 40)) then fX10_shift_188 c0 x1 x2 x3 x4 x5 n (i_add x6 1) (up σ (RF c0 40) (Int.toNat (i_add (i_add (i_mul 60 x3) x4) x6)) (σ (RF c0 40) (Int.toNat (i_add (i_add (i_mul 60 x1) x2) x6)))) else none else none)
def fX10_shift_185 (c0 : Nat) (x1 : Int) (x2 : Int) (x3 : Int) (x4 : Int) (x5 : Int) (σ : St) : Option (Int × St) := fX10_shift_188 c0 x1 x2 x3 x4 x5 FU 0 σ
def fX10_shift (c0 : Nat) (x1 : Int) (x2 : Int) (x3 : Int) (x4 : Int) (x5 : Int) (σ : St) : Option (Int × St) := Option.bind (fX10_isShelf x1 σ) fun q1 => if q1.1 = 0 then (some ((-1), q1.2)) else (Option.bind (fX10_isShelf x3 q1.2) fun q2 => if q2.1 = 0 then (some ((-1), q2.2)) else (if inb x1 (LN (RF c0 38)) then if (q2.2 (RF c0 38) (Int.toNat x1)) = (-1) then (some ((-11), q2.2)) else (if inb x3 (LN (RF c0 38)) then if (q2.2 (RF c0 38) (Int.toNat x3)) = (-1) then (some ((-11), q2.2)) else (Option.bind (fX10_isRow c0 x1 q2.2) fun q3 => if q3.1 = 0 then (some ((-12), q3.2)) else (Option.bind (fX10_isRow c0 x3 q3.2) fun q4 => if q4.1 = 0 then (some ((-12), q4.2)) else (if inb x1 (LN (RF c0 38)) then if inb x3 (LN (RF c0 38)) then if (q4.2 (RF c0 38) (Int.toNat x1)) = (q4.2 (RF c0 38) (Int.toNat x3)) then (if x5 < 0 then (some ((-13), q4.2)) else (if x2 < 0 then (some ((-13), q4.2)) else (if x4 < 0 then (some ((-13), q4.2)) else (if inb x1 (LN (RF c0 39)) then if 0 < (l_cmp (l_add (c_i2l x2) (c_i2l x5)) (c_i2l (q4.2 (RF c0 39) (Int.toNat x1)))) then (some ((-13), q4.2)) else (if inb x3 (LN (RF c0 39)) then if (l_cmp (l_add (c_i2l x4) (c_i2l x5)) (c_i2l (q4.2 (RF c0 39) (Int.toNat x3)))) ≤ 0 then (if x1 = x3 then (if x4 ≤ x2 then (fX10_shift_185 c0 x1 x2 x3 x4 x5 q4.2) else (fX10_shift_142 c0 x1 x2 x3 x4 x5 FU (i_sub x5 1) q4.2)) else (fX10_shift_185 c0 x1 x2 x3 x4 x5 q4.2)) else (some ((-13), q4.2)) else none) else none)))) else (some ((-12), q4.2)) else none else none))) else none) else none))
def fX10_count (c0 : Nat) (x1 : Int) (σ : St) : Option (Int × St) := if x1 = 0 then (some (σ c0 0, σ)) else if x1 = 1 then (some (σ c0 5, σ)) else if x1 = 2 then (some (σ c0 7, σ)) else if x1 = 3 then (some (σ c0 32, σ)) else if x1 = 4 then (some (σ c0 34, σ)) else if x1 = 5 then (some (σ c0 36, σ)) else (some ((-1), σ))
def fX10_get (c0 : Nat) (x1 : Int) (x2 : Int) (σ : St) : Option (Int × St) := if x2 = 0 then (if inb x1 (LN (RF c0 1)) then some (σ (RF c0 1) (Int.toNat x1), σ) else none) else if x2 = 1 then (if inb x1 (LN (RF c0 2)) then some (σ (RF c0 2) (Int.toNat x1), σ) else none) else if x2 = 2 then (if inb x1 (LN (RF c0 3)) then some (σ (RF c0 3) (Int.toNat x1), σ) else none) else if x2 = 3 then (if inb x1 (LN (RF c0 4)) then some (σ (RF c0 4) (Int.toNat x1), σ) else none) else (if inb (i_add (i_mul 7 (i_sub x2 4)) x1) (LN (RF c0 6)) then some (σ (RF c0 6) (Int.toNat (i_add (i_mul 7 (i_sub x2 4)) x1)), σ) else none)
def fX10_fits_117 (c0 : Nat) (x1 : Int) (x2 : Int) (x3 : Int) (k83 : Int → Int → Int → Int → Int → St → Option (Int × St)) (x5 : Int) (x6 : Int) (x7 : Int) (x8 : Int) (x9 : Int) (σ : St) : Option (Int × St) := k83 x5 x6 x7 x8 (i_add x9 (-1)) σ
def fX10_fits_83 (c0 : Nat) (x1 : Int) (x2 : Int) (x3 : Int) : Nat → Int → Int → Int → Int → Int → St → Option (Int × St)
  | 0, _, _, _, _, _, _ => none
  | n + 1, x5, x6, x7, x8, x9, σ => if x9 < 0 then (Option.bind (fX10_becomes c0 x2 x5 x6 σ) fun q1 => if (i_rem x3 2) = 0 then (some (x7, q1)) else (some (x8, q1))) else (Option.bind (fX10_becomes c0 x2 x5 x9 σ) fun q2 => Option.bind (fX10_unlike c0 x1 q2) fun q3 => if q3.1 = (-2) then (fX10_fits_117 c0 x1 x2 x3 (fX10_fits_83 c0 x1 x2 x3 n) x5 x6 (i_add x7 1) x9 x9 q3.2) else (fX10_fits_117 c0 x1 x2 x3 (fX10_fits_83 c0 x1 x2 x3 n) x5 x6 x7 x8 x9 q3.2))
def fX10_fits_81 (c0 : Nat) (x1 : Int) (x2 : Int) (x3 : Int) (x5 : Int) (x6 : Int) (x7 : Int) (x8 : Int) (y0 : Int) (σ : St) : Option (Int × St) := fX10_fits_83 c0 x1 x2 x3 FU x5 x6 x7 x8 y0 σ
def fX10_fits_50 (c0 : Nat) (x1 : Int) (x2 : Int) (x3 : Int) (y0 : Int) (σ : St) : Option (Int × St) := Option.bind (fX10_get c0 x2 y0 σ) fun q1 => if y0 = 4 then (fX10_fits_81 c0 x1 x2 x3 y0 q1.1 0 (-2) 9 q1.2) else (fX10_fits_81 c0 x1 x2 x3 y0 q1.1 0 (-2) 99 q1.2)
def fX10_fits (c0 : Nat) (x1 : Int) (x2 : Int) (x3 : Int) (σ : St) : Option (Int × St) := Option.bind (fX10_noBook c0 x1 σ) fun q1 => if q1.1 = (-1) then (some ((-1), q1.2)) else (Option.bind (fX10_isOne c0 x2 q1.2) fun q2 => if q2.1 = 0 then (some ((-1), q2.2)) else (Option.bind (fX10_within x3 0 3 q2.2) fun q3 => if q3.1 = 0 then (some ((-1), q3.2)) else (if 0 ≤ q1.1 then (if 2 ≤ x3 then (fX10_fits_50 c0 x1 x2 x3 5 q3.2) else (fX10_fits_50 c0 x1 x2 x3 4 q3.2)) else (some (q1.1, q3.2)))))
def fX7_unsellsOne (c0 : Nat) (x1 : Int) (x2 : Int) (σ : St) : Option (St) := if x2 = 9 then (some σ) else (if x2 = (-2) then (some σ) else (if x2 = 8 then (some (up (up σ c0 8 (i_or (σ c0 8) (i_shl 1 x1))) c0 11 (i_sub ((up σ c0 8 (i_or (σ c0 8) (i_shl 1 x1))) c0 11) 1))) else (Option.bind (fX2_hasBidder (RF c0 0) x2 (up σ c0 8 (i_or (σ c0 8) (i_shl 1 x1)))) fun q1 => if q1.1 = 0 then (some q1.2) else (if inb x2 (LN (RF c0 2)) then if inb x2 (LN (RF c0 2)) then some (up (up q1.2 c0 10 (i_sub (q1.2 c0 10) 1)) (RF c0 2) (Int.toNat x2) (i_sub ((up q1.2 c0 10 (i_sub (q1.2 c0 10) 1)) (RF c0 2) (Int.toNat x2)) 1)) else none else none))))
def fX8_tryOrder_129 (cl : Nat → List Int → St → Option (Int × St)) (c0 : Nat) (x1 : Int) (x2 : Int) (x3 : Int) (k68 : Int → Int → St → Option (St)) (x4 : Int) (x5 : Int) (σ : St) : Option (St) := k68 x4 (i_add x5 1) σ
def fX8_tryOrder_68 (cl : Nat → List Int → St → Option (Int × St)) (c0 : Nat) (x1 : Int) (x2 : Int) (x3 : Int) : Nat → Int → Int → St → Option (St)
  | 0, _, _, _ => none
  | n + 1, x4, x5, σ => if 8 ≤ x5 then (some σ) else (if (i_and (i_shr x4 x5) 1) = 0 then (fX8_tryOrder_129 cl c0 x1 x2 x3 (fX8_tryOrder_68 cl c0 x1 x2 x3 n) x4 x5 σ) else (if inb x2 (LN (RF c0 1)) then Option.bind (fX7_sellsOne (RF c0 0) x5 (up σ (RF c0 1) (Int.toNat x2) x5)) fun q1 => Option.bind (cl 0 [x1, i_add x2 1, i_or x3 (i_shl 1 x5)] q1.2) fun q2 => Option.bind (fX7_unsellsOne (RF c0 0) x5 q1.1 q2.2) fun q3 => fX8_tryOrder_129 cl c0 x1 x2 x3 (fX8_tryOrder_68 cl c0 x1 x2 x3 n) x4 x5 q3 else none))
def fX8_tryOrder (cl : Nat → List Int → St → Option (Int × St)) (c0 : Nat) (x1 : Int) (x2 : Int) (x3 : Int) (σ : St) : Option (St) := if x2 < (σ c0 4) then (fX8_tryOrder_68 cl c0 x1 x2 x3 FU (i_and (σ (RF c0 0) 8) (i_xor x3 (-1))) 0 σ) else (if inb x1 (LN (RF (RF c0 0) 2)) then if (σ (RF (RF c0 0) 2) (Int.toNat x1)) ≤ (σ c0 3) then (some σ) else (if inb x1 (LN (RF (RF c0 0) 2)) then if inc 0 0 5 (LN (RF c0 1)) (LN (RF c0 2)) then some (cpy (up σ c0 3 (σ (RF (RF c0 0) 2) (Int.toNat x1))) (RF c0 1) (Int.toNat 0) (RF c0 2) (Int.toNat 0) (Int.toNat 5)) else none else none) else none)
def gX8_tryOrder (c0 : Nat) : Nat → Nat → List Int → St → Option (Int × St)
  | 0, _, _, _ => none
  | d + 1, 0, [a0, a1, a2], σ => Option.bind (fX8_tryOrder (gX8_tryOrder c0 d) c0 a0 a1 a2 σ) fun q => some (0, q)
  | _ + 1, _, _, _ => none
def hX8_tryOrder (c0 : Nat) (a0 : Int) (a1 : Int) (a2 : Int) (σ : St) : Option (St) := Option.bind (gX8_tryOrder c0 DEP 0 [a0, a1, a2] σ) fun q => some q.2
def fX8_orders (c0 : Nat) (x1 : Int) (x2 : Int) (σ : St) : Option (Int × St) := Option.bind (hX8_tryOrder c0 x1 0 0 (up (up σ c0 3 (-1)) c0 4 (m_min x2 5))) fun q1 => some (q1 c0 3, q1)
def fX9_bestOrder (c0 : Nat) (x1 : Int) (x2 : Int) (σ : St) : Option (Int × St) := Option.bind (fX2_hasBidder (RF c0 0) x1 σ) fun q1 => if q1.1 = 0 then (some ((-1), q1.2)) else (if (-1) ≤ x2 then (Option.bind (fX7_begin (RF c0 2) (RF c0 0) q1.2) fun q2 => Option.bind (fJ6_bitCount_0f7a4 (q2 (RF c0 2) 8) q2) fun q3 => if q3.1 ≤ 5 then (Option.bind (fX8_orders (RF c0 3) x1 q3.1 q3.2) fun q4 => if 0 ≤ x2 then (if q3.1 ≤ x2 then (some ((-2), q4.2)) else (if inb x2 (LN (RF (RF c0 3) 2)) then some (q4.2 (RF (RF c0 3) 2) (Int.toNat x2), q4.2) else none)) else (some (q4.1, q4.2))) else (some ((-5), q3.2))) else (some ((-1), q1.2)))
def fX10_above (x0 : Int) (σ : St) : Option (Int × St) := if x0 = 3 then (some (2, σ)) else if x0 = 4 then (some (1, σ)) else if x0 = 5 then (some (3, σ)) else if x0 = 7 then (some (4, σ)) else (some (0, σ))
def fX10_ran_19 (c0 : Nat) (x1 : Int) (σ : St) : Option (St) := some (up σ c0 36 (i_add (σ c0 36) 1))
def fX10_ran (c0 : Nat) (x1 : Int) (σ : St) : Option (St) := if 24 ≤ (σ c0 36) then (fX10_ran_19 c0 x1 σ) else (if inb (σ c0 36) (LN (RF c0 37)) then fX10_ran_19 c0 x1 (up σ (RF c0 37) (Int.toNat (σ c0 36)) x1) else none)
def fX10_bidsBy (cl : Nat → List Int → St → Option (Int × St)) (c0 : Nat) (x1 : Int) (x2 : Int) (x3 : Int) (σ : St) : Option (Int × St) := if x2 = 0 then (Option.bind (fX10_ran c0 1 σ) fun q1 => some (i_add x3 x1, q1)) else if x2 = 1 then (Option.bind (fX10_ran c0 20 σ) fun q3 => Option.bind (cl 0 [x1, 0, x3] q3) fun q4 => some (i_add q4.1 3, q4.2)) else if x2 = 6 then (Option.bind (fX10_ran c0 70 σ) fun q6 => Option.bind (cl 0 [x1, 0, x3] q6) fun q7 => some (i_mul q7.1 2, q7.2)) else (Option.bind (fX10_above x2 σ) fun q9 => Option.bind (cl 0 [x1, q9.1, x3] q9.2) fun q10 => some (q10.1, q10.2))
def gX10_bidsBy (c0 : Nat) : Nat → Nat → List Int → St → Option (Int × St)
  | 0, _, _, _ => none
  | d + 1, 0, [a0, a1, a2], σ => fX10_bidsBy (gX10_bidsBy c0 d) c0 a0 a1 a2 σ
  | _ + 1, _, _, _ => none
def hX10_bidsBy (c0 : Nat) (a0 : Int) (a1 : Int) (a2 : Int) (σ : St) : Option (Int × St) := gX10_bidsBy c0 DEP 0 [a0, a1, a2] σ
def fX10_losesBy (cl : Nat → List Int → St → Option (Int × St)) (c0 : Nat) (x1 : Int) (x2 : Int) (x3 : Int) (σ : St) : Option (Int × St) := if x2 = 0 then (Option.bind (fX10_ran c0 11 σ) fun q1 => some (i_xor x3 x1, q1)) else if x2 = 3 then (Option.bind (fX10_ran c0 40 σ) fun q3 => Option.bind (cl 0 [x1, 2, x3] q3) fun q4 => some (i_mul q4.1 3, q4.2)) else if x2 = 4 then (Option.bind (fX10_ran c0 50 σ) fun q6 => Option.bind (cl 0 [x1, 1, x3] q6) fun q7 => if inb x1 (LN (RF c0 35)) then Option.bind (hX10_bidsBy c0 x1 (q7.2 (RF c0 35) (Int.toNat x1)) 2 q7.2) fun q8 => some (i_sub q7.1 q8.1, q8.2) else none) else (Option.bind (fX10_above x2 σ) fun q10 => Option.bind (cl 0 [x1, q10.1, x3] q10.2) fun q11 => some (q11.1, q11.2))
def gX10_losesBy (c0 : Nat) : Nat → Nat → List Int → St → Option (Int × St)
  | 0, _, _, _ => none
  | d + 1, 0, [a0, a1, a2], σ => fX10_losesBy (gX10_losesBy c0 d) c0 a0 a1 a2 σ
  | _ + 1, _, _, _ => none
def hX10_losesBy (c0 : Nat) (a0 : Int) (a1 : Int) (a2 : Int) (σ : St) : Option (Int × St) := gX10_losesBy c0 DEP 0 [a0, a1, a2] σ
def fX10_missesBy (cl : Nat → List Int → St → Option (Int × St)) (c0 : Nat) (x1 : Int) (x2 : Int) (x3 : Int) (σ : St) : Option (Int × St) := if x2 = 0 then (Option.bind (fX10_ran c0 10 σ) fun q1 => if inb x1 (LN (RF c0 35)) then Option.bind (hX10_bidsBy c0 x1 (q1 (RF c0 35) (Int.toNat x1)) x3 q1) fun q2 => some (i_mul q2.1 2, q2.2) else none) else if x2 = 2 then (Option.bind (fX10_ran c0 30 σ) fun q4 => Option.bind (cl 0 [x1, 0, x3] q4) fun q5 => some (i_neg q5.1, q5.2)) else if x2 = 3 then (Option.bind (fX10_ran c0 41 σ) fun q7 => Option.bind (cl 0 [x1, 2, i_add x3 1] q7) fun q8 => some (q8.1, q8.2)) else if x2 = 7 then (Option.bind (fX10_ran c0 80 σ) fun q10 => Option.bind (cl 0 [x1, 4, x3] q10) fun q11 => if inb x1 (LN (RF c0 35)) then Option.bind (hX10_losesBy c0 x1 (q11.2 (RF c0 35) (Int.toNat x1)) 2 q11.2) fun q12 => some (i_add q11.1 q12.1, q12.2) else none) else (Option.bind (fX10_above x2 σ) fun q14 => Option.bind (cl 0 [x1, q14.1, x3] q14.2) fun q15 => some (q15.1, q15.2))
def gX10_missesBy (c0 : Nat) : Nat → Nat → List Int → St → Option (Int × St)
  | 0, _, _, _ => none
  | d + 1, 0, [a0, a1, a2], σ => fX10_missesBy (gX10_missesBy c0 d) c0 a0 a1 a2 σ
  | _ + 1, _, _, _ => none
def hX10_missesBy (c0 : Nat) (a0 : Int) (a1 : Int) (a2 : Int) (σ : St) : Option (Int × St) := gX10_missesBy c0 DEP 0 [a0, a1, a2] σ
def fX10_tells (cl : Nat → List Int → St → Option (Int × St)) (c0 : Nat) (x1 : Int) (x2 : Int) (x3 : Int) (σ : St) : Option (Int × St) := if x2 = 0 then (Option.bind (fX10_ran c0 2 σ) fun q1 => if inb x1 (LN (RF c0 35)) then Option.bind (hX10_missesBy c0 x1 (q1 (RF c0 35) (Int.toNat x1)) x3 q1) fun q2 => if inb x1 (LN (RF c0 35)) then Option.bind (hX10_losesBy c0 x1 (q2.2 (RF c0 35) (Int.toNat x1)) 1 q2.2) fun q3 => some (i_sub q2.1 q3.1, q3.2) else none else none) else if x2 = 5 then (Option.bind (fX10_ran c0 60 σ) fun q5 => Option.bind (cl 0 [x1, 3, x3] q5) fun q6 => some (i_xor q6.1 5, q6.2)) else if x2 = 7 then (Option.bind (fX10_ran c0 81 σ) fun q8 => Option.bind (cl 0 [x1, 4, x3] q8) fun q9 => some (i_sub q9.1 1, q9.2)) else (Option.bind (fX10_above x2 σ) fun q11 => Option.bind (cl 0 [x1, q11.1, x3] q11.2) fun q12 => some (q12.1, q12.2))
def gX10_tells (c0 : Nat) : Nat → Nat → List Int → St → Option (Int × St)
  | 0, _, _, _ => none
  | d + 1, 0, [a0, a1, a2], σ => fX10_tells (gX10_tells c0 d) c0 a0 a1 a2 σ
  | _ + 1, _, _, _ => none
def hX10_tells (c0 : Nat) (a0 : Int) (a1 : Int) (a2 : Int) (σ : St) : Option (Int × St) := gX10_tells c0 DEP 0 [a0, a1, a2] σ
def fX10_act (c0 : Nat) (x1 : Int) (x2 : Int) (x3 : Int) (σ : St) : Option (Int × St) := Option.bind (fX10_within x1 0 (i_sub ((up σ c0 36 0) c0 34) 1) (up σ c0 36 0)) fun q1 => if q1.1 = 0 then (some (0, q1.2)) else (Option.bind (fX10_within x2 0 3 q1.2) fun q2 => if q2.1 = 0 then (some (0, q2.2)) else (if inb x1 (LN (RF c0 35)) then if x2 = 0 then (Option.bind (hX10_bidsBy c0 x1 (q2.2 (RF c0 35) (Int.toNat x1)) x3 q2.2) fun q6 => some (q6.1, q6.2)) else (if x2 = 1 then (Option.bind (hX10_missesBy c0 x1 (q2.2 (RF c0 35) (Int.toNat x1)) x3 q2.2) fun q5 => some (q5.1, q5.2)) else (if x2 = 2 then (Option.bind (hX10_losesBy c0 x1 (q2.2 (RF c0 35) (Int.toNat x1)) x3 q2.2) fun q4 => some (q4.1, q4.2)) else (Option.bind (hX10_tells c0 x1 (q2.2 (RF c0 35) (Int.toNat x1)) x3 q2.2) fun q3 => some (q3.1, q3.2)))) else none))
def fX10_trace (c0 : Nat) (x1 : Int) (σ : St) : Option (Int × St) := Option.bind (fX10_within x1 0 (i_sub (m_min 24 (σ c0 36)) 1) σ) fun q1 => if q1.1 = 0 then (some ((-1), q1.2)) else (if inb x1 (LN (RF c0 37)) then some (q1.2 (RF c0 37) (Int.toNat x1), q1.2) else none)
def fX1_total (c0 : Nat) (σ : St) : Option (Int × St) := some (c_l2i (l_div (σ c0 2) 4782969), σ)
def fJ7_fill_d0a16_6 (c0 : Nat) (x1 : Int) : Nat → Int → Int → St → Option (St)
  | 0, _, _, _ => none
  | n + 1, x3, x4, σ => if x4 ≤ x3 then (some σ) else (if inb x3 (LN c0) then fJ7_fill_d0a16_6 c0 x1 n (i_add x3 1) x4 (up σ c0 (Int.toNat x3) x1) else none)
def fJ7_fill_d0a16 (c0 : Nat) (x1 : Int) (σ : St) : Option (St) := fJ7_fill_d0a16_6 c0 x1 FU 0 (LN c0 : Int) σ
def fX1_bestOf_52 (c0 : Nat) (x1 : Int) (k10 : Int → Int → St → Option (Int × St)) (x2 : Int) (x4 : Int) (σ : St) : Option (Int × St) := k10 x2 (i_add x4 1) σ
def fX1_bestOf_10 (c0 : Nat) (x1 : Int) : Nat → Int → Int → St → Option (Int × St)
  | 0, _, _, _ => none
  | n + 1, x2, x4, σ => if 8 ≤ x4 then (some (x2, σ)) else (if (i_and (i_shr x1 x4) 1) = 0 then (fX1_bestOf_52 c0 x1 (fX1_bestOf_10 c0 x1 n) x2 x4 σ) else (if inb x4 (LN (RF c0 1)) then if inb (i_and x1 (i_xor (i_shl 1 x4) (-1))) (LN (RF c0 0)) then fX1_bestOf_52 c0 x1 (fX1_bestOf_10 c0 x1 n) (m_maxl x2 (l_add (σ (RF c0 1) (Int.toNat x4)) (σ (RF c0 0) (Int.toNat (i_and x1 (i_xor (i_shl 1 x4) (-1))))))) x4 σ else none else none))
def fX1_bestOf (c0 : Nat) (x1 : Int) (σ : St) : Option (Int × St) := if inb x1 (LN (RF c0 0)) then fX1_bestOf_10 c0 x1 FU (σ (RF c0 0) (Int.toNat x1)) 0 σ else none
def fX1_weigh_2 (c0 : Nat) (c1 : Nat) (x2 : Int) : Nat → Int → St → Option (St)
  | 0, _, _ => none
  | n + 1, x3, σ => if (σ (RF c1 0) 2) ≤ x3 then (some σ) else (Option.bind (fX2_number (RF c1 0) x3 0 σ) fun q1 => if inb x2 (LN (RF c1 2)) then Option.bind (fX7_misses c1 x2 q1.1 (q1.2 (RF c1 2) (Int.toNat x2)) q1.2) fun q2 => if inb x2 (List.length stv1) then if inb x3 (LN (RF c0 1)) then fX1_weigh_2 c0 c1 x2 n (i_add x3 1) (up q2.2 (RF c0 1) (Int.toNat x3) (l_add (l_mul (c_i2l q2.1) 4782969) (l_mul (c_i2l (i_sub 8 x3)) (stv1.getD (Int.toNat x2) 0)))) else none else none else none)
def fX1_weigh (c0 : Nat) (c1 : Nat) (x2 : Int) (σ : St) : Option (St) := fX1_weigh_2 c0 c1 x2 FU 0 σ
def fX1_deals_71 (c0 : Nat) (c1 : Nat) (k31 : Int → Int → St → Option (St)) (k44 : Int → Int → Int → St → Option (St)) (x2 : Int) (x3 : Int) (x4 : Int) (σ : St) : Option (St) := k44 x2 x3 (i_add x4 (-1)) σ
def fX1_deals_44 (c0 : Nat) (c1 : Nat) (k31 : Int → Int → St → Option (St)) : Nat → Int → Int → Int → St → Option (St)
  | 0, _, _, _, _ => none
  | n + 1, x2, x3, x4, σ => if x4 ≤ 0 then (k31 x2 (i_add x3 (-1)) σ) else (if (i_and x4 (i_xor x2 (-1))) = 0 then (Option.bind (fX1_bestOf c0 x4 σ) fun q1 => if inb x4 (LN (RF c0 0)) then fX1_deals_71 c0 c1 k31 (fX1_deals_44 c0 c1 k31 n) x2 x3 x4 (up q1.2 (RF c0 0) (Int.toNat x4) q1.1) else none) else (fX1_deals_71 c0 c1 k31 (fX1_deals_44 c0 c1 k31 n) x2 x3 x4 σ))
def fX1_deals_31 (c0 : Nat) (c1 : Nat) : Nat → Int → Int → St → Option (St)
  | 0, _, _, _ => none
  | n + 1, x2, x3, σ => if x3 < 0 then (if inb x2 (LN (RF c0 0)) then some (up σ c0 2 (σ (RF c0 0) (Int.toNat x2))) else none) else (Option.bind (fX1_weigh c0 c1 x3 σ) fun q1 => fX1_deals_44 c0 c1 (fX1_deals_31 c0 c1 n) FU x2 x3 x2 q1)
def fX1_deals (c0 : Nat) (c1 : Nat) (σ : St) : Option (St) := Option.bind (fJ7_fill_d0a16 (RF c0 0) 0 σ) fun q1 => fX1_deals_31 c0 c1 FU (i_and (σ c1 8) (i_sub (LN (RF c0 0) : Int) 1)) (i_sub (q1 (RF c1 0) 3) 1) q1
def fX1_share (c0 : Nat) (x1 : Int) (σ : St) : Option (Int × St) := if inb x1 (List.length stv1) then if ¬ stv1.getD (Int.toNat x1) 0 = 0 then some (i_sub 8 (c_l2i (l_rem (l_div (σ c0 2) (stv1.getD (Int.toNat x1) 0)) 9)), σ) else none else none
def fX9_dealt_18 (c0 : Nat) (x1 : Int) (σ : St) : Option (Int × St) := Option.bind (fX7_begin (RF c0 2) (RF c0 0) σ) fun q1 => Option.bind (fX1_deals (RF c0 4) (RF c0 2) q1) fun q2 => if 0 ≤ x1 then (Option.bind (fX1_share (RF c0 4) x1 q2) fun q3 => some (q3.1, q3.2)) else (Option.bind (fX1_total (RF c0 4) q2) fun q4 => some (q4.1, q4.2))
def fX9_dealt (c0 : Nat) (x1 : Int) (σ : St) : Option (Int × St) := if x1 = (-1) then (fX9_dealt_18 c0 x1 σ) else (Option.bind (fX2_hasBidder (RF c0 0) x1 σ) fun q1 => if q1.1 = 0 then (some ((-1), q1.2)) else (fX9_dealt_18 c0 x1 q1.2))
def fX8_moved_73 (cl : Nat → List Int → St → Option (Int × St)) (c0 : Nat) (x1 : Int) (x2 : Int) (x3 : Int) (x4 : Int) (c5 : Nat) (x6 : Int) (x7 : Int) (σ : St) : Option (Int × St) := Option.bind (cl 1 [x2, x1, x3] σ) fun q1 => Option.bind (fX2_become c5 x1 7 x6 q1.2) fun q2 => Option.bind (fX2_become c5 x2 8 x7 q2) fun q3 => some (i_neg q1.1, q3)
def fX8_moved (cl : Nat → List Int → St → Option (Int × St)) (c0 : Nat) (x1 : Int) (x2 : Int) (x3 : Int) (x4 : Int) (σ : St) : Option (Int × St) := Option.bind (fX2_number (RF (RF c0 0) 0) x1 7 σ) fun q1 => Option.bind (fX2_number (RF (RF c0 0) 0) x2 8 q1.2) fun q2 => if x4 = 0 then (if inb 7 (List.length stv0) then Option.bind (fX2_become (RF (RF c0 0) 0) x1 7 (m_min (stv0.getD (Int.toNat 7) 0) (i_add q1.1 1)) q2.2) fun q4 => fX8_moved_73 cl c0 x1 x2 x3 x4 (RF (RF c0 0) 0) q1.1 q2.1 q4 else none) else (if x4 = 1 then (Option.bind (fX2_become (RF (RF c0 0) 0) x2 8 1 q2.2) fun q3 => fX8_moved_73 cl c0 x1 x2 x3 x4 (RF (RF c0 0) 0) q1.1 q2.1 q3) else (fX8_moved_73 cl c0 x1 x2 x3 x4 (RF (RF c0 0) 0) q1.1 q2.1 q2.2))
def fX8_outcome_41 (cl : Nat → List Int → St → Option (Int × St)) (c0 : Nat) (x1 : Int) (x2 : Int) (x3 : Int) : Nat → Int → Int → St → Option (Int × St)
  | 0, _, _, _ => none
  | n + 1, x4, x5, σ => if 3 ≤ x5 then (some (x4, σ)) else (if 1 ≤ x4 then (some (x4, σ)) else (if inb x5 (List.length stv4) then Option.bind (cl 0 [x1, x2, i_sub x3 1, stv4.getD (Int.toNat x5) 0] σ) fun q1 => fX8_outcome_41 cl c0 x1 x2 x3 n (m_max x4 q1.1) (i_add x5 1) q1.2 else none))
def fX8_outcome (cl : Nat → List Int → St → Option (Int × St)) (c0 : Nat) (x1 : Int) (x2 : Int) (x3 : Int) (σ : St) : Option (Int × St) := if 0 < x3 then (fX8_outcome_41 cl c0 x1 x2 x3 FU (-1) 0 σ) else (Option.bind (fX7_winner (RF c0 0) σ) fun q1 => if q1.1 = x1 then (some (1, q1.2)) else (if q1.1 = x2 then (some ((-1), q1.2)) else (some (0, q1.2))))
def gX8_moved (c0 : Nat) : Nat → Nat → List Int → St → Option (Int × St)
  | 0, _, _, _ => none
  | d + 1, 0, [a0, a1, a2, a3], σ => fX8_moved (gX8_moved c0 d) c0 a0 a1 a2 a3 σ
  | d + 1, 1, [a0, a1, a2], σ => fX8_outcome (gX8_moved c0 d) c0 a0 a1 a2 σ
  | _ + 1, _, _, _ => none
def hX8_moved (c0 : Nat) (a0 : Int) (a1 : Int) (a2 : Int) (a3 : Int) (σ : St) : Option (Int × St) := gX8_moved c0 DEP 0 [a0, a1, a2, a3] σ
def hX8_outcome (c0 : Nat) (a0 : Int) (a1 : Int) (a2 : Int) (σ : St) : Option (Int × St) := gX8_moved c0 DEP 1 [a0, a1, a2] σ
def fX8_turns_51 (c0 : Nat) (x1 : Int) (x2 : Int) (x3 : Int) (k7 : Int → Int → St → Option (Int × St)) (x4 : Int) (x5 : Int) (σ : St) : Option (Int × St) := k7 x4 (i_add x5 1) σ
def fX8_turns_7 (c0 : Nat) (x1 : Int) (x2 : Int) (x3 : Int) : Nat → Int → Int → St → Option (Int × St)
  | 0, _, _, _ => none
  | n + 1, x4, x5, σ => if 3 ≤ x5 then (some (x4, σ)) else (if inb x5 (List.length stv4) then Option.bind (hX8_moved c0 x1 x2 (i_sub x3 1) (stv4.getD (Int.toNat x5) 0) σ) fun q1 => if q1.1 ≤ x4 then (fX8_turns_51 c0 x1 x2 x3 (fX8_turns_7 c0 x1 x2 x3 n) x4 x5 q1.2) else (if inb x5 (List.length stv4) then fX8_turns_51 c0 x1 x2 x3 (fX8_turns_7 c0 x1 x2 x3 n) q1.1 x5 (up q1.2 c0 5 (stv4.getD (Int.toNat x5) 0)) else none) else none)
def fX8_turns (c0 : Nat) (x1 : Int) (x2 : Int) (x3 : Int) (σ : St) : Option (Int × St) := fX8_turns_7 c0 x1 x2 x3 FU (-2) 0 σ
def fX9_byTurns (c0 : Nat) (x1 : Int) (x2 : Int) (x3 : Int) (x4 : Int) (σ : St) : Option (Int × St) := if x1 < 0 then (some ((-2000000000), σ)) else (Option.bind (fX2_hasBidder (RF c0 0) (i_div x1 10) σ) fun q1 => if q1.1 = 0 then (some ((-2000000000), q1.2)) else (Option.bind (fX2_hasBidder (RF c0 0) (i_rem x1 10) q1.2) fun q2 => if q2.1 = 0 then (some ((-2000000000), q2.2)) else (if (i_div x1 10) = (i_rem x1 10) then (some ((-2000000000), q2.2)) else (Option.bind (fX2_hasThing (RF c0 0) x2 q2.2) fun q3 => if q3.1 = 0 then (some ((-2000000000), q3.2)) else (if x3 < 1 then (some ((-2000000000), q3.2)) else (if 5 < x3 then (some ((-2000000000), q3.2)) else (if x4 < 0 then (some ((-2000000000), q3.2)) else (if x4 ≤ 1 then (Option.bind (fX7_begin (RF c0 2) (RF c0 0) q3.2) fun q4 => Option.bind (fX7_considers (RF c0 2) x2 q4) fun q5 => Option.bind (fX8_turns (RF c0 3) (i_div x1 10) (i_rem x1 10) x3 q5) fun q6 => if x4 = 0 then (some (q6.1, q6.2)) else (some (q6.2 (RF c0 3) 5, q6.2))) else (some ((-2000000000), q3.2))))))))))
def fX9_refusesElement (c0 : Nat) (x1 : Int) (x2 : Int) (σ : St) : Option (Int × St) := Option.bind (fX9_isShelf x1 σ) fun q1 => if q1.1 = 0 then (some ((-1), q1.2)) else (if inb x1 (LN (RF c0 8)) then if (q1.2 (RF (RF c0 8) (Int.toNat x1)) 1) = 0 then (some ((-11), q1.2)) else (if inb x1 (LN (RF c0 8)) then if (q1.2 (RF (RF c0 8) (Int.toNat x1)) 1) = 2 then (if inb x1 (LN (RF c0 8)) then Option.bind (fX6_hasRun (RF (RF c0 8) (Int.toNat x1)) x2 1 q1.2) fun q5 => if q5.1 = 0 then (some ((-13), q5.2)) else (some (0, q5.2)) else none) else (some ((-12), q1.2)) else none) else none)
def fX9_element (c0 : Nat) (x1 : Int) (x2 : Int) (σ : St) : Option (Int × St) := Option.bind (fX9_refusesElement c0 x1 x2 σ) fun q1 => if q1.1 = 0 then (if inb x1 (LN (RF c0 8)) then Option.bind (fX6_at (RF (RF c0 8) (Int.toNat x1)) x2 q1.2) fun q3 => some (q3.1, q3.2) else none) else (some ((-9223372036854775808), q1.2))
def fX7_wouldChange (c0 : Nat) (x1 : Int) (x2 : Int) (σ : St) : Option (Int × St) := Option.bind (fX2_number (RF c0 0) x1 1 σ) fun q1 => Option.bind (fX2_number (RF c0 0) x2 1 q1.2) fun q2 => Option.bind (fX2_hasBidder (RF c0 0) q1.1 q2.2) fun q3 => if q3.1 = 0 then (some (0, q3.2)) else (Option.bind (fX2_hasBidder (RF c0 0) q2.1 q3.2) fun q4 => if q4.1 = 0 then (some (0, q4.2)) else (if q1.1 = q2.1 then (some (0, q4.2)) else (Option.bind (fX2_number (RF c0 0) x1 2 q4.2) fun q5 => if q5.1 = 0 then (Option.bind (fX2_number (RF c0 0) x2 2 q5.2) fun q6 => if q6.1 = 0 then (if inb q1.1 (LN (RF c0 2)) then Option.bind (fX2_number (RF c0 0) x2 0 q6.2) fun q7 => Option.bind (fX7_misses c0 q1.1 q7.1 (i_sub (q6.2 (RF c0 2) (Int.toNat q1.1)) 1) q7.2) fun q8 => Option.bind (fX2_number (RF c0 0) x1 0 q8.2) fun q9 => Option.bind (fX7_misses c0 q1.1 q9.1 (i_sub (q6.2 (RF c0 2) (Int.toNat q1.1)) 1) q9.2) fun q10 => if q8.1 ≤ q10.1 then (some (0, q10.2)) else (some (1, q10.2)) else none) else (some (0, q6.2))) else (some (0, q5.2)))))
def fX9_hands_68 (c0 : Nat) (k15 : Int → Int → St → Option (Int × St)) (k30 : Int → Int → Int → St → Option (Int × St)) (x1 : Int) (x2 : Int) (x3 : Int) (σ : St) : Option (Int × St) := k30 x1 x2 (i_add x3 1) σ
def fX9_hands_30 (c0 : Nat) (k15 : Int → Int → St → Option (Int × St)) : Nat → Int → Int → Int → St → Option (Int × St)
  | 0, _, _, _, _ => none
  | n + 1, x1, x2, x3, σ => if (σ (RF c0 0) 2) ≤ x3 then (k15 x1 (i_add x2 1) σ) else (Option.bind (fX7_wouldChange (RF c0 2) x2 x3 σ) fun q1 => if q1.1 = 0 then (fX9_hands_68 c0 k15 (fX9_hands_30 c0 k15 n) x1 x2 x3 q1.2) else (Option.bind (fX7_wouldChange (RF c0 2) x3 x2 q1.2) fun q2 => if q2.1 = 0 then (fX9_hands_68 c0 k15 (fX9_hands_30 c0 k15 n) x1 x2 x3 q2.2) else (fX9_hands_68 c0 k15 (fX9_hands_30 c0 k15 n) (i_add x1 1) x2 x3 q2.2)))
def fX9_hands_15 (c0 : Nat) : Nat → Int → Int → St → Option (Int × St)
  | 0, _, _, _ => none
  | n + 1, x1, x2, σ => if (σ (RF c0 0) 2) ≤ x2 then (some (x1, σ)) else (fX9_hands_30 c0 (fX9_hands_15 c0 n) FU x1 x2 (i_add x2 1) σ)
def fX9_hands (c0 : Nat) (σ : St) : Option (Int × St) := Option.bind (fX7_begin (RF c0 2) (RF c0 0) σ) fun q1 => fX9_hands_15 c0 FU 0 0 q1
def fX10_taken_82 (c0 : Nat) (x1 : Int) (x2 : Int) (x3 : Int) (x4 : Int) (σ : St) : Option (Int × St) := if x4 = x2 then (some (x3, σ)) else (some ((-12), σ))
def fX10_taken_61 (c0 : Nat) (x1 : Int) (x2 : Int) : Nat → Int → Int → St → Option (Int × St)
  | 0, _, _, _ => none
  | n + 1, x3, x4, σ => if x4 = x2 then (fX10_taken_82 c0 x1 x2 x3 x4 σ) else (if x4 ≤ 0 then (fX10_taken_82 c0 x1 x2 x3 x4 σ) else (Option.bind (fX10_above x4 σ) fun q1 => fX10_taken_61 c0 x1 x2 n x3 q1.1 q1.2))
def fX10_taken (c0 : Nat) (x1 : Int) (x2 : Int) (σ : St) : Option (Int × St) := Option.bind (fX10_isShelf x1 σ) fun q1 => if q1.1 = 0 then (some ((-1), q1.2)) else (Option.bind (fX10_within x2 0 7 q1.2) fun q2 => if q2.1 = 0 then (some ((-1), q2.2)) else (if inb x1 (LN (RF c0 38)) then if (q2.2 (RF c0 38) (Int.toNat x1)) = (-1) then (some ((-11), q2.2)) else (Option.bind (fX10_isRow c0 x1 q2.2) fun q3 => if q3.1 = 0 then (if inb x1 (LN (RF c0 38)) then if inb (i_sub (q3.2 (RF c0 38) (Int.toNat x1)) 10) (LN (RF c0 35)) then fX10_taken_61 c0 x1 x2 FU (q3.2 (RF c0 35) (Int.toNat (i_sub (q3.2 (RF c0 38) (Int.toNat x1)) 10))) (q3.2 (RF c0 35) (Int.toNat (i_sub (q3.2 (RF c0 38) (Int.toNat x1)) 10))) q3.2 else none else none) else (some ((-12), q3.2))) else none))
def fX8_fewestExamined_68 (c0 : Nat) (x1 : Int) (k23 : Int → Int → Int → Int → St → Option (Int × St)) (x2 : Int) (x3 : Int) (x4 : Int) (x5 : Int) (σ : St) : Option (Int × St) := k23 x2 x3 x4 (i_add x5 1) σ
def fX8_fewestExamined_23 (c0 : Nat) (x1 : Int) : Nat → Int → Int → Int → Int → St → Option (Int × St)
  | 0, _, _, _, _, _ => none
  | n + 1, x2, x3, x4, x5, σ => if x4 ≤ x5 then (some (x2, σ)) else (Option.bind (fJ6_bitCount_0f7a4 x5 (up σ (RF c0 0) 9 x5)) fun q1 => if x3 ≤ q1.1 then (fX8_fewestExamined_68 c0 x1 (fX8_fewestExamined_23 c0 x1 n) x2 x3 x4 x5 q1.2) else (Option.bind (fX7_winner (RF c0 0) q1.2) fun q2 => if q2.1 = x1 then (Option.bind (fJ6_bitCount_0f7a4 x5 q2.2) fun q3 => fX8_fewestExamined_68 c0 x1 (fX8_fewestExamined_23 c0 x1 n) x5 q3.1 x4 x5 q3.2) else (fX8_fewestExamined_68 c0 x1 (fX8_fewestExamined_23 c0 x1 n) x2 x3 x4 x5 q2.2)))
def fX8_fewestExamined (c0 : Nat) (x1 : Int) (σ : St) : Option (Int × St) := fX8_fewestExamined_23 c0 x1 FU (-2) 8 (i_shl 1 (σ (RF (RF c0 0) 0) 3)) 0 σ
def fX9_examined (c0 : Nat) (x1 : Int) (x2 : Int) (σ : St) : Option (Int × St) := Option.bind (fX9_isPair c0 x1 σ) fun q1 => if q1.1 = 0 then (some ((-1), q1.2)) else (if x2 < 0 then (some ((-1), q1.2)) else (if x2 ≤ 1 then (Option.bind (fX7_begin (RF c0 2) (RF c0 0) q1.2) fun q2 => Option.bind (fX7_considers (RF c0 2) (i_rem x1 10) q2) fun q3 => Option.bind (fX8_fewestExamined (RF c0 3) (i_div x1 10) q3) fun q4 => if 0 ≤ q4.1 then (if x2 = 0 then (Option.bind (fJ6_bitCount_0f7a4 q4.1 q4.2) fun q5 => some (q5.1, q5.2)) else (some (q4.1, q4.2))) else (some ((-2), q4.2))) else (some ((-1), q1.2))))
def fX9_led (c0 : Nat) (x1 : Int) (σ : St) : Option (Int × St) := if x1 < 0 then (some ((-1), σ)) else (if x1 < 5 then (if inb x1 (LN (RF c0 9)) then some (σ (RF c0 9) (Int.toNat x1), σ) else none) else (some ((-1), σ)))
def fX10_row_48 (c0 : Nat) (x1 : Int) (x2 : Int) (x3 : Int) : Nat → Int → St → Option (Int × St)
  | 0, _, _ => none
  | n + 1, x4, σ => if 60 ≤ x4 then (some (1, σ)) else (if inb (i_add (i_mul 60 x1) x4) (LN (RF c0 40)) then fX10_row_48 c0 x1 x2 x3 n (i_add x4 1) (up σ (RF c0 40) (Int.toNat (i_add (i_mul 60 x1) x4)) 0) else none)
def fX10_row (c0 : Nat) (x1 : Int) (x2 : Int) (x3 : Int) (σ : St) : Option (Int × St) := Option.bind (fX10_isShelf x1 σ) fun q1 => if q1.1 = 0 then (some ((-1), q1.2)) else (Option.bind (fX10_within x2 0 4 q1.2) fun q2 => if q2.1 = 0 then (some ((-1), q2.2)) else (if x3 ≤ 60 then (if 0 ≤ x3 then (if inb x1 (LN (RF c0 38)) then if inb x1 (LN (RF c0 39)) then fX10_row_48 c0 x1 x2 x3 FU 0 (up (up q2.2 (RF c0 38) (Int.toNat x1) x2) (RF c0 39) (Int.toNat x1) x3) else none else none) else (some ((-14), q2.2))) else (some ((-1), q2.2))))
def fX10_bidder (c0 : Nat) (x1 : Int) (x2 : Int) (σ : St) : Option (Int × St) := Option.bind (fX10_within x1 0 9 σ) fun q1 => if q1.1 = 0 then (some ((-1), q1.2)) else (Option.bind (fX10_within x2 0 99 q1.2) fun q2 => if q2.1 = 0 then (some ((-1), q2.2)) else (if (q2.2 c0 5) = 7 then (some ((-3), q2.2)) else (Option.bind (fX10_newOne c0 x1 x2 0 q2.2) fun q3 => some (q3.1, q3.2))))
def fX10_missedNow_27 (c0 : Nat) (k4 : Int → Int → St → Option (Int × St)) (x1 : Int) (x2 : Int) (σ : St) : Option (Int × St) := k4 x1 (i_add x2 1) σ
def fX10_missedNow_4 (c0 : Nat) : Nat → Int → Int → St → Option (Int × St)
  | 0, _, _, _ => none
  | n + 1, x1, x2, σ => if (σ c0 0) ≤ x2 then (some (x1, σ)) else (if inb x2 (LN (RF c0 4)) then if (σ (RF c0 4) (Int.toNat x2)) ≤ 0 then (fX10_missedNow_27 c0 (fX10_missedNow_4 c0 n) x1 x2 σ) else (fX10_missedNow_27 c0 (fX10_missedNow_4 c0 n) (i_or x1 (i_shl 1 x2)) x2 σ) else none)
def fX10_missedNow (c0 : Nat) (σ : St) : Option (Int × St) := fX10_missedNow_4 c0 FU 0 0 σ
def fX10_less (x0 : Int) (σ : St) : Option (Int × St) := some (m_max 0 (i_sub x0 1), σ)
def fX10_passes_95 (c0 : Nat) (k33 : Int → St → Option (St)) (x1 : Int) (σ : St) : Option (St) := k33 (i_add x1 1) σ
def fX10_passes_33 (c0 : Nat) : Nat → Int → St → Option (St)
  | 0, _, _ => none
  | n + 1, x1, σ => if (σ c0 5) ≤ x1 then (some σ) else (if inb (i_add 7 x1) (LN (RF c0 6)) then Option.bind (fX10_less (σ (RF c0 6) (Int.toNat (i_add 7 x1))) σ) fun q1 => if inb (i_add 7 x1) (LN (RF c0 6)) then if inb (i_add 7 x1) (LN (RF c0 6)) then if ((up q1.2 (RF c0 6) (Int.toNat (i_add 7 x1)) q1.1) (RF c0 6) (Int.toNat (i_add 7 x1))) = 0 then (if inb (i_add 14 x1) (LN (RF c0 6)) then Option.bind (fX10_less ((up q1.2 (RF c0 6) (Int.toNat (i_add 7 x1)) q1.1) (RF c0 6) (Int.toNat (i_add 14 x1))) (up q1.2 (RF c0 6) (Int.toNat (i_add 7 x1)) q1.1)) fun q2 => if inb (i_add 14 x1) (LN (RF c0 6)) then fX10_passes_95 c0 (fX10_passes_33 c0 n) x1 (up q2.2 (RF c0 6) (Int.toNat (i_add 14 x1)) q2.1) else none else none) else (fX10_passes_95 c0 (fX10_passes_33 c0 n) x1 (up q1.2 (RF c0 6) (Int.toNat (i_add 7 x1)) q1.1)) else none else none else none)
def fX10_passes_2 (c0 : Nat) : Nat → Int → St → Option (St)
  | 0, _, _ => none
  | n + 1, x1, σ => if (σ c0 0) ≤ x1 then (fX10_passes_33 c0 FU 0 σ) else (if inb x1 (LN (RF c0 4)) then Option.bind (fX10_less (σ (RF c0 4) (Int.toNat x1)) σ) fun q1 => if inb x1 (LN (RF c0 4)) then fX10_passes_2 c0 n (i_add x1 1) (up q1.2 (RF c0 4) (Int.toNat x1) q1.1) else none else none)
def fX10_passes (c0 : Nat) (σ : St) : Option (St) := fX10_passes_2 c0 FU 0 σ
def fX10_later_89 (c0 : Nat) (x1 : Int) (x2 : Int) (x3 : Int) (y0 : Int) (σ : St) : Option (Int × St) := Option.bind (fX10_laysBack_ c0 σ) fun q1 => some (y0, q1)
def fX10_later_51 (c0 : Nat) (x1 : Int) (x2 : Int) (x3 : Int) : Nat → Int → St → Option (Int × St)
  | 0, _, _ => none
  | n + 1, x4, σ => if x1 ≤ x4 then (if x3 = 0 then (Option.bind (fX10_missedNow c0 σ) fun q1 => fX10_later_89 c0 x1 x2 x3 q1.1 q1.2) else (if inb (i_add (i_mul 7 x3) x2) (LN (RF c0 6)) then fX10_later_89 c0 x1 x2 x3 (σ (RF c0 6) (Int.toNat (i_add (i_mul 7 x3) x2))) σ else none)) else (Option.bind (fX10_passes c0 σ) fun q2 => fX10_later_51 c0 x1 x2 x3 n (i_add x4 1) q2)
def fX10_later_40 (c0 : Nat) (x1 : Int) (x2 : Int) (x3 : Int) (σ : St) : Option (Int × St) := Option.bind (fX10_keeps c0 (RF c0 41) σ) fun q1 => fX10_later_51 c0 x1 x2 x3 FU 0 q1
def fX10_later (c0 : Nat) (x1 : Int) (x2 : Int) (x3 : Int) (σ : St) : Option (Int × St) := Option.bind (fX10_within x1 0 60 σ) fun q1 => if q1.1 = 0 then (some ((-1), q1.2)) else (Option.bind (fX10_within x3 0 2 q1.2) fun q2 => if q2.1 = 0 then (some ((-1), q2.2)) else (if x3 = 0 then (if x2 = 0 then (fX10_later_40 c0 x1 x2 x3 q2.2) else (some ((-1), q2.2))) else (Option.bind (fX10_isOne c0 x2 q2.2) fun q3 => if q3.1 = 0 then (some ((-1), q3.2)) else (fX10_later_40 c0 x1 x2 x3 q3.2))))
def fX10_drawn_195 (c0 : Nat) (x1 : Int) (x2 : Int) (x3 : Int) (x4 : Int) (k89 : Int → Int → Int → Int → St → Option (Int × St)) (k101 : Int → Int → Int → Int → Int → St → Option (Int × St)) (x6 : Int) (x7 : Int) (x8 : Int) (x9 : Int) (x10 : Int) (σ : St) : Option (Int × St) := k101 x6 x7 x8 x9 (i_add x10 1) σ
def fX10_drawn_189 (c0 : Nat) (x1 : Int) (x2 : Int) (x3 : Int) (x4 : Int) (k89 : Int → Int → Int → Int → St → Option (Int × St)) (k101 : Int → Int → Int → Int → Int → St → Option (Int × St)) (x6 : Int) (x7 : Int) (x8 : Int) (x9 : Int) (x10 : Int) (y0 : Int) (y1 : Int) (σ : St) : Option (Int × St) := if y0 = y1 then (fX10_drawn_195 c0 x1 x2 x3 x4 k89 k101 x6 (i_add x7 1) x8 x9 x10 σ) else (fX10_drawn_195 c0 x1 x2 x3 x4 k89 k101 x6 x7 x8 x9 x10 σ)
def fX10_drawn_161 (c0 : Nat) (x1 : Int) (x2 : Int) (x3 : Int) (x4 : Int) (k89 : Int → Int → Int → Int → St → Option (Int × St)) (k101 : Int → Int → Int → Int → Int → St → Option (Int × St)) (x6 : Int) (x7 : Int) (x8 : Int) (x9 : Int) (x10 : Int) (σ : St) : Option (Int × St) := Option.bind (fX10_toldAt c0 x2 x10 σ) fun q1 => Option.bind (fX10_goes c0 q1.1 q1.2) fun q2 => if x4 = (-1) then (fX10_drawn_189 c0 x1 x2 x3 x4 k89 k101 x6 x7 x8 x9 x10 q2.1 8 q2.2) else (fX10_drawn_189 c0 x1 x2 x3 x4 k89 k101 x6 x7 x8 x9 x10 q2.1 x4 q2.2)
def fX10_drawn_101 (c0 : Nat) (x1 : Int) (x2 : Int) (x3 : Int) (x4 : Int) (k89 : Int → Int → Int → Int → St → Option (Int × St)) : Nat → Int → Int → Int → Int → Int → St → Option (Int × St)
  | 0, _, _, _, _, _, _ => none
  | n + 1, x6, x7, x8, x9, x10, σ => if x8 ≤ x10 then (Option.bind (fX10_laysBack_ c0 σ) fun q1 => k89 x6 x7 x8 (i_add x9 1) q1) else (if (σ c0 5) ≤ 0 then (fX10_drawn_161 c0 x1 x2 x3 x4 k89 (fX10_drawn_101 c0 x1 x2 x3 x4 k89 n) (i_add (i_mul x6 1103515245) 12345) x7 x8 x9 x10 σ) else (if (i_rem x3 100) ≤ (i_rem (i_ushr (i_add (i_mul x6 1103515245) 12345) 16) 12) then (fX10_drawn_161 c0 x1 x2 x3 x4 k89 (fX10_drawn_101 c0 x1 x2 x3 x4 k89 n) (i_add (i_mul x6 1103515245) 12345) x7 x8 x9 x10 σ) else (if ¬ σ c0 5 = 0 then if inb (i_add 28 (i_rem (i_ushr (i_add (i_mul x6 1103515245) 12345) 8) (σ c0 5))) (LN (RF c0 6)) then fX10_drawn_161 c0 x1 x2 x3 x4 k89 (fX10_drawn_101 c0 x1 x2 x3 x4 k89 n) (i_add (i_mul x6 1103515245) 12345) x7 x8 x9 x10 (up σ (RF c0 6) (Int.toNat (i_add 28 (i_rem (i_ushr (i_add (i_mul x6 1103515245) 12345) 8) (σ c0 5)))) 1) else none else none)))
def fX10_drawn_89 (c0 : Nat) (x1 : Int) (x2 : Int) (x3 : Int) (x4 : Int) : Nat → Int → Int → Int → Int → St → Option (Int × St)
  | 0, _, _, _, _, _ => none
  | n + 1, x6, x7, x8, x9, σ => if (i_div x3 100) ≤ x9 then (some (x7, σ)) else (fX10_drawn_101 c0 x1 x2 x3 x4 (fX10_drawn_89 c0 x1 x2 x3 x4 n) FU x6 x7 x8 x9 0 σ)
def fX10_drawn_50 (c0 : Nat) (x1 : Int) (x2 : Int) (x3 : Int) (x4 : Int) (σ : St) : Option (Int × St) := Option.bind (fX10_noBytes c0 x2 σ) fun q1 => if 0 ≤ q1.1 then (Option.bind (fX10_keeps c0 (RF c0 41) q1.2) fun q2 => Option.bind (fX10_listed c0 x2 q2) fun q3 => fX10_drawn_89 c0 x1 x2 x3 x4 FU x1 0 q3.1 0 q3.2) else (some (q1.1, q1.2))
def fX10_drawn (c0 : Nat) (x1 : Int) (x2 : Int) (x3 : Int) (x4 : Int) (σ : St) : Option (Int × St) := Option.bind (fX10_isShelf x2 σ) fun q1 => if q1.1 = 0 then (some ((-1), q1.2)) else (if x3 < 0 then (some ((-1), q1.2)) else (Option.bind (fX10_within (i_div x3 100) 1 30 q1.2) fun q2 => if q2.1 = 0 then (some ((-1), q2.2)) else (if 12 < (i_rem x3 100) then (some ((-1), q2.2)) else (if x4 = (-1) then (fX10_drawn_50 c0 x1 x2 x3 x4 q2.2) else (Option.bind (fX10_isOne c0 x4 q2.2) fun q3 => if q3.1 = 0 then (some ((-1), q3.2)) else (fX10_drawn_50 c0 x1 x2 x3 x4 q3.2))))))
def fX2_addThing (c0 : Nat) (x1 : Int) (σ : St) : Option (Int × St) := if (σ c0 2) < 8 then (Option.bind (fX2_become c0 (σ c0 2) 0 x1 (up σ c0 2 (i_add (σ c0 2) 1))) fun q1 => Option.bind (fX2_become c0 (σ c0 2) 1 (-1) q1) fun q2 => some (σ c0 2, q2)) else (some ((-3), σ))
def fX9_thing (c0 : Nat) (x1 : Int) (σ : St) : Option (Int × St) := if x1 < 0 then (some ((-1), σ)) else (if x1 < 4 then (Option.bind (fX2_addThing (RF c0 0) x1 σ) fun q1 => some (q1.1, q1.2)) else (some ((-1), σ)))
def fX10_keep_40 (c0 : Nat) (x1 : Int) (x2 : Int) (d0 : Nat) (y1 : Int) (y2 : Int) (σ : St) : Option (Int × St) := if inb y1 (LN d0) then if inb x1 (LN (RF c0 39)) then some (1, up (up σ d0 (Int.toNat y1) y2) (RF c0 39) (Int.toNat x1) 0) else none else none
def fX10_keep (c0 : Nat) (x1 : Int) (x2 : Int) (σ : St) : Option (Int × St) := Option.bind (fX10_isShelf x1 σ) fun q1 => if q1.1 = 0 then (some ((-1), q1.2)) else (Option.bind (fX10_within x2 (-1) (i_sub (q1.2 c0 34) 1) q1.2) fun q2 => if q2.1 = 0 then (some ((-1), q2.2)) else (if 0 ≤ x2 then (fX10_keep_40 c0 x1 x2 (RF c0 38) x1 (i_add 10 x2) q2.2) else (fX10_keep_40 c0 x1 x2 (RF c0 38) x1 (-1) q2.2)))
def fX9_count (c0 : Nat) (x1 : Int) (σ : St) : Option (Int × St) := if x1 = 0 then (some (σ (RF c0 0) 2, σ)) else if x1 = 1 then (some (σ (RF c0 0) 3, σ)) else if x1 = 2 then (some (σ (RF c0 1) 5, σ)) else if x1 = 3 then (some (σ (RF c0 5) 1, σ)) else if x1 = 4 then (some (σ (RF c0 7) 2, σ)) else if x1 = 5 then (some (σ (RF c0 7) 3, σ)) else (some ((-1), σ))
def fX2_yearPasses_88 (c0 : Nat) (k36 : Int → St → Option (St)) (x1 : Int) (σ : St) : Option (St) := k36 (i_add x1 1) σ
def fX2_yearPasses_36 (c0 : Nat) : Nat → Int → St → Option (St)
  | 0, _, _ => none
  | n + 1, x1, σ => if (σ c0 3) ≤ x1 then (some σ) else (Option.bind (fX2_number c0 x1 5 σ) fun q1 => Option.bind (fX2_become c0 x1 5 (m_max 0 (i_sub q1.1 1)) q1.2) fun q2 => if (m_max 0 (i_sub q1.1 1)) = 0 then (Option.bind (fX2_number c0 x1 6 q2) fun q3 => Option.bind (fX2_become c0 x1 6 (m_max 0 (i_sub q3.1 1)) q3.2) fun q4 => fX2_yearPasses_88 c0 (fX2_yearPasses_36 c0 n) x1 q4) else (fX2_yearPasses_88 c0 (fX2_yearPasses_36 c0 n) x1 q2))
def fX2_yearPasses_2 (c0 : Nat) : Nat → Int → St → Option (St)
  | 0, _, _ => none
  | n + 1, x1, σ => if (σ c0 2) ≤ x1 then (fX2_yearPasses_36 c0 FU 0 σ) else (Option.bind (fX2_number c0 x1 3 σ) fun q1 => Option.bind (fX2_become c0 x1 3 (m_max 0 (i_sub q1.1 1)) q1.2) fun q2 => fX2_yearPasses_2 c0 n (i_add x1 1) q2)
def fX2_yearPasses (c0 : Nat) (σ : St) : Option (St) := fX2_yearPasses_2 c0 FU 0 σ
def fX2_missedBits_27 (c0 : Nat) (k4 : Int → Int → St → Option (Int × St)) (x1 : Int) (x2 : Int) (σ : St) : Option (Int × St) := k4 x1 (i_add x2 1) σ
def fX2_missedBits_4 (c0 : Nat) : Nat → Int → Int → St → Option (Int × St)
  | 0, _, _, _ => none
  | n + 1, x1, x2, σ => if (σ c0 2) ≤ x2 then (some (x1, σ)) else (Option.bind (fX2_number c0 x2 3 σ) fun q1 => if q1.1 ≤ 0 then (fX2_missedBits_27 c0 (fX2_missedBits_4 c0 n) x1 x2 q1.2) else (fX2_missedBits_27 c0 (fX2_missedBits_4 c0 n) (i_or x1 (i_shl 1 x2)) x2 q1.2))
def fX2_missedBits (c0 : Nat) (σ : St) : Option (Int × St) := fX2_missedBits_4 c0 FU 0 0 σ
def fX9_later_131 (c0 : Nat) (x1 : Int) (x2 : Int) (x3 : Int) (d0 : Nat) (y1 : Int) (y2 : Int) (σ : St) : Option (Int × St) := Option.bind (fX2_number d0 y1 y2 σ) fun q1 => some (q1.1, q1.2)
def fX9_later_75 (c0 : Nat) (x1 : Int) (x2 : Int) (x3 : Int) : Nat → Int → St → Option (Int × St)
  | 0, _, _ => none
  | n + 1, x5, σ => if x1 ≤ x5 then (if x3 = 0 then (Option.bind (fX2_missedBits (RF (RF c0 2) 0) σ) fun q1 => some (q1.1, q1.2)) else (if x3 = 1 then (fX9_later_131 c0 x1 x2 x3 (RF (RF c0 2) 0) x2 5 σ) else (fX9_later_131 c0 x1 x2 x3 (RF (RF c0 2) 0) x2 6 σ))) else (Option.bind (fX2_yearPasses (RF (RF c0 2) 0) σ) fun q2 => fX9_later_75 c0 x1 x2 x3 n (i_add x5 1) q2)
def fX9_later_42 (c0 : Nat) (x1 : Int) (x2 : Int) (x3 : Int) (y0 : Int) (σ : St) : Option (Int × St) := if x1 < 0 then (some ((-1), σ)) else (if 60 < x1 then (some ((-1), σ)) else (if y0 = 0 then (some ((-1), σ)) else (Option.bind (fX7_begin (RF c0 2) (RF c0 0) σ) fun q1 => fX9_later_75 c0 x1 x2 x3 FU 0 q1)))
def fX9_later_41 (c0 : Nat) (x1 : Int) (x2 : Int) (x3 : Int) (σ : St) : Option (Int × St) := fX9_later_42 c0 x1 x2 x3 0 σ
def fX9_later_26 (c0 : Nat) (x1 : Int) (x2 : Int) (x3 : Int) (σ : St) : Option (Int × St) := Option.bind (fX2_hasBidder (RF c0 0) x2 σ) fun q1 => if q1.1 = 0 then (fX9_later_41 c0 x1 x2 x3 q1.2) else (fX9_later_42 c0 x1 x2 x3 1 q1.2)
def fX9_later (c0 : Nat) (x1 : Int) (x2 : Int) (x3 : Int) (σ : St) : Option (Int × St) := if x3 = 0 then (if x2 = 0 then (fX9_later_42 c0 x1 x2 x3 1 σ) else (fX9_later_42 c0 x1 x2 x3 0 σ)) else (if x3 = 1 then (fX9_later_26 c0 x1 x2 x3 σ) else (if x3 = 2 then (fX9_later_26 c0 x1 x2 x3 σ) else (fX9_later_41 c0 x1 x2 x3 σ)))
def fX10_isOf (c0 : Nat) (x1 : Int) (x2 : Int) (σ : St) : Option (Int × St) := Option.bind (fX10_within x2 0 3 σ) fun q1 => if q1.1 = 0 then (Option.bind (fX10_within x2 4 12 q1.2) fun q2 => if q2.1 = 0 then (some (0, q2.2)) else (Option.bind (fX10_isOne c0 x1 q2.2) fun q3 => if q3.1 = 0 then (some (0, q3.2)) else (some (1, q3.2)))) else (Option.bind (fX10_isThing c0 x1 q1.2) fun q4 => if q4.1 = 0 ∨ q4.1 = 1 then some (q4.1, q4.2) else none)
def fX10_isFit (c0 : Nat) (x1 : Int) (x2 : Int) (σ : St) : Option (Int × St) := if x1 = 0 then (Option.bind (fX10_within x2 0 3 σ) fun q1 => if q1.1 = 0 ∨ q1.1 = 1 then some (q1.1, q1.2) else none) else if x1 = 1 then (if x2 = (-1) then (some (1, σ)) else (Option.bind (fX10_isOne c0 x2 σ) fun q3 => if q3.1 = 0 then (some (0, q3.2)) else (some (1, q3.2)))) else if x1 = 2 then (Option.bind (fX10_within x2 0 1 σ) fun q5 => if q5.1 = 0 ∨ q5.1 = 1 then some (q5.1, q5.2) else none) else if x1 = 3 then (Option.bind (fX10_within x2 0 99 σ) fun q7 => if q7.1 = 0 ∨ q7.1 = 1 then some (q7.1, q7.2) else none) else if x1 = 5 then (Option.bind (fX10_within x2 0 99 σ) fun q9 => if q9.1 = 0 ∨ q9.1 = 1 then some (q9.1, q9.2) else none) else if x1 = 8 then (Option.bind (fX10_within x2 0 1 σ) fun q11 => if q11.1 = 0 ∨ q11.1 = 1 then some (q11.1, q11.2) else none) else (Option.bind (fX10_within x2 0 9 σ) fun q13 => if q13.1 = 0 ∨ q13.1 = 1 then some (q13.1, q13.2) else none)
def fX10_mend_162 (c0 : Nat) (x1 : Int) (x2 : Int) (x3 : Int) (x4 : Int) (σ : St) : Option (Int × St) := some (x4, up σ c0 31 (σ c0 32))
def fX10_mend_152 (c0 : Nat) (x1 : Int) (x2 : Int) (x3 : Int) (x4 : Int) (σ : St) : Option (Int × St) := fX10_mend_162 c0 x1 x2 x3 x4 (up σ c0 32 (i_add (σ c0 32) 1))
def fX10_mend_138 (c0 : Nat) (x1 : Int) (x2 : Int) (x3 : Int) (x4 : Int) (σ : St) : Option (Int × St) := if inb (i_add (i_mul 4 (σ c0 32)) 3) (LN (RF c0 33)) then fX10_mend_152 c0 x1 x2 x3 x4 (up σ (RF c0 33) (Int.toNat (i_add (i_mul 4 (σ c0 32)) 3)) x3) else none
def fX10_mend_97 (c0 : Nat) (x1 : Int) (x2 : Int) (x3 : Int) (x4 : Int) (σ : St) : Option (Int × St) := if inb (i_mul 4 (σ c0 32)) (LN (RF c0 33)) then if inb (i_add (i_mul 4 ((up σ (RF c0 33) (Int.toNat (i_mul 4 (σ c0 32))) x1) c0 32)) 1) (LN (RF c0 33)) then if inb (i_add (i_mul 4 ((up (up σ (RF c0 33) (Int.toNat (i_mul 4 (σ c0 32))) x1) (RF c0 33) (Int.toNat (i_add (i_mul 4 ((up σ (RF c0 33) (Int.toNat (i_mul 4 (σ c0 32))) x1) c0 32)) 1)) x2) c0 32)) 2) (LN (RF c0 33)) then fX10_mend_138 c0 x1 x2 x3 x4 (up (up (up σ (RF c0 33) (Int.toNat (i_mul 4 (σ c0 32))) x1) (RF c0 33) (Int.toNat (i_add (i_mul 4 ((up σ (RF c0 33) (Int.toNat (i_mul 4 (σ c0 32))) x1) c0 32)) 1)) x2) (RF c0 33) (Int.toNat (i_add (i_mul 4 ((up (up σ (RF c0 33) (Int.toNat (i_mul 4 (σ c0 32))) x1) (RF c0 33) (Int.toNat (i_add (i_mul 4 ((up σ (RF c0 33) (Int.toNat (i_mul 4 (σ c0 32))) x1) c0 32)) 1)) x2) c0 32)) 2)) x4) else none else none else none
def fX10_mend_57 (c0 : Nat) (x1 : Int) (x2 : Int) (x3 : Int) : Nat → Int → Int → St → Option (Int × St)
  | 0, _, _, _ => none
  | n + 1, x4, x5, σ => if 156 ≤ x5 then (fX10_mend_97 c0 x1 x2 x3 x4 (up σ c0 32 (i_sub (σ c0 32) 1))) else (if inb (i_add x5 4) (LN (RF c0 33)) then if inb x5 (LN (RF c0 33)) then fX10_mend_57 c0 x1 x2 x3 n x4 (i_add x5 1) (up σ (RF c0 33) (Int.toNat x5) (σ (RF c0 33) (Int.toNat (i_add x5 4)))) else none else none)
def fX10_mend (c0 : Nat) (x1 : Int) (x2 : Int) (x3 : Int) (σ : St) : Option (Int × St) := Option.bind (fX10_isOf c0 x1 x2 σ) fun q1 => if q1.1 = 0 then (some ((-2000000000), q1.2)) else (Option.bind (fX10_isFit c0 x2 x3 q1.2) fun q2 => if q2.1 = 0 then (some ((-2000000000), q2.2)) else (Option.bind (fX10_get c0 x1 x2 q2.2) fun q3 => if q3.1 = x3 then (some (q3.1, q3.2)) else (Option.bind (fX10_becomes c0 x1 x2 x3 q3.2) fun q4 => if (q4 c0 32) = 40 then (fX10_mend_57 c0 x1 x2 x3 FU q3.1 0 q4) else (fX10_mend_97 c0 x1 x2 x3 q3.1 q4))))
def fX10_of (c0 : Nat) (x1 : Int) (x2 : Int) (σ : St) : Option (Int × St) := Option.bind (fX10_isOf c0 x1 x2 σ) fun q1 => if q1.1 = 0 then (some ((-2000000000), q1.2)) else (Option.bind (fX10_get c0 x1 x2 q1.2) fun q2 => some (q2.1, q2.2))
def fX10_wouldChange (c0 : Nat) (x1 : Int) (x2 : Int) (x3 : Int) (σ : St) : Option (Int × St) := Option.bind (fX10_countOf c0 x1 σ) fun q1 => if inb x3 (LN (RF c0 1)) then Option.bind (fX10_yearsOf c0 x1 (q1.2 (RF c0 1) (Int.toNat x3)) (i_sub q1.1 1) q1.2) fun q2 => if inb x2 (LN (RF c0 1)) then Option.bind (fX10_yearsOf c0 x1 (q2.2 (RF c0 1) (Int.toNat x2)) (i_sub q1.1 1) q2.2) fun q3 => if q2.1 ≤ q3.1 then (some (0, q3.2)) else (some (1, q3.2)) else none else none
def fX10_hands_115 (c0 : Nat) (k4 : Int → Int → St → Option (Int × St)) (k16 : Int → Int → Int → St → Option (Int × St)) (x1 : Int) (x2 : Int) (x3 : Int) (σ : St) : Option (Int × St) := k16 x1 x2 (i_add x3 1) σ
def fX10_hands_16 (c0 : Nat) (k4 : Int → Int → St → Option (Int × St)) : Nat → Int → Int → Int → St → Option (Int × St)
  | 0, _, _, _, _ => none
  | n + 1, x1, x2, x3, σ => if (σ c0 0) ≤ x3 then (k4 x1 (i_add x2 1) σ) else (if inb x2 (LN (RF c0 3)) then if (σ (RF c0 3) (Int.toNat x2)) = 1 then (fX10_hands_115 c0 k4 (fX10_hands_16 c0 k4 n) x1 x2 x3 σ) else (if inb x3 (LN (RF c0 3)) then if (σ (RF c0 3) (Int.toNat x3)) = 1 then (fX10_hands_115 c0 k4 (fX10_hands_16 c0 k4 n) x1 x2 x3 σ) else (if inb x2 (LN (RF c0 2)) then if (σ (RF c0 2) (Int.toNat x2)) = (-1) then (fX10_hands_115 c0 k4 (fX10_hands_16 c0 k4 n) x1 x2 x3 σ) else (if inb x3 (LN (RF c0 2)) then if (σ (RF c0 2) (Int.toNat x3)) = (-1) then (fX10_hands_115 c0 k4 (fX10_hands_16 c0 k4 n) x1 x2 x3 σ) else (if inb x2 (LN (RF c0 2)) then if inb x3 (LN (RF c0 2)) then if (σ (RF c0 2) (Int.toNat x2)) = (σ (RF c0 2) (Int.toNat x3)) then (fX10_hands_115 c0 k4 (fX10_hands_16 c0 k4 n) x1 x2 x3 σ) else (if inb x2 (LN (RF c0 2)) then Option.bind (fX10_wouldChange c0 (σ (RF c0 2) (Int.toNat x2)) x2 x3 σ) fun q1 => if q1.1 = 0 then (fX10_hands_115 c0 k4 (fX10_hands_16 c0 k4 n) x1 x2 x3 q1.2) else (if inb x3 (LN (RF c0 2)) then Option.bind (fX10_wouldChange c0 (q1.2 (RF c0 2) (Int.toNat x3)) x3 x2 q1.2) fun q2 => if q2.1 = 0 then (fX10_hands_115 c0 k4 (fX10_hands_16 c0 k4 n) x1 x2 x3 q2.2) else (fX10_hands_115 c0 k4 (fX10_hands_16 c0 k4 n) (i_add x1 1) x2 x3 q2.2) else none) else none) else none else none) else none) else none) else none) else none)
def fX10_hands_4 (c0 : Nat) : Nat → Int → Int → St → Option (Int × St)
  | 0, _, _, _ => none
  | n + 1, x1, x2, σ => if (σ c0 0) ≤ x2 then (some (x1, σ)) else (fX10_hands_16 c0 (fX10_hands_4 c0 n) FU x1 x2 (i_add x2 1) σ)
def fX10_hands (c0 : Nat) (σ : St) : Option (Int × St) := fX10_hands_4 c0 FU 0 0 σ
def fX7_varies_52 (c0 : Nat) (x1 : Int) (x2 : Int) (x3 : Int) (σ : St) : Option (St) := Option.bind (fX7_restarts c0 σ) fun q1 => some q1
def fX7_varies_24 (c0 : Nat) (x1 : Int) (x2 : Int) (x3 : Int) : Nat → Int → St → Option (St)
  | 0, _, _ => none
  | n + 1, x4, σ => if 36 ≤ x4 then (fX7_varies_52 c0 x1 x2 x3 σ) else (if inb (i_add (i_mul (i_mul x1 4) 9) x4) (LN (RF c0 4)) then fX7_varies_24 c0 x1 x2 x3 n (i_add x4 1) (up σ (RF c0 4) (Int.toNat (i_add (i_mul (i_mul x1 4) 9) x4)) (-1)) else none)
def fX7_varies (c0 : Nat) (x1 : Int) (x2 : Int) (x3 : Int) (σ : St) : Option (St) := Option.bind (fX2_become (RF c0 0) x1 x2 x3 σ) fun q1 => Option.bind (fX2_hasBidder (RF c0 0) x1 q1) fun q2 => if q2.1 = 0 then (fX7_varies_52 c0 x1 x2 x3 q2.2) else (fX7_varies_24 c0 x1 x2 x3 FU 0 q2.2)
def fX9_fits_136 (c0 : Nat) (x1 : Int) (x2 : Int) (x3 : Int) (k82 : Int → Int → Int → Int → St → Option (Int × St)) (x5 : Int) (x6 : Int) (x7 : Int) (x8 : Int) (σ : St) : Option (Int × St) := k82 x5 x6 x7 (i_add x8 (-1)) σ
def fX9_fits_82 (c0 : Nat) (x1 : Int) (x2 : Int) (x3 : Int) : Nat → Int → Int → Int → Int → St → Option (Int × St)
  | 0, _, _, _, _, _ => none
  | n + 1, x5, x6, x7, x8, σ => if x8 < 0 then (if (i_rem x3 2) = 0 then (some (x6, σ)) else (some (x7, σ))) else (Option.bind (fX7_varies (RF c0 2) x2 x5 x8 σ) fun q1 => if inb (i_div x1 10) (LN (RF c0 8)) then if inb (i_rem x1 10) (LN (RF c0 8)) then Option.bind (fX7_firstWrong (RF c0 2) (RF (RF c0 8) (Int.toNat (i_div x1 10))) (RF (RF c0 8) (Int.toNat (i_rem x1 10))) q1) fun q4 => if q4.1 = (-2) then (fX9_fits_136 c0 x1 x2 x3 (fX9_fits_82 c0 x1 x2 x3 n) x5 (i_add x6 1) x8 x8 q4.2) else (fX9_fits_136 c0 x1 x2 x3 (fX9_fits_82 c0 x1 x2 x3 n) x5 x6 x7 x8 q4.2) else none else none)
def fX9_fits_65 (c0 : Nat) (x1 : Int) (x2 : Int) (x3 : Int) (y0 : Int) (σ : St) : Option (Int × St) := if inb y0 (List.length stv0) then fX9_fits_82 c0 x1 x2 x3 FU y0 0 (-2) (stv0.getD (Int.toNat y0) 0) σ else none
def fX9_fits (c0 : Nat) (x1 : Int) (x2 : Int) (x3 : Int) (σ : St) : Option (Int × St) := Option.bind (fX9_areShelves x1 σ) fun q1 => if q1.1 = 0 then (some ((-1), q1.2)) else (Option.bind (fX2_hasBidder (RF c0 0) x2 q1.2) fun q2 => if q2.1 = 0 then (some ((-1), q2.2)) else (if x3 < 0 then (some ((-1), q2.2)) else (if x3 ≤ 3 then (Option.bind (fX9_refusesBoth c0 x1 q2.2) fun q3 => if q3.1 = 0 then (Option.bind (fX7_begin (RF c0 2) (RF c0 0) q3.2) fun q4 => if 2 ≤ x3 then (fX9_fits_65 c0 x1 x2 x3 5 q4) else (fX9_fits_65 c0 x1 x2 x3 4 q4)) else (some (q3.1, q3.2))) else (some ((-1), q2.2)))))
def fX10_sale_58 (c0 : Nat) (x1 : Int) (x2 : Int) : Nat → Int → Int → St → Option (Int × St)
  | 0, _, _, _ => none
  | n + 1, x4, x5, σ => if x2 < x5 then (Option.bind (fX10_laysBack_ c0 σ) fun q1 => some (x4, q1)) else (Option.bind (fX10_toldAt c0 x1 x5 σ) fun q2 => Option.bind (fX10_goes c0 q2.1 q2.2) fun q3 => fX10_sale_58 c0 x1 x2 n q3.1 (i_add x5 1) q3.2)
def fX10_sale (c0 : Nat) (x1 : Int) (x2 : Int) (σ : St) : Option (Int × St) := Option.bind (fX10_isShelf x1 σ) fun q1 => if q1.1 = 0 then (some ((-1), q1.2)) else (Option.bind (fX10_within x2 0 15 q1.2) fun q2 => if q2.1 = 0 then (some ((-1), q2.2)) else (Option.bind (fX10_noBytes c0 x1 q2.2) fun q3 => if 0 ≤ q3.1 then (Option.bind (fX10_listed c0 x1 q3.2) fun q4 => if x2 < q4.1 then (Option.bind (fX10_keeps c0 (RF c0 41) q4.2) fun q5 => fX10_sale_58 c0 x1 x2 FU (-2) 0 q5) else (some ((-2), q4.2))) else (some (q3.1, q3.2))))
def fX3_laysBack_66 (c0 : Nat) (c1 : Nat) (c2 : Nat) : Nat → Int → St → Option (St)
  | 0, _, _ => none
  | n + 1, x3, σ => if (σ (RF c0 0) 3) ≤ x3 then (if inc 0 0 5 (LN (RF c0 1)) (LN c2) then some (cpy σ (RF c0 1) (Int.toNat 0) c2 (Int.toNat 0) (Int.toNat 5)) else none) else (Option.bind (fX2_number (RF c0 0) x3 8 σ) fun q1 => Option.bind (fX2_become c1 x3 8 q1.1 q1.2) fun q2 => Option.bind (fX2_number (RF c0 0) x3 5 q2) fun q3 => Option.bind (fX2_become c1 x3 5 q3.1 q3.2) fun q4 => Option.bind (fX2_number (RF c0 0) x3 6 q4) fun q5 => Option.bind (fX2_become c1 x3 6 q5.1 q5.2) fun q6 => fX3_laysBack_66 c0 c1 c2 n (i_add x3 1) q6)
def fX3_laysBack_2 (c0 : Nat) (c1 : Nat) (c2 : Nat) : Nat → Int → St → Option (St)
  | 0, _, _ => none
  | n + 1, x3, σ => if (σ (RF c0 0) 2) ≤ x3 then (fX3_laysBack_66 c0 c1 c2 FU 0 σ) else (Option.bind (fX2_number (RF c0 0) x3 1 σ) fun q1 => Option.bind (fX2_become c1 x3 1 q1.1 q1.2) fun q2 => Option.bind (fX2_number (RF c0 0) x3 2 q2) fun q3 => Option.bind (fX2_become c1 x3 2 q3.1 q3.2) fun q4 => Option.bind (fX2_number (RF c0 0) x3 3 q4) fun q5 => Option.bind (fX2_become c1 x3 3 q5.1 q5.2) fun q6 => fX3_laysBack_2 c0 c1 c2 n (i_add x3 1) q6)
def fX3_laysBack (c0 : Nat) (c1 : Nat) (c2 : Nat) (σ : St) : Option (St) := fX3_laysBack_2 c0 c1 c2 FU 0 σ
def fX9_back (c0 : Nat) (σ : St) : Option (Int × St) := if (σ (RF c0 6) 2) = 0 then (some ((-5), σ)) else (Option.bind (fX3_laysBack (RF c0 6) (RF c0 0) (RF c0 9) σ) fun q1 => if inb 4 (LN (RF c0 9)) then some (q1 (RF c0 9) (Int.toNat 4), q1) else none)
def fX10_redo (c0 : Nat) (σ : St) : Option (Int × St) := if (σ c0 32) = (σ c0 31) then (some ((-5), σ)) else (if inb (i_mul 4 (σ c0 32)) (LN (RF c0 33)) then if inb (i_add (i_mul 4 (σ c0 32)) 1) (LN (RF c0 33)) then if inb (i_add (i_mul 4 (σ c0 32)) 3) (LN (RF c0 33)) then Option.bind (fX10_becomes c0 (σ (RF c0 33) (Int.toNat (i_mul 4 (σ c0 32)))) (σ (RF c0 33) (Int.toNat (i_add (i_mul 4 (σ c0 32)) 1))) (σ (RF c0 33) (Int.toNat (i_add (i_mul 4 (σ c0 32)) 3))) σ) fun q1 => some (i_sub ((up q1 c0 32 (i_add (q1 c0 32) 1)) c0 31) ((up q1 c0 32 (i_add (q1 c0 32) 1)) c0 32), up q1 c0 32 (i_add (q1 c0 32) 1)) else none else none else none)
def fX10_year (c0 : Nat) (σ : St) : Option (Int × St) := Option.bind (fX10_passes c0 σ) fun q1 => if inb 4 (LN (RF c0 25)) then if inb 4 (LN (RF c0 25)) then Option.bind (fX10_missedNow c0 (up q1 (RF c0 25) (Int.toNat 4) (i_add (q1 (RF c0 25) (Int.toNat 4)) 1))) fun q2 => Option.bind (fJ6_bitCount_0f7a4 q2.1 q2.2) fun q3 => some (q3.1, q3.2) else none else none
def fX9_comesFrom (c0 : Nat) (c1 : Nat) (x2 : Int) (σ : St) : Option (Int × St) := Option.bind (fX6_at c1 x2 σ) fun q1 => Option.bind (fX6_at c1 (i_add x2 1) q1.2) fun q2 => Option.bind (fX6_at c1 (i_add x2 2) q2.2) fun q3 => Option.bind (fX9_isWithin 4 (c_l2i q1.1) q3.2) fun q4 => if q4.1 = 0 then (some (0, q4.2)) else (Option.bind (fX9_isWithin 5 (c_l2i q2.1) q4.2) fun q5 => if q5.1 = 0 then (some (0, q5.2)) else (Option.bind (fX9_isWithin 7 (c_l2i q3.1) q5.2) fun q6 => if q6.1 = 0 then (some (0, q6.2)) else (Option.bind (fX2_addBidder (RF c0 0) (c_l2i q1.1) (c_l2i q2.1) (c_l2i q3.1) q6.2) fun q7 => if q7.1 = (-3) then (some (0, q7.2)) else (some (1, q7.2)))))
def fX9_bidders_55 (c0 : Nat) (x1 : Int) (x2 : Int) (x3 : Int) : Nat → Nat → Int → Int → St → Option (Int × St)
  | 0, _, _, _, _ => none
  | n + 1, c4, x5, x6, σ => if x3 ≤ x5 then (some (x5, σ)) else (Option.bind (fX6_hasRun c4 x6 3 σ) fun q1 => if q1.1 = 0 then (some (x5, q1.2)) else (Option.bind (fX9_comesFrom c0 c4 x6 q1.2) fun q2 => if q2.1 = 0 then (some (x5, q2.2)) else (fX9_bidders_55 c0 x1 x2 x3 n c4 (i_add x5 1) (i_add x6 3) q2.2)))
def fX9_bidders (c0 : Nat) (x1 : Int) (x2 : Int) (x3 : Int) (σ : St) : Option (Int × St) := Option.bind (fX9_isShelf x1 σ) fun q1 => if q1.1 = 0 then (some ((-1), q1.2)) else (if x3 < 1 then (some ((-1), q1.2)) else (if x3 ≤ 7 then (if inb x1 (LN (RF c0 8)) then if (q1.2 (RF (RF c0 8) (Int.toNat x1)) 1) = 0 then (some (0, q1.2)) else (Option.bind (fX6_holdsBytes (RF (RF c0 8) (Int.toNat x1)) q1.2) fun q3 => if q3.1 = 0 then (some ((-12), q3.2)) else (fX9_bidders_55 c0 x1 x2 x3 FU (RF (RF c0 8) (Int.toNat x1)) 0 x2 q3.2)) else none) else (some ((-1), q1.2))))
def fX9_year (c0 : Nat) (σ : St) : Option (Int × St) := Option.bind (fX2_yearPasses (RF c0 0) σ) fun q1 => if inb 4 (LN (RF c0 9)) then if inb 4 (LN (RF c0 9)) then Option.bind (fX2_missedBits (RF c0 0) (up q1 (RF c0 9) (Int.toNat 4) (i_add (q1 (RF c0 9) (Int.toNat 4)) 1))) fun q2 => Option.bind (fJ6_bitCount_0f7a4 q2.1 q2.2) fun q3 => some (q3.1, q3.2) else none else none
def fX6_holdRow (c0 : Nat) (x1 : Int) (x2 : Int) (σ : St) : Option (St) := Option.bind (fJ7_fill_d0a16 (RF c0 0) 0 (up (up (up σ c0 1 2) c0 3 x1) c0 4 (m_max 0 (m_min 60 x2)))) fun q1 => some q1
def fX9_row (c0 : Nat) (x1 : Int) (x2 : Int) (x3 : Int) (σ : St) : Option (Int × St) := Option.bind (fX9_isShelf x1 σ) fun q1 => if q1.1 = 0 then (some ((-1), q1.2)) else (if x2 < 0 then (some ((-1), q1.2)) else (if 4 < x2 then (some ((-1), q1.2)) else (if x3 ≤ 60 then (if 0 ≤ x3 then (if inb x1 (LN (RF c0 8)) then Option.bind (fX6_holdRow (RF (RF c0 8) (Int.toNat x1)) x2 x3 q1.2) fun q3 => some (1, q3) else none) else (some ((-14), q1.2))) else (some ((-1), q1.2)))))
def fX9_putUp (c0 : Nat) (x1 : Int) (σ : St) : Option (Int × St) := Option.bind (fX2_hasThing (RF c0 0) x1 σ) fun q1 => if q1.1 = 0 then (some ((-1), q1.2)) else (Option.bind (fX2_number (RF c0 0) x1 1 q1.2) fun q2 => if 0 ≤ q2.1 then (some ((-5), q2.2)) else (Option.bind (fX2_number (RF c0 0) x1 2 q2.2) fun q3 => if q3.1 = 0 then (Option.bind (fX7_begin (RF c0 2) (RF c0 0) q3.2) fun q4 => Option.bind (fX7_considers (RF c0 2) x1 q4) fun q5 => Option.bind (fX7_winner (RF c0 2) q5) fun q6 => if q6.1 = 8 then (Option.bind (fX2_become (RF c0 0) x1 2 1 q6.2) fun q8 => Option.bind (fX2_become (RF c0 0) x1 3 0 q8) fun q9 => if inb 1 (LN (RF c0 9)) then if inb 1 (LN (RF c0 9)) then some (q6.1, up q9 (RF c0 9) (Int.toNat 1) (i_add (q9 (RF c0 9) (Int.toNat 1)) 1)) else none else none) else (if q6.1 < 0 then (some (q6.1, q6.2)) else (Option.bind (fX2_become (RF c0 0) x1 1 q6.1 q6.2) fun q7 => if inb 0 (LN (RF c0 9)) then if inb 0 (LN (RF c0 9)) then some (q6.1, up q7 (RF c0 9) (Int.toNat 0) (i_add (q7 (RF c0 9) (Int.toNat 0)) 1)) else none else none))) else (some ((-5), q3.2))))
def fX9_years (c0 : Nat) (x1 : Int) (x2 : Int) (σ : St) : Option (Int × St) := Option.bind (fX9_isPair c0 x1 σ) fun q1 => if q1.1 = 0 then (some ((-1), q1.2)) else (if x2 < 0 then (some ((-1), q1.2)) else (if x2 ≤ 1 then (Option.bind (fX7_begin (RF c0 2) (RF c0 0) q1.2) fun q2 => Option.bind (fX7_considers (RF c0 2) (i_rem x1 10) q2) fun q3 => if x2 = 0 then (if inb (i_div x1 10) (LN (RF (RF c0 2) 5)) then some (q3 (RF (RF c0 2) 5) (Int.toNat (i_div x1 10)), q3) else none) else (Option.bind (fX7_bid (RF c0 2) (i_div x1 10) q3) fun q4 => some (q4.1, q4.2))) else (some ((-1), q1.2))))
def fX10_loses (c0 : Nat) (x1 : Int) (σ : St) : Option (Int × St) := Option.bind (fX10_isThing c0 x1 σ) fun q1 => if q1.1 = 0 then (some ((-1), q1.2)) else (if inb x1 (LN (RF c0 2)) then if (q1.2 (RF c0 2) (Int.toNat x1)) = (-1) then (some ((-5), q1.2)) else (if inb x1 (LN (RF c0 3)) then if (q1.2 (RF c0 3) (Int.toNat x1)) = 1 then (some ((-5), q1.2)) else (if inb x1 (LN (RF c0 2)) then if inb x1 (LN (RF c0 1)) then Option.bind (fX10_countOf c0 (q1.2 (RF c0 2) (Int.toNat x1)) q1.2) fun q2 => Option.bind (fX10_yearsOf c0 (q1.2 (RF c0 2) (Int.toNat x1)) (q1.2 (RF c0 1) (Int.toNat x1)) (i_sub q2.1 1) q2.2) fun q3 => if inb (i_add 7 (q1.2 (RF c0 2) (Int.toNat x1))) (LN (RF c0 6)) then if inb (i_add 14 (q1.2 (RF c0 2) (Int.toNat x1))) (LN (RF c0 6)) then if inb x1 (LN (RF c0 4)) then if inb x1 (LN (RF c0 3)) then if inb 2 (LN (RF c0 25)) then if inb 2 (LN (RF c0 25)) then if inb x1 (LN (RF c0 4)) then some ((up (up (up q3.2 (RF c0 4) (Int.toNat x1) (m_min q3.1 (i_add (q3.2 (RF c0 6) (Int.toNat (i_add 7 (q1.2 (RF c0 2) (Int.toNat x1))))) (q3.2 (RF c0 6) (Int.toNat (i_add 14 (q1.2 (RF c0 2) (Int.toNat x1)))))))) (RF c0 3) (Int.toNat x1) 1) (RF c0 25) (Int.toNat 2) (i_add ((up (up q3.2 (RF c0 4) (Int.toNat x1) (m_min q3.1 (i_add (q3.2 (RF c0 6) (Int.toNat (i_add 7 (q1.2 (RF c0 2) (Int.toNat x1))))) (q3.2 (RF c0 6) (Int.toNat (i_add 14 (q1.2 (RF c0 2) (Int.toNat x1)))))))) (RF c0 3) (Int.toNat x1) 1) (RF c0 25) (Int.toNat 2)) 1)) (RF c0 4) (Int.toNat x1), up (up (up q3.2 (RF c0 4) (Int.toNat x1) (m_min q3.1 (i_add (q3.2 (RF c0 6) (Int.toNat (i_add 7 (q1.2 (RF c0 2) (Int.toNat x1))))) (q3.2 (RF c0 6) (Int.toNat (i_add 14 (q1.2 (RF c0 2) (Int.toNat x1)))))))) (RF c0 3) (Int.toNat x1) 1) (RF c0 25) (Int.toNat 2) (i_add ((up (up q3.2 (RF c0 4) (Int.toNat x1) (m_min q3.1 (i_add (q3.2 (RF c0 6) (Int.toNat (i_add 7 (q1.2 (RF c0 2) (Int.toNat x1))))) (q3.2 (RF c0 6) (Int.toNat (i_add 14 (q1.2 (RF c0 2) (Int.toNat x1)))))))) (RF c0 3) (Int.toNat x1) 1) (RF c0 25) (Int.toNat 2)) 1)) else none else none else none else none else none else none else none else none else none) else none) else none)
def fX10_feed (c0 : Nat) (x1 : Int) (σ : St) : Option (Int × St) := Option.bind (fX10_within x1 0 255 σ) fun q1 => if q1.1 = 0 then (some ((-1), q1.2)) else (if (q1.2 c0 7) = 120 then (some ((-3), q1.2)) else (if inb (q1.2 c0 7) (LN (RF c0 8)) then some ((up (up q1.2 c0 7 (i_add (q1.2 c0 7) 1)) (RF c0 8) (Int.toNat (q1.2 c0 7)) x1) c0 7, up (up q1.2 c0 7 (i_add (q1.2 c0 7) 1)) (RF c0 8) (Int.toNat (q1.2 c0 7)) x1) else none))
def fX9_of (c0 : Nat) (x1 : Int) (x2 : Int) (σ : St) : Option (Int × St) := Option.bind (fX2_has (RF c0 0) x1 x2 σ) fun q1 => if q1.1 = 0 then (some ((-2000000000), q1.2)) else (Option.bind (fX2_number (RF c0 0) x1 x2 q1.2) fun q2 => some (q2.1, q2.2))
def fX9_shift (c0 : Nat) (x1 : Int) (x2 : Int) (x3 : Int) (x4 : Int) (x5 : Int) (σ : St) : Option (Int × St) := Option.bind (fX9_isShelf x1 σ) fun q1 => if q1.1 = 0 then (some ((-1), q1.2)) else (Option.bind (fX9_isShelf x3 q1.2) fun q2 => if q2.1 = 0 then (some ((-1), q2.2)) else (if inb x1 (LN (RF c0 8)) then if inb x3 (LN (RF c0 8)) then if (q2.2 (RF (RF c0 8) (Int.toNat x1)) 1) = 0 then (some ((-11), q2.2)) else (if (q2.2 (RF (RF c0 8) (Int.toNat x3)) 1) = 0 then (some ((-11), q2.2)) else (if (q2.2 (RF (RF c0 8) (Int.toNat x1)) 1) = 2 then (if (q2.2 (RF (RF c0 8) (Int.toNat x3)) 1) = 2 then (if (q2.2 (RF (RF c0 8) (Int.toNat x1)) 3) = (q2.2 (RF (RF c0 8) (Int.toNat x3)) 3) then (Option.bind (fX6_hasRun (RF (RF c0 8) (Int.toNat x1)) x2 x5 q2.2) fun q5 => if q5.1 = 0 then (some ((-13), q5.2)) else (Option.bind (fX6_hasRun (RF (RF c0 8) (Int.toNat x3)) x4 x5 q5.2) fun q6 => if q6.1 = 0 then (some ((-13), q6.2)) else (if inc x2 x4 x5 (LN (RF (RF (RF c0 8) (Int.toNat x1)) 0)) (LN (RF (RF (RF c0 8) (Int.toNat x3)) 0)) then some (x5, cpy q6.2 (RF (RF (RF c0 8) (Int.toNat x1)) 0) (Int.toNat x2) (RF (RF (RF c0 8) (Int.toNat x3)) 0) (Int.toNat x4) (Int.toNat x5)) else none))) else (some ((-12), q2.2))) else (some ((-12), q2.2))) else (some ((-12), q2.2)))) else none else none))
def fX6_kept (c0 : Nat) (x1 : Int) (σ : St) : Option (Int × St) := if (σ c0 3) = 0 then (some (c_i2l (c_i2b (c_l2i x1)), σ)) else if (σ c0 3) = 1 then (some (c_i2l (c_i2s (c_l2i x1)), σ)) else if (σ c0 3) = 2 then (some (c_i2l (c_l2i x1), σ)) else if (σ c0 3) = 3 then (some (x1, σ)) else (if (l_cmp x1 0) = 0 then (some (0, σ)) else (some (1, σ)))
def fX6_lay (c0 : Nat) (x1 : Int) (x2 : Int) (σ : St) : Option (St) := Option.bind (fX6_hasRun c0 x1 1 σ) fun q1 => if q1.1 = 0 then (some q1.2) else (Option.bind (fX6_kept c0 x2 q1.2) fun q2 => if inb x1 (LN (RF c0 0)) then some (up q2.2 (RF c0 0) (Int.toNat x1) q2.1) else none)
def fX9_put (c0 : Nat) (x1 : Int) (x2 : Int) (x3 : Int) (σ : St) : Option (Int × St) := Option.bind (fX9_refusesElement c0 x1 x2 σ) fun q1 => if q1.1 = 0 then (if inb x1 (LN (RF c0 8)) then Option.bind (fX6_lay (RF (RF c0 8) (Int.toNat x1)) x2 x3 q1.2) fun q3 => some (1, q3) else none) else (some (q1.1, q1.2))
def fX10_wins (c0 : Nat) (x1 : Int) (σ : St) : Option (Int × St) := Option.bind (fX10_isThing c0 x1 σ) fun q1 => if q1.1 = 0 then (some ((-1), q1.2)) else (Option.bind (fX10_winner c0 x1 q1.2) fun q2 => some (q2.1, q2.2))
end
section
/-! Walks (printed by my program). -/
theorem dX10_within_0 : decode cX10_within 0 = .ok (.iload_n 0, 1) := by decide +kernel
theorem dX10_within_1 : decode cX10_within 1 = .ok (.iload_n 1, 1) := by decide +kernel
theorem dX10_within_2 : decode cX10_within 2 = .ok (.if_icmp .lt 12, 3) := by decide +kernel
theorem dX10_within_5 : decode cX10_within 5 = .ok (.iload_n 0, 1) := by decide +kernel
theorem dX10_within_6 : decode cX10_within 6 = .ok (.iload_n 2, 1) := by decide +kernel
theorem dX10_within_7 : decode cX10_within 7 = .ok (.if_icmp .gt 7, 3) := by decide +kernel
theorem dX10_within_10 : decode cX10_within 10 = .ok (.iconst 1, 1) := by decide +kernel
theorem dX10_within_11 : decode cX10_within 11 = .ok (.goto 4, 3) := by decide +kernel
theorem dX10_within_14 : decode cX10_within 14 = .ok (.iconst 0, 1) := by decide +kernel
theorem dX10_within_15 : decode cX10_within 15 = .ok (.ireturn, 1) := by decide +kernel
theorem bX10_within_0 {K : KT} {g : GT} {cm sm : Nat} {cs : Nat × Nat} {x0 : Int} {x1 : Int} {x2 : Int} {r : Int} {σ' : St} (hC : Ctx K g RX10 cX10_within 3 0 cm sm) (hcs : cs.1 ≤ cm ∧ cs.2 ≤ sm) (hR : RetZ K g cX10_within 3 cs r (SH0, σ')) : ∀ (σ : St), fX10_within x0 x1 x2 σ = some (r, σ') → G K g 3 cs 0 [(0, vi x0), (1, vi x1), (2, vi x2)] [] (SH0, σ) := by
  intro σ h
  unfold fX10_within at h
  refine g_iload_n hC dX10_within_0 0 rfl rfl ?_
  refine g_iload_n hC dX10_within_1 1 rfl rfl ?_
  refine g_icmp_lt hC dX10_within_2 (tgt := 14) (by decide) (fun h9 => ?_) (fun h9 => ?_)
  · rw [if_pos h9] at h
    refine g_iconst hC dX10_within_14 ok_0 ?_
    exact ret_z h hR (by decide) dX10_within_15
  · rw [if_neg h9] at h
    refine g_iload_n hC dX10_within_5 0 rfl rfl ?_
    refine g_iload_n hC dX10_within_6 2 rfl rfl ?_
    refine g_icmp_gt hC dX10_within_7 (tgt := 14) (by decide) (fun h9 => ?_) (fun h9 => ?_)
    · rw [if_pos h9] at h
      refine g_iconst hC dX10_within_14 ok_0 ?_
      exact ret_z h hR (by decide) dX10_within_15
    · rw [if_neg h9] at h
      refine g_iconst hC dX10_within_10 ok_1 ?_
      refine g_goto hC dX10_within_11 (tgt := 15) (by decide) ?_
      exact ret_z h hR (by decide) dX10_within_15
theorem tX10_within {l : Launch} {g : GT} {x0 : Int} {x1 : Int} {x2 : Int} {σ σ' : St} {r : Int} (h : fX10_within x0 x1 x2 σ = some (r, σ')) : Cn l g yX10_within cX10_within 3 (some .boolean) 0 0 0 [vi x0, vi x1, vi x2] (SH0, σ) (some (vi r)) (SH0, σ') :=
  Cn.ofZ (by decide) (Nat.le_of_ble_eq_true rfl) (fun K e hC hR => (bX10_within_0 hC ⟨Nat.le_refl _, Nat.le_refl _⟩ hR _ h))
theorem dX10_isShelf_0 : decode cX10_isShelf 0 = .ok (.iload_n 0, 1) := by decide +kernel
theorem dX10_isShelf_1 : decode cX10_isShelf 1 = .ok (.iconst 0, 1) := by decide +kernel
theorem dX10_isShelf_2 : decode cX10_isShelf 2 = .ok (.iconst 5, 1) := by decide +kernel
theorem dX10_isShelf_3 : decode cX10_isShelf 3 = .ok (.invokestatic 101, 3) := by decide +kernel
theorem dX10_isShelf_6 : decode cX10_isShelf 6 = .ok (.ireturn, 1) := by decide +kernel
theorem bX10_isShelf_0 {K : KT} {g : GT} {cm sm : Nat} {cs : Nat × Nat} {x0 : Int} {r : Int} {σ' : St} (hC : Ctx K g RX10 cX10_isShelf 1 1 cm sm) (hcs : cs.1 ≤ cm ∧ cs.2 ≤ sm) (hR : RetZ K g cX10_isShelf 1 cs r (SH0, σ')) : ∀ (σ : St), fX10_isShelf x0 σ = some (r, σ') → G K g 1 cs 0 [(0, vi x0)] [] (SH0, σ) := by
  intro σ h
  unfold fX10_isShelf at h
  refine g_iload_n hC dX10_isShelf_0 0 rfl rfl ?_
  refine g_iconst hC dX10_isShelf_1 ok_0 ?_
  refine g_iconst hC dX10_isShelf_2 ok_5 ?_
  obtain ⟨⟨r1, s1⟩, e1, h⟩ := of_bind h
  dsimp only at h
  refine s_callSi hC dX10_isShelf_3 (tX10_within e1) miX10_within msX10_within mlRX10_101 rfl rfl (Nat.le_of_ble_eq_true rfl) (Nat.le_of_ble_eq_true rfl) (Nat.le_of_ble_eq_true rfl) hcs ?_
  obtain ⟨b9, h⟩ := of_ite h
  exact ret_z h hR b9 dX10_isShelf_6
theorem tX10_isShelf {l : Launch} {g : GT} {x0 : Int} {σ σ' : St} {r : Int} (h : fX10_isShelf x0 σ = some (r, σ')) : Cn l g yX10_isShelf cX10_isShelf 1 (some .boolean) 1 0 0 [vi x0] (SH0, σ) (some (vi r)) (SH0, σ') :=
  Cn.ofZ (by decide) (Nat.le_of_ble_eq_true rfl) (fun K e hC hR => (bX10_isShelf_0 hC ⟨Nat.le_refl _, Nat.le_refl _⟩ hR _ h))
theorem dX10_toldAt_0 : decode cX10_toldAt 0 = .ok (.aload_n 0, 1) := by decide +kernel
theorem dX10_toldAt_1 : decode cX10_toldAt 1 = .ok (.getfield 84, 3) := by decide +kernel
theorem dX10_toldAt_4 : decode cX10_toldAt 4 = .ok (.bipush 60, 2) := by decide +kernel
theorem dX10_toldAt_6 : decode cX10_toldAt 6 = .ok (.iload_n 1, 1) := by decide +kernel
theorem dX10_toldAt_7 : decode cX10_toldAt 7 = .ok (.imul, 1) := by decide +kernel
theorem dX10_toldAt_8 : decode cX10_toldAt 8 = .ok (.iload_n 2, 1) := by decide +kernel
theorem dX10_toldAt_9 : decode cX10_toldAt 9 = .ok (.iadd, 1) := by decide +kernel
theorem dX10_toldAt_10 : decode cX10_toldAt 10 = .ok (.laload, 1) := by decide +kernel
theorem dX10_toldAt_11 : decode cX10_toldAt 11 = .ok (.l2i, 1) := by decide +kernel
theorem dX10_toldAt_12 : decode cX10_toldAt 12 = .ok (.ireturn, 1) := by decide +kernel
theorem bX10_toldAt_0 {K : KT} {g : GT} {cm sm : Nat} {cs : Nat × Nat} {c0 : Nat} {x1 : Int} {x2 : Int} {r : Int} {σ' : St} (hC : Ctx K g RX10 cX10_toldAt 3 0 cm sm) (hcs : cs.1 ≤ cm ∧ cs.2 ≤ sm) (h0 : isO 10 c0 = true) (hR : RetI K g cX10_toldAt 3 cs r (SH0, σ')) : ∀ (σ : St), fX10_toldAt c0 x1 x2 σ = some (r, σ') → G K g 3 cs 0 [(0, vr c0), (1, vi x1), (2, vi x2)] [] (SH0, σ) := by
  intro σ h
  unfold fX10_toldAt at h
  refine g_aload_n hC dX10_toldAt_0 0 rfl rfl ?_
  refine g_getr hC dX10_toldAt_1 lfRX10_84 (isO_spec h0) (ft_10_40 h0) ?_
  refine g_bipush hC dX10_toldAt_4 bp_60 ?_
  refine g_iload_n hC dX10_toldAt_6 1 rfl rfl ?_
  refine g_imul hC dX10_toldAt_7 ?_
  refine g_iload_n hC dX10_toldAt_8 2 rfl rfl ?_
  refine g_iadd hC dX10_toldAt_9 ?_
  obtain ⟨b9, h⟩ := of_ite h
  refine g_lald hC dX10_toldAt_10 (isA_spec (rf_10_40 h0)) b9 ?_
  refine g_l2i hC dX10_toldAt_11 ?_
  exact ret_i h hR dX10_toldAt_12
theorem tX10_toldAt {l : Launch} {g : GT} {c0 : Nat} {x1 : Int} {x2 : Int} {σ σ' : St} {r : Int} (h0 : isO 10 c0 = true) (h : fX10_toldAt c0 x1 x2 σ = some (r, σ')) : Cn l g yX10_toldAt cX10_toldAt 3 (some .int) 0 0 0 [vr c0, vi x1, vi x2] (SH0, σ) (some (vi r)) (SH0, σ') :=
  Cn.ofI (by decide) (Nat.le_of_ble_eq_true rfl) (fun K e hC hR => (bX10_toldAt_0 hC ⟨Nat.le_refl _, Nat.le_refl _⟩ h0 hR _ h))
theorem dX10_newOne_0 : decode cX10_newOne 0 = .ok (.iconst 0, 1) := by decide +kernel
theorem dX10_newOne_1 : decode cX10_newOne 1 = .ok (.istore 4, 2) := by decide +kernel
theorem dX10_newOne_3 : decode cX10_newOne 3 = .ok (.iload 4, 2) := by decide +kernel
theorem dX10_newOne_5 : decode cX10_newOne 5 = .ok (.bipush 9, 2) := by decide +kernel
theorem dX10_newOne_7 : decode cX10_newOne 7 = .ok (.if_icmp .ge 35, 3) := by decide +kernel
theorem dX10_newOne_10 : decode cX10_newOne 10 = .ok (.aload_n 0, 1) := by decide +kernel
theorem dX10_newOne_11 : decode cX10_newOne 11 = .ok (.getfield 24, 3) := by decide +kernel
theorem dX10_newOne_14 : decode cX10_newOne 14 = .ok (.bipush 7, 2) := by decide +kernel
theorem dX10_newOne_16 : decode cX10_newOne 16 = .ok (.iload 4, 2) := by decide +kernel
theorem dX10_newOne_18 : decode cX10_newOne 18 = .ok (.imul, 1) := by decide +kernel
theorem dX10_newOne_19 : decode cX10_newOne 19 = .ok (.aload_n 0, 1) := by decide +kernel
theorem dX10_newOne_20 : decode cX10_newOne 20 = .ok (.getfield 105, 3) := by decide +kernel
theorem dX10_newOne_23 : decode cX10_newOne 23 = .ok (.iadd, 1) := by decide +kernel
theorem dX10_newOne_24 : decode cX10_newOne 24 = .ok (.iload 4, 2) := by decide +kernel
theorem dX10_newOne_26 : decode cX10_newOne 26 = .ok (.iconst 4, 1) := by decide +kernel
theorem dX10_newOne_27 : decode cX10_newOne 27 = .ok (.if_icmp .le 7, 3) := by decide +kernel
theorem dX10_newOne_30 : decode cX10_newOne 30 = .ok (.iconst 5, 1) := by decide +kernel
theorem dX10_newOne_31 : decode cX10_newOne 31 = .ok (.goto 4, 3) := by decide +kernel
theorem dX10_newOne_34 : decode cX10_newOne 34 = .ok (.iconst 0, 1) := by decide +kernel
theorem dX10_newOne_35 : decode cX10_newOne 35 = .ok (.iastore, 1) := by decide +kernel
theorem dX10_newOne_36 : decode cX10_newOne 36 = .ok (.iinc 4 1, 3) := by decide +kernel
theorem dX10_newOne_39 : decode cX10_newOne 39 = .ok (.goto (-36), 3) := by decide +kernel
theorem dX10_newOne_42 : decode cX10_newOne 42 = .ok (.aload_n 0, 1) := by decide +kernel
theorem dX10_newOne_43 : decode cX10_newOne 43 = .ok (.getfield 24, 3) := by decide +kernel
theorem dX10_newOne_46 : decode cX10_newOne 46 = .ok (.aload_n 0, 1) := by decide +kernel
theorem dX10_newOne_47 : decode cX10_newOne 47 = .ok (.getfield 105, 3) := by decide +kernel
theorem dX10_newOne_50 : decode cX10_newOne 50 = .ok (.iload_n 1, 1) := by decide +kernel
theorem dX10_newOne_51 : decode cX10_newOne 51 = .ok (.iastore, 1) := by decide +kernel
theorem dX10_newOne_52 : decode cX10_newOne 52 = .ok (.aload_n 0, 1) := by decide +kernel
theorem dX10_newOne_53 : decode cX10_newOne 53 = .ok (.getfield 24, 3) := by decide +kernel
theorem dX10_newOne_56 : decode cX10_newOne 56 = .ok (.bipush 7, 2) := by decide +kernel
theorem dX10_newOne_58 : decode cX10_newOne 58 = .ok (.aload_n 0, 1) := by decide +kernel
theorem dX10_newOne_59 : decode cX10_newOne 59 = .ok (.getfield 105, 3) := by decide +kernel
theorem dX10_newOne_62 : decode cX10_newOne 62 = .ok (.iadd, 1) := by decide +kernel
theorem dX10_newOne_63 : decode cX10_newOne 63 = .ok (.iload_n 2, 1) := by decide +kernel
theorem dX10_newOne_64 : decode cX10_newOne 64 = .ok (.iastore, 1) := by decide +kernel
theorem dX10_newOne_65 : decode cX10_newOne 65 = .ok (.aload_n 0, 1) := by decide +kernel
theorem dX10_newOne_66 : decode cX10_newOne 66 = .ok (.getfield 24, 3) := by decide +kernel
theorem dX10_newOne_69 : decode cX10_newOne 69 = .ok (.bipush 21, 2) := by decide +kernel
theorem dX10_newOne_71 : decode cX10_newOne 71 = .ok (.aload_n 0, 1) := by decide +kernel
theorem dX10_newOne_72 : decode cX10_newOne 72 = .ok (.getfield 105, 3) := by decide +kernel
theorem dX10_newOne_75 : decode cX10_newOne 75 = .ok (.iadd, 1) := by decide +kernel
theorem dX10_newOne_76 : decode cX10_newOne 76 = .ok (.iload_n 3, 1) := by decide +kernel
theorem dX10_newOne_77 : decode cX10_newOne 77 = .ok (.iastore, 1) := by decide +kernel
theorem dX10_newOne_78 : decode cX10_newOne 78 = .ok (.aload_n 0, 1) := by decide +kernel
theorem dX10_newOne_79 : decode cX10_newOne 79 = .ok (.dup, 1) := by decide +kernel
theorem dX10_newOne_80 : decode cX10_newOne 80 = .ok (.getfield 105, 3) := by decide +kernel
theorem dX10_newOne_83 : decode cX10_newOne 83 = .ok (.dup_x1, 1) := by decide +kernel
theorem dX10_newOne_84 : decode cX10_newOne 84 = .ok (.iconst 1, 1) := by decide +kernel
theorem dX10_newOne_85 : decode cX10_newOne 85 = .ok (.iadd, 1) := by decide +kernel
theorem dX10_newOne_86 : decode cX10_newOne 86 = .ok (.putfield 105, 3) := by decide +kernel
theorem dX10_newOne_89 : decode cX10_newOne 89 = .ok (.ireturn, 1) := by decide +kernel
theorem bX10_newOne_35 {K : KT} {g : GT} {cm sm : Nat} {cs : Nat × Nat} {c0 : Nat} {x1 : Int} {x2 : Int} {x3 : Int} {k3 : Int → St → Option (Int × St)} {r : Int} {σ' : St} (hC : Ctx K g RX10 cX10_newOne 5 0 cm sm) (hcs : cs.1 ≤ cm ∧ cs.2 ≤ sm) (h0 : isO 10 c0 = true) (hk3 : ∀ (x4 : Int) (σ : St), k3 x4 σ = some (r, σ') → G K g 5 cs 3 [(0, vr c0), (1, vi x1), (2, vi x2), (3, vi x3), (4, vi x4)] [] (SH0, σ)) (hR : RetI K g cX10_newOne 5 cs r (SH0, σ')) : ∀ (x4 : Int) (d0 : Nat) (y1 : Int) (y2 : Int) (σ : St), isA 1 d0 = true → fX10_newOne_35 c0 x1 x2 x3 k3 x4 d0 y1 y2 σ = some (r, σ') → G K g 5 cs 35 [(0, vr c0), (1, vi x1), (2, vi x2), (3, vi x3), (4, vi x4)] [vi y2, vi y1, vr d0] (SH0, σ) := by
  intro x4 d0 y1 y2 σ hd0 h
  unfold fX10_newOne_35 at h
  obtain ⟨b9, h⟩ := of_ite h
  refine g_iast hC dX10_newOne_35 (isA_spec hd0) b9 ?_
  refine g_iinc hC dX10_newOne_36 4 rfl (Nat.le_of_ble_eq_true rfl) rfl ?_
  refine g_goto hC dX10_newOne_39 (tgt := 3) (by decide) ?_
  exact g_pick [1, 2, 3, 4, 0] rfl (hk3 _ _ h)
theorem bX10_newOne_78 {K : KT} {g : GT} {cm sm : Nat} {cs : Nat × Nat} {c0 : Nat} {x1 : Int} {x2 : Int} {x3 : Int} {r : Int} {σ' : St} (hC : Ctx K g RX10 cX10_newOne 5 0 cm sm) (hcs : cs.1 ≤ cm ∧ cs.2 ≤ sm) (h0 : isO 10 c0 = true) (hR : RetI K g cX10_newOne 5 cs r (SH0, σ')) : ∀ (σ : St), fX10_newOne_78 c0 x1 x2 x3 σ = some (r, σ') → G K g 5 cs 78 [(0, vr c0), (1, vi x1), (2, vi x2), (3, vi x3)] [] (SH0, σ) := by
  intro σ h
  unfold fX10_newOne_78 at h
  refine g_aload_n hC dX10_newOne_78 0 rfl rfl ?_
  refine g_dup hC dX10_newOne_79 rfl ?_
  refine g_geti hC dX10_newOne_80 lfRX10_105 (isO_spec h0) (ft_10_5 h0) ?_
  refine g_dup_x1 hC dX10_newOne_83 rfl rfl ?_
  refine g_iconst hC dX10_newOne_84 ok_1 ?_
  refine g_iadd hC dX10_newOne_85 ?_
  refine g_puti hC dX10_newOne_86 lfRX10_105 fp_10_5 (isO_spec h0) (ft_10_5 h0) ?_
  exact ret_i h hR dX10_newOne_89
theorem bX10_newOne_3 {K : KT} {g : GT} {cm sm : Nat} {cs : Nat × Nat} {c0 : Nat} {x1 : Int} {x2 : Int} {x3 : Int} {r : Int} {σ' : St} (hC : Ctx K g RX10 cX10_newOne 5 0 cm sm) (hcs : cs.1 ≤ cm ∧ cs.2 ≤ sm) (h0 : isO 10 c0 = true) (hR : RetI K g cX10_newOne 5 cs r (SH0, σ')) : ∀ (n : Nat) (x4 : Int) (σ : St), fX10_newOne_3 c0 x1 x2 x3 n x4 σ = some (r, σ') → G K g 5 cs 3 [(0, vr c0), (1, vi x1), (2, vi x2), (3, vi x3), (4, vi x4)] [] (SH0, σ) := by
  intro n
  induction n with
  | zero =>
    intro x4 σ h
    rw [fX10_newOne_3.eq_1] at h
    cases h
  | succ n ih =>
    intro x4 σ h
    rw [fX10_newOne_3.eq_2] at h
    refine g_iload hC dX10_newOne_3 4 rfl ?_
    refine g_bipush hC dX10_newOne_5 bp_9 ?_
    refine g_icmp_ge hC dX10_newOne_7 (tgt := 42) (by decide) (fun h9 => ?_) (fun h9 => ?_)
    · rw [if_pos h9] at h
      refine g_aload_n hC dX10_newOne_42 0 rfl rfl ?_
      refine g_getr hC dX10_newOne_43 lfRX10_24 (isO_spec h0) (ft_10_6 h0) ?_
      refine g_aload_n hC dX10_newOne_46 0 rfl rfl ?_
      refine g_geti hC dX10_newOne_47 lfRX10_105 (isO_spec h0) (ft_10_5 h0) ?_
      refine g_iload_n hC dX10_newOne_50 1 rfl rfl ?_
      obtain ⟨b9, h⟩ := of_ite h
      refine g_iast hC dX10_newOne_51 (isA_spec (rf_10_6 h0)) b9 ?_
      refine g_aload_n hC dX10_newOne_52 0 rfl rfl ?_
      refine g_getr hC dX10_newOne_53 lfRX10_24 (isO_spec h0) (ft_10_6 h0) ?_
      refine g_bipush hC dX10_newOne_56 bp_7 ?_
      refine g_aload_n hC dX10_newOne_58 0 rfl rfl ?_
      refine g_geti hC dX10_newOne_59 lfRX10_105 (isO_spec h0) (ft_10_5 h0) ?_
      refine g_iadd hC dX10_newOne_62 ?_
      refine g_iload_n hC dX10_newOne_63 2 rfl rfl ?_
      obtain ⟨b9, h⟩ := of_ite h
      refine g_iast hC dX10_newOne_64 (isA_spec (rf_10_6 h0)) b9 ?_
      refine g_aload_n hC dX10_newOne_65 0 rfl rfl ?_
      refine g_getr hC dX10_newOne_66 lfRX10_24 (isO_spec h0) (ft_10_6 h0) ?_
      refine g_bipush hC dX10_newOne_69 bp_21 ?_
      refine g_aload_n hC dX10_newOne_71 0 rfl rfl ?_
      refine g_geti hC dX10_newOne_72 lfRX10_105 (isO_spec h0) (ft_10_5 h0) ?_
      refine g_iadd hC dX10_newOne_75 ?_
      refine g_iload_n hC dX10_newOne_76 3 rfl rfl ?_
      obtain ⟨b9, h⟩ := of_ite h
      refine g_iast hC dX10_newOne_77 (isA_spec (rf_10_6 h0)) b9 ?_
      exact g_pick [0, 1, 2, 3] rfl (bX10_newOne_78 hC hcs h0 hR _ h)
    · rw [if_neg h9] at h
      refine g_aload_n hC dX10_newOne_10 0 rfl rfl ?_
      refine g_getr hC dX10_newOne_11 lfRX10_24 (isO_spec h0) (ft_10_6 h0) ?_
      refine g_bipush hC dX10_newOne_14 bp_7 ?_
      refine g_iload hC dX10_newOne_16 4 rfl ?_
      refine g_imul hC dX10_newOne_18 ?_
      refine g_aload_n hC dX10_newOne_19 0 rfl rfl ?_
      refine g_geti hC dX10_newOne_20 lfRX10_105 (isO_spec h0) (ft_10_5 h0) ?_
      refine g_iadd hC dX10_newOne_23 ?_
      refine g_iload hC dX10_newOne_24 4 rfl ?_
      refine g_iconst hC dX10_newOne_26 ok_4 ?_
      refine g_icmp_le hC dX10_newOne_27 (tgt := 34) (by decide) (fun h9 => ?_) (fun h9 => ?_)
      · rw [if_pos h9] at h
        refine g_iconst hC dX10_newOne_34 ok_0 ?_
        exact g_pick [0, 1, 2, 3, 4] rfl (bX10_newOne_35 hC hcs h0 ih hR _ _ _ _ _ (rf_10_6 h0) h)
      · rw [if_neg h9] at h
        refine g_iconst hC dX10_newOne_30 ok_5 ?_
        refine g_goto hC dX10_newOne_31 (tgt := 35) (by decide) ?_
        exact g_pick [0, 1, 2, 3, 4] rfl (bX10_newOne_35 hC hcs h0 ih hR _ _ _ _ _ (rf_10_6 h0) h)
theorem bX10_newOne_0 {K : KT} {g : GT} {cm sm : Nat} {cs : Nat × Nat} {c0 : Nat} {x1 : Int} {x2 : Int} {x3 : Int} {r : Int} {σ' : St} (hC : Ctx K g RX10 cX10_newOne 5 0 cm sm) (hcs : cs.1 ≤ cm ∧ cs.2 ≤ sm) (h0 : isO 10 c0 = true) (hR : RetI K g cX10_newOne 5 cs r (SH0, σ')) : ∀ (σ : St), fX10_newOne c0 x1 x2 x3 σ = some (r, σ') → G K g 5 cs 0 [(0, vr c0), (1, vi x1), (2, vi x2), (3, vi x3)] [] (SH0, σ) := by
  intro σ h
  unfold fX10_newOne at h
  refine g_iconst hC dX10_newOne_0 ok_0 ?_
  refine g_istore hC dX10_newOne_1 (Nat.le_of_ble_eq_true rfl) rfl ?_
  exact g_pick [1, 2, 3, 4, 0] rfl (bX10_newOne_3 hC hcs h0 hR _ _ _ h)
theorem tX10_newOne {l : Launch} {g : GT} {c0 : Nat} {x1 : Int} {x2 : Int} {x3 : Int} {σ σ' : St} {r : Int} (h0 : isO 10 c0 = true) (h : fX10_newOne c0 x1 x2 x3 σ = some (r, σ')) : Cn l g yX10_newOne cX10_newOne 5 (some .int) 0 0 0 [vr c0, vi x1, vi x2, vi x3] (SH0, σ) (some (vi r)) (SH0, σ') :=
  Cn.ofI (by decide) (Nat.le_of_ble_eq_true rfl) (fun K e hC hR => (bX10_newOne_0 hC ⟨Nat.le_refl _, Nat.le_refl _⟩ h0 hR _ h))
theorem dX10_bidders_0 : decode cX10_bidders 0 = .ok (.iload_n 1, 1) := by decide +kernel
theorem dX10_bidders_1 : decode cX10_bidders 1 = .ok (.invokestatic 112, 3) := by decide +kernel
theorem dX10_bidders_4 : decode cX10_bidders 4 = .ok (.ifCond .eq 13, 3) := by decide +kernel
theorem dX10_bidders_7 : decode cX10_bidders 7 = .ok (.iload_n 3, 1) := by decide +kernel
theorem dX10_bidders_8 : decode cX10_bidders 8 = .ok (.iconst 1, 1) := by decide +kernel
theorem dX10_bidders_9 : decode cX10_bidders 9 = .ok (.bipush 7, 2) := by decide +kernel
theorem dX10_bidders_11 : decode cX10_bidders 11 = .ok (.invokestatic 101, 3) := by decide +kernel
theorem dX10_bidders_14 : decode cX10_bidders 14 = .ok (.ifCond .ne 5, 3) := by decide +kernel
theorem dX10_bidders_17 : decode cX10_bidders 17 = .ok (.iconst (-1), 1) := by decide +kernel
theorem dX10_bidders_18 : decode cX10_bidders 18 = .ok (.ireturn, 1) := by decide +kernel
theorem dX10_bidders_19 : decode cX10_bidders 19 = .ok (.aload_n 0, 1) := by decide +kernel
theorem dX10_bidders_20 : decode cX10_bidders 20 = .ok (.getfield 78, 3) := by decide +kernel
theorem dX10_bidders_23 : decode cX10_bidders 23 = .ok (.iload_n 1, 1) := by decide +kernel
theorem dX10_bidders_24 : decode cX10_bidders 24 = .ok (.iaload, 1) := by decide +kernel
theorem dX10_bidders_25 : decode cX10_bidders 25 = .ok (.iconst (-1), 1) := by decide +kernel
theorem dX10_bidders_26 : decode cX10_bidders 26 = .ok (.if_icmp .ne 5, 3) := by decide +kernel
theorem dX10_bidders_29 : decode cX10_bidders 29 = .ok (.iconst 0, 1) := by decide +kernel
theorem dX10_bidders_30 : decode cX10_bidders 30 = .ok (.ireturn, 1) := by decide +kernel
theorem dX10_bidders_31 : decode cX10_bidders 31 = .ok (.aload_n 0, 1) := by decide +kernel
theorem dX10_bidders_32 : decode cX10_bidders 32 = .ok (.getfield 78, 3) := by decide +kernel
theorem dX10_bidders_35 : decode cX10_bidders 35 = .ok (.iload_n 1, 1) := by decide +kernel
theorem dX10_bidders_36 : decode cX10_bidders 36 = .ok (.iaload, 1) := by decide +kernel
theorem dX10_bidders_37 : decode cX10_bidders 37 = .ok (.ifCond .eq 6, 3) := by decide +kernel
theorem dX10_bidders_40 : decode cX10_bidders 40 = .ok (.bipush (-12), 2) := by decide +kernel
theorem dX10_bidders_42 : decode cX10_bidders 42 = .ok (.ireturn, 1) := by decide +kernel
theorem dX10_bidders_43 : decode cX10_bidders 43 = .ok (.iconst 0, 1) := by decide +kernel
theorem dX10_bidders_44 : decode cX10_bidders 44 = .ok (.istore 4, 2) := by decide +kernel
theorem dX10_bidders_46 : decode cX10_bidders 46 = .ok (.iconst 0, 1) := by decide +kernel
theorem dX10_bidders_47 : decode cX10_bidders 47 = .ok (.istore 5, 2) := by decide +kernel
theorem dX10_bidders_49 : decode cX10_bidders 49 = .ok (.iload 5, 2) := by decide +kernel
theorem dX10_bidders_51 : decode cX10_bidders 51 = .ok (.iload_n 3, 1) := by decide +kernel
theorem dX10_bidders_52 : decode cX10_bidders 52 = .ok (.if_icmp .ge 150, 3) := by decide +kernel
theorem dX10_bidders_55 : decode cX10_bidders 55 = .ok (.iload_n 2, 1) := by decide +kernel
theorem dX10_bidders_56 : decode cX10_bidders 56 = .ok (.i2l, 1) := by decide +kernel
theorem dX10_bidders_57 : decode cX10_bidders 57 = .ok (.ldc2_w 116, 3) := by decide +kernel
theorem dX10_bidders_60 : decode cX10_bidders 60 = .ok (.iload 5, 2) := by decide +kernel
theorem dX10_bidders_62 : decode cX10_bidders 62 = .ok (.i2l, 1) := by decide +kernel
theorem dX10_bidders_63 : decode cX10_bidders 63 = .ok (.lmul, 1) := by decide +kernel
theorem dX10_bidders_64 : decode cX10_bidders 64 = .ok (.ladd, 1) := by decide +kernel
theorem dX10_bidders_65 : decode cX10_bidders 65 = .ok (.lstore 6, 2) := by decide +kernel
theorem dX10_bidders_67 : decode cX10_bidders 67 = .ok (.lload 6, 2) := by decide +kernel
theorem dX10_bidders_69 : decode cX10_bidders 69 = .ok (.lconst 0, 1) := by decide +kernel
theorem dX10_bidders_70 : decode cX10_bidders 70 = .ok (.lcmp, 1) := by decide +kernel
theorem dX10_bidders_71 : decode cX10_bidders 71 = .ok (.ifCond .lt 29, 3) := by decide +kernel
theorem dX10_bidders_74 : decode cX10_bidders 74 = .ok (.lload 6, 2) := by decide +kernel
theorem dX10_bidders_76 : decode cX10_bidders 76 = .ok (.ldc2_w 116, 3) := by decide +kernel
theorem dX10_bidders_79 : decode cX10_bidders 79 = .ok (.ladd, 1) := by decide +kernel
theorem dX10_bidders_80 : decode cX10_bidders 80 = .ok (.aload_n 0, 1) := by decide +kernel
theorem dX10_bidders_81 : decode cX10_bidders 81 = .ok (.getfield 81, 3) := by decide +kernel
theorem dX10_bidders_84 : decode cX10_bidders 84 = .ok (.iload_n 1, 1) := by decide +kernel
theorem dX10_bidders_85 : decode cX10_bidders 85 = .ok (.iaload, 1) := by decide +kernel
theorem dX10_bidders_86 : decode cX10_bidders 86 = .ok (.i2l, 1) := by decide +kernel
theorem dX10_bidders_87 : decode cX10_bidders 87 = .ok (.lcmp, 1) := by decide +kernel
theorem dX10_bidders_88 : decode cX10_bidders 88 = .ok (.ifCond .gt 12, 3) := by decide +kernel
theorem dX10_bidders_91 : decode cX10_bidders 91 = .ok (.aload_n 0, 1) := by decide +kernel
theorem dX10_bidders_92 : decode cX10_bidders 92 = .ok (.getfield 105, 3) := by decide +kernel
theorem dX10_bidders_95 : decode cX10_bidders 95 = .ok (.bipush 7, 2) := by decide +kernel
theorem dX10_bidders_97 : decode cX10_bidders 97 = .ok (.if_icmp .ne 6, 3) := by decide +kernel
theorem dX10_bidders_100 : decode cX10_bidders 100 = .ok (.iload 4, 2) := by decide +kernel
theorem dX10_bidders_102 : decode cX10_bidders 102 = .ok (.ireturn, 1) := by decide +kernel
theorem dX10_bidders_103 : decode cX10_bidders 103 = .ok (.lload 6, 2) := by decide +kernel
theorem dX10_bidders_105 : decode cX10_bidders 105 = .ok (.l2i, 1) := by decide +kernel
theorem dX10_bidders_106 : decode cX10_bidders 106 = .ok (.istore 8, 2) := by decide +kernel
theorem dX10_bidders_108 : decode cX10_bidders 108 = .ok (.aload_n 0, 1) := by decide +kernel
theorem dX10_bidders_109 : decode cX10_bidders 109 = .ok (.iload_n 1, 1) := by decide +kernel
theorem dX10_bidders_110 : decode cX10_bidders 110 = .ok (.iload 8, 2) := by decide +kernel
theorem dX10_bidders_112 : decode cX10_bidders 112 = .ok (.invokevirtual 118, 3) := by decide +kernel
theorem dX10_bidders_115 : decode cX10_bidders 115 = .ok (.iconst 0, 1) := by decide +kernel
theorem dX10_bidders_116 : decode cX10_bidders 116 = .ok (.bipush 9, 2) := by decide +kernel
theorem dX10_bidders_118 : decode cX10_bidders 118 = .ok (.invokestatic 101, 3) := by decide +kernel
theorem dX10_bidders_121 : decode cX10_bidders 121 = .ok (.ifCond .eq 39, 3) := by decide +kernel
theorem dX10_bidders_124 : decode cX10_bidders 124 = .ok (.aload_n 0, 1) := by decide +kernel
theorem dX10_bidders_125 : decode cX10_bidders 125 = .ok (.iload_n 1, 1) := by decide +kernel
theorem dX10_bidders_126 : decode cX10_bidders 126 = .ok (.iload 8, 2) := by decide +kernel
theorem dX10_bidders_128 : decode cX10_bidders 128 = .ok (.iconst 1, 1) := by decide +kernel
theorem dX10_bidders_129 : decode cX10_bidders 129 = .ok (.iadd, 1) := by decide +kernel
theorem dX10_bidders_130 : decode cX10_bidders 130 = .ok (.invokevirtual 118, 3) := by decide +kernel
theorem dX10_bidders_133 : decode cX10_bidders 133 = .ok (.iconst 0, 1) := by decide +kernel
theorem dX10_bidders_134 : decode cX10_bidders 134 = .ok (.bipush 99, 2) := by decide +kernel
theorem dX10_bidders_136 : decode cX10_bidders 136 = .ok (.invokestatic 101, 3) := by decide +kernel
theorem dX10_bidders_139 : decode cX10_bidders 139 = .ok (.ifCond .eq 21, 3) := by decide +kernel
theorem dX10_bidders_142 : decode cX10_bidders 142 = .ok (.aload_n 0, 1) := by decide +kernel
theorem dX10_bidders_143 : decode cX10_bidders 143 = .ok (.iload_n 1, 1) := by decide +kernel
theorem dX10_bidders_144 : decode cX10_bidders 144 = .ok (.iload 8, 2) := by decide +kernel
theorem dX10_bidders_146 : decode cX10_bidders 146 = .ok (.iconst 2, 1) := by decide +kernel
theorem dX10_bidders_147 : decode cX10_bidders 147 = .ok (.iadd, 1) := by decide +kernel
theorem dX10_bidders_148 : decode cX10_bidders 148 = .ok (.invokevirtual 118, 3) := by decide +kernel
theorem dX10_bidders_151 : decode cX10_bidders 151 = .ok (.iconst 0, 1) := by decide +kernel
theorem dX10_bidders_152 : decode cX10_bidders 152 = .ok (.bipush 9, 2) := by decide +kernel
theorem dX10_bidders_154 : decode cX10_bidders 154 = .ok (.invokestatic 101, 3) := by decide +kernel
theorem dX10_bidders_157 : decode cX10_bidders 157 = .ok (.ifCond .ne 6, 3) := by decide +kernel
theorem dX10_bidders_160 : decode cX10_bidders 160 = .ok (.iload 4, 2) := by decide +kernel
theorem dX10_bidders_162 : decode cX10_bidders 162 = .ok (.ireturn, 1) := by decide +kernel
theorem dX10_bidders_163 : decode cX10_bidders 163 = .ok (.aload_n 0, 1) := by decide +kernel
theorem dX10_bidders_164 : decode cX10_bidders 164 = .ok (.aload_n 0, 1) := by decide +kernel
theorem dX10_bidders_165 : decode cX10_bidders 165 = .ok (.iload_n 1, 1) := by decide +kernel
theorem dX10_bidders_166 : decode cX10_bidders 166 = .ok (.iload 8, 2) := by decide +kernel
theorem dX10_bidders_168 : decode cX10_bidders 168 = .ok (.invokevirtual 118, 3) := by decide +kernel
theorem dX10_bidders_171 : decode cX10_bidders 171 = .ok (.aload_n 0, 1) := by decide +kernel
theorem dX10_bidders_172 : decode cX10_bidders 172 = .ok (.iload_n 1, 1) := by decide +kernel
theorem dX10_bidders_173 : decode cX10_bidders 173 = .ok (.iload 8, 2) := by decide +kernel
theorem dX10_bidders_175 : decode cX10_bidders 175 = .ok (.iconst 1, 1) := by decide +kernel
theorem dX10_bidders_176 : decode cX10_bidders 176 = .ok (.iadd, 1) := by decide +kernel
theorem dX10_bidders_177 : decode cX10_bidders 177 = .ok (.invokevirtual 118, 3) := by decide +kernel
theorem dX10_bidders_180 : decode cX10_bidders 180 = .ok (.aload_n 0, 1) := by decide +kernel
theorem dX10_bidders_181 : decode cX10_bidders 181 = .ok (.iload_n 1, 1) := by decide +kernel
theorem dX10_bidders_182 : decode cX10_bidders 182 = .ok (.iload 8, 2) := by decide +kernel
theorem dX10_bidders_184 : decode cX10_bidders 184 = .ok (.iconst 2, 1) := by decide +kernel
theorem dX10_bidders_185 : decode cX10_bidders 185 = .ok (.iadd, 1) := by decide +kernel
theorem dX10_bidders_186 : decode cX10_bidders 186 = .ok (.invokevirtual 118, 3) := by decide +kernel
theorem dX10_bidders_189 : decode cX10_bidders 189 = .ok (.invokevirtual 108, 3) := by decide +kernel
theorem dX10_bidders_192 : decode cX10_bidders 192 = .ok (.pop, 1) := by decide +kernel
theorem dX10_bidders_193 : decode cX10_bidders 193 = .ok (.iinc 4 1, 3) := by decide +kernel
theorem dX10_bidders_196 : decode cX10_bidders 196 = .ok (.iinc 5 1, 3) := by decide +kernel
theorem dX10_bidders_199 : decode cX10_bidders 199 = .ok (.goto (-150), 3) := by decide +kernel
theorem dX10_bidders_202 : decode cX10_bidders 202 = .ok (.iload 4, 2) := by decide +kernel
theorem dX10_bidders_204 : decode cX10_bidders 204 = .ok (.ireturn, 1) := by decide +kernel
theorem bX10_bidders_49 {K : KT} {g : GT} {cm sm : Nat} {cs : Nat × Nat} {c0 : Nat} {x1 : Int} {x2 : Int} {x3 : Int} {r : Int} {σ' : St} (hC : Ctx K g RX10 cX10_bidders 9 2 cm sm) (hcs : cs.1 ≤ cm ∧ cs.2 ≤ sm) (h0 : isO 10 c0 = true) (hR : RetI K g cX10_bidders 9 cs r (SH0, σ')) : ∀ (n : Nat) (x4 : Int) (x5 : Int) (σ : St), fX10_bidders_49 c0 x1 x2 x3 n x4 x5 σ = some (r, σ') → G K g 9 cs 49 [(0, vr c0), (1, vi x1), (2, vi x2), (3, vi x3), (4, vi x4), (5, vi x5)] [] (SH0, σ) := by
  intro n
  induction n with
  | zero =>
    intro x4 x5 σ h
    rw [fX10_bidders_49.eq_1] at h
    cases h
  | succ n ih =>
    intro x4 x5 σ h
    rw [fX10_bidders_49.eq_2] at h
    refine g_iload hC dX10_bidders_49 5 rfl ?_
    refine g_iload_n hC dX10_bidders_51 3 rfl rfl ?_
    refine g_icmp_ge hC dX10_bidders_52 (tgt := 202) (by decide) (fun h9 => ?_) (fun h9 => ?_)
    · rw [if_pos h9] at h
      refine g_iload hC dX10_bidders_202 4 rfl ?_
      exact ret_i h hR dX10_bidders_204
    · rw [if_neg h9] at h
      refine g_iload_n hC dX10_bidders_55 2 rfl rfl ?_
      refine g_i2l hC dX10_bidders_56 ?_
      refine g_ldc2 hC dX10_bidders_57 kRX10_116 ?_
      refine g_iload hC dX10_bidders_60 5 rfl ?_
      refine g_i2l hC dX10_bidders_62 ?_
      refine g_lmul hC dX10_bidders_63 ?_
      refine g_ladd hC dX10_bidders_64 ?_
      refine g_lstore hC dX10_bidders_65 (Nat.le_of_ble_eq_true rfl) rfl ?_
      refine g_lload hC dX10_bidders_67 0 rfl ?_
      refine g_lconst hC dX10_bidders_69 lc_0 ?_
      refine g_lcmp hC dX10_bidders_70 ?_
      refine g_if_lt hC dX10_bidders_71 (tgt := 100) (by decide) (fun h9 => ?_) (fun h9 => ?_)
      · rw [if_pos h9] at h
        refine g_iload hC dX10_bidders_100 5 rfl ?_
        exact ret_i h hR dX10_bidders_102
      · rw [if_neg h9] at h
        refine g_lload hC dX10_bidders_74 0 rfl ?_
        refine g_ldc2 hC dX10_bidders_76 kRX10_116 ?_
        refine g_ladd hC dX10_bidders_79 ?_
        refine g_aload_n hC dX10_bidders_80 1 rfl rfl ?_
        refine g_getr hC dX10_bidders_81 lfRX10_81 (isO_spec h0) (ft_10_39 h0) ?_
        refine g_iload_n hC dX10_bidders_84 2 rfl rfl ?_
        obtain ⟨b9, h⟩ := of_ite h
        refine g_iald hC dX10_bidders_85 (isA_spec (rf_10_39 h0)) b9 ?_
        refine g_i2l hC dX10_bidders_86 ?_
        refine g_lcmp hC dX10_bidders_87 ?_
        refine g_if_gt hC dX10_bidders_88 (tgt := 100) (by decide) (fun h9 => ?_) (fun h9 => ?_)
        · rw [if_pos h9] at h
          refine g_iload hC dX10_bidders_100 5 rfl ?_
          exact ret_i h hR dX10_bidders_102
        · rw [if_neg h9] at h
          refine g_aload_n hC dX10_bidders_91 1 rfl rfl ?_
          refine g_geti hC dX10_bidders_92 lfRX10_105 (isO_spec h0) (ft_10_5 h0) ?_
          refine g_bipush hC dX10_bidders_95 bp_7 ?_
          refine g_icmp_ne hC dX10_bidders_97 (tgt := 103) (by decide) (fun h9 => ?_) (fun h9 => ?_)
          · rw [if_neg h9] at h
            refine g_lload hC dX10_bidders_103 0 rfl ?_
            refine g_l2i hC dX10_bidders_105 ?_
            refine g_istore hC dX10_bidders_106 (Nat.le_of_ble_eq_true rfl) rfl ?_
            refine g_aload_n hC dX10_bidders_108 2 rfl rfl ?_
            refine g_iload_n hC dX10_bidders_109 3 rfl rfl ?_
            refine g_iload hC dX10_bidders_110 0 rfl ?_
            obtain ⟨⟨r1, s1⟩, e1, h⟩ := of_bind h
            dsimp only at h
            refine s_callVi hC dX10_bidders_112 (tX10_toldAt h0 e1) miX10_toldAt mvX10_toldAt mlRX10_118 (isO_spec h0) vc_10 rfl rfl (Nat.le_of_ble_eq_true rfl) (Nat.le_of_ble_eq_true rfl) (Nat.le_of_ble_eq_true rfl) hcs ?_
            refine g_iconst hC dX10_bidders_115 ok_0 ?_
            refine g_bipush hC dX10_bidders_116 bp_9 ?_
            obtain ⟨⟨r2, s2⟩, e2, h⟩ := of_bind h
            dsimp only at h
            refine s_callSi hC dX10_bidders_118 (tX10_within e2) miX10_within msX10_within mlRX10_101 rfl rfl (Nat.le_of_ble_eq_true rfl) (Nat.le_of_ble_eq_true rfl) (Nat.le_of_ble_eq_true rfl) hcs ?_
            refine g_if_eq hC dX10_bidders_121 (tgt := 160) (by decide) (fun h9 => ?_) (fun h9 => ?_)
            · rw [if_pos h9] at h
              refine g_iload hC dX10_bidders_160 6 rfl ?_
              exact ret_i h hR dX10_bidders_162
            · rw [if_neg h9] at h
              refine g_aload_n hC dX10_bidders_124 2 rfl rfl ?_
              refine g_iload_n hC dX10_bidders_125 3 rfl rfl ?_
              refine g_iload hC dX10_bidders_126 0 rfl ?_
              refine g_iconst hC dX10_bidders_128 ok_1 ?_
              refine g_iadd hC dX10_bidders_129 ?_
              obtain ⟨⟨r3, s3⟩, e3, h⟩ := of_bind h
              dsimp only at h
              refine s_callVi hC dX10_bidders_130 (tX10_toldAt h0 e3) miX10_toldAt mvX10_toldAt mlRX10_118 (isO_spec h0) vc_10 rfl rfl (Nat.le_of_ble_eq_true rfl) (Nat.le_of_ble_eq_true rfl) (Nat.le_of_ble_eq_true rfl) hcs ?_
              refine g_iconst hC dX10_bidders_133 ok_0 ?_
              refine g_bipush hC dX10_bidders_134 bp_99 ?_
              obtain ⟨⟨r4, s4⟩, e4, h⟩ := of_bind h
              dsimp only at h
              refine s_callSi hC dX10_bidders_136 (tX10_within e4) miX10_within msX10_within mlRX10_101 rfl rfl (Nat.le_of_ble_eq_true rfl) (Nat.le_of_ble_eq_true rfl) (Nat.le_of_ble_eq_true rfl) hcs ?_
              refine g_if_eq hC dX10_bidders_139 (tgt := 160) (by decide) (fun h9 => ?_) (fun h9 => ?_)
              · rw [if_pos h9] at h
                refine g_iload hC dX10_bidders_160 6 rfl ?_
                exact ret_i h hR dX10_bidders_162
              · rw [if_neg h9] at h
                refine g_aload_n hC dX10_bidders_142 2 rfl rfl ?_
                refine g_iload_n hC dX10_bidders_143 3 rfl rfl ?_
                refine g_iload hC dX10_bidders_144 0 rfl ?_
                refine g_iconst hC dX10_bidders_146 ok_2 ?_
                refine g_iadd hC dX10_bidders_147 ?_
                obtain ⟨⟨r5, s5⟩, e5, h⟩ := of_bind h
                dsimp only at h
                refine s_callVi hC dX10_bidders_148 (tX10_toldAt h0 e5) miX10_toldAt mvX10_toldAt mlRX10_118 (isO_spec h0) vc_10 rfl rfl (Nat.le_of_ble_eq_true rfl) (Nat.le_of_ble_eq_true rfl) (Nat.le_of_ble_eq_true rfl) hcs ?_
                refine g_iconst hC dX10_bidders_151 ok_0 ?_
                refine g_bipush hC dX10_bidders_152 bp_9 ?_
                obtain ⟨⟨r6, s6⟩, e6, h⟩ := of_bind h
                dsimp only at h
                refine s_callSi hC dX10_bidders_154 (tX10_within e6) miX10_within msX10_within mlRX10_101 rfl rfl (Nat.le_of_ble_eq_true rfl) (Nat.le_of_ble_eq_true rfl) (Nat.le_of_ble_eq_true rfl) hcs ?_
                refine g_if_ne hC dX10_bidders_157 (tgt := 163) (by decide) (fun h9 => ?_) (fun h9 => ?_)
                · rw [if_neg h9] at h
                  refine g_aload_n hC dX10_bidders_163 2 rfl rfl ?_
                  refine g_aload_n hC dX10_bidders_164 2 rfl rfl ?_
                  refine g_iload_n hC dX10_bidders_165 3 rfl rfl ?_
                  refine g_iload hC dX10_bidders_166 0 rfl ?_
                  obtain ⟨⟨r7, s7⟩, e7, h⟩ := of_bind h
                  dsimp only at h
                  refine s_callVi hC dX10_bidders_168 (tX10_toldAt h0 e7) miX10_toldAt mvX10_toldAt mlRX10_118 (isO_spec h0) vc_10 rfl rfl (Nat.le_of_ble_eq_true rfl) (Nat.le_of_ble_eq_true rfl) (Nat.le_of_ble_eq_true rfl) hcs ?_
                  refine g_aload_n hC dX10_bidders_171 2 rfl rfl ?_
                  refine g_iload_n hC dX10_bidders_172 3 rfl rfl ?_
                  refine g_iload hC dX10_bidders_173 0 rfl ?_
                  refine g_iconst hC dX10_bidders_175 ok_1 ?_
                  refine g_iadd hC dX10_bidders_176 ?_
                  obtain ⟨⟨r8, s8⟩, e8, h⟩ := of_bind h
                  dsimp only at h
                  refine s_callVi hC dX10_bidders_177 (tX10_toldAt h0 e8) miX10_toldAt mvX10_toldAt mlRX10_118 (isO_spec h0) vc_10 rfl rfl (Nat.le_of_ble_eq_true rfl) (Nat.le_of_ble_eq_true rfl) (Nat.le_of_ble_eq_true rfl) hcs ?_
                  refine g_aload_n hC dX10_bidders_180 2 rfl rfl ?_
                  refine g_iload_n hC dX10_bidders_181 3 rfl rfl ?_
                  refine g_iload hC dX10_bidders_182 0 rfl ?_
                  refine g_iconst hC dX10_bidders_184 ok_2 ?_
                  refine g_iadd hC dX10_bidders_185 ?_
                  obtain ⟨⟨r9, s9⟩, e9, h⟩ := of_bind h
                  dsimp only at h
                  refine s_callVi hC dX10_bidders_186 (tX10_toldAt h0 e9) miX10_toldAt mvX10_toldAt mlRX10_118 (isO_spec h0) vc_10 rfl rfl (Nat.le_of_ble_eq_true rfl) (Nat.le_of_ble_eq_true rfl) (Nat.le_of_ble_eq_true rfl) hcs ?_
                  obtain ⟨⟨r10, s10⟩, e10, h⟩ := of_bind h
                  dsimp only at h
                  refine s_callVi hC dX10_bidders_189 (tX10_newOne h0 e10) miX10_newOne mvX10_newOne mlRX10_108 (isO_spec h0) vc_10 rfl rfl (Nat.le_of_ble_eq_true rfl) (Nat.le_of_ble_eq_true rfl) (Nat.le_of_ble_eq_true rfl) hcs ?_
                  refine g_pop hC dX10_bidders_192 rfl ?_
                  refine g_iinc hC dX10_bidders_193 6 rfl (Nat.le_of_ble_eq_true rfl) rfl ?_
                  refine g_iinc hC dX10_bidders_196 7 rfl (Nat.le_of_ble_eq_true rfl) rfl ?_
                  refine g_goto hC dX10_bidders_199 (tgt := 49) (by decide) ?_
                  exact g_pick [4, 5, 6, 7, 1, 0] rfl (ih _ _ _ h)
                · rw [if_pos h9] at h
                  refine g_iload hC dX10_bidders_160 6 rfl ?_
                  exact ret_i h hR dX10_bidders_162
          · rw [if_pos h9] at h
            refine g_iload hC dX10_bidders_100 5 rfl ?_
            exact ret_i h hR dX10_bidders_102
theorem bX10_bidders_0 {K : KT} {g : GT} {cm sm : Nat} {cs : Nat × Nat} {c0 : Nat} {x1 : Int} {x2 : Int} {x3 : Int} {r : Int} {σ' : St} (hC : Ctx K g RX10 cX10_bidders 9 2 cm sm) (hcs : cs.1 ≤ cm ∧ cs.2 ≤ sm) (h0 : isO 10 c0 = true) (hR : RetI K g cX10_bidders 9 cs r (SH0, σ')) : ∀ (σ : St), fX10_bidders c0 x1 x2 x3 σ = some (r, σ') → G K g 9 cs 0 [(0, vr c0), (1, vi x1), (2, vi x2), (3, vi x3)] [] (SH0, σ) := by
  intro σ h
  unfold fX10_bidders at h
  refine g_iload_n hC dX10_bidders_0 1 rfl rfl ?_
  obtain ⟨⟨r1, s1⟩, e1, h⟩ := of_bind h
  dsimp only at h
  refine s_callSi hC dX10_bidders_1 (tX10_isShelf e1) miX10_isShelf msX10_isShelf mlRX10_112 rfl rfl (Nat.le_of_ble_eq_true rfl) (Nat.le_of_ble_eq_true rfl) (Nat.le_of_ble_eq_true rfl) hcs ?_
  refine g_if_eq hC dX10_bidders_4 (tgt := 17) (by decide) (fun h9 => ?_) (fun h9 => ?_)
  · rw [if_pos h9] at h
    refine g_iconst hC dX10_bidders_17 ok_m1 ?_
    exact ret_i h hR dX10_bidders_18
  · rw [if_neg h9] at h
    refine g_iload_n hC dX10_bidders_7 3 rfl rfl ?_
    refine g_iconst hC dX10_bidders_8 ok_1 ?_
    refine g_bipush hC dX10_bidders_9 bp_7 ?_
    obtain ⟨⟨r2, s2⟩, e2, h⟩ := of_bind h
    dsimp only at h
    refine s_callSi hC dX10_bidders_11 (tX10_within e2) miX10_within msX10_within mlRX10_101 rfl rfl (Nat.le_of_ble_eq_true rfl) (Nat.le_of_ble_eq_true rfl) (Nat.le_of_ble_eq_true rfl) hcs ?_
    refine g_if_ne hC dX10_bidders_14 (tgt := 19) (by decide) (fun h9 => ?_) (fun h9 => ?_)
    · rw [if_neg h9] at h
      refine g_aload_n hC dX10_bidders_19 0 rfl rfl ?_
      refine g_getr hC dX10_bidders_20 lfRX10_78 (isO_spec h0) (ft_10_38 h0) ?_
      refine g_iload_n hC dX10_bidders_23 1 rfl rfl ?_
      obtain ⟨b9, h⟩ := of_ite h
      refine g_iald hC dX10_bidders_24 (isA_spec (rf_10_38 h0)) b9 ?_
      refine g_iconst hC dX10_bidders_25 ok_m1 ?_
      refine g_icmp_ne hC dX10_bidders_26 (tgt := 31) (by decide) (fun h9 => ?_) (fun h9 => ?_)
      · rw [if_neg h9] at h
        refine g_aload_n hC dX10_bidders_31 0 rfl rfl ?_
        refine g_getr hC dX10_bidders_32 lfRX10_78 (isO_spec h0) (ft_10_38 h0) ?_
        refine g_iload_n hC dX10_bidders_35 1 rfl rfl ?_
        obtain ⟨b9, h⟩ := of_ite h
        refine g_iald hC dX10_bidders_36 (isA_spec (rf_10_38 h0)) b9 ?_
        refine g_if_eq hC dX10_bidders_37 (tgt := 43) (by decide) (fun h9 => ?_) (fun h9 => ?_)
        · rw [if_pos h9] at h
          refine g_iconst hC dX10_bidders_43 ok_0 ?_
          refine g_istore hC dX10_bidders_44 (Nat.le_of_ble_eq_true rfl) rfl ?_
          refine g_iconst hC dX10_bidders_46 ok_0 ?_
          refine g_istore hC dX10_bidders_47 (Nat.le_of_ble_eq_true rfl) rfl ?_
          exact g_pick [2, 3, 4, 5, 1, 0] rfl (bX10_bidders_49 hC hcs h0 hR _ _ _ _ h)
        · rw [if_neg h9] at h
          refine g_bipush hC dX10_bidders_40 bp_m12 ?_
          exact ret_i h hR dX10_bidders_42
      · rw [if_pos h9] at h
        refine g_iconst hC dX10_bidders_29 ok_0 ?_
        exact ret_i h hR dX10_bidders_30
    · rw [if_pos h9] at h
      refine g_iconst hC dX10_bidders_17 ok_m1 ?_
      exact ret_i h hR dX10_bidders_18
theorem tX10_bidders {l : Launch} {g : GT} {c0 : Nat} {x1 : Int} {x2 : Int} {x3 : Int} {σ σ' : St} {r : Int} (h0 : isO 10 c0 = true) (h : fX10_bidders c0 x1 x2 x3 σ = some (r, σ')) : Cn l g yX10_bidders cX10_bidders 9 (some .int) 2 0 0 [vr c0, vi x1, vi x2, vi x3] (SH0, σ) (some (vi r)) (SH0, σ') :=
  Cn.ofI (by decide) (Nat.le_of_ble_eq_true rfl) (fun K e hC hR => (bX10_bidders_0 hC ⟨Nat.le_refl _, Nat.le_refl _⟩ h0 hR _ h))
theorem dX2_number_0 : decode cX2_number 0 = .ok (.iload_n 2, 1) := by decide +kernel
theorem dX2_number_1 : decode cX2_number 1 = .ok (.ifCond .lt 31, 3) := by decide +kernel
theorem dX2_number_4 : decode cX2_number 4 = .ok (.iload_n 2, 1) := by decide +kernel
theorem dX2_number_5 : decode cX2_number 5 = .ok (.iconst 4, 1) := by decide +kernel
theorem dX2_number_6 : decode cX2_number 6 = .ok (.if_icmp .ge 26, 3) := by decide +kernel
theorem dX2_number_9 : decode cX2_number 9 = .ok (.iload_n 1, 1) := by decide +kernel
theorem dX2_number_10 : decode cX2_number 10 = .ok (.ifCond .lt 22, 3) := by decide +kernel
theorem dX2_number_13 : decode cX2_number 13 = .ok (.iload_n 1, 1) := by decide +kernel
theorem dX2_number_14 : decode cX2_number 14 = .ok (.aload_n 0, 1) := by decide +kernel
theorem dX2_number_15 : decode cX2_number 15 = .ok (.getfield 18, 3) := by decide +kernel
theorem dX2_number_18 : decode cX2_number 18 = .ok (.if_icmp .ge 14, 3) := by decide +kernel
theorem dX2_number_21 : decode cX2_number 21 = .ok (.aload_n 0, 1) := by decide +kernel
theorem dX2_number_22 : decode cX2_number 22 = .ok (.getfield 11, 3) := by decide +kernel
theorem dX2_number_25 : decode cX2_number 25 = .ok (.iload_n 1, 1) := by decide +kernel
theorem dX2_number_26 : decode cX2_number 26 = .ok (.iconst 4, 1) := by decide +kernel
theorem dX2_number_27 : decode cX2_number 27 = .ok (.imul, 1) := by decide +kernel
theorem dX2_number_28 : decode cX2_number 28 = .ok (.iload_n 2, 1) := by decide +kernel
theorem dX2_number_29 : decode cX2_number 29 = .ok (.iadd, 1) := by decide +kernel
theorem dX2_number_30 : decode cX2_number 30 = .ok (.iaload, 1) := by decide +kernel
theorem dX2_number_31 : decode cX2_number 31 = .ok (.ireturn, 1) := by decide +kernel
theorem dX2_number_32 : decode cX2_number 32 = .ok (.iload_n 2, 1) := by decide +kernel
theorem dX2_number_33 : decode cX2_number 33 = .ok (.iconst 4, 1) := by decide +kernel
theorem dX2_number_34 : decode cX2_number 34 = .ok (.if_icmp .lt 35, 3) := by decide +kernel
theorem dX2_number_37 : decode cX2_number 37 = .ok (.iload_n 2, 1) := by decide +kernel
theorem dX2_number_38 : decode cX2_number 38 = .ok (.bipush 13, 2) := by decide +kernel
theorem dX2_number_40 : decode cX2_number 40 = .ok (.if_icmp .ge 29, 3) := by decide +kernel
theorem dX2_number_43 : decode cX2_number 43 = .ok (.iload_n 1, 1) := by decide +kernel
theorem dX2_number_44 : decode cX2_number 44 = .ok (.ifCond .lt 25, 3) := by decide +kernel
theorem dX2_number_47 : decode cX2_number 47 = .ok (.iload_n 1, 1) := by decide +kernel
theorem dX2_number_48 : decode cX2_number 48 = .ok (.aload_n 0, 1) := by decide +kernel
theorem dX2_number_49 : decode cX2_number 49 = .ok (.getfield 22, 3) := by decide +kernel
theorem dX2_number_52 : decode cX2_number 52 = .ok (.if_icmp .ge 17, 3) := by decide +kernel
theorem dX2_number_55 : decode cX2_number 55 = .ok (.aload_n 0, 1) := by decide +kernel
theorem dX2_number_56 : decode cX2_number 56 = .ok (.getfield 15, 3) := by decide +kernel
theorem dX2_number_59 : decode cX2_number 59 = .ok (.iload_n 1, 1) := by decide +kernel
theorem dX2_number_60 : decode cX2_number 60 = .ok (.bipush 9, 2) := by decide +kernel
theorem dX2_number_62 : decode cX2_number 62 = .ok (.imul, 1) := by decide +kernel
theorem dX2_number_63 : decode cX2_number 63 = .ok (.iload_n 2, 1) := by decide +kernel
theorem dX2_number_64 : decode cX2_number 64 = .ok (.iadd, 1) := by decide +kernel
theorem dX2_number_65 : decode cX2_number 65 = .ok (.iconst 4, 1) := by decide +kernel
theorem dX2_number_66 : decode cX2_number 66 = .ok (.isub, 1) := by decide +kernel
theorem dX2_number_67 : decode cX2_number 67 = .ok (.iaload, 1) := by decide +kernel
theorem dX2_number_68 : decode cX2_number 68 = .ok (.ireturn, 1) := by decide +kernel
theorem dX2_number_69 : decode cX2_number 69 = .ok (.iconst 0, 1) := by decide +kernel
theorem dX2_number_70 : decode cX2_number 70 = .ok (.ireturn, 1) := by decide +kernel
theorem bX2_number_32 {K : KT} {g : GT} {cm sm : Nat} {cs : Nat × Nat} {c0 : Nat} {x1 : Int} {x2 : Int} {r : Int} {σ' : St} (hC : Ctx K g RX2 cX2_number 3 0 cm sm) (hcs : cs.1 ≤ cm ∧ cs.2 ≤ sm) (h0 : isO 2 c0 = true) (hR : RetI K g cX2_number 3 cs r (SH0, σ')) : ∀ (σ : St), fX2_number_32 c0 x1 x2 σ = some (r, σ') → G K g 3 cs 32 [(0, vr c0), (1, vi x1), (2, vi x2)] [] (SH0, σ) := by
  intro σ h
  unfold fX2_number_32 at h
  refine g_iload_n hC dX2_number_32 2 rfl rfl ?_
  refine g_iconst hC dX2_number_33 ok_4 ?_
  refine g_icmp_lt hC dX2_number_34 (tgt := 69) (by decide) (fun h9 => ?_) (fun h9 => ?_)
  · rw [if_pos h9] at h
    refine g_iconst hC dX2_number_69 ok_0 ?_
    exact ret_i h hR dX2_number_70
  · rw [if_neg h9] at h
    refine g_iload_n hC dX2_number_37 2 rfl rfl ?_
    refine g_bipush hC dX2_number_38 bp_13 ?_
    refine g_icmp_ge hC dX2_number_40 (tgt := 69) (by decide) (fun h9 => ?_) (fun h9 => ?_)
    · rw [if_pos h9] at h
      refine g_iconst hC dX2_number_69 ok_0 ?_
      exact ret_i h hR dX2_number_70
    · rw [if_neg h9] at h
      refine g_iload_n hC dX2_number_43 1 rfl rfl ?_
      refine g_if_lt hC dX2_number_44 (tgt := 69) (by decide) (fun h9 => ?_) (fun h9 => ?_)
      · rw [if_pos h9] at h
        refine g_iconst hC dX2_number_69 ok_0 ?_
        exact ret_i h hR dX2_number_70
      · rw [if_neg h9] at h
        refine g_iload_n hC dX2_number_47 1 rfl rfl ?_
        refine g_aload_n hC dX2_number_48 0 rfl rfl ?_
        refine g_geti hC dX2_number_49 lfRX2_22 (isO_spec h0) (ft_2_3 h0) ?_
        refine g_icmp_ge hC dX2_number_52 (tgt := 69) (by decide) (fun h9 => ?_) (fun h9 => ?_)
        · rw [if_pos h9] at h
          refine g_iconst hC dX2_number_69 ok_0 ?_
          exact ret_i h hR dX2_number_70
        · rw [if_neg h9] at h
          refine g_aload_n hC dX2_number_55 0 rfl rfl ?_
          refine g_getr hC dX2_number_56 lfRX2_15 (isO_spec h0) (ft_2_1 h0) ?_
          refine g_iload_n hC dX2_number_59 1 rfl rfl ?_
          refine g_bipush hC dX2_number_60 bp_9 ?_
          refine g_imul hC dX2_number_62 ?_
          refine g_iload_n hC dX2_number_63 2 rfl rfl ?_
          refine g_iadd hC dX2_number_64 ?_
          refine g_iconst hC dX2_number_65 ok_4 ?_
          refine g_isub hC dX2_number_66 ?_
          obtain ⟨b9, h⟩ := of_ite h
          refine g_iald hC dX2_number_67 (isA_spec (rf_2_1 h0)) b9 ?_
          exact ret_i h hR dX2_number_68
theorem bX2_number_0 {K : KT} {g : GT} {cm sm : Nat} {cs : Nat × Nat} {c0 : Nat} {x1 : Int} {x2 : Int} {r : Int} {σ' : St} (hC : Ctx K g RX2 cX2_number 3 0 cm sm) (hcs : cs.1 ≤ cm ∧ cs.2 ≤ sm) (h0 : isO 2 c0 = true) (hR : RetI K g cX2_number 3 cs r (SH0, σ')) : ∀ (σ : St), fX2_number c0 x1 x2 σ = some (r, σ') → G K g 3 cs 0 [(0, vr c0), (1, vi x1), (2, vi x2)] [] (SH0, σ) := by
  intro σ h
  unfold fX2_number at h
  refine g_iload_n hC dX2_number_0 2 rfl rfl ?_
  refine g_if_lt hC dX2_number_1 (tgt := 32) (by decide) (fun h9 => ?_) (fun h9 => ?_)
  · rw [if_pos h9] at h
    exact g_pick [0, 1, 2] rfl (bX2_number_32 hC hcs h0 hR _ h)
  · rw [if_neg h9] at h
    refine g_iload_n hC dX2_number_4 2 rfl rfl ?_
    refine g_iconst hC dX2_number_5 ok_4 ?_
    refine g_icmp_ge hC dX2_number_6 (tgt := 32) (by decide) (fun h9 => ?_) (fun h9 => ?_)
    · rw [if_pos h9] at h
      exact g_pick [0, 1, 2] rfl (bX2_number_32 hC hcs h0 hR _ h)
    · rw [if_neg h9] at h
      refine g_iload_n hC dX2_number_9 1 rfl rfl ?_
      refine g_if_lt hC dX2_number_10 (tgt := 32) (by decide) (fun h9 => ?_) (fun h9 => ?_)
      · rw [if_pos h9] at h
        exact g_pick [0, 1, 2] rfl (bX2_number_32 hC hcs h0 hR _ h)
      · rw [if_neg h9] at h
        refine g_iload_n hC dX2_number_13 1 rfl rfl ?_
        refine g_aload_n hC dX2_number_14 0 rfl rfl ?_
        refine g_geti hC dX2_number_15 lfRX2_18 (isO_spec h0) (ft_2_2 h0) ?_
        refine g_icmp_ge hC dX2_number_18 (tgt := 32) (by decide) (fun h9 => ?_) (fun h9 => ?_)
        · rw [if_pos h9] at h
          exact g_pick [0, 1, 2] rfl (bX2_number_32 hC hcs h0 hR _ h)
        · rw [if_neg h9] at h
          refine g_aload_n hC dX2_number_21 0 rfl rfl ?_
          refine g_getr hC dX2_number_22 lfRX2_11 (isO_spec h0) (ft_2_0 h0) ?_
          refine g_iload_n hC dX2_number_25 1 rfl rfl ?_
          refine g_iconst hC dX2_number_26 ok_4 ?_
          refine g_imul hC dX2_number_27 ?_
          refine g_iload_n hC dX2_number_28 2 rfl rfl ?_
          refine g_iadd hC dX2_number_29 ?_
          obtain ⟨b9, h⟩ := of_ite h
          refine g_iald hC dX2_number_30 (isA_spec (rf_2_0 h0)) b9 ?_
          exact ret_i h hR dX2_number_31
theorem tX2_number {l : Launch} {g : GT} {c0 : Nat} {x1 : Int} {x2 : Int} {σ σ' : St} {r : Int} (h0 : isO 2 c0 = true) (h : fX2_number c0 x1 x2 σ = some (r, σ')) : Cn l g yX2_number cX2_number 3 (some .int) 0 0 0 [vr c0, vi x1, vi x2] (SH0, σ) (some (vi r)) (SH0, σ') :=
  Cn.ofI (by decide) (Nat.le_of_ble_eq_true rfl) (fun K e hC hR => (bX2_number_0 hC ⟨Nat.le_refl _, Nat.le_refl _⟩ h0 hR _ h))
theorem dX2_missedLongest_0 : decode cX2_missedLongest 0 = .ok (.bipush (-2), 2) := by decide +kernel
theorem dX2_missedLongest_2 : decode cX2_missedLongest 2 = .ok (.istore_n 1, 1) := by decide +kernel
theorem dX2_missedLongest_3 : decode cX2_missedLongest 3 = .ok (.iconst 0, 1) := by decide +kernel
theorem dX2_missedLongest_4 : decode cX2_missedLongest 4 = .ok (.istore_n 2, 1) := by decide +kernel
theorem dX2_missedLongest_5 : decode cX2_missedLongest 5 = .ok (.iconst 0, 1) := by decide +kernel
theorem dX2_missedLongest_6 : decode cX2_missedLongest 6 = .ok (.istore_n 3, 1) := by decide +kernel
theorem dX2_missedLongest_7 : decode cX2_missedLongest 7 = .ok (.iload_n 3, 1) := by decide +kernel
theorem dX2_missedLongest_8 : decode cX2_missedLongest 8 = .ok (.aload_n 0, 1) := by decide +kernel
theorem dX2_missedLongest_9 : decode cX2_missedLongest 9 = .ok (.getfield 18, 3) := by decide +kernel
theorem dX2_missedLongest_12 : decode cX2_missedLongest 12 = .ok (.if_icmp .ge 28, 3) := by decide +kernel
theorem dX2_missedLongest_15 : decode cX2_missedLongest 15 = .ok (.aload_n 0, 1) := by decide +kernel
theorem dX2_missedLongest_16 : decode cX2_missedLongest 16 = .ok (.iload_n 3, 1) := by decide +kernel
theorem dX2_missedLongest_17 : decode cX2_missedLongest 17 = .ok (.iconst 3, 1) := by decide +kernel
theorem dX2_missedLongest_18 : decode cX2_missedLongest 18 = .ok (.invokevirtual 42, 3) := by decide +kernel
theorem dX2_missedLongest_21 : decode cX2_missedLongest 21 = .ok (.iload_n 2, 1) := by decide +kernel
theorem dX2_missedLongest_22 : decode cX2_missedLongest 22 = .ok (.if_icmp .le 12, 3) := by decide +kernel
theorem dX2_missedLongest_25 : decode cX2_missedLongest 25 = .ok (.aload_n 0, 1) := by decide +kernel
theorem dX2_missedLongest_26 : decode cX2_missedLongest 26 = .ok (.iload_n 3, 1) := by decide +kernel
theorem dX2_missedLongest_27 : decode cX2_missedLongest 27 = .ok (.iconst 3, 1) := by decide +kernel
theorem dX2_missedLongest_28 : decode cX2_missedLongest 28 = .ok (.invokevirtual 42, 3) := by decide +kernel
theorem dX2_missedLongest_31 : decode cX2_missedLongest 31 = .ok (.istore_n 2, 1) := by decide +kernel
theorem dX2_missedLongest_32 : decode cX2_missedLongest 32 = .ok (.iload_n 3, 1) := by decide +kernel
theorem dX2_missedLongest_33 : decode cX2_missedLongest 33 = .ok (.istore_n 1, 1) := by decide +kernel
theorem dX2_missedLongest_34 : decode cX2_missedLongest 34 = .ok (.iinc 3 1, 3) := by decide +kernel
theorem dX2_missedLongest_37 : decode cX2_missedLongest 37 = .ok (.goto (-30), 3) := by decide +kernel
theorem dX2_missedLongest_40 : decode cX2_missedLongest 40 = .ok (.iload_n 1, 1) := by decide +kernel
theorem dX2_missedLongest_41 : decode cX2_missedLongest 41 = .ok (.ireturn, 1) := by decide +kernel
theorem bX2_missedLongest_34 {K : KT} {g : GT} {cm sm : Nat} {cs : Nat × Nat} {c0 : Nat} {k7 : Int → Int → Int → St → Option (Int × St)} {r : Int} {σ' : St} (hC : Ctx K g RX2 cX2_missedLongest 4 1 cm sm) (hcs : cs.1 ≤ cm ∧ cs.2 ≤ sm) (h0 : isO 2 c0 = true) (hk7 : ∀ (x1 : Int) (x2 : Int) (x3 : Int) (σ : St), k7 x1 x2 x3 σ = some (r, σ') → G K g 4 cs 7 [(0, vr c0), (1, vi x1), (2, vi x2), (3, vi x3)] [] (SH0, σ)) (hR : RetI K g cX2_missedLongest 4 cs r (SH0, σ')) : ∀ (x1 : Int) (x2 : Int) (x3 : Int) (σ : St), fX2_missedLongest_34 c0 k7 x1 x2 x3 σ = some (r, σ') → G K g 4 cs 34 [(0, vr c0), (1, vi x1), (2, vi x2), (3, vi x3)] [] (SH0, σ) := by
  intro x1 x2 x3 σ h
  unfold fX2_missedLongest_34 at h
  refine g_iinc hC dX2_missedLongest_34 3 rfl (Nat.le_of_ble_eq_true rfl) rfl ?_
  refine g_goto hC dX2_missedLongest_37 (tgt := 7) (by decide) ?_
  exact g_pick [1, 2, 3, 0] rfl (hk7 _ _ _ _ h)
theorem bX2_missedLongest_7 {K : KT} {g : GT} {cm sm : Nat} {cs : Nat × Nat} {c0 : Nat} {r : Int} {σ' : St} (hC : Ctx K g RX2 cX2_missedLongest 4 1 cm sm) (hcs : cs.1 ≤ cm ∧ cs.2 ≤ sm) (h0 : isO 2 c0 = true) (hR : RetI K g cX2_missedLongest 4 cs r (SH0, σ')) : ∀ (n : Nat) (x1 : Int) (x2 : Int) (x3 : Int) (σ : St), fX2_missedLongest_7 c0 n x1 x2 x3 σ = some (r, σ') → G K g 4 cs 7 [(0, vr c0), (1, vi x1), (2, vi x2), (3, vi x3)] [] (SH0, σ) := by
  intro n
  induction n with
  | zero =>
    intro x1 x2 x3 σ h
    rw [fX2_missedLongest_7.eq_1] at h
    cases h
  | succ n ih =>
    intro x1 x2 x3 σ h
    rw [fX2_missedLongest_7.eq_2] at h
    refine g_iload_n hC dX2_missedLongest_7 3 rfl rfl ?_
    refine g_aload_n hC dX2_missedLongest_8 0 rfl rfl ?_
    refine g_geti hC dX2_missedLongest_9 lfRX2_18 (isO_spec h0) (ft_2_2 h0) ?_
    refine g_icmp_ge hC dX2_missedLongest_12 (tgt := 40) (by decide) (fun h9 => ?_) (fun h9 => ?_)
    · rw [if_pos h9] at h
      refine g_iload_n hC dX2_missedLongest_40 1 rfl rfl ?_
      exact ret_i h hR dX2_missedLongest_41
    · rw [if_neg h9] at h
      refine g_aload_n hC dX2_missedLongest_15 0 rfl rfl ?_
      refine g_iload_n hC dX2_missedLongest_16 3 rfl rfl ?_
      refine g_iconst hC dX2_missedLongest_17 ok_3 ?_
      obtain ⟨⟨r1, s1⟩, e1, h⟩ := of_bind h
      dsimp only at h
      refine s_callVi hC dX2_missedLongest_18 (tX2_number h0 e1) miX2_number mvX2_number mlRX2_42 (isO_spec h0) vc_2 rfl rfl (Nat.le_of_ble_eq_true rfl) (Nat.le_of_ble_eq_true rfl) (Nat.le_of_ble_eq_true rfl) hcs ?_
      refine g_iload_n hC dX2_missedLongest_21 2 rfl rfl ?_
      refine g_icmp_le hC dX2_missedLongest_22 (tgt := 34) (by decide) (fun h9 => ?_) (fun h9 => ?_)
      · rw [if_pos h9] at h
        exact g_pick [0, 1, 2, 3] rfl (bX2_missedLongest_34 hC hcs h0 ih hR _ _ _ _ h)
      · rw [if_neg h9] at h
        refine g_aload_n hC dX2_missedLongest_25 0 rfl rfl ?_
        refine g_iload_n hC dX2_missedLongest_26 3 rfl rfl ?_
        refine g_iconst hC dX2_missedLongest_27 ok_3 ?_
        obtain ⟨⟨r2, s2⟩, e2, h⟩ := of_bind h
        dsimp only at h
        refine s_callVi hC dX2_missedLongest_28 (tX2_number h0 e2) miX2_number mvX2_number mlRX2_42 (isO_spec h0) vc_2 rfl rfl (Nat.le_of_ble_eq_true rfl) (Nat.le_of_ble_eq_true rfl) (Nat.le_of_ble_eq_true rfl) hcs ?_
        refine g_istore_n hC dX2_missedLongest_31 rfl (Nat.le_of_ble_eq_true rfl) rfl ?_
        refine g_iload_n hC dX2_missedLongest_32 3 rfl rfl ?_
        refine g_istore_n hC dX2_missedLongest_33 rfl (Nat.le_of_ble_eq_true rfl) rfl ?_
        exact g_pick [2, 0, 1, 3] rfl (bX2_missedLongest_34 hC hcs h0 ih hR _ _ _ _ h)
theorem bX2_missedLongest_0 {K : KT} {g : GT} {cm sm : Nat} {cs : Nat × Nat} {c0 : Nat} {r : Int} {σ' : St} (hC : Ctx K g RX2 cX2_missedLongest 4 1 cm sm) (hcs : cs.1 ≤ cm ∧ cs.2 ≤ sm) (h0 : isO 2 c0 = true) (hR : RetI K g cX2_missedLongest 4 cs r (SH0, σ')) : ∀ (σ : St), fX2_missedLongest c0 σ = some (r, σ') → G K g 4 cs 0 [(0, vr c0)] [] (SH0, σ) := by
  intro σ h
  unfold fX2_missedLongest at h
  refine g_bipush hC dX2_missedLongest_0 bp_m2 ?_
  refine g_istore_n hC dX2_missedLongest_2 rfl (Nat.le_of_ble_eq_true rfl) rfl ?_
  refine g_iconst hC dX2_missedLongest_3 ok_0 ?_
  refine g_istore_n hC dX2_missedLongest_4 rfl (Nat.le_of_ble_eq_true rfl) rfl ?_
  refine g_iconst hC dX2_missedLongest_5 ok_0 ?_
  refine g_istore_n hC dX2_missedLongest_6 rfl (Nat.le_of_ble_eq_true rfl) rfl ?_
  exact g_pick [3, 2, 1, 0] rfl (bX2_missedLongest_7 hC hcs h0 hR _ _ _ _ _ h)
theorem tX2_missedLongest {l : Launch} {g : GT} {c0 : Nat} {σ σ' : St} {r : Int} (h0 : isO 2 c0 = true) (h : fX2_missedLongest c0 σ = some (r, σ')) : Cn l g yX2_missedLongest cX2_missedLongest 4 (some .int) 1 0 0 [vr c0] (SH0, σ) (some (vi r)) (SH0, σ') :=
  Cn.ofI (by decide) (Nat.le_of_ble_eq_true rfl) (fun K e hC hR => (bX2_missedLongest_0 hC ⟨Nat.le_refl _, Nat.le_refl _⟩ h0 hR _ h))
theorem dX9_missed_0 : decode cX9_missed 0 = .ok (.iload_n 1, 1) := by decide +kernel
theorem dX9_missed_1 : decode cX9_missed 1 = .ok (.ifCond .lt 8, 3) := by decide +kernel
theorem dX9_missed_4 : decode cX9_missed 4 = .ok (.iload_n 1, 1) := by decide +kernel
theorem dX9_missed_5 : decode cX9_missed 5 = .ok (.iconst 1, 1) := by decide +kernel
theorem dX9_missed_6 : decode cX9_missed 6 = .ok (.if_icmp .le 5, 3) := by decide +kernel
theorem dX9_missed_9 : decode cX9_missed 9 = .ok (.iconst (-1), 1) := by decide +kernel
theorem dX9_missed_10 : decode cX9_missed 10 = .ok (.ireturn, 1) := by decide +kernel
theorem dX9_missed_11 : decode cX9_missed 11 = .ok (.aload_n 0, 1) := by decide +kernel
theorem dX9_missed_12 : decode cX9_missed 12 = .ok (.getfield 10, 3) := by decide +kernel
theorem dX9_missed_15 : decode cX9_missed 15 = .ok (.invokevirtual 234, 3) := by decide +kernel
theorem dX9_missed_18 : decode cX9_missed 18 = .ok (.istore_n 2, 1) := by decide +kernel
theorem dX9_missed_19 : decode cX9_missed 19 = .ok (.iload_n 1, 1) := by decide +kernel
theorem dX9_missed_20 : decode cX9_missed 20 = .ok (.iconst 1, 1) := by decide +kernel
theorem dX9_missed_21 : decode cX9_missed 21 = .ok (.if_icmp .ne 5, 3) := by decide +kernel
theorem dX9_missed_24 : decode cX9_missed 24 = .ok (.iload_n 2, 1) := by decide +kernel
theorem dX9_missed_25 : decode cX9_missed 25 = .ok (.ireturn, 1) := by decide +kernel
theorem dX9_missed_26 : decode cX9_missed 26 = .ok (.iload_n 2, 1) := by decide +kernel
theorem dX9_missed_27 : decode cX9_missed 27 = .ok (.ifCond .ge 7, 3) := by decide +kernel
theorem dX9_missed_30 : decode cX9_missed 30 = .ok (.iconst 0, 1) := by decide +kernel
theorem dX9_missed_31 : decode cX9_missed 31 = .ok (.goto 12, 3) := by decide +kernel
theorem dX9_missed_34 : decode cX9_missed 34 = .ok (.aload_n 0, 1) := by decide +kernel
theorem dX9_missed_35 : decode cX9_missed 35 = .ok (.getfield 10, 3) := by decide +kernel
theorem dX9_missed_38 : decode cX9_missed 38 = .ok (.iload_n 2, 1) := by decide +kernel
theorem dX9_missed_39 : decode cX9_missed 39 = .ok (.iconst 3, 1) := by decide +kernel
theorem dX9_missed_40 : decode cX9_missed 40 = .ok (.invokevirtual 122, 3) := by decide +kernel
theorem dX9_missed_43 : decode cX9_missed 43 = .ok (.istore_n 3, 1) := by decide +kernel
theorem dX9_missed_44 : decode cX9_missed 44 = .ok (.iload_n 3, 1) := by decide +kernel
theorem dX9_missed_45 : decode cX9_missed 45 = .ok (.bipush 60, 2) := by decide +kernel
theorem dX9_missed_47 : decode cX9_missed 47 = .ok (.if_icmp .gt 7, 3) := by decide +kernel
theorem dX9_missed_50 : decode cX9_missed 50 = .ok (.iload_n 3, 1) := by decide +kernel
theorem dX9_missed_51 : decode cX9_missed 51 = .ok (.goto 5, 3) := by decide +kernel
theorem dX9_missed_54 : decode cX9_missed 54 = .ok (.bipush (-2), 2) := by decide +kernel
theorem dX9_missed_56 : decode cX9_missed 56 = .ok (.ireturn, 1) := by decide +kernel
theorem bX9_missed_43 {K : KT} {g : GT} {cm sm : Nat} {cs : Nat × Nat} {c0 : Nat} {x1 : Int} {r : Int} {σ' : St} (hC : Ctx K g RX9 cX9_missed 4 2 cm sm) (hcs : cs.1 ≤ cm ∧ cs.2 ≤ sm) (h0 : isO 9 c0 = true) (hR : RetI K g cX9_missed 4 cs r (SH0, σ')) : ∀ (y0 : Int) (σ : St), fX9_missed_43 c0 x1 y0 σ = some (r, σ') → G K g 4 cs 43 [(0, vr c0), (1, vi x1)] [vi y0] (SH0, σ) := by
  intro y0 σ h
  unfold fX9_missed_43 at h
  refine g_istore_n hC dX9_missed_43 rfl (Nat.le_of_ble_eq_true rfl) rfl ?_
  refine g_iload_n hC dX9_missed_44 0 rfl rfl ?_
  refine g_bipush hC dX9_missed_45 bp_60 ?_
  refine g_icmp_gt hC dX9_missed_47 (tgt := 54) (by decide) (fun h9 => ?_) (fun h9 => ?_)
  · rw [if_pos h9] at h
    refine g_bipush hC dX9_missed_54 bp_m2 ?_
    exact ret_i h hR dX9_missed_56
  · rw [if_neg h9] at h
    refine g_iload_n hC dX9_missed_50 0 rfl rfl ?_
    refine g_goto hC dX9_missed_51 (tgt := 56) (by decide) ?_
    exact ret_i h hR dX9_missed_56
theorem bX9_missed_0 {K : KT} {g : GT} {cm sm : Nat} {cs : Nat × Nat} {c0 : Nat} {x1 : Int} {r : Int} {σ' : St} (hC : Ctx K g RX9 cX9_missed 4 2 cm sm) (hcs : cs.1 ≤ cm ∧ cs.2 ≤ sm) (h0 : isO 9 c0 = true) (hR : RetI K g cX9_missed 4 cs r (SH0, σ')) : ∀ (σ : St), fX9_missed c0 x1 σ = some (r, σ') → G K g 4 cs 0 [(0, vr c0), (1, vi x1)] [] (SH0, σ) := by
  intro σ h
  unfold fX9_missed at h
  refine g_iload_n hC dX9_missed_0 1 rfl rfl ?_
  refine g_if_lt hC dX9_missed_1 (tgt := 9) (by decide) (fun h9 => ?_) (fun h9 => ?_)
  · rw [if_pos h9] at h
    refine g_iconst hC dX9_missed_9 ok_m1 ?_
    exact ret_i h hR dX9_missed_10
  · rw [if_neg h9] at h
    refine g_iload_n hC dX9_missed_4 1 rfl rfl ?_
    refine g_iconst hC dX9_missed_5 ok_1 ?_
    refine g_icmp_le hC dX9_missed_6 (tgt := 11) (by decide) (fun h9 => ?_) (fun h9 => ?_)
    · rw [if_pos h9] at h
      refine g_aload_n hC dX9_missed_11 0 rfl rfl ?_
      refine g_getr hC dX9_missed_12 lfRX9_10 (isO_spec h0) (ft_9_0 h0) ?_
      obtain ⟨⟨r1, s1⟩, e1, h⟩ := of_bind h
      dsimp only at h
      refine s_callVi hC dX9_missed_15 (tX2_missedLongest (rf_9_0 h0) e1) miX2_missedLongest mvX2_missedLongest mlRX9_234 (isO_spec (rf_9_0 h0)) vc_2 rfl rfl (Nat.le_of_ble_eq_true rfl) (Nat.le_of_ble_eq_true rfl) (Nat.le_of_ble_eq_true rfl) hcs ?_
      refine g_istore_n hC dX9_missed_18 rfl (Nat.le_of_ble_eq_true rfl) rfl ?_
      refine g_iload_n hC dX9_missed_19 2 rfl rfl ?_
      refine g_iconst hC dX9_missed_20 ok_1 ?_
      refine g_icmp_ne hC dX9_missed_21 (tgt := 26) (by decide) (fun h9 => ?_) (fun h9 => ?_)
      · rw [if_neg h9] at h
        refine g_iload_n hC dX9_missed_26 0 rfl rfl ?_
        refine g_if_ge hC dX9_missed_27 (tgt := 34) (by decide) (fun h9 => ?_) (fun h9 => ?_)
        · rw [if_pos h9] at h
          refine g_aload_n hC dX9_missed_34 1 rfl rfl ?_
          refine g_getr hC dX9_missed_35 lfRX9_10 (isO_spec h0) (ft_9_0 h0) ?_
          refine g_iload_n hC dX9_missed_38 0 rfl rfl ?_
          refine g_iconst hC dX9_missed_39 ok_3 ?_
          obtain ⟨⟨r2, s2⟩, e2, h⟩ := of_bind h
          dsimp only at h
          refine s_callVi hC dX9_missed_40 (tX2_number (rf_9_0 h0) e2) miX2_number mvX2_number mlRX9_122 (isO_spec (rf_9_0 h0)) vc_2 rfl rfl (Nat.le_of_ble_eq_true rfl) (Nat.le_of_ble_eq_true rfl) (Nat.le_of_ble_eq_true rfl) hcs ?_
          exact g_pick [1, 2] rfl (bX9_missed_43 hC hcs h0 hR _ _ h)
        · rw [if_neg h9] at h
          refine g_iconst hC dX9_missed_30 ok_0 ?_
          refine g_goto hC dX9_missed_31 (tgt := 43) (by decide) ?_
          exact g_pick [1, 2] rfl (bX9_missed_43 hC hcs h0 hR _ _ h)
      · rw [if_pos h9] at h
        refine g_iload_n hC dX9_missed_24 0 rfl rfl ?_
        exact ret_i h hR dX9_missed_25
    · rw [if_neg h9] at h
      refine g_iconst hC dX9_missed_9 ok_m1 ?_
      exact ret_i h hR dX9_missed_10
theorem tX9_missed {l : Launch} {g : GT} {c0 : Nat} {x1 : Int} {σ σ' : St} {r : Int} (h0 : isO 9 c0 = true) (h : fX9_missed c0 x1 σ = some (r, σ')) : Cn l g yX9_missed cX9_missed 4 (some .int) 2 0 0 [vr c0, vi x1] (SH0, σ) (some (vi r)) (SH0, σ') :=
  Cn.ofI (by decide) (Nat.le_of_ble_eq_true rfl) (fun K e hC hR => (bX9_missed_0 hC ⟨Nat.le_refl _, Nat.le_refl _⟩ h0 hR _ h))
theorem dX10_countOf_0 : decode cX10_countOf 0 = .ok (.iconst 0, 1) := by decide +kernel
theorem dX10_countOf_1 : decode cX10_countOf 1 = .ok (.istore_n 2, 1) := by decide +kernel
theorem dX10_countOf_2 : decode cX10_countOf 2 = .ok (.iconst 0, 1) := by decide +kernel
theorem dX10_countOf_3 : decode cX10_countOf 3 = .ok (.istore_n 3, 1) := by decide +kernel
theorem dX10_countOf_4 : decode cX10_countOf 4 = .ok (.iload_n 3, 1) := by decide +kernel
theorem dX10_countOf_5 : decode cX10_countOf 5 = .ok (.aload_n 0, 1) := by decide +kernel
theorem dX10_countOf_6 : decode cX10_countOf 6 = .ok (.getfield 97, 3) := by decide +kernel
theorem dX10_countOf_9 : decode cX10_countOf 9 = .ok (.if_icmp .ge 31, 3) := by decide +kernel
theorem dX10_countOf_12 : decode cX10_countOf 12 = .ok (.aload_n 0, 1) := by decide +kernel
theorem dX10_countOf_13 : decode cX10_countOf 13 = .ok (.getfield 15, 3) := by decide +kernel
theorem dX10_countOf_16 : decode cX10_countOf 16 = .ok (.iload_n 3, 1) := by decide +kernel
theorem dX10_countOf_17 : decode cX10_countOf 17 = .ok (.iaload, 1) := by decide +kernel
theorem dX10_countOf_18 : decode cX10_countOf 18 = .ok (.iload_n 1, 1) := by decide +kernel
theorem dX10_countOf_19 : decode cX10_countOf 19 = .ok (.if_icmp .ne 15, 3) := by decide +kernel
theorem dX10_countOf_22 : decode cX10_countOf 22 = .ok (.aload_n 0, 1) := by decide +kernel
theorem dX10_countOf_23 : decode cX10_countOf 23 = .ok (.getfield 18, 3) := by decide +kernel
theorem dX10_countOf_26 : decode cX10_countOf 26 = .ok (.iload_n 3, 1) := by decide +kernel
theorem dX10_countOf_27 : decode cX10_countOf 27 = .ok (.iaload, 1) := by decide +kernel
theorem dX10_countOf_28 : decode cX10_countOf 28 = .ok (.ifCond .ne 6, 3) := by decide +kernel
theorem dX10_countOf_31 : decode cX10_countOf 31 = .ok (.iinc 2 1, 3) := by decide +kernel
theorem dX10_countOf_34 : decode cX10_countOf 34 = .ok (.iinc 3 1, 3) := by decide +kernel
theorem dX10_countOf_37 : decode cX10_countOf 37 = .ok (.goto (-33), 3) := by decide +kernel
theorem dX10_countOf_40 : decode cX10_countOf 40 = .ok (.iload_n 2, 1) := by decide +kernel
theorem dX10_countOf_41 : decode cX10_countOf 41 = .ok (.ireturn, 1) := by decide +kernel
theorem bX10_countOf_34 {K : KT} {g : GT} {cm sm : Nat} {cs : Nat × Nat} {c0 : Nat} {x1 : Int} {k4 : Int → Int → St → Option (Int × St)} {r : Int} {σ' : St} (hC : Ctx K g RX10 cX10_countOf 4 0 cm sm) (hcs : cs.1 ≤ cm ∧ cs.2 ≤ sm) (h0 : isO 10 c0 = true) (hk4 : ∀ (x2 : Int) (x3 : Int) (σ : St), k4 x2 x3 σ = some (r, σ') → G K g 4 cs 4 [(0, vr c0), (1, vi x1), (2, vi x2), (3, vi x3)] [] (SH0, σ)) (hR : RetI K g cX10_countOf 4 cs r (SH0, σ')) : ∀ (x2 : Int) (x3 : Int) (σ : St), fX10_countOf_34 c0 x1 k4 x2 x3 σ = some (r, σ') → G K g 4 cs 34 [(0, vr c0), (1, vi x1), (2, vi x2), (3, vi x3)] [] (SH0, σ) := by
  intro x2 x3 σ h
  unfold fX10_countOf_34 at h
  refine g_iinc hC dX10_countOf_34 3 rfl (Nat.le_of_ble_eq_true rfl) rfl ?_
  refine g_goto hC dX10_countOf_37 (tgt := 4) (by decide) ?_
  exact g_pick [1, 2, 3, 0] rfl (hk4 _ _ _ h)
theorem bX10_countOf_4 {K : KT} {g : GT} {cm sm : Nat} {cs : Nat × Nat} {c0 : Nat} {x1 : Int} {r : Int} {σ' : St} (hC : Ctx K g RX10 cX10_countOf 4 0 cm sm) (hcs : cs.1 ≤ cm ∧ cs.2 ≤ sm) (h0 : isO 10 c0 = true) (hR : RetI K g cX10_countOf 4 cs r (SH0, σ')) : ∀ (n : Nat) (x2 : Int) (x3 : Int) (σ : St), fX10_countOf_4 c0 x1 n x2 x3 σ = some (r, σ') → G K g 4 cs 4 [(0, vr c0), (1, vi x1), (2, vi x2), (3, vi x3)] [] (SH0, σ) := by
  intro n
  induction n with
  | zero =>
    intro x2 x3 σ h
    rw [fX10_countOf_4.eq_1] at h
    cases h
  | succ n ih =>
    intro x2 x3 σ h
    rw [fX10_countOf_4.eq_2] at h
    refine g_iload_n hC dX10_countOf_4 3 rfl rfl ?_
    refine g_aload_n hC dX10_countOf_5 0 rfl rfl ?_
    refine g_geti hC dX10_countOf_6 lfRX10_97 (isO_spec h0) (ft_10_0 h0) ?_
    refine g_icmp_ge hC dX10_countOf_9 (tgt := 40) (by decide) (fun h9 => ?_) (fun h9 => ?_)
    · rw [if_pos h9] at h
      refine g_iload_n hC dX10_countOf_40 2 rfl rfl ?_
      exact ret_i h hR dX10_countOf_41
    · rw [if_neg h9] at h
      refine g_aload_n hC dX10_countOf_12 0 rfl rfl ?_
      refine g_getr hC dX10_countOf_13 lfRX10_15 (isO_spec h0) (ft_10_2 h0) ?_
      refine g_iload_n hC dX10_countOf_16 3 rfl rfl ?_
      obtain ⟨b9, h⟩ := of_ite h
      refine g_iald hC dX10_countOf_17 (isA_spec (rf_10_2 h0)) b9 ?_
      refine g_iload_n hC dX10_countOf_18 1 rfl rfl ?_
      refine g_icmp_ne hC dX10_countOf_19 (tgt := 34) (by decide) (fun h9 => ?_) (fun h9 => ?_)
      · rw [if_neg h9] at h
        exact g_pick [0, 1, 2, 3] rfl (bX10_countOf_34 hC hcs h0 ih hR _ _ _ h)
      · rw [if_pos h9] at h
        refine g_aload_n hC dX10_countOf_22 0 rfl rfl ?_
        refine g_getr hC dX10_countOf_23 lfRX10_18 (isO_spec h0) (ft_10_3 h0) ?_
        refine g_iload_n hC dX10_countOf_26 3 rfl rfl ?_
        obtain ⟨b9, h⟩ := of_ite h
        refine g_iald hC dX10_countOf_27 (isA_spec (rf_10_3 h0)) b9 ?_
        refine g_if_ne hC dX10_countOf_28 (tgt := 34) (by decide) (fun h9 => ?_) (fun h9 => ?_)
        · rw [if_neg h9] at h
          exact g_pick [0, 1, 2, 3] rfl (bX10_countOf_34 hC hcs h0 ih hR _ _ _ h)
        · rw [if_pos h9] at h
          refine g_iinc hC dX10_countOf_31 2 rfl (Nat.le_of_ble_eq_true rfl) rfl ?_
          exact g_pick [1, 2, 0, 3] rfl (bX10_countOf_34 hC hcs h0 ih hR _ _ _ h)
theorem bX10_countOf_0 {K : KT} {g : GT} {cm sm : Nat} {cs : Nat × Nat} {c0 : Nat} {x1 : Int} {r : Int} {σ' : St} (hC : Ctx K g RX10 cX10_countOf 4 0 cm sm) (hcs : cs.1 ≤ cm ∧ cs.2 ≤ sm) (h0 : isO 10 c0 = true) (hR : RetI K g cX10_countOf 4 cs r (SH0, σ')) : ∀ (σ : St), fX10_countOf c0 x1 σ = some (r, σ') → G K g 4 cs 0 [(0, vr c0), (1, vi x1)] [] (SH0, σ) := by
  intro σ h
  unfold fX10_countOf at h
  refine g_iconst hC dX10_countOf_0 ok_0 ?_
  refine g_istore_n hC dX10_countOf_1 rfl (Nat.le_of_ble_eq_true rfl) rfl ?_
  refine g_iconst hC dX10_countOf_2 ok_0 ?_
  refine g_istore_n hC dX10_countOf_3 rfl (Nat.le_of_ble_eq_true rfl) rfl ?_
  exact g_pick [2, 3, 1, 0] rfl (bX10_countOf_4 hC hcs h0 hR _ _ _ _ h)
theorem tX10_countOf {l : Launch} {g : GT} {c0 : Nat} {x1 : Int} {σ σ' : St} {r : Int} (h0 : isO 10 c0 = true) (h : fX10_countOf c0 x1 σ = some (r, σ')) : Cn l g yX10_countOf cX10_countOf 4 (some .int) 0 0 0 [vr c0, vi x1] (SH0, σ) (some (vi r)) (SH0, σ') :=
  Cn.ofI (by decide) (Nat.le_of_ble_eq_true rfl) (fun K e hC hR => (bX10_countOf_0 hC ⟨Nat.le_refl _, Nat.le_refl _⟩ h0 hR _ h))
theorem dX10_both_0 : decode cX10_both 0 = .ok (.iload_n 0, 1) := by decide +kernel
theorem dX10_both_1 : decode cX10_both 1 = .ok (.tableswitch 136 6 14 #[51, 65, 79, 90, 101, 112, 116, 120, 124], 51) := by decide +kernel
theorem dX10_both_52 : decode cX10_both 52 = .ok (.iload_n 1, 1) := by decide +kernel
theorem dX10_both_53 : decode cX10_both 53 = .ok (.ifCond .ne 7, 3) := by decide +kernel
theorem dX10_both_56 : decode cX10_both 56 = .ok (.iload_n 2, 1) := by decide +kernel
theorem dX10_both_57 : decode cX10_both 57 = .ok (.ifCond .eq 7, 3) := by decide +kernel
theorem dX10_both_60 : decode cX10_both 60 = .ok (.iconst 1, 1) := by decide +kernel
theorem dX10_both_61 : decode cX10_both 61 = .ok (.goto 4, 3) := by decide +kernel
theorem dX10_both_64 : decode cX10_both 64 = .ok (.iconst 0, 1) := by decide +kernel
theorem dX10_both_65 : decode cX10_both 65 = .ok (.ireturn, 1) := by decide +kernel
theorem dX10_both_66 : decode cX10_both 66 = .ok (.iload_n 1, 1) := by decide +kernel
theorem dX10_both_67 : decode cX10_both 67 = .ok (.ifCond .eq 11, 3) := by decide +kernel
theorem dX10_both_70 : decode cX10_both 70 = .ok (.iload_n 2, 1) := by decide +kernel
theorem dX10_both_71 : decode cX10_both 71 = .ok (.ifCond .eq 7, 3) := by decide +kernel
theorem dX10_both_74 : decode cX10_both 74 = .ok (.iconst 1, 1) := by decide +kernel
theorem dX10_both_75 : decode cX10_both 75 = .ok (.goto 4, 3) := by decide +kernel
theorem dX10_both_78 : decode cX10_both 78 = .ok (.iconst 0, 1) := by decide +kernel
theorem dX10_both_79 : decode cX10_both 79 = .ok (.ireturn, 1) := by decide +kernel
theorem dX10_both_80 : decode cX10_both 80 = .ok (.iload_n 1, 1) := by decide +kernel
theorem dX10_both_81 : decode cX10_both 81 = .ok (.iload_n 2, 1) := by decide +kernel
theorem dX10_both_82 : decode cX10_both 82 = .ok (.if_icmp .ge 7, 3) := by decide +kernel
theorem dX10_both_85 : decode cX10_both 85 = .ok (.iconst 1, 1) := by decide +kernel
theorem dX10_both_86 : decode cX10_both 86 = .ok (.goto 4, 3) := by decide +kernel
theorem dX10_both_89 : decode cX10_both 89 = .ok (.iconst 0, 1) := by decide +kernel
theorem dX10_both_90 : decode cX10_both 90 = .ok (.ireturn, 1) := by decide +kernel
theorem dX10_both_91 : decode cX10_both 91 = .ok (.iload_n 1, 1) := by decide +kernel
theorem dX10_both_92 : decode cX10_both 92 = .ok (.iload_n 2, 1) := by decide +kernel
theorem dX10_both_93 : decode cX10_both 93 = .ok (.if_icmp .ne 7, 3) := by decide +kernel
theorem dX10_both_96 : decode cX10_both 96 = .ok (.iconst 1, 1) := by decide +kernel
theorem dX10_both_97 : decode cX10_both 97 = .ok (.goto 4, 3) := by decide +kernel
theorem dX10_both_100 : decode cX10_both 100 = .ok (.iconst 0, 1) := by decide +kernel
theorem dX10_both_101 : decode cX10_both 101 = .ok (.ireturn, 1) := by decide +kernel
theorem dX10_both_102 : decode cX10_both 102 = .ok (.iload_n 1, 1) := by decide +kernel
theorem dX10_both_103 : decode cX10_both 103 = .ok (.iload_n 2, 1) := by decide +kernel
theorem dX10_both_104 : decode cX10_both 104 = .ok (.if_icmp .le 7, 3) := by decide +kernel
theorem dX10_both_107 : decode cX10_both 107 = .ok (.iconst 1, 1) := by decide +kernel
theorem dX10_both_108 : decode cX10_both 108 = .ok (.goto 4, 3) := by decide +kernel
theorem dX10_both_111 : decode cX10_both 111 = .ok (.iconst 0, 1) := by decide +kernel
theorem dX10_both_112 : decode cX10_both 112 = .ok (.ireturn, 1) := by decide +kernel
theorem dX10_both_113 : decode cX10_both 113 = .ok (.iload_n 1, 1) := by decide +kernel
theorem dX10_both_114 : decode cX10_both 114 = .ok (.iload_n 2, 1) := by decide +kernel
theorem dX10_both_115 : decode cX10_both 115 = .ok (.iadd, 1) := by decide +kernel
theorem dX10_both_116 : decode cX10_both 116 = .ok (.ireturn, 1) := by decide +kernel
theorem dX10_both_117 : decode cX10_both 117 = .ok (.iload_n 1, 1) := by decide +kernel
theorem dX10_both_118 : decode cX10_both 118 = .ok (.iload_n 2, 1) := by decide +kernel
theorem dX10_both_119 : decode cX10_both 119 = .ok (.isub, 1) := by decide +kernel
theorem dX10_both_120 : decode cX10_both 120 = .ok (.ireturn, 1) := by decide +kernel
theorem dX10_both_121 : decode cX10_both 121 = .ok (.iload_n 1, 1) := by decide +kernel
theorem dX10_both_122 : decode cX10_both 122 = .ok (.iload_n 2, 1) := by decide +kernel
theorem dX10_both_123 : decode cX10_both 123 = .ok (.imul, 1) := by decide +kernel
theorem dX10_both_124 : decode cX10_both 124 = .ok (.ireturn, 1) := by decide +kernel
theorem dX10_both_125 : decode cX10_both 125 = .ok (.iload_n 2, 1) := by decide +kernel
theorem dX10_both_126 : decode cX10_both 126 = .ok (.ifCond .ne 7, 3) := by decide +kernel
theorem dX10_both_129 : decode cX10_both 129 = .ok (.iconst 0, 1) := by decide +kernel
theorem dX10_both_130 : decode cX10_both 130 = .ok (.goto 6, 3) := by decide +kernel
theorem dX10_both_133 : decode cX10_both 133 = .ok (.iload_n 1, 1) := by decide +kernel
theorem dX10_both_134 : decode cX10_both 134 = .ok (.iload_n 2, 1) := by decide +kernel
theorem dX10_both_135 : decode cX10_both 135 = .ok (.idiv, 1) := by decide +kernel
theorem dX10_both_136 : decode cX10_both 136 = .ok (.ireturn, 1) := by decide +kernel
theorem dX10_both_137 : decode cX10_both 137 = .ok (.iload_n 2, 1) := by decide +kernel
theorem dX10_both_138 : decode cX10_both 138 = .ok (.ifCond .ne 7, 3) := by decide +kernel
theorem dX10_both_141 : decode cX10_both 141 = .ok (.iconst 0, 1) := by decide +kernel
theorem dX10_both_142 : decode cX10_both 142 = .ok (.goto 6, 3) := by decide +kernel
theorem dX10_both_145 : decode cX10_both 145 = .ok (.iload_n 1, 1) := by decide +kernel
theorem dX10_both_146 : decode cX10_both 146 = .ok (.iload_n 2, 1) := by decide +kernel
theorem dX10_both_147 : decode cX10_both 147 = .ok (.irem, 1) := by decide +kernel
theorem dX10_both_148 : decode cX10_both 148 = .ok (.ireturn, 1) := by decide +kernel
theorem bX10_both_0 {K : KT} {g : GT} {cm sm : Nat} {cs : Nat × Nat} {x0 : Int} {x1 : Int} {x2 : Int} {r : Int} {σ' : St} (hC : Ctx K g RX10 cX10_both 3 0 cm sm) (hcs : cs.1 ≤ cm ∧ cs.2 ≤ sm) (hR : RetI K g cX10_both 3 cs r (SH0, σ')) : ∀ (σ : St), fX10_both x0 x1 x2 σ = some (r, σ') → G K g 3 cs 0 [(0, vi x0), (1, vi x1), (2, vi x2)] [] (SH0, σ) := by
  intro σ h
  unfold fX10_both at h
  refine g_iload_n hC dX10_both_0 0 rfl rfl ?_
  by_cases h9 : x0 = 6
  · rw [if_pos h9] at h
    refine g_table hC dX10_both_1 52 (Or.inr (by rw [h9]; exact ⟨by decide, by decide, 51, rfl, by decide⟩)) ?_
    refine g_iload_n hC dX10_both_52 1 rfl rfl ?_
    refine g_if_ne hC dX10_both_53 (tgt := 60) (by decide) (fun h9 => ?_) (fun h9 => ?_)
    · rw [if_neg h9] at h
      refine g_iconst hC dX10_both_60 ok_1 ?_
      refine g_goto hC dX10_both_61 (tgt := 65) (by decide) ?_
      exact ret_i h hR dX10_both_65
    · rw [if_pos h9] at h
      refine g_iload_n hC dX10_both_56 2 rfl rfl ?_
      refine g_if_eq hC dX10_both_57 (tgt := 64) (by decide) (fun h9 => ?_) (fun h9 => ?_)
      · rw [if_pos h9] at h
        refine g_iconst hC dX10_both_64 ok_0 ?_
        exact ret_i h hR dX10_both_65
      · rw [if_neg h9] at h
        refine g_iconst hC dX10_both_60 ok_1 ?_
        refine g_goto hC dX10_both_61 (tgt := 65) (by decide) ?_
        exact ret_i h hR dX10_both_65
  rw [if_neg h9] at h
  have n1 := h9
  clear h9
  by_cases h9 : x0 = 7
  · rw [if_pos h9] at h
    refine g_table hC dX10_both_1 66 (Or.inr (by rw [h9]; exact ⟨by decide, by decide, 65, rfl, by decide⟩)) ?_
    refine g_iload_n hC dX10_both_66 1 rfl rfl ?_
    refine g_if_eq hC dX10_both_67 (tgt := 78) (by decide) (fun h9 => ?_) (fun h9 => ?_)
    · rw [if_pos h9] at h
      refine g_iconst hC dX10_both_78 ok_0 ?_
      exact ret_i h hR dX10_both_79
    · rw [if_neg h9] at h
      refine g_iload_n hC dX10_both_70 2 rfl rfl ?_
      refine g_if_eq hC dX10_both_71 (tgt := 78) (by decide) (fun h9 => ?_) (fun h9 => ?_)
      · rw [if_pos h9] at h
        refine g_iconst hC dX10_both_78 ok_0 ?_
        exact ret_i h hR dX10_both_79
      · rw [if_neg h9] at h
        refine g_iconst hC dX10_both_74 ok_1 ?_
        refine g_goto hC dX10_both_75 (tgt := 79) (by decide) ?_
        exact ret_i h hR dX10_both_79
  rw [if_neg h9] at h
  have n2 := h9
  clear h9
  by_cases h9 : x0 = 8
  · rw [if_pos h9] at h
    refine g_table hC dX10_both_1 80 (Or.inr (by rw [h9]; exact ⟨by decide, by decide, 79, rfl, by decide⟩)) ?_
    refine g_iload_n hC dX10_both_80 1 rfl rfl ?_
    refine g_iload_n hC dX10_both_81 2 rfl rfl ?_
    refine g_icmp_ge hC dX10_both_82 (tgt := 89) (by decide) (fun h9 => ?_) (fun h9 => ?_)
    · rw [if_pos h9] at h
      refine g_iconst hC dX10_both_89 ok_0 ?_
      exact ret_i h hR dX10_both_90
    · rw [if_neg h9] at h
      refine g_iconst hC dX10_both_85 ok_1 ?_
      refine g_goto hC dX10_both_86 (tgt := 90) (by decide) ?_
      exact ret_i h hR dX10_both_90
  rw [if_neg h9] at h
  have n3 := h9
  clear h9
  by_cases h9 : x0 = 9
  · rw [if_pos h9] at h
    refine g_table hC dX10_both_1 91 (Or.inr (by rw [h9]; exact ⟨by decide, by decide, 90, rfl, by decide⟩)) ?_
    refine g_iload_n hC dX10_both_91 1 rfl rfl ?_
    refine g_iload_n hC dX10_both_92 2 rfl rfl ?_
    refine g_icmp_ne hC dX10_both_93 (tgt := 100) (by decide) (fun h9 => ?_) (fun h9 => ?_)
    · rw [if_neg h9] at h
      refine g_iconst hC dX10_both_100 ok_0 ?_
      exact ret_i h hR dX10_both_101
    · rw [if_pos h9] at h
      refine g_iconst hC dX10_both_96 ok_1 ?_
      refine g_goto hC dX10_both_97 (tgt := 101) (by decide) ?_
      exact ret_i h hR dX10_both_101
  rw [if_neg h9] at h
  have n4 := h9
  clear h9
  by_cases h9 : x0 = 10
  · rw [if_pos h9] at h
    refine g_table hC dX10_both_1 102 (Or.inr (by rw [h9]; exact ⟨by decide, by decide, 101, rfl, by decide⟩)) ?_
    refine g_iload_n hC dX10_both_102 1 rfl rfl ?_
    refine g_iload_n hC dX10_both_103 2 rfl rfl ?_
    refine g_icmp_le hC dX10_both_104 (tgt := 111) (by decide) (fun h9 => ?_) (fun h9 => ?_)
    · rw [if_pos h9] at h
      refine g_iconst hC dX10_both_111 ok_0 ?_
      exact ret_i h hR dX10_both_112
    · rw [if_neg h9] at h
      refine g_iconst hC dX10_both_107 ok_1 ?_
      refine g_goto hC dX10_both_108 (tgt := 112) (by decide) ?_
      exact ret_i h hR dX10_both_112
  rw [if_neg h9] at h
  have n5 := h9
  clear h9
  by_cases h9 : x0 = 11
  · rw [if_pos h9] at h
    refine g_table hC dX10_both_1 113 (Or.inr (by rw [h9]; exact ⟨by decide, by decide, 112, rfl, by decide⟩)) ?_
    refine g_iload_n hC dX10_both_113 1 rfl rfl ?_
    refine g_iload_n hC dX10_both_114 2 rfl rfl ?_
    refine g_iadd hC dX10_both_115 ?_
    exact ret_i h hR dX10_both_116
  rw [if_neg h9] at h
  have n6 := h9
  clear h9
  by_cases h9 : x0 = 12
  · rw [if_pos h9] at h
    refine g_table hC dX10_both_1 117 (Or.inr (by rw [h9]; exact ⟨by decide, by decide, 116, rfl, by decide⟩)) ?_
    refine g_iload_n hC dX10_both_117 1 rfl rfl ?_
    refine g_iload_n hC dX10_both_118 2 rfl rfl ?_
    refine g_isub hC dX10_both_119 ?_
    exact ret_i h hR dX10_both_120
  rw [if_neg h9] at h
  have n7 := h9
  clear h9
  by_cases h9 : x0 = 13
  · rw [if_pos h9] at h
    refine g_table hC dX10_both_1 121 (Or.inr (by rw [h9]; exact ⟨by decide, by decide, 120, rfl, by decide⟩)) ?_
    refine g_iload_n hC dX10_both_121 1 rfl rfl ?_
    refine g_iload_n hC dX10_both_122 2 rfl rfl ?_
    refine g_imul hC dX10_both_123 ?_
    exact ret_i h hR dX10_both_124
  rw [if_neg h9] at h
  have n8 := h9
  clear h9
  by_cases h9 : x0 = 14
  · rw [if_pos h9] at h
    refine g_table hC dX10_both_1 125 (Or.inr (by rw [h9]; exact ⟨by decide, by decide, 124, rfl, by decide⟩)) ?_
    refine g_iload_n hC dX10_both_125 2 rfl rfl ?_
    refine g_if_ne hC dX10_both_126 (tgt := 133) (by decide) (fun h9 => ?_) (fun h9 => ?_)
    · rw [if_neg h9] at h
      refine g_iload_n hC dX10_both_133 1 rfl rfl ?_
      refine g_iload_n hC dX10_both_134 2 rfl rfl ?_
      obtain ⟨b9, h⟩ := of_ite h
      refine g_idiv hC dX10_both_135 b9 ?_
      exact ret_i h hR dX10_both_136
    · rw [if_pos h9] at h
      refine g_iconst hC dX10_both_129 ok_0 ?_
      refine g_goto hC dX10_both_130 (tgt := 136) (by decide) ?_
      exact ret_i h hR dX10_both_136
  rw [if_neg h9] at h
  have n9 := h9
  clear h9
  refine g_table hC dX10_both_1 137 (sw_out 6 14 (by omega) (by decide)) ?_
  refine g_iload_n hC dX10_both_137 2 rfl rfl ?_
  refine g_if_ne hC dX10_both_138 (tgt := 145) (by decide) (fun h9 => ?_) (fun h9 => ?_)
  · rw [if_neg h9] at h
    refine g_iload_n hC dX10_both_145 1 rfl rfl ?_
    refine g_iload_n hC dX10_both_146 2 rfl rfl ?_
    obtain ⟨b9, h⟩ := of_ite h
    refine g_irem hC dX10_both_147 b9 ?_
    exact ret_i h hR dX10_both_148
  · rw [if_pos h9] at h
    refine g_iconst hC dX10_both_141 ok_0 ?_
    refine g_goto hC dX10_both_142 (tgt := 148) (by decide) ?_
    exact ret_i h hR dX10_both_148
theorem tX10_both {l : Launch} {g : GT} {x0 : Int} {x1 : Int} {x2 : Int} {σ σ' : St} {r : Int} (h : fX10_both x0 x1 x2 σ = some (r, σ')) : Cn l g yX10_both cX10_both 3 (some .int) 0 0 0 [vi x0, vi x1, vi x2] (SH0, σ) (some (vi r)) (SH0, σ') :=
  Cn.ofI (by decide) (Nat.le_of_ble_eq_true rfl) (fun K e hC hR => (bX10_both_0 hC ⟨Nat.le_refl _, Nat.le_refl _⟩ hR _ h))
theorem dX10_worked_0 : decode cX10_worked 0 = .ok (.iconst 0, 1) := by decide +kernel
theorem dX10_worked_1 : decode cX10_worked 1 = .ok (.istore_n 3, 1) := by decide +kernel
theorem dX10_worked_2 : decode cX10_worked 2 = .ok (.iload_n 1, 1) := by decide +kernel
theorem dX10_worked_3 : decode cX10_worked 3 = .ok (.istore 4, 2) := by decide +kernel
theorem dX10_worked_5 : decode cX10_worked 5 = .ok (.iload 4, 2) := by decide +kernel
theorem dX10_worked_7 : decode cX10_worked 7 = .ok (.iload_n 2, 1) := by decide +kernel
theorem dX10_worked_8 : decode cX10_worked 8 = .ok (.if_icmp .ge 155, 3) := by decide +kernel
theorem dX10_worked_11 : decode cX10_worked 11 = .ok (.aload_n 0, 1) := by decide +kernel
theorem dX10_worked_12 : decode cX10_worked 12 = .ok (.getfield 39, 3) := by decide +kernel
theorem dX10_worked_15 : decode cX10_worked 15 = .ok (.iload 4, 2) := by decide +kernel
theorem dX10_worked_17 : decode cX10_worked 17 = .ok (.iaload, 1) := by decide +kernel
theorem dX10_worked_18 : decode cX10_worked 18 = .ok (.istore 5, 2) := by decide +kernel
theorem dX10_worked_20 : decode cX10_worked 20 = .ok (.iload 5, 2) := by decide +kernel
theorem dX10_worked_22 : decode cX10_worked 22 = .ok (.bipush 18, 2) := by decide +kernel
theorem dX10_worked_24 : decode cX10_worked 24 = .ok (.if_icmp .ge 9, 3) := by decide +kernel
theorem dX10_worked_27 : decode cX10_worked 27 = .ok (.iload 5, 2) := by decide +kernel
theorem dX10_worked_29 : decode cX10_worked 29 = .ok (.iconst 5, 1) := by decide +kernel
theorem dX10_worked_30 : decode cX10_worked 30 = .ok (.if_icmp .gt 37, 3) := by decide +kernel
theorem dX10_worked_33 : decode cX10_worked 33 = .ok (.aload_n 0, 1) := by decide +kernel
theorem dX10_worked_34 : decode cX10_worked 34 = .ok (.getfield 54, 3) := by decide +kernel
theorem dX10_worked_37 : decode cX10_worked 37 = .ok (.iload_n 3, 1) := by decide +kernel
theorem dX10_worked_38 : decode cX10_worked 38 = .ok (.iinc 3 1, 3) := by decide +kernel
theorem dX10_worked_41 : decode cX10_worked 41 = .ok (.iload 5, 2) := by decide +kernel
theorem dX10_worked_43 : decode cX10_worked 43 = .ok (.bipush 18, 2) := by decide +kernel
theorem dX10_worked_45 : decode cX10_worked 45 = .ok (.if_icmp .lt 11, 3) := by decide +kernel
theorem dX10_worked_48 : decode cX10_worked 48 = .ok (.iload 5, 2) := by decide +kernel
theorem dX10_worked_50 : decode cX10_worked 50 = .ok (.bipush 18, 2) := by decide +kernel
theorem dX10_worked_52 : decode cX10_worked 52 = .ok (.isub, 1) := by decide +kernel
theorem dX10_worked_53 : decode cX10_worked 53 = .ok (.goto 10, 3) := by decide +kernel
theorem dX10_worked_56 : decode cX10_worked 56 = .ok (.aload_n 0, 1) := by decide +kernel
theorem dX10_worked_57 : decode cX10_worked 57 = .ok (.getfield 57, 3) := by decide +kernel
theorem dX10_worked_60 : decode cX10_worked 60 = .ok (.iload 5, 2) := by decide +kernel
theorem dX10_worked_62 : decode cX10_worked 62 = .ok (.iaload, 1) := by decide +kernel
theorem dX10_worked_63 : decode cX10_worked 63 = .ok (.iastore, 1) := by decide +kernel
theorem dX10_worked_64 : decode cX10_worked 64 = .ok (.goto 93, 3) := by decide +kernel
theorem dX10_worked_67 : decode cX10_worked 67 = .ok (.iload 5, 2) := by decide +kernel
theorem dX10_worked_69 : decode cX10_worked 69 = .ok (.bipush 16, 2) := by decide +kernel
theorem dX10_worked_71 : decode cX10_worked 71 = .ok (.if_icmp .eq 10, 3) := by decide +kernel
theorem dX10_worked_74 : decode cX10_worked 74 = .ok (.iload 5, 2) := by decide +kernel
theorem dX10_worked_76 : decode cX10_worked 76 = .ok (.bipush 17, 2) := by decide +kernel
theorem dX10_worked_78 : decode cX10_worked 78 = .ok (.if_icmp .ne 49, 3) := by decide +kernel
theorem dX10_worked_81 : decode cX10_worked 81 = .ok (.aload_n 0, 1) := by decide +kernel
theorem dX10_worked_82 : decode cX10_worked 82 = .ok (.getfield 54, 3) := by decide +kernel
theorem dX10_worked_85 : decode cX10_worked 85 = .ok (.iload_n 3, 1) := by decide +kernel
theorem dX10_worked_86 : decode cX10_worked 86 = .ok (.iconst 1, 1) := by decide +kernel
theorem dX10_worked_87 : decode cX10_worked 87 = .ok (.isub, 1) := by decide +kernel
theorem dX10_worked_88 : decode cX10_worked 88 = .ok (.iload 5, 2) := by decide +kernel
theorem dX10_worked_90 : decode cX10_worked 90 = .ok (.bipush 17, 2) := by decide +kernel
theorem dX10_worked_92 : decode cX10_worked 92 = .ok (.if_icmp .ne 15, 3) := by decide +kernel
theorem dX10_worked_95 : decode cX10_worked 95 = .ok (.aload_n 0, 1) := by decide +kernel
theorem dX10_worked_96 : decode cX10_worked 96 = .ok (.getfield 54, 3) := by decide +kernel
theorem dX10_worked_99 : decode cX10_worked 99 = .ok (.iload_n 3, 1) := by decide +kernel
theorem dX10_worked_100 : decode cX10_worked 100 = .ok (.iconst 1, 1) := by decide +kernel
theorem dX10_worked_101 : decode cX10_worked 101 = .ok (.isub, 1) := by decide +kernel
theorem dX10_worked_102 : decode cX10_worked 102 = .ok (.iaload, 1) := by decide +kernel
theorem dX10_worked_103 : decode cX10_worked 103 = .ok (.ineg, 1) := by decide +kernel
theorem dX10_worked_104 : decode cX10_worked 104 = .ok (.goto 19, 3) := by decide +kernel
theorem dX10_worked_107 : decode cX10_worked 107 = .ok (.aload_n 0, 1) := by decide +kernel
theorem dX10_worked_108 : decode cX10_worked 108 = .ok (.getfield 54, 3) := by decide +kernel
theorem dX10_worked_111 : decode cX10_worked 111 = .ok (.iload_n 3, 1) := by decide +kernel
theorem dX10_worked_112 : decode cX10_worked 112 = .ok (.iconst 1, 1) := by decide +kernel
theorem dX10_worked_113 : decode cX10_worked 113 = .ok (.isub, 1) := by decide +kernel
theorem dX10_worked_114 : decode cX10_worked 114 = .ok (.iaload, 1) := by decide +kernel
theorem dX10_worked_115 : decode cX10_worked 115 = .ok (.ifCond .ne 7, 3) := by decide +kernel
theorem dX10_worked_118 : decode cX10_worked 118 = .ok (.iconst 1, 1) := by decide +kernel
theorem dX10_worked_119 : decode cX10_worked 119 = .ok (.goto 4, 3) := by decide +kernel
theorem dX10_worked_122 : decode cX10_worked 122 = .ok (.iconst 0, 1) := by decide +kernel
theorem dX10_worked_123 : decode cX10_worked 123 = .ok (.iastore, 1) := by decide +kernel
theorem dX10_worked_124 : decode cX10_worked 124 = .ok (.goto 33, 3) := by decide +kernel
theorem dX10_worked_127 : decode cX10_worked 127 = .ok (.iinc 3 (-1), 3) := by decide +kernel
theorem dX10_worked_130 : decode cX10_worked 130 = .ok (.aload_n 0, 1) := by decide +kernel
theorem dX10_worked_131 : decode cX10_worked 131 = .ok (.getfield 54, 3) := by decide +kernel
theorem dX10_worked_134 : decode cX10_worked 134 = .ok (.iload_n 3, 1) := by decide +kernel
theorem dX10_worked_135 : decode cX10_worked 135 = .ok (.iconst 1, 1) := by decide +kernel
theorem dX10_worked_136 : decode cX10_worked 136 = .ok (.isub, 1) := by decide +kernel
theorem dX10_worked_137 : decode cX10_worked 137 = .ok (.iload 5, 2) := by decide +kernel
theorem dX10_worked_139 : decode cX10_worked 139 = .ok (.aload_n 0, 1) := by decide +kernel
theorem dX10_worked_140 : decode cX10_worked 140 = .ok (.getfield 54, 3) := by decide +kernel
theorem dX10_worked_143 : decode cX10_worked 143 = .ok (.iload_n 3, 1) := by decide +kernel
theorem dX10_worked_144 : decode cX10_worked 144 = .ok (.iconst 1, 1) := by decide +kernel
theorem dX10_worked_145 : decode cX10_worked 145 = .ok (.isub, 1) := by decide +kernel
theorem dX10_worked_146 : decode cX10_worked 146 = .ok (.iaload, 1) := by decide +kernel
theorem dX10_worked_147 : decode cX10_worked 147 = .ok (.aload_n 0, 1) := by decide +kernel
theorem dX10_worked_148 : decode cX10_worked 148 = .ok (.getfield 54, 3) := by decide +kernel
theorem dX10_worked_151 : decode cX10_worked 151 = .ok (.iload_n 3, 1) := by decide +kernel
theorem dX10_worked_152 : decode cX10_worked 152 = .ok (.iaload, 1) := by decide +kernel
theorem dX10_worked_153 : decode cX10_worked 153 = .ok (.invokestatic 210, 3) := by decide +kernel
theorem dX10_worked_156 : decode cX10_worked 156 = .ok (.iastore, 1) := by decide +kernel
theorem dX10_worked_157 : decode cX10_worked 157 = .ok (.iinc 4 1, 3) := by decide +kernel
theorem dX10_worked_160 : decode cX10_worked 160 = .ok (.goto (-155), 3) := by decide +kernel
theorem dX10_worked_163 : decode cX10_worked 163 = .ok (.aload_n 0, 1) := by decide +kernel
theorem dX10_worked_164 : decode cX10_worked 164 = .ok (.getfield 54, 3) := by decide +kernel
theorem dX10_worked_167 : decode cX10_worked 167 = .ok (.iconst 0, 1) := by decide +kernel
theorem dX10_worked_168 : decode cX10_worked 168 = .ok (.iaload, 1) := by decide +kernel
theorem dX10_worked_169 : decode cX10_worked 169 = .ok (.ireturn, 1) := by decide +kernel
theorem bX10_worked_157 {K : KT} {g : GT} {cm sm : Nat} {cs : Nat × Nat} {c0 : Nat} {x1 : Int} {x2 : Int} {k5 : Int → Int → St → Option (Int × St)} {r : Int} {σ' : St} (hC : Ctx K g RX10 cX10_worked 6 1 cm sm) (hcs : cs.1 ≤ cm ∧ cs.2 ≤ sm) (h0 : isO 10 c0 = true) (hk5 : ∀ (x3 : Int) (x4 : Int) (σ : St), k5 x3 x4 σ = some (r, σ') → G K g 6 cs 5 [(0, vr c0), (1, vi x1), (2, vi x2), (3, vi x3), (4, vi x4)] [] (SH0, σ)) (hR : RetI K g cX10_worked 6 cs r (SH0, σ')) : ∀ (x3 : Int) (x4 : Int) (σ : St), fX10_worked_157 c0 x1 x2 k5 x3 x4 σ = some (r, σ') → G K g 6 cs 157 [(0, vr c0), (1, vi x1), (2, vi x2), (3, vi x3), (4, vi x4)] [] (SH0, σ) := by
  intro x3 x4 σ h
  unfold fX10_worked_157 at h
  refine g_iinc hC dX10_worked_157 4 rfl (Nat.le_of_ble_eq_true rfl) rfl ?_
  refine g_goto hC dX10_worked_160 (tgt := 5) (by decide) ?_
  exact g_pick [1, 2, 3, 4, 0] rfl (hk5 _ _ _ h)
theorem bX10_worked_63 {K : KT} {g : GT} {cm sm : Nat} {cs : Nat × Nat} {c0 : Nat} {x1 : Int} {x2 : Int} {k5 : Int → Int → St → Option (Int × St)} {r : Int} {σ' : St} (hC : Ctx K g RX10 cX10_worked 6 1 cm sm) (hcs : cs.1 ≤ cm ∧ cs.2 ≤ sm) (h0 : isO 10 c0 = true) (hk5 : ∀ (x3 : Int) (x4 : Int) (σ : St), k5 x3 x4 σ = some (r, σ') → G K g 6 cs 5 [(0, vr c0), (1, vi x1), (2, vi x2), (3, vi x3), (4, vi x4)] [] (SH0, σ)) (hR : RetI K g cX10_worked 6 cs r (SH0, σ')) : ∀ (x3 : Int) (x4 : Int) (d0 : Nat) (y1 : Int) (y2 : Int) (σ : St), isA 1 d0 = true → fX10_worked_63 c0 x1 x2 k5 x3 x4 d0 y1 y2 σ = some (r, σ') → G K g 6 cs 63 [(0, vr c0), (1, vi x1), (2, vi x2), (3, vi x3), (4, vi x4)] [vi y2, vi y1, vr d0] (SH0, σ) := by
  intro x3 x4 d0 y1 y2 σ hd0 h
  unfold fX10_worked_63 at h
  obtain ⟨b9, h⟩ := of_ite h
  refine g_iast hC dX10_worked_63 (isA_spec hd0) b9 ?_
  refine g_goto hC dX10_worked_64 (tgt := 157) (by decide) ?_
  exact g_pick [0, 1, 2, 3, 4] rfl (bX10_worked_157 hC hcs h0 hk5 hR _ _ _ h)
theorem bX10_worked_33 {K : KT} {g : GT} {cm sm : Nat} {cs : Nat × Nat} {c0 : Nat} {x1 : Int} {x2 : Int} {k5 : Int → Int → St → Option (Int × St)} {r : Int} {σ' : St} (hC : Ctx K g RX10 cX10_worked 6 1 cm sm) (hcs : cs.1 ≤ cm ∧ cs.2 ≤ sm) (h0 : isO 10 c0 = true) (hk5 : ∀ (x3 : Int) (x4 : Int) (σ : St), k5 x3 x4 σ = some (r, σ') → G K g 6 cs 5 [(0, vr c0), (1, vi x1), (2, vi x2), (3, vi x3), (4, vi x4)] [] (SH0, σ)) (hR : RetI K g cX10_worked 6 cs r (SH0, σ')) : ∀ (x3 : Int) (x4 : Int) (x5 : Int) (σ : St), fX10_worked_33 c0 x1 x2 k5 x3 x4 x5 σ = some (r, σ') → G K g 6 cs 33 [(0, vr c0), (1, vi x1), (2, vi x2), (3, vi x3), (4, vi x4), (5, vi x5)] [] (SH0, σ) := by
  intro x3 x4 x5 σ h
  unfold fX10_worked_33 at h
  refine g_aload_n hC dX10_worked_33 0 rfl rfl ?_
  refine g_getr hC dX10_worked_34 lfRX10_54 (isO_spec h0) (ft_10_23 h0) ?_
  refine g_iload_n hC dX10_worked_37 3 rfl rfl ?_
  refine g_iinc hC dX10_worked_38 3 rfl (Nat.le_of_ble_eq_true rfl) rfl ?_
  refine g_iload hC dX10_worked_41 5 rfl ?_
  refine g_bipush hC dX10_worked_43 bp_18 ?_
  refine g_icmp_lt hC dX10_worked_45 (tgt := 56) (by decide) (fun h9 => ?_) (fun h9 => ?_)
  · rw [if_pos h9] at h
    refine g_aload_n hC dX10_worked_56 1 rfl rfl ?_
    refine g_getr hC dX10_worked_57 lfRX10_57 (isO_spec h0) (ft_10_24 h0) ?_
    refine g_iload hC dX10_worked_60 5 rfl ?_
    obtain ⟨b9, h⟩ := of_ite h
    refine g_iald hC dX10_worked_62 (isA_spec (rf_10_24 h0)) b9 ?_
    exact g_pick [1, 2, 3, 0, 4] rfl (bX10_worked_63 hC hcs h0 hk5 hR _ _ _ _ _ _ (rf_10_23 h0) h)
  · rw [if_neg h9] at h
    refine g_iload hC dX10_worked_48 5 rfl ?_
    refine g_bipush hC dX10_worked_50 bp_18 ?_
    refine g_isub hC dX10_worked_52 ?_
    refine g_goto hC dX10_worked_53 (tgt := 63) (by decide) ?_
    exact g_pick [1, 2, 3, 0, 4] rfl (bX10_worked_63 hC hcs h0 hk5 hR _ _ _ _ _ _ (rf_10_23 h0) h)
theorem bX10_worked_123 {K : KT} {g : GT} {cm sm : Nat} {cs : Nat × Nat} {c0 : Nat} {x1 : Int} {x2 : Int} {k5 : Int → Int → St → Option (Int × St)} {r : Int} {σ' : St} (hC : Ctx K g RX10 cX10_worked 6 1 cm sm) (hcs : cs.1 ≤ cm ∧ cs.2 ≤ sm) (h0 : isO 10 c0 = true) (hk5 : ∀ (x3 : Int) (x4 : Int) (σ : St), k5 x3 x4 σ = some (r, σ') → G K g 6 cs 5 [(0, vr c0), (1, vi x1), (2, vi x2), (3, vi x3), (4, vi x4)] [] (SH0, σ)) (hR : RetI K g cX10_worked 6 cs r (SH0, σ')) : ∀ (x3 : Int) (x4 : Int) (d0 : Nat) (y1 : Int) (y2 : Int) (σ : St), isA 1 d0 = true → fX10_worked_123 c0 x1 x2 k5 x3 x4 d0 y1 y2 σ = some (r, σ') → G K g 6 cs 123 [(0, vr c0), (1, vi x1), (2, vi x2), (3, vi x3), (4, vi x4)] [vi y2, vi y1, vr d0] (SH0, σ) := by
  intro x3 x4 d0 y1 y2 σ hd0 h
  unfold fX10_worked_123 at h
  obtain ⟨b9, h⟩ := of_ite h
  refine g_iast hC dX10_worked_123 (isA_spec hd0) b9 ?_
  refine g_goto hC dX10_worked_124 (tgt := 157) (by decide) ?_
  exact g_pick [0, 1, 2, 3, 4] rfl (bX10_worked_157 hC hcs h0 hk5 hR _ _ _ h)
theorem bX10_worked_81 {K : KT} {g : GT} {cm sm : Nat} {cs : Nat × Nat} {c0 : Nat} {x1 : Int} {x2 : Int} {k5 : Int → Int → St → Option (Int × St)} {r : Int} {σ' : St} (hC : Ctx K g RX10 cX10_worked 6 1 cm sm) (hcs : cs.1 ≤ cm ∧ cs.2 ≤ sm) (h0 : isO 10 c0 = true) (hk5 : ∀ (x3 : Int) (x4 : Int) (σ : St), k5 x3 x4 σ = some (r, σ') → G K g 6 cs 5 [(0, vr c0), (1, vi x1), (2, vi x2), (3, vi x3), (4, vi x4)] [] (SH0, σ)) (hR : RetI K g cX10_worked 6 cs r (SH0, σ')) : ∀ (x3 : Int) (x4 : Int) (x5 : Int) (σ : St), fX10_worked_81 c0 x1 x2 k5 x3 x4 x5 σ = some (r, σ') → G K g 6 cs 81 [(0, vr c0), (1, vi x1), (2, vi x2), (3, vi x3), (4, vi x4), (5, vi x5)] [] (SH0, σ) := by
  intro x3 x4 x5 σ h
  unfold fX10_worked_81 at h
  refine g_aload_n hC dX10_worked_81 0 rfl rfl ?_
  refine g_getr hC dX10_worked_82 lfRX10_54 (isO_spec h0) (ft_10_23 h0) ?_
  refine g_iload_n hC dX10_worked_85 3 rfl rfl ?_
  refine g_iconst hC dX10_worked_86 ok_1 ?_
  refine g_isub hC dX10_worked_87 ?_
  refine g_iload hC dX10_worked_88 5 rfl ?_
  refine g_bipush hC dX10_worked_90 bp_17 ?_
  refine g_icmp_ne hC dX10_worked_92 (tgt := 107) (by decide) (fun h9 => ?_) (fun h9 => ?_)
  · rw [if_neg h9] at h
    refine g_aload_n hC dX10_worked_107 0 rfl rfl ?_
    refine g_getr hC dX10_worked_108 lfRX10_54 (isO_spec h0) (ft_10_23 h0) ?_
    refine g_iload_n hC dX10_worked_111 3 rfl rfl ?_
    refine g_iconst hC dX10_worked_112 ok_1 ?_
    refine g_isub hC dX10_worked_113 ?_
    obtain ⟨b9, h⟩ := of_ite h
    refine g_iald hC dX10_worked_114 (isA_spec (rf_10_23 h0)) b9 ?_
    refine g_if_ne hC dX10_worked_115 (tgt := 122) (by decide) (fun h9 => ?_) (fun h9 => ?_)
    · rw [if_neg h9] at h
      refine g_iconst hC dX10_worked_122 ok_0 ?_
      exact g_pick [0, 1, 2, 3, 4] rfl (bX10_worked_123 hC hcs h0 hk5 hR _ _ _ _ _ _ (rf_10_23 h0) h)
    · rw [if_pos h9] at h
      refine g_iconst hC dX10_worked_118 ok_1 ?_
      refine g_goto hC dX10_worked_119 (tgt := 123) (by decide) ?_
      exact g_pick [0, 1, 2, 3, 4] rfl (bX10_worked_123 hC hcs h0 hk5 hR _ _ _ _ _ _ (rf_10_23 h0) h)
  · rw [if_pos h9] at h
    refine g_aload_n hC dX10_worked_95 0 rfl rfl ?_
    refine g_getr hC dX10_worked_96 lfRX10_54 (isO_spec h0) (ft_10_23 h0) ?_
    refine g_iload_n hC dX10_worked_99 3 rfl rfl ?_
    refine g_iconst hC dX10_worked_100 ok_1 ?_
    refine g_isub hC dX10_worked_101 ?_
    obtain ⟨b9, h⟩ := of_ite h
    refine g_iald hC dX10_worked_102 (isA_spec (rf_10_23 h0)) b9 ?_
    refine g_ineg hC dX10_worked_103 ?_
    refine g_goto hC dX10_worked_104 (tgt := 123) (by decide) ?_
    exact g_pick [0, 1, 2, 3, 4] rfl (bX10_worked_123 hC hcs h0 hk5 hR _ _ _ _ _ _ (rf_10_23 h0) h)
theorem bX10_worked_5 {K : KT} {g : GT} {cm sm : Nat} {cs : Nat × Nat} {c0 : Nat} {x1 : Int} {x2 : Int} {r : Int} {σ' : St} (hC : Ctx K g RX10 cX10_worked 6 1 cm sm) (hcs : cs.1 ≤ cm ∧ cs.2 ≤ sm) (h0 : isO 10 c0 = true) (hR : RetI K g cX10_worked 6 cs r (SH0, σ')) : ∀ (n : Nat) (x3 : Int) (x4 : Int) (σ : St), fX10_worked_5 c0 x1 x2 n x3 x4 σ = some (r, σ') → G K g 6 cs 5 [(0, vr c0), (1, vi x1), (2, vi x2), (3, vi x3), (4, vi x4)] [] (SH0, σ) := by
  intro n
  induction n with
  | zero =>
    intro x3 x4 σ h
    rw [fX10_worked_5.eq_1] at h
    cases h
  | succ n ih =>
    intro x3 x4 σ h
    rw [fX10_worked_5.eq_2] at h
    refine g_iload hC dX10_worked_5 4 rfl ?_
    refine g_iload_n hC dX10_worked_7 2 rfl rfl ?_
    refine g_icmp_ge hC dX10_worked_8 (tgt := 163) (by decide) (fun h9 => ?_) (fun h9 => ?_)
    · rw [if_pos h9] at h
      refine g_aload_n hC dX10_worked_163 0 rfl rfl ?_
      refine g_getr hC dX10_worked_164 lfRX10_54 (isO_spec h0) (ft_10_23 h0) ?_
      refine g_iconst hC dX10_worked_167 ok_0 ?_
      obtain ⟨b9, h⟩ := of_ite h
      refine g_iald hC dX10_worked_168 (isA_spec (rf_10_23 h0)) b9 ?_
      exact ret_i h hR dX10_worked_169
    · rw [if_neg h9] at h
      refine g_aload_n hC dX10_worked_11 0 rfl rfl ?_
      refine g_getr hC dX10_worked_12 lfRX10_39 (isO_spec h0) (ft_10_14 h0) ?_
      refine g_iload hC dX10_worked_15 4 rfl ?_
      obtain ⟨b9, h⟩ := of_ite h
      refine g_iald hC dX10_worked_17 (isA_spec (rf_10_14 h0)) b9 ?_
      refine g_istore hC dX10_worked_18 (Nat.le_of_ble_eq_true rfl) rfl ?_
      refine g_iload hC dX10_worked_20 0 rfl ?_
      refine g_bipush hC dX10_worked_22 bp_18 ?_
      refine g_icmp_ge hC dX10_worked_24 (tgt := 33) (by decide) (fun h9 => ?_) (fun h9 => ?_)
      · rw [if_pos h9] at h
        exact g_pick [1, 2, 3, 4, 5, 0] rfl (bX10_worked_33 hC hcs h0 ih hR _ _ _ _ h)
      · rw [if_neg h9] at h
        refine g_iload hC dX10_worked_27 0 rfl ?_
        refine g_iconst hC dX10_worked_29 ok_5 ?_
        refine g_icmp_gt hC dX10_worked_30 (tgt := 67) (by decide) (fun h9 => ?_) (fun h9 => ?_)
        · rw [if_pos h9] at h
          refine g_iload hC dX10_worked_67 0 rfl ?_
          refine g_bipush hC dX10_worked_69 bp_16 ?_
          refine g_icmp_eq hC dX10_worked_71 (tgt := 81) (by decide) (fun h9 => ?_) (fun h9 => ?_)
          · rw [if_pos h9] at h
            exact g_pick [1, 2, 3, 4, 5, 0] rfl (bX10_worked_81 hC hcs h0 ih hR _ _ _ _ h)
          · rw [if_neg h9] at h
            refine g_iload hC dX10_worked_74 0 rfl ?_
            refine g_bipush hC dX10_worked_76 bp_17 ?_
            refine g_icmp_ne hC dX10_worked_78 (tgt := 127) (by decide) (fun h9 => ?_) (fun h9 => ?_)
            · rw [if_neg h9] at h
              refine g_iinc hC dX10_worked_127 4 rfl (Nat.le_of_ble_eq_true rfl) rfl ?_
              refine g_aload_n hC dX10_worked_130 2 rfl rfl ?_
              refine g_getr hC dX10_worked_131 lfRX10_54 (isO_spec h0) (ft_10_23 h0) ?_
              refine g_iload_n hC dX10_worked_134 0 rfl rfl ?_
              refine g_iconst hC dX10_worked_135 ok_1 ?_
              refine g_isub hC dX10_worked_136 ?_
              refine g_iload hC dX10_worked_137 1 rfl ?_
              refine g_aload_n hC dX10_worked_139 2 rfl rfl ?_
              refine g_getr hC dX10_worked_140 lfRX10_54 (isO_spec h0) (ft_10_23 h0) ?_
              refine g_iload_n hC dX10_worked_143 0 rfl rfl ?_
              refine g_iconst hC dX10_worked_144 ok_1 ?_
              refine g_isub hC dX10_worked_145 ?_
              obtain ⟨b9, h⟩ := of_ite h
              refine g_iald hC dX10_worked_146 (isA_spec (rf_10_23 h0)) b9 ?_
              refine g_aload_n hC dX10_worked_147 2 rfl rfl ?_
              refine g_getr hC dX10_worked_148 lfRX10_54 (isO_spec h0) (ft_10_23 h0) ?_
              refine g_iload_n hC dX10_worked_151 0 rfl rfl ?_
              obtain ⟨b9, h⟩ := of_ite h
              refine g_iald hC dX10_worked_152 (isA_spec (rf_10_23 h0)) b9 ?_
              obtain ⟨⟨r1, s1⟩, e1, h⟩ := of_bind h
              dsimp only at h
              refine s_callSi hC dX10_worked_153 (tX10_both e1) miX10_both msX10_both mlRX10_210 rfl rfl (Nat.le_of_ble_eq_true rfl) (Nat.le_of_ble_eq_true rfl) (Nat.le_of_ble_eq_true rfl) hcs ?_
              obtain ⟨b9, h⟩ := of_ite h
              refine g_iast hC dX10_worked_156 (isA_spec (rf_10_23 h0)) b9 ?_
              exact g_pick [2, 3, 4, 0, 5] rfl (bX10_worked_157 hC hcs h0 ih hR _ _ _ h)
            · rw [if_pos h9] at h
              exact g_pick [1, 2, 3, 4, 5, 0] rfl (bX10_worked_81 hC hcs h0 ih hR _ _ _ _ h)
        · rw [if_neg h9] at h
          exact g_pick [1, 2, 3, 4, 5, 0] rfl (bX10_worked_33 hC hcs h0 ih hR _ _ _ _ h)
theorem bX10_worked_0 {K : KT} {g : GT} {cm sm : Nat} {cs : Nat × Nat} {c0 : Nat} {x1 : Int} {x2 : Int} {r : Int} {σ' : St} (hC : Ctx K g RX10 cX10_worked 6 1 cm sm) (hcs : cs.1 ≤ cm ∧ cs.2 ≤ sm) (h0 : isO 10 c0 = true) (hR : RetI K g cX10_worked 6 cs r (SH0, σ')) : ∀ (σ : St), fX10_worked c0 x1 x2 σ = some (r, σ') → G K g 6 cs 0 [(0, vr c0), (1, vi x1), (2, vi x2)] [] (SH0, σ) := by
  intro σ h
  unfold fX10_worked at h
  refine g_iconst hC dX10_worked_0 ok_0 ?_
  refine g_istore_n hC dX10_worked_1 rfl (Nat.le_of_ble_eq_true rfl) rfl ?_
  refine g_iload_n hC dX10_worked_2 2 rfl rfl ?_
  refine g_istore hC dX10_worked_3 (Nat.le_of_ble_eq_true rfl) rfl ?_
  exact g_pick [2, 3, 4, 1, 0] rfl (bX10_worked_5 hC hcs h0 hR _ _ _ _ h)
theorem tX10_worked {l : Launch} {g : GT} {c0 : Nat} {x1 : Int} {x2 : Int} {σ σ' : St} {r : Int} (h0 : isO 10 c0 = true) (h : fX10_worked c0 x1 x2 σ = some (r, σ')) : Cn l g yX10_worked cX10_worked 6 (some .int) 1 0 0 [vr c0, vi x1, vi x2] (SH0, σ) (some (vi r)) (SH0, σ') :=
  Cn.ofI (by decide) (Nat.le_of_ble_eq_true rfl) (fun K e hC hR => (bX10_worked_0 hC ⟨Nat.le_refl _, Nat.le_refl _⟩ h0 hR _ h))
theorem dX10_byLaw_0 : decode cX10_byLaw 0 = .ok (.iconst 0, 1) := by decide +kernel
theorem dX10_byLaw_1 : decode cX10_byLaw 1 = .ok (.istore_n 1, 1) := by decide +kernel
theorem dX10_byLaw_2 : decode cX10_byLaw 2 = .ok (.iload_n 1, 1) := by decide +kernel
theorem dX10_byLaw_3 : decode cX10_byLaw 3 = .ok (.aload_n 0, 1) := by decide +kernel
theorem dX10_byLaw_4 : decode cX10_byLaw 4 = .ok (.getfield 207, 3) := by decide +kernel
theorem dX10_byLaw_7 : decode cX10_byLaw 7 = .ok (.if_icmp .ge 63, 3) := by decide +kernel
theorem dX10_byLaw_10 : decode cX10_byLaw 10 = .ok (.aload_n 0, 1) := by decide +kernel
theorem dX10_byLaw_11 : decode cX10_byLaw 11 = .ok (.getfield 33, 3) := by decide +kernel
theorem dX10_byLaw_14 : decode cX10_byLaw 14 = .ok (.iload_n 1, 1) := by decide +kernel
theorem dX10_byLaw_15 : decode cX10_byLaw 15 = .ok (.iaload, 1) := by decide +kernel
theorem dX10_byLaw_16 : decode cX10_byLaw 16 = .ok (.aload_n 0, 1) := by decide +kernel
theorem dX10_byLaw_17 : decode cX10_byLaw 17 = .ok (.getfield 30, 3) := by decide +kernel
theorem dX10_byLaw_20 : decode cX10_byLaw 20 = .ok (.iload_n 1, 1) := by decide +kernel
theorem dX10_byLaw_21 : decode cX10_byLaw 21 = .ok (.iaload, 1) := by decide +kernel
theorem dX10_byLaw_22 : decode cX10_byLaw 22 = .ok (.if_icmp .le 25, 3) := by decide +kernel
theorem dX10_byLaw_25 : decode cX10_byLaw 25 = .ok (.aload_n 0, 1) := by decide +kernel
theorem dX10_byLaw_26 : decode cX10_byLaw 26 = .ok (.aload_n 0, 1) := by decide +kernel
theorem dX10_byLaw_27 : decode cX10_byLaw 27 = .ok (.getfield 30, 3) := by decide +kernel
theorem dX10_byLaw_30 : decode cX10_byLaw 30 = .ok (.iload_n 1, 1) := by decide +kernel
theorem dX10_byLaw_31 : decode cX10_byLaw 31 = .ok (.iaload, 1) := by decide +kernel
theorem dX10_byLaw_32 : decode cX10_byLaw 32 = .ok (.aload_n 0, 1) := by decide +kernel
theorem dX10_byLaw_33 : decode cX10_byLaw 33 = .ok (.getfield 33, 3) := by decide +kernel
theorem dX10_byLaw_36 : decode cX10_byLaw 36 = .ok (.iload_n 1, 1) := by decide +kernel
theorem dX10_byLaw_37 : decode cX10_byLaw 37 = .ok (.iaload, 1) := by decide +kernel
theorem dX10_byLaw_38 : decode cX10_byLaw 38 = .ok (.invokevirtual 213, 3) := by decide +kernel
theorem dX10_byLaw_41 : decode cX10_byLaw 41 = .ok (.ifCond .ne 6, 3) := by decide +kernel
theorem dX10_byLaw_44 : decode cX10_byLaw 44 = .ok (.goto 20, 3) := by decide +kernel
theorem dX10_byLaw_47 : decode cX10_byLaw 47 = .ok (.aload_n 0, 1) := by decide +kernel
theorem dX10_byLaw_48 : decode cX10_byLaw 48 = .ok (.aload_n 0, 1) := by decide +kernel
theorem dX10_byLaw_49 : decode cX10_byLaw 49 = .ok (.getfield 33, 3) := by decide +kernel
theorem dX10_byLaw_52 : decode cX10_byLaw 52 = .ok (.iload_n 1, 1) := by decide +kernel
theorem dX10_byLaw_53 : decode cX10_byLaw 53 = .ok (.iaload, 1) := by decide +kernel
theorem dX10_byLaw_54 : decode cX10_byLaw 54 = .ok (.aload_n 0, 1) := by decide +kernel
theorem dX10_byLaw_55 : decode cX10_byLaw 55 = .ok (.getfield 36, 3) := by decide +kernel
theorem dX10_byLaw_58 : decode cX10_byLaw 58 = .ok (.iload_n 1, 1) := by decide +kernel
theorem dX10_byLaw_59 : decode cX10_byLaw 59 = .ok (.iaload, 1) := by decide +kernel
theorem dX10_byLaw_60 : decode cX10_byLaw 60 = .ok (.invokevirtual 213, 3) := by decide +kernel
theorem dX10_byLaw_63 : decode cX10_byLaw 63 = .ok (.ireturn, 1) := by decide +kernel
theorem dX10_byLaw_64 : decode cX10_byLaw 64 = .ok (.iinc 1 1, 3) := by decide +kernel
theorem dX10_byLaw_67 : decode cX10_byLaw 67 = .ok (.goto (-65), 3) := by decide +kernel
theorem dX10_byLaw_70 : decode cX10_byLaw 70 = .ok (.iconst 0, 1) := by decide +kernel
theorem dX10_byLaw_71 : decode cX10_byLaw 71 = .ok (.ireturn, 1) := by decide +kernel
theorem bX10_byLaw_47 {K : KT} {g : GT} {cm sm : Nat} {cs : Nat × Nat} {c0 : Nat} {r : Int} {σ' : St} (hC : Ctx K g RX10 cX10_byLaw 2 2 cm sm) (hcs : cs.1 ≤ cm ∧ cs.2 ≤ sm) (h0 : isO 10 c0 = true) (hR : RetI K g cX10_byLaw 2 cs r (SH0, σ')) : ∀ (x1 : Int) (σ : St), fX10_byLaw_47 c0 x1 σ = some (r, σ') → G K g 2 cs 47 [(0, vr c0), (1, vi x1)] [] (SH0, σ) := by
  intro x1 σ h
  unfold fX10_byLaw_47 at h
  refine g_aload_n hC dX10_byLaw_47 0 rfl rfl ?_
  refine g_aload_n hC dX10_byLaw_48 0 rfl rfl ?_
  refine g_getr hC dX10_byLaw_49 lfRX10_33 (isO_spec h0) (ft_10_12 h0) ?_
  refine g_iload_n hC dX10_byLaw_52 1 rfl rfl ?_
  obtain ⟨b9, h⟩ := of_ite h
  refine g_iald hC dX10_byLaw_53 (isA_spec (rf_10_12 h0)) b9 ?_
  refine g_aload_n hC dX10_byLaw_54 0 rfl rfl ?_
  refine g_getr hC dX10_byLaw_55 lfRX10_36 (isO_spec h0) (ft_10_13 h0) ?_
  refine g_iload_n hC dX10_byLaw_58 1 rfl rfl ?_
  obtain ⟨b9, h⟩ := of_ite h
  refine g_iald hC dX10_byLaw_59 (isA_spec (rf_10_13 h0)) b9 ?_
  obtain ⟨⟨r1, s1⟩, e1, h⟩ := of_bind h
  dsimp only at h
  refine s_callVi hC dX10_byLaw_60 (tX10_worked h0 e1) miX10_worked mvX10_worked mlRX10_213 (isO_spec h0) vc_10 rfl rfl (Nat.le_of_ble_eq_true rfl) (Nat.le_of_ble_eq_true rfl) (Nat.le_of_ble_eq_true rfl) hcs ?_
  exact ret_i h hR dX10_byLaw_63
theorem bX10_byLaw_2 {K : KT} {g : GT} {cm sm : Nat} {cs : Nat × Nat} {c0 : Nat} {r : Int} {σ' : St} (hC : Ctx K g RX10 cX10_byLaw 2 2 cm sm) (hcs : cs.1 ≤ cm ∧ cs.2 ≤ sm) (h0 : isO 10 c0 = true) (hR : RetI K g cX10_byLaw 2 cs r (SH0, σ')) : ∀ (n : Nat) (x1 : Int) (σ : St), fX10_byLaw_2 c0 n x1 σ = some (r, σ') → G K g 2 cs 2 [(0, vr c0), (1, vi x1)] [] (SH0, σ) := by
  intro n
  induction n with
  | zero =>
    intro x1 σ h
    rw [fX10_byLaw_2.eq_1] at h
    cases h
  | succ n ih =>
    intro x1 σ h
    rw [fX10_byLaw_2.eq_2] at h
    refine g_iload_n hC dX10_byLaw_2 1 rfl rfl ?_
    refine g_aload_n hC dX10_byLaw_3 0 rfl rfl ?_
    refine g_geti hC dX10_byLaw_4 lfRX10_207 (isO_spec h0) (ft_10_10 h0) ?_
    refine g_icmp_ge hC dX10_byLaw_7 (tgt := 70) (by decide) (fun h9 => ?_) (fun h9 => ?_)
    · rw [if_pos h9] at h
      refine g_iconst hC dX10_byLaw_70 ok_0 ?_
      exact ret_i h hR dX10_byLaw_71
    · rw [if_neg h9] at h
      refine g_aload_n hC dX10_byLaw_10 0 rfl rfl ?_
      refine g_getr hC dX10_byLaw_11 lfRX10_33 (isO_spec h0) (ft_10_12 h0) ?_
      refine g_iload_n hC dX10_byLaw_14 1 rfl rfl ?_
      obtain ⟨b9, h⟩ := of_ite h
      refine g_iald hC dX10_byLaw_15 (isA_spec (rf_10_12 h0)) b9 ?_
      refine g_aload_n hC dX10_byLaw_16 0 rfl rfl ?_
      refine g_getr hC dX10_byLaw_17 lfRX10_30 (isO_spec h0) (ft_10_11 h0) ?_
      refine g_iload_n hC dX10_byLaw_20 1 rfl rfl ?_
      obtain ⟨b9, h⟩ := of_ite h
      refine g_iald hC dX10_byLaw_21 (isA_spec (rf_10_11 h0)) b9 ?_
      refine g_icmp_le hC dX10_byLaw_22 (tgt := 47) (by decide) (fun h9 => ?_) (fun h9 => ?_)
      · rw [if_pos h9] at h
        exact g_pick [0, 1] rfl (bX10_byLaw_47 hC hcs h0 hR _ _ h)
      · rw [if_neg h9] at h
        refine g_aload_n hC dX10_byLaw_25 0 rfl rfl ?_
        refine g_aload_n hC dX10_byLaw_26 0 rfl rfl ?_
        refine g_getr hC dX10_byLaw_27 lfRX10_30 (isO_spec h0) (ft_10_11 h0) ?_
        refine g_iload_n hC dX10_byLaw_30 1 rfl rfl ?_
        obtain ⟨b9, h⟩ := of_ite h
        refine g_iald hC dX10_byLaw_31 (isA_spec (rf_10_11 h0)) b9 ?_
        refine g_aload_n hC dX10_byLaw_32 0 rfl rfl ?_
        refine g_getr hC dX10_byLaw_33 lfRX10_33 (isO_spec h0) (ft_10_12 h0) ?_
        refine g_iload_n hC dX10_byLaw_36 1 rfl rfl ?_
        obtain ⟨b9, h⟩ := of_ite h
        refine g_iald hC dX10_byLaw_37 (isA_spec (rf_10_12 h0)) b9 ?_
        obtain ⟨⟨r1, s1⟩, e1, h⟩ := of_bind h
        dsimp only at h
        refine s_callVi hC dX10_byLaw_38 (tX10_worked h0 e1) miX10_worked mvX10_worked mlRX10_213 (isO_spec h0) vc_10 rfl rfl (Nat.le_of_ble_eq_true rfl) (Nat.le_of_ble_eq_true rfl) (Nat.le_of_ble_eq_true rfl) hcs ?_
        refine g_if_ne hC dX10_byLaw_41 (tgt := 47) (by decide) (fun h9 => ?_) (fun h9 => ?_)
        · rw [if_neg h9] at h
          exact g_pick [0, 1] rfl (bX10_byLaw_47 hC hcs h0 hR _ _ h)
        · rw [if_pos h9] at h
          refine g_goto hC dX10_byLaw_44 (tgt := 64) (by decide) ?_
          refine g_iinc hC dX10_byLaw_64 1 rfl (Nat.le_of_ble_eq_true rfl) rfl ?_
          refine g_goto hC dX10_byLaw_67 (tgt := 2) (by decide) ?_
          exact g_pick [1, 0] rfl (ih _ _ h)
theorem bX10_byLaw_0 {K : KT} {g : GT} {cm sm : Nat} {cs : Nat × Nat} {c0 : Nat} {r : Int} {σ' : St} (hC : Ctx K g RX10 cX10_byLaw 2 2 cm sm) (hcs : cs.1 ≤ cm ∧ cs.2 ≤ sm) (h0 : isO 10 c0 = true) (hR : RetI K g cX10_byLaw 2 cs r (SH0, σ')) : ∀ (σ : St), fX10_byLaw c0 σ = some (r, σ') → G K g 2 cs 0 [(0, vr c0)] [] (SH0, σ) := by
  intro σ h
  unfold fX10_byLaw at h
  refine g_iconst hC dX10_byLaw_0 ok_0 ?_
  refine g_istore_n hC dX10_byLaw_1 rfl (Nat.le_of_ble_eq_true rfl) rfl ?_
  exact g_pick [1, 0] rfl (bX10_byLaw_2 hC hcs h0 hR _ _ _ h)
theorem tX10_byLaw {l : Launch} {g : GT} {c0 : Nat} {σ σ' : St} {r : Int} (h0 : isO 10 c0 = true) (h : fX10_byLaw c0 σ = some (r, σ')) : Cn l g yX10_byLaw cX10_byLaw 2 (some .int) 2 0 0 [vr c0] (SH0, σ) (some (vi r)) (SH0, σ') :=
  Cn.ofI (by decide) (Nat.le_of_ble_eq_true rfl) (fun K e hC hR => (bX10_byLaw_0 hC ⟨Nat.le_refl _, Nat.le_refl _⟩ h0 hR _ h))
theorem dX10_missing_0 : decode cX10_missing 0 = .ok (.iconst 0, 1) := by decide +kernel
theorem dX10_missing_1 : decode cX10_missing 1 = .ok (.istore_n 2, 1) := by decide +kernel
theorem dX10_missing_2 : decode cX10_missing 2 = .ok (.iconst 0, 1) := by decide +kernel
theorem dX10_missing_3 : decode cX10_missing 3 = .ok (.istore_n 3, 1) := by decide +kernel
theorem dX10_missing_4 : decode cX10_missing 4 = .ok (.iload_n 3, 1) := by decide +kernel
theorem dX10_missing_5 : decode cX10_missing 5 = .ok (.aload_n 0, 1) := by decide +kernel
theorem dX10_missing_6 : decode cX10_missing 6 = .ok (.getfield 97, 3) := by decide +kernel
theorem dX10_missing_9 : decode cX10_missing 9 = .ok (.if_icmp .ge 41, 3) := by decide +kernel
theorem dX10_missing_12 : decode cX10_missing 12 = .ok (.aload_n 0, 1) := by decide +kernel
theorem dX10_missing_13 : decode cX10_missing 13 = .ok (.getfield 15, 3) := by decide +kernel
theorem dX10_missing_16 : decode cX10_missing 16 = .ok (.iload_n 3, 1) := by decide +kernel
theorem dX10_missing_17 : decode cX10_missing 17 = .ok (.iaload, 1) := by decide +kernel
theorem dX10_missing_18 : decode cX10_missing 18 = .ok (.iload_n 1, 1) := by decide +kernel
theorem dX10_missing_19 : decode cX10_missing 19 = .ok (.if_icmp .ne 25, 3) := by decide +kernel
theorem dX10_missing_22 : decode cX10_missing 22 = .ok (.aload_n 0, 1) := by decide +kernel
theorem dX10_missing_23 : decode cX10_missing 23 = .ok (.getfield 18, 3) := by decide +kernel
theorem dX10_missing_26 : decode cX10_missing 26 = .ok (.iload_n 3, 1) := by decide +kernel
theorem dX10_missing_27 : decode cX10_missing 27 = .ok (.iaload, 1) := by decide +kernel
theorem dX10_missing_28 : decode cX10_missing 28 = .ok (.iconst 1, 1) := by decide +kernel
theorem dX10_missing_29 : decode cX10_missing 29 = .ok (.if_icmp .ne 15, 3) := by decide +kernel
theorem dX10_missing_32 : decode cX10_missing 32 = .ok (.aload_n 0, 1) := by decide +kernel
theorem dX10_missing_33 : decode cX10_missing 33 = .ok (.getfield 21, 3) := by decide +kernel
theorem dX10_missing_36 : decode cX10_missing 36 = .ok (.iload_n 3, 1) := by decide +kernel
theorem dX10_missing_37 : decode cX10_missing 37 = .ok (.iaload, 1) := by decide +kernel
theorem dX10_missing_38 : decode cX10_missing 38 = .ok (.ifCond .le 6, 3) := by decide +kernel
theorem dX10_missing_41 : decode cX10_missing 41 = .ok (.iinc 2 1, 3) := by decide +kernel
theorem dX10_missing_44 : decode cX10_missing 44 = .ok (.iinc 3 1, 3) := by decide +kernel
theorem dX10_missing_47 : decode cX10_missing 47 = .ok (.goto (-43), 3) := by decide +kernel
theorem dX10_missing_50 : decode cX10_missing 50 = .ok (.iload_n 2, 1) := by decide +kernel
theorem dX10_missing_51 : decode cX10_missing 51 = .ok (.ireturn, 1) := by decide +kernel
theorem bX10_missing_44 {K : KT} {g : GT} {cm sm : Nat} {cs : Nat × Nat} {c0 : Nat} {x1 : Int} {k4 : Int → Int → St → Option (Int × St)} {r : Int} {σ' : St} (hC : Ctx K g RX10 cX10_missing 4 0 cm sm) (hcs : cs.1 ≤ cm ∧ cs.2 ≤ sm) (h0 : isO 10 c0 = true) (hk4 : ∀ (x2 : Int) (x3 : Int) (σ : St), k4 x2 x3 σ = some (r, σ') → G K g 4 cs 4 [(0, vr c0), (1, vi x1), (2, vi x2), (3, vi x3)] [] (SH0, σ)) (hR : RetI K g cX10_missing 4 cs r (SH0, σ')) : ∀ (x2 : Int) (x3 : Int) (σ : St), fX10_missing_44 c0 x1 k4 x2 x3 σ = some (r, σ') → G K g 4 cs 44 [(0, vr c0), (1, vi x1), (2, vi x2), (3, vi x3)] [] (SH0, σ) := by
  intro x2 x3 σ h
  unfold fX10_missing_44 at h
  refine g_iinc hC dX10_missing_44 3 rfl (Nat.le_of_ble_eq_true rfl) rfl ?_
  refine g_goto hC dX10_missing_47 (tgt := 4) (by decide) ?_
  exact g_pick [1, 2, 3, 0] rfl (hk4 _ _ _ h)
theorem bX10_missing_4 {K : KT} {g : GT} {cm sm : Nat} {cs : Nat × Nat} {c0 : Nat} {x1 : Int} {r : Int} {σ' : St} (hC : Ctx K g RX10 cX10_missing 4 0 cm sm) (hcs : cs.1 ≤ cm ∧ cs.2 ≤ sm) (h0 : isO 10 c0 = true) (hR : RetI K g cX10_missing 4 cs r (SH0, σ')) : ∀ (n : Nat) (x2 : Int) (x3 : Int) (σ : St), fX10_missing_4 c0 x1 n x2 x3 σ = some (r, σ') → G K g 4 cs 4 [(0, vr c0), (1, vi x1), (2, vi x2), (3, vi x3)] [] (SH0, σ) := by
  intro n
  induction n with
  | zero =>
    intro x2 x3 σ h
    rw [fX10_missing_4.eq_1] at h
    cases h
  | succ n ih =>
    intro x2 x3 σ h
    rw [fX10_missing_4.eq_2] at h
    refine g_iload_n hC dX10_missing_4 3 rfl rfl ?_
    refine g_aload_n hC dX10_missing_5 0 rfl rfl ?_
    refine g_geti hC dX10_missing_6 lfRX10_97 (isO_spec h0) (ft_10_0 h0) ?_
    refine g_icmp_ge hC dX10_missing_9 (tgt := 50) (by decide) (fun h9 => ?_) (fun h9 => ?_)
    · rw [if_pos h9] at h
      refine g_iload_n hC dX10_missing_50 2 rfl rfl ?_
      exact ret_i h hR dX10_missing_51
    · rw [if_neg h9] at h
      refine g_aload_n hC dX10_missing_12 0 rfl rfl ?_
      refine g_getr hC dX10_missing_13 lfRX10_15 (isO_spec h0) (ft_10_2 h0) ?_
      refine g_iload_n hC dX10_missing_16 3 rfl rfl ?_
      obtain ⟨b9, h⟩ := of_ite h
      refine g_iald hC dX10_missing_17 (isA_spec (rf_10_2 h0)) b9 ?_
      refine g_iload_n hC dX10_missing_18 1 rfl rfl ?_
      refine g_icmp_ne hC dX10_missing_19 (tgt := 44) (by decide) (fun h9 => ?_) (fun h9 => ?_)
      · rw [if_neg h9] at h
        exact g_pick [0, 1, 2, 3] rfl (bX10_missing_44 hC hcs h0 ih hR _ _ _ h)
      · rw [if_pos h9] at h
        refine g_aload_n hC dX10_missing_22 0 rfl rfl ?_
        refine g_getr hC dX10_missing_23 lfRX10_18 (isO_spec h0) (ft_10_3 h0) ?_
        refine g_iload_n hC dX10_missing_26 3 rfl rfl ?_
        obtain ⟨b9, h⟩ := of_ite h
        refine g_iald hC dX10_missing_27 (isA_spec (rf_10_3 h0)) b9 ?_
        refine g_iconst hC dX10_missing_28 ok_1 ?_
        refine g_icmp_ne hC dX10_missing_29 (tgt := 44) (by decide) (fun h9 => ?_) (fun h9 => ?_)
        · rw [if_neg h9] at h
          exact g_pick [0, 1, 2, 3] rfl (bX10_missing_44 hC hcs h0 ih hR _ _ _ h)
        · rw [if_pos h9] at h
          refine g_aload_n hC dX10_missing_32 0 rfl rfl ?_
          refine g_getr hC dX10_missing_33 lfRX10_21 (isO_spec h0) (ft_10_4 h0) ?_
          refine g_iload_n hC dX10_missing_36 3 rfl rfl ?_
          obtain ⟨b9, h⟩ := of_ite h
          refine g_iald hC dX10_missing_37 (isA_spec (rf_10_4 h0)) b9 ?_
          refine g_if_le hC dX10_missing_38 (tgt := 44) (by decide) (fun h9 => ?_) (fun h9 => ?_)
          · rw [if_pos h9] at h
            exact g_pick [0, 1, 2, 3] rfl (bX10_missing_44 hC hcs h0 ih hR _ _ _ h)
          · rw [if_neg h9] at h
            refine g_iinc hC dX10_missing_41 2 rfl (Nat.le_of_ble_eq_true rfl) rfl ?_
            exact g_pick [1, 2, 0, 3] rfl (bX10_missing_44 hC hcs h0 ih hR _ _ _ h)
theorem bX10_missing_0 {K : KT} {g : GT} {cm sm : Nat} {cs : Nat × Nat} {c0 : Nat} {x1 : Int} {r : Int} {σ' : St} (hC : Ctx K g RX10 cX10_missing 4 0 cm sm) (hcs : cs.1 ≤ cm ∧ cs.2 ≤ sm) (h0 : isO 10 c0 = true) (hR : RetI K g cX10_missing 4 cs r (SH0, σ')) : ∀ (σ : St), fX10_missing c0 x1 σ = some (r, σ') → G K g 4 cs 0 [(0, vr c0), (1, vi x1)] [] (SH0, σ) := by
  intro σ h
  unfold fX10_missing at h
  refine g_iconst hC dX10_missing_0 ok_0 ?_
  refine g_istore_n hC dX10_missing_1 rfl (Nat.le_of_ble_eq_true rfl) rfl ?_
  refine g_iconst hC dX10_missing_2 ok_0 ?_
  refine g_istore_n hC dX10_missing_3 rfl (Nat.le_of_ble_eq_true rfl) rfl ?_
  exact g_pick [2, 3, 1, 0] rfl (bX10_missing_4 hC hcs h0 hR _ _ _ _ h)
theorem tX10_missing {l : Launch} {g : GT} {c0 : Nat} {x1 : Int} {σ σ' : St} {r : Int} (h0 : isO 10 c0 = true) (h : fX10_missing c0 x1 σ = some (r, σ')) : Cn l g yX10_missing cX10_missing 4 (some .int) 0 0 0 [vr c0, vi x1] (SH0, σ) (some (vi r)) (SH0, σ') :=
  Cn.ofI (by decide) (Nat.le_of_ble_eq_true rfl) (fun K e hC hR => (bX10_missing_0 hC ⟨Nat.le_refl _, Nat.le_refl _⟩ h0 hR _ h))
end
